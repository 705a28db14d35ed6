/-! the cruellest of those who may move -/
def rk : Option Nat → Nat
  | none => 1000000
  | some k => k
def rkI : Option Nat → Int32
  | none => 2147483647
  | some k => nI k
def crx (p : Nat → Bool) (r : Nat → Nat) : Nat → Option Nat
  | 0 => none
  | j + 1 => if p j then (match crx p r j with
    | none => some j
    | some b => if r j ≤ r b then some b else some j) else crx p r j
theorem crx_lt {p : Nat → Bool} {r : Nat → Nat} : ∀ {j b : Nat}, crx p r j = some b → b < j ∧ p b = true
  | 0, b, h => by simp [crx] at h
  | j + 1, b, h => by
    have ih := @crx_lt p r j
    rw [crx] at h
    split at h
    · rename_i hp
      split at h
      · have : j = b := Option.some.inj h
        subst this; exact ⟨by omega, hp⟩
      · rename_i b' e
        split at h
        · have : b' = b := Option.some.inj h
          subst this
          exact ⟨by have := (ih e).1; omega, (ih e).2⟩
        · have : j = b := Option.some.inj h
          subst this; exact ⟨by omega, hp⟩
    · exact ⟨by have := (ih h).1; omega, (ih h).2⟩
theorem crx_some {p : Nat → Bool} {r : Nat → Nat} : ∀ {j i : Nat}, i < j → p i = true → ∃ b, crx p r j = some b
  | 0, i, hi, _ => by omega
  | j + 1, i, hi, hp => by
    rw [crx]
    split
    · split
      · exact ⟨_, rfl⟩
      · split <;> exact ⟨_, rfl⟩
    · rename_i hj
      by_cases e : i = j
      · subst e; exact absurd hp hj
      · exact crx_some (j := j) (by omega) hp
theorem rkI_le {a b : Option Nat} (ha : ∀ k, a = some k → k ≤ 4096) (hb : ∀ k, b = some k → k ≤ 4096) : (rkI a ≤ rkI b) = (rk a ≤ rk b) := by
  have e : (2147483647 : Int32) = nI 2147483647 := rfl
  cases a with
  | none => cases b with
    | none => simp only [rkI, rk]; rw [e, le_nI (by omega) (by omega)]; simp
    | some y => have := hb y rfl; simp only [rkI, rk]; rw [e, le_nI (by omega) (by omega)]; exact propext ⟨fun q => by omega, fun q => by omega⟩
  | some x => cases b with
    | none => have := ha x rfl; simp only [rkI, rk]; rw [e, le_nI (by omega) (by omega)]; exact propext ⟨fun q => by omega, fun q => by omega⟩
    | some y => have h1 := ha x rfl; have h2 := hb y rfl; simp only [rkI, rk]; rw [le_nI (by omega) (by omega)]
theorem rkI_m1 {a : Option Nat} (ha : ∀ k, a = some k → k ≤ 4096) : ¬ rkI a ≤ (-1 : Int32) := by
  cases a with
  | none => simp only [rkI]; decide
  | some k => have := ha k rfl; exact nle_neg m1_neg (by omega)
theorem x_rankOf {a : Option Nat} {Post : Int32 → Prop} (ha : ∀ k, a = some k → k ≤ 4096) (h : Post (rkI a)) : wp_X4_rankOf (eo (-5) a) Post := by
  unfold wp_X4_rankOf
  cases a with
  | none => exact ⟨fun q => absurd rfl q, fun _ => h⟩
  | some k =>
    have := ha k rfl
    exact ⟨fun _ => h, fun q => absurd q (neg_ne m5_neg (by omega))⟩
/-- a mask of one, or of none -/
def mk1 : Option Nat → Nat
  | none => 0
  | some b => 2 ^ b
noncomputable def hbr (t n v : Nat) (E : Nat → Nat → Bool) (c i : Nat) : Nat := rk (lv (Hb t n v E) (tg t n v E c i))
section CRU
variable {FN : Nat → Int32} {AN : Nat → Nat → Int32} {FS : Nat → Int32} {AS : Nat → Nat → Int32} {F : Nat → Int32} {A : Nat → Nat → Int32} {t n v : Nat} {E : Nat → Nat → Bool}
noncomputable def crc (t n v : Nat) (E : Nat → Nat → Bool) (c j : Nat) : Option Nat := crx (mvc t n v E c) (hbr t n v E c) j
theorem crc_skip {c j : Nat} (h : mvc t n v E c j = false) : crc t n v E c (j + 1) = crc t n v E c j := by
  unfold crc; rw [crx, if_neg (by rw [h]; decide)]
theorem crc_first {c j : Nat} (h : mvc t n v E c j = true) (e : crc t n v E c j = none) : crc t n v E c (j + 1) = some j := by
  unfold crc at e ⊢; rw [crx, if_pos h, e]
theorem crc_old {c j b : Nat} (h : mvc t n v E c j = true) (e : crc t n v E c j = some b) (hl : hbr t n v E c j ≤ hbr t n v E c b) : crc t n v E c (j + 1) = some b := by
  unfold crc at e ⊢; rw [crx, if_pos h, e]; exact if_pos hl
theorem crc_new {c j b : Nat} (h : mvc t n v E c j = true) (e : crc t n v E c j = some b) (hl : ¬ hbr t n v E c j ≤ hbr t n v E c b) : crc t n v E c (j + 1) = some j := by
  unfold crc at e ⊢; rw [crx, if_pos h, e]; exact if_neg hl
theorem x_cruellest {FX FT : Nat → Int32} {AT : Nat → Nat → Int32} {FD : Nat → Int32} {AD : Nat → Nat → Int32} {FP : Nat → Int32} {AP : Nat → Nat → Int32} {Post : Int32 → Prop} (hP : Par t n v) (hG : Gr t n v E) (hN : NOk FN AN t n v E) (hS : SvA FS AS t n v E) {c : Nat} (hc : c < v ^ n) (h : Post (nI (mk1 (crc t n v E c n)))) : wp_X6_cruellest FX FT AT FD AD FN AN FS AS FP AP (nI c) (nI (tks t n v E (dg v c))) Post := by
  obtain ⟨p1, p2, p3, p4, p5, p6, p7, p8, p9⟩ := id hP
  have hT := tks_lt (f := dg v c) (E := E) hP
  have hb : ∀ i, i < n → ∀ k, lv (Hb t n v E) (tg t n v E c i) = some k → k ≤ 4096 := fun i hi => (hS.2.2.1 _ (tg_lt hP hG hi)).2
  unfold wp_X6_cruellest wp_X6_cruellest_8
  refine Lp_of (fun z => ∃ j x4, j ≤ n ∧ z = (nI (mk1 (crc t n v E c j)), x4, nI j) ∧ (crc t n v E c j = none → x4 = -1) ∧ (∀ b, crc t n v E c j = some b → x4 = rkI (lv (Hb t n v E) (tg t n v E c b)))) (fun z => n - ix z.2.2) ⟨0, -1, by omega, rfl, fun _ => rfl, fun b q => by simp [crc, crx] at q⟩ ?_
  rintro _ ⟨j, x4, hj, rfl, h0, h1⟩
  dsimp only
  unfold st_X6_cruellest_8
  rw [hN.2.1]
  simp (disch := omega) only [le_nI]
  refine ⟨fun hge => ?_, fun hlt => ?_⟩
  · have : j = n := by omega
    subst this; exact h
  · have hjn : j < n := by omega
    have hbit : (tks t n v E (dg v c)).testBit j = mvc t n v E c j := by
      unfold tks; rw [tk_bit]; simp [hjn]; rfl
    refine x_has (by omega) (by omega) ?_
    rw [hbit]
    have hbj := hb j hjn
    cases hm : mvc t n v E c j with
    | false =>
      refine ⟨fun _ => ⟨⟨j + 1, x4, by omega, by rw [nI_s, crc_skip hm], ?_, ?_⟩, mu_lt hjn (by omega)⟩, fun q => absurd rfl q⟩
      · rw [crc_skip hm]; exact h0
      · rw [crc_skip hm]; exact h1
    | true =>
      refine ⟨fun q => absurd q (by decide), fun _ => x_behind hP hG hN hS.2.1 hc hjn (x_worstOf hP hS (tg_lt hP hG hjn) (x_rankOf hbj ?_))⟩
      rw [sh1 j (by omega)]
      cases e : crc t n v E c j with
      | none =>
        rw [h0 e]
        refine ⟨fun q => absurd q (rkI_m1 hbj), fun _ => ⟨⟨j + 1, _, by omega, by rw [nI_s, crc_first hm e]; rfl, ?_, ?_⟩, mu_lt hjn (by omega)⟩⟩
        · rw [crc_first hm e]; exact fun q => absurd q (by simp)
        · rw [crc_first hm e]; intro b q; cases q; rfl
      | some b =>
        have hbn := (crx_lt e).1
        rw [h1 b e, rkI_le hbj (hb b (by omega))]
        refine ⟨fun q => ⟨⟨j + 1, _, by omega, by rw [nI_s, crc_old hm e q], ?_, ?_⟩, mu_lt hjn (by omega)⟩, fun q => ⟨⟨j + 1, _, by omega, by rw [nI_s, crc_new hm e q]; rfl, ?_, ?_⟩, mu_lt hjn (by omega)⟩⟩
        · rw [crc_old hm e q]; exact fun q => absurd q (by simp)
        · rw [crc_old hm e q]; intro b' q'; cases q'; rfl
        · rw [crc_new hm e q]; exact fun q => absurd q (by simp)
        · rw [crc_new hm e q]; intro b' q'; cases q'; rfl
/-- an index, or -1 -/
def ox1 : Option Nat → Int32
  | none => -1
  | some b => nI b
theorem m_cruel {Post : Int32 → (Nat → Int32) → (Nat → Nat → Int32) → Prop} (hP : Par t n v) (hG : Gr t n v E) (hM : MOk F A t n v E) (hMs : Ms F A t n v E) {c : Nat} (hc : c < v ^ n) (hr : Row A n (dg v c)) (h : ∀ F' A', Fr [23, 26] [20, 21, 22, 24] F A F' A' → Row A' n (dg v c) → F' 23 = 1 → MsA A' t n v E → Post (ox1 (crc t n v E c n)) F' A') : wp_X7_cruel F A Post := by
  obtain ⟨p1, p2, p3, p4, p5, p6, p7, p8, p9⟩ := id hP
  have hf : Rw n v (dg v c) := Rw_dg (by omega)
  unfold wp_X7_cruel
  refine m_codeOf hP hM hr ?_
  rw [cd_dg hc]
  refine m_measures hP hG hM hMs (fun F1 A1 hF1 h23 hA1 => ?_)
  have hM1 := hM.fr hF1 (by decide)
  refine m_rowOf hP hM1 hc (fun A2 hF2 hr2 => ?_)
  have hM2 := hM1.fr hF2 (by decide)
  have e20 : A2 20 = A1 20 := hF2.2 20 (by decide)
  have hA2 : MsA A2 t n v E := ⟨by rw [e20]; exact hA1.1, by rw [hF2.2 21 (by decide)]; exact hA1.2.1, by rw [hF2.2 22 (by decide)]; exact hA1.2.2⟩
  have hb : ∀ i, i < n → ∀ k, lv (Hb t n v E) (tg t n v E c i) = some k → k ≤ 4096 := fun i hi => (hA2.1 _ (tg_lt hP hG hi)).2
  have hF02 : Fr [23, 26] [20, 21, 22, 24] F A F1 A2 := hF1.tr (hF2.mo (by decide) (by decide))
  unfold wp_X7_cruel_21
  refine Lp_of (fun z => ∃ j x3 F', j ≤ n ∧ z = (ox1 (crc t n v E c j), x3, nI j, F', A2) ∧ Fr [26] [] F1 A2 F' A2 ∧ (∀ b, crc t n v E c j = some b → x3 = nI (hbr t n v E c b))) (fun z => n - ix z.2.2.1) ⟨0, 0, F1, by omega, rfl, Fr.rf, fun b q => by simp [crc, crx] at q⟩ ?_
  rintro _ ⟨j, x3, F', hj, rfl, hF', h1⟩
  dsimp only
  have hM' := hM2.fr hF' (by decide)
  unfold st_X7_cruel_21
  rw [hM'.2.1]
  simp (disch := omega) only [le_nI]
  refine ⟨fun hge => ?_, fun hlt => ?_⟩
  · have : j = n := by omega
    subst this
    exact h F' A2 (hF02.tr (hF'.mo (by decide) (by decide))) hr2 (by rw [hF'.1 23 (by decide)]; exact h23) hA2
  · have hjn : j < n := by omega
    refine m_becomes hP hG hM' hf hr2 hjn (fun F2 hF2 => ?_)
    rw [bo_neg hP hG hf hjn]
    refine ⟨fun cm => ⟨⟨j + 1, x3, F2, by omega, by rw [nI_s, crc_skip (show mvc t n v E c j = false from cm)], hF'.tr hF2, ?_⟩, mu_lt hjn (by omega)⟩, fun cm => ?_⟩
    · rw [crc_skip (show mvc t n v E c j = false from cm)]; exact h1
    · have hm : mvc t n v E c j = true := by
        cases e : mvc t n v E c j with
        | true => rfl
        | false => exact absurd e cm
      have eb : bo t n v E (dg v c) j = nI (wt t n v E (dg v c) j) := if_pos hm
      have htg := tg_lt hP hG (c := c) hjn
      have eto := m_to hP hM2 hc hr2 hjn
      have hbj := hb j hjn
      rw [eb, eto, ix_nI (a := tg t n v E c j) (by omega), hA2.1.neg m5_neg htg]
      have fin : wp_X7_cruel_82 F2 A2 (nI c) (ox1 (crc t n v E c j)) x3 (nI j) (nI (hbr t n v E c j)) (fun t' => (∃ j x3 F', j ≤ n ∧ t' = (ox1 (crc t n v E c j), x3, nI j, F', A2) ∧ Fr [26] [] F1 A2 F' A2 ∧ (∀ b, crc t n v E c j = some b → x3 = nI (hbr t n v E c b))) ∧ n - ix t'.2.2.1 < n - ix (nI j)) Post := by
        unfold wp_X7_cruel_82 wp_X7_cruel_94
        cases e : crc t n v E c j with
        | none =>
          refine ⟨fun _ => ⟨⟨j + 1, _, F2, by omega, by rw [nI_s, crc_first hm e]; rfl, hF'.tr hF2, ?_⟩, mu_lt hjn (by omega)⟩, fun q => absurd m1_neg q⟩
          rw [crc_first hm e]; intro b q; cases q; rfl
        | some b =>
          have hbn := (crx_lt e).1
          have r1 : hbr t n v E c j < 2147483648 := by
            unfold hbr
            cases e2 : lv (Hb t n v E) (tg t n v E c j) with
            | none => simp [rk]
            | some k => have := hbj k e2; simp only [rk]; omega
          have r2 : hbr t n v E c b < 2147483648 := by
            unfold hbr
            cases e2 : lv (Hb t n v E) (tg t n v E c b) with
            | none => simp [rk]
            | some k => have := hb b (by omega) k e2; simp only [rk]; omega
          simp only [ox1]
          rw [h1 b e, le_nI r1 r2]
          refine ⟨fun q => absurd q (by rw [i0, lt_nI (by omega) (by omega)]; omega), fun _ => ⟨fun q => ⟨⟨j + 1, _, F2, by omega, by rw [nI_s, crc_old hm e q], hF'.tr hF2, ?_⟩, mu_lt hjn (by omega)⟩, fun q => ⟨⟨j + 1, _, F2, by omega, by rw [nI_s, crc_new hm e q], hF'.tr hF2, ?_⟩, mu_lt hjn (by omega)⟩⟩⟩
          · rw [crc_old hm e q]; intro b' q'; cases q'; rfl
          · rw [crc_new hm e q]; intro b' q'; cases q'; rfl
      obtain ⟨hw1, hw2⟩ := hA2.1 _ htg
      refine ⟨in_nI (by omega) (by omega), in_nI (by omega) (by omega), in_nI (by omega) (by omega), fun ca => ?_, fun ca => ?_⟩
      · obtain ⟨k, hk⟩ := isS_iff.mp ca
        have e : hbr t n v E c j = k := by unfold hbr; rw [hk]; rfl
        rw [hw1, hk]
        rw [e] at fin
        exact fin
      · have e : hbr t n v E c j = 1000000 := by
          unfold hbr
          cases e2 : lv (Hb t n v E) (tg t n v E c j) with
          | none => rfl
          | some k => rw [e2] at ca; exact absurd rfl ca
        rw [e] at fin
        exact fin
end CRU
