section MEAS
variable {F : Nat → Int32} {A : Nat → Nat → Int32} {t n v : Nat} {E : Nat → Nat → Bool}
/-- what worstBehind tells -/
def WB (t n v : Nat) (E : Nat → Nat → Bool) (w : Nat → Option Nat) (c j : Nat) (r : Int32) : Prop :=
  (r = -1 ∧ ∀ i, i < j → mvc t n v E c i = false) ∨ ∃ m, r = nI m ∧ m ≤ 4096 ∧ (∀ i, i < j → mvc t n v E c i = true → ∃ k, w (tg t n v E c i) = some k ∧ k ≤ m) ∧ ∃ i, i < j ∧ mvc t n v E c i = true ∧ w (tg t n v E c i) = some m
theorem mu_lt {n j : Nat} (hj : j < n) (hn : n < 2147483647) : n - ix (nI j + 1) < n - ix (nI j) := by
  simp (disch := omega) only [nI_s, ix_nI]; omega
theorem m_to (hP : Par t n v) (hM : MOk F A t n v E) {c i : Nat} (hc : c < v ^ n) (hr : Row A n (dg v c)) (hi : i < n) : nI c + (nI (wt t n v E (dg v c) i) - A 24 (ix (nI i))) * A 8 (ix (nI i)) = nI (tg t n v E c i) := by
  obtain ⟨p1, p2, p3, p4, p5, p6, p7, p8, p9⟩ := id hP
  rw [ix_nI (by omega), hr i hi, hM.2.2.2.2.2 i hi, with_nI (by omega) hc hi]
  rfl
theorem m_worstBehind {Post : Int32 → (Nat → Int32) → (Nat → Nat → Int32) → Prop} (hP : Par t n v) (hG : Gr t n v E) (hM : MOk F A t n v E) {c : Nat} (hc : c < v ^ n) (hr : Row A n (dg v c)) {w : Nat → Option Nat} (hw : IsA (v ^ n) (-5) (A 20) w)
    (h : ∀ F' r, Fr [26] [] F A F' A → ((r = -1 ∧ ∃ i, i < n ∧ mvc t n v E c i = true ∧ w (tg t n v E c i) = none) ∨ WB t n v E w c n r) → Post r F' A) : wp_X7_worstBehind F A Post := by
  obtain ⟨p1, p2, p3, p4, p5, p6, p7, p8, p9⟩ := id hP
  have hf : Rw n v (dg v c) := Rw_dg (by omega)
  unfold wp_X7_worstBehind
  refine m_codeOf hP hM hr ?_
  rw [cd_dg hc]
  unfold wp_X7_worstBehind_9
  refine Lp_of (fun z => ∃ x1 j F', j ≤ n ∧ z = (x1, nI j, F', A) ∧ Fr [26] [] F A F' A ∧ WB t n v E w c j x1) (fun z => n - ix z.2.1) ⟨-1, 0, F, by omega, rfl, Fr.rf, Or.inl ⟨rfl, fun i hi => absurd hi (Nat.not_lt_zero i)⟩⟩ ?_
  rintro _ ⟨x1, j, F', hj, rfl, hF, hI⟩
  dsimp only
  have hM' := hM.fr hF (by decide)
  unfold st_X7_worstBehind_9
  rw [hM'.2.1]
  simp (disch := omega) only [le_nI]
  refine ⟨fun hge => ?_, fun hlt => ?_⟩
  · have : j = n := by omega
    subst this
    exact h F' x1 hF (Or.inr hI)
  · have hjn : j < n := by omega
    refine m_becomes hP hG hM' hf hr hjn (fun F2 hF2 => ?_)
    rw [bo_neg hP hG hf hjn]
    refine ⟨fun cm => ⟨⟨x1, j + 1, F2, by omega, by rw [nI_s], hF.tr hF2, ?_⟩, mu_lt hjn (by omega)⟩, fun cm => ?_⟩
    · have cm' : mvc t n v E c j = false := cm
      rcases hI with ⟨e, hI⟩ | ⟨m, e, hm, hI, i, hi, h1, h2⟩
      · refine Or.inl ⟨e, fun i hi => ?_⟩
        by_cases q : i = j
        · subst q; exact cm'
        · exact hI i (by omega)
      · refine Or.inr ⟨m, e, hm, fun i hi hmv => ?_, i, by omega, h1, h2⟩
        by_cases q : i = j
        · subst q; rw [cm'] at hmv; cases hmv
        · exact hI i (by omega) hmv
    · have cm' : mvc t n v E c j = true := by
        cases e : mvc t n v E c j with
        | true => rfl
        | false => exact absurd e cm
      have eb : bo t n v E (dg v c) j = nI (wt t n v E (dg v c) j) := if_pos cm'
      have htg := tg_lt hP hG (c := c) hjn
      have eto := m_to hP hM hc hr hjn
      rw [eb, eto, ix_nI (a := tg t n v E c j) (by omega), hw.neg m5_neg htg]
      obtain ⟨hw1, hw2⟩ := hw _ htg
      refine ⟨in_nI (by omega) (by omega), in_nI (by omega) (by omega), in_nI (by omega) (by omega), fun ca => ?_, fun ca => ?_⟩
      · obtain ⟨k, hk⟩ := isS_iff.mp ca
        have hk4 := hw2 k hk
        rw [hw1, hk]
        show vp_in _ _ ∧ _
        simp only [eo]
        unfold wp_X7_worstBehind_83
        refine ⟨in_nI (by omega) (by omega), fun cl => ⟨⟨x1, j + 1, F2, by omega, by rw [nI_s], hF.tr hF2, ?_⟩, mu_lt hjn (by omega)⟩, fun cl => ⟨in_nI (by omega) (by omega), ⟨nI k, j + 1, F2, by omega, by rw [nI_s], hF.tr hF2, ?_⟩, mu_lt hjn (by omega)⟩⟩
        · rcases hI with ⟨e, hI⟩ | ⟨m, e, hm, hI, i, hi, h1, h2⟩
          · rw [e] at cl; exact absurd cl (nle_neg m1_neg (by omega))
          · rw [e, le_nI (by omega) (by omega)] at cl
            refine Or.inr ⟨m, e, hm, fun i hi hmv => ?_, i, by omega, h1, h2⟩
            by_cases q : i = j
            · subst q; exact ⟨k, hk, cl⟩
            · exact hI i (by omega) hmv
        · refine Or.inr ⟨k, rfl, hk4, fun i hi hmv => ?_, j, by omega, cm', hk⟩
          by_cases q : i = j
          · subst q; exact ⟨k, hk, Nat.le_refl k⟩
          · rcases hI with ⟨e, hI⟩ | ⟨m, e, hm, hI, -⟩
            · rw [hI i (by omega)] at hmv; cases hmv
            · rw [e, le_nI (by omega) (by omega)] at cl
              obtain ⟨k2, h2, h3⟩ := hI i (by omega) hmv
              exact ⟨k2, h2, by omega⟩
      · refine h F2 _ (hF.tr hF2) (Or.inl ⟨rfl, j, hjn, cm', ?_⟩)
        cases e : w (tg t n v E c j) with
        | none => rfl
        | some k => rw [e] at ca; exact absurd rfl ca
/-- a stage of the reference's worsts -/
def WI (t n v : Nat) (E : Nat → Nat → Bool) (w : Nat → Option Nat) : Prop :=
  (∀ c, c < v ^ n → ∀ k, w c = some k → lv (Hb t n v E) c = some k ∧ k ≤ cn (v ^ n) (fun j => isS (w j))) ∧ ∀ c, c < v ^ n → lgc t n v E c = true → w c = some 0
theorem WI.more {w : Nat → Option Nat} (h : WI t n v E w) (hP : Par t n v) (hG : Gr t n v E) {c m : Nat} (hc : c < v ^ n) (hn : w c = none) (ha : ∀ i, i < n → mvc t n v E c i = true → ∃ k, w (tg t n v E c i) = some k ∧ k ≤ m) (hx : ∃ i, i < n ∧ mvc t n v E c i = true ∧ w (tg t n v E c i) = some m) : WI t n v E (uO w c (m + 1)) ∧ m + 1 ≤ cn (v ^ n) (fun j => isS (uO w c (m + 1) j)) := by
  obtain ⟨i, hi, hmv, hwm⟩ := hx
  have hm := (h.1 _ (tg_lt hP hG hi) m hwm).2
  have hcn := cn_uO (k := m + 1) hc hn
  have hlg : lgc t n v E c = false := by
    cases e : lgc t n v E c with
    | false => rfl
    | true => rw [h.2 c hc e] at hn; cases hn
  refine ⟨⟨fun d hd k hk => ?_, fun d hd hl => ?_⟩, by omega⟩
  · by_cases e : d = c
    · subst e
      rw [uO_same] at hk
      cases hk
      refine ⟨lvH_step hlg (fun i hi hmv => ?_) ⟨i, hi, hmv, (h.1 _ (tg_lt hP hG hi) m hwm).1⟩, by omega⟩
      obtain ⟨k, h1, h2⟩ := ha i hi hmv
      exact ⟨k, (h.1 _ (tg_lt hP hG hi) k h1).1, h2⟩
    · rw [uO_ne e] at hk
      have := h.1 d hd k hk
      exact ⟨this.1, by omega⟩
  · have e : d ≠ c := fun e => by rw [e, hlg] at hl; cases hl
    rw [uO_ne e]
    exact h.2 d hd hl
/-- nothing more is known ahead of c -/
def Stk (t n v : Nat) (E : Nat → Nat → Bool) (w : Nat → Option Nat) (b : Nat) : Prop := ∀ c, c < b → w c = none → (∀ i, i < n → mvc t n v E c i = false) ∨ ∃ i, i < n ∧ mvc t n v E c i = true ∧ w (tg t n v E c i) = none
theorem WI.end {w : Nat → Option Nat} (h : WI t n v E w) (hP : Par t n v) (hG : Gr t n v E) (hs : Stk t n v E w (v ^ n)) : ∀ c, c < v ^ n → w c = lv (Hb t n v E) c := fun c hc => by
  cases e : w c with
  | some k => exact ((h.1 c hc k e).1).symm
  | none =>
    symm
    rw [lv_none]
    intro k hk
    have := lvH_none (S := v ^ n) (w := w) (fun c i _ hi => tg_lt hP hG hi) (fun c hc hl => by rw [h.2 c hc hl]; rfl) (fun c hc hn ha i hi => by
      rcases hs c hc hn with q | ⟨i2, hi2, hm2, hn2⟩
      · exact q i hi
      · have := ha i2 hi2 hm2
        rw [hn2] at this; cases this) k c hc hk
    rw [e] at this; cases this
def unk (A : Nat → Nat → Int32) (r S : Nat) : Nat := cn S (fun c => decide (A r c < 0))
theorem unk_eq {S r : Nat} {d : Int32} {w : Nat → Option Nat} (h : IsA S d (A r) w) (hd : d < 0) : unk A r S = cn S (fun c => !isS (w c)) := by
  refine cn_congr S (fun c hc => ?_)
  have := h.lt0 hd hc
  cases e : w c with
  | none => rw [e] at this; simp [this, isS]
  | some k => rw [e] at this; simp [this, isS]
theorem unk_less {S c k : Nat} {w : Nat → Option Nat} (hc : c < S) (h : w c = none) : cn S (fun c' => !isS (uO w c k c')) + 1 = cn S (fun c => !isS (w c)) := by
  rw [cn_one_less (p := fun c => !isS (w c)) S hc (by simp [h, isS])]
  congr 1
  refine cn_congr S (fun j hj => ?_)
  by_cases e : j = c
  · subst e
    rw [uO_same]; simp [isS]
  · rw [uO_ne e]; simp [e]
theorem m_worsts {Post : (Nat → Int32) → (Nat → Nat → Int32) → Prop} (hP : Par t n v) (hG : Gr t n v E) (hM : MOk F A t n v E) (h : ∀ F' A', Fr [26] [20, 24] F A F' A' → IsA (v ^ n) (-5) (A' 20) (lv (Hb t n v E)) → Post F' A') : wp_X7_worsts F A Post := by
  obtain ⟨p1, p2, p3, p4, p5, p6, p7, p8, p9⟩ := id hP
  have hSp : 0 < v ^ n := Nat.pow_pos (by omega)
  generalize hS : v ^ n = S at *
  unfold wp_X7_worsts wp_X7_worsts_2
  refine Lp_of (fun z => ∃ c F' A', c ≤ S ∧ z = (nI c, F', A') ∧ Fr [26] [20, 24] F A F' A' ∧ ∀ j, j < c → A' 20 j = eo (-5) (if lgc t n v E j then some 0 else none)) (fun z => S - ix z.1) ⟨0, F, A, by omega, rfl, Fr.rf, fun i hi => absurd hi (Nat.not_lt_zero i)⟩ ?_
  rintro _ ⟨c, F', A', hc, rfl, hF, h20⟩
  dsimp only
  have hM' := hM.fr hF (by decide)
  unfold st_X7_worsts_2
  rw [hM'.2.2.2.1, hS]
  simp (disch := omega) only [le_nI]
  refine ⟨fun hge => ?_, fun hlt => ?_⟩
  · -- the sweeps
    have hcS : c = S := by omega
    subst hcS
    unfold wp_X7_worsts_42
    refine Lp_of (fun z => ∃ x F' A' w, z = (x, F', A') ∧ Fr [26] [20, 24] F A F' A' ∧ IsA c (-5) (A' 20) w ∧ WI t n v E w ∧ (x = 1 ∨ (x = 0 ∧ Stk t n v E w c))) (fun z => 2 * unk z.2.2 20 c + ix z.1) ⟨1, F', A', fun j => if lgc t n v E j then some 0 else none, rfl, hF, fun j hj => ⟨h20 j hj, fun k hk => ?_⟩, ⟨fun d hd k hk => ?_, fun d hd hl => if_pos hl⟩, Or.inl rfl⟩ ?_
    · revert hk
      dsimp only
      split
      · intro hk; cases hk; omega
      · intro hk; cases hk
    · revert hk
      dsimp only
      split
      · rename_i q; intro hk; cases hk; exact ⟨(lv_legal q).1, Nat.zero_le _⟩
      · intro hk; cases hk
    · rintro _ ⟨x, F2, A2, w, rfl, hF2, hw, hWI, hx⟩
      dsimp only
      have hM2 := hM.fr hF2 (by decide)
      unfold st_X7_worsts_42
      refine ⟨fun cx => ?_, fun cx => ?_⟩
      · rcases hx with hx | ⟨-, hst⟩
        · rw [hx] at cx; exact absurd cx (by decide)
        · refine h F2 A2 hF2 (hw.ofEq (fun d hd => ?_))
          rw [← hS] at hd hst
          exact hWI.end hP hG hst d hd
      · have hx1 : x = 1 := by
          rcases hx with hx | ⟨hx, -⟩
          · exact hx
          · exact absurd hx cx
        subst hx1
        have hu0 := unk_eq (A := A2) (r := 20) hw m5_neg
        unfold wp_X7_worsts_50
        refine Lp_of (fun z => ∃ x d F3 A3 w3, d ≤ c ∧ z = (x, nI d, F3, A3) ∧ Fr [26] [20, 24] F A F3 A3 ∧ IsA c (-5) (A3 20) w3 ∧ WI t n v E w3 ∧ ((x = 1 ∧ cn c (fun j => !isS (w3 j)) < cn c (fun j => !isS (w j))) ∨ (x = 0 ∧ w3 = w ∧ Stk t n v E w3 d))) (fun z => c - ix z.2.1) ⟨0, 0, F2, A2, w, by omega, rfl, hF2, hw, hWI, Or.inr ⟨rfl, rfl, fun e he => absurd he (Nat.not_lt_zero e)⟩⟩ ?_
        rintro _ ⟨x, d, F3, A3, w3, hd, rfl, hF3, hw3, hWI3, hx⟩
        dsimp only
        have hM3 := hM.fr hF3 (by decide)
        have hu3 := unk_eq (A := A3) (r := 20) hw3 m5_neg
        unfold st_X7_worsts_50
        rw [hM3.2.2.2.1, hS]
        simp (disch := omega) only [le_nI]
        refine ⟨fun hge => ?_, fun hlt => ⟨in_nI (by omega) (by omega), ?_⟩⟩
        · have hdc : d = c := by omega
          subst hdc
          refine ⟨⟨x, F3, A3, w3, rfl, hF3, hw3, hWI3, ?_⟩, ?_⟩
          · rcases hx with ⟨hx, -⟩ | ⟨hx, -, hst⟩
            · exact Or.inl hx
            · exact Or.inr ⟨hx, hst⟩
          · rw [hu0, hu3]
            rcases hx with ⟨hx, hl⟩ | ⟨hx, he, -⟩
            · rw [hx]; omega
            · rw [hx, he, show ix (0 : Int32) = 0 by decide, show ix (1 : Int32) = 1 by decide]; omega
        · have hdc : d < c := by omega
          have e20 : A3 20 (ix (nI d)) = A3 20 d := by rw [ix_nI (by omega)]
          rw [e20, hw3.neg m5_neg hdc]
          refine ⟨fun ca => ⟨⟨x, d + 1, F3, A3, w3, by omega, by rw [nI_s], hF3, hw3, hWI3, ?_⟩, mu_lt hdc (by omega)⟩, fun ca => ?_⟩
          · rcases hx with hx | ⟨hx, he, hst⟩
            · exact Or.inl hx
            · refine Or.inr ⟨hx, he, fun e hel hen => ?_⟩
              by_cases q : e = d
              · subst q; rw [hen] at ca; cases ca
              · exact hst e (by omega) hen
          · have hnone : w3 d = none := isS_no.mp (by simpa using ca)
            refine m_rowOf hP hM3 (by omega) (fun A4 hF4 hr4 => ?_)
            have hM4 := hM3.fr hF4 (by decide)
            have hw4 : IsA c (-5) (A4 20) w3 := by rw [hF4.2 20 (by decide)]; exact hw3
            refine m_worstBehind hP hG hM4 (c := d) (w := w3) (by omega) hr4 (by rw [hS]; exact hw4) (fun F5 r hF5 hr => ?_)
            have hFa : Fr [26] [20, 24] F A F5 A4 := (hF3.tr (hF4.mo (by decide) (by decide))).tr (hF5.mo (by decide) (by decide))
            refine ⟨fun cr => ⟨⟨x, d + 1, F5, A4, w3, by omega, by rw [nI_s], hFa, hw4, hWI3, ?_⟩, mu_lt hdc (by omega)⟩, fun cr => ⟨in_nI (by omega) (by omega), ?_⟩⟩
            · rcases hx with hx | ⟨hx, he, hst⟩
              · exact Or.inl hx
              · refine Or.inr ⟨hx, he, fun e hel hen => ?_⟩
                by_cases q : e = d
                · subst q
                  rcases hr with ⟨-, hr⟩ | ⟨-, hr⟩ | ⟨m, hr, hm, -⟩
                  · exact Or.inr hr
                  · exact Or.inl hr
                  · rw [hr, i0, lt_nI (by omega) (by omega)] at cr; omega
                · exact hst e (by omega) hen
            · rintro _ rfl
              rcases hr with ⟨hr, -⟩ | ⟨hr, -⟩ | ⟨m, hr, hm, ha, hxx⟩
              · rw [hr] at cr; exact absurd (by decide) cr
              · rw [hr] at cr; exact absurd (by decide) cr
              · obtain ⟨hWn, hle⟩ := hWI3.more hP hG (c := d) (by omega) hnone ha hxx
                have hcle := cn_le (fun j => isS (uO w3 d (m + 1) j)) (v ^ n)
                refine ⟨⟨1, d + 1, F5, _, uO w3 d (m + 1), by omega, by rw [nI_s], hFa.tr (Fr.uA (by decide)), ?_, hWn, Or.inl ⟨rfl, ?_⟩⟩, mu_lt hdc (by omega)⟩
                · rw [uA_same, ix_nI (by omega), hr, nI_s]
                  exact hw4.put (by omega)
                · have := unk_less (k := m + 1) hdc hnone
                  rcases hx with ⟨-, hl⟩ | ⟨-, he, -⟩
                  · omega
                  · rw [he] at this ⊢; omega
  · have hcS : c < S := by omega
    refine m_rowOf hP hM' (by omega) (fun A4 hF4 hr4 => ?_)
    have hM4 := hM'.fr hF4 (by decide)
    refine m_isLegal hP hG hM4 (Rw_dg (by omega)) hr4 (fun F5 hF5 => ?_)
    have hFa : Fr [26] [20, 24] F A F5 A4 := (hF.tr (hF4.mo (by decide) (by decide))).tr (hF5.mo (by decide) (by decide))
    have e4 : A4 20 = A' 20 := hF4.2 20 (by decide)
    have fin : ∀ y : Int32, y = eo (-5) (if lgc t n v E c then some 0 else none) → wp_X7_worsts_33 F5 A4 (nI c) (nI c) y (fun t' => (∃ c F' A', c ≤ S ∧ t' = (nI c, F', A') ∧ Fr [26] [20, 24] F A F' A' ∧ ∀ j, j < c → A' 20 j = eo (-5) (if lgc t n v E j then some 0 else none)) ∧ S - ix t'.1 < S - ix (nI c)) Post := fun y hy => by
      unfold wp_X7_worsts_33
      refine ⟨in_nI (by omega) (by omega), ?_⟩
      rintro _ rfl
      refine ⟨⟨c + 1, F5, _, by omega, by rw [nI_s], hFa.tr (Fr.uA (by decide)), fun j hj => ?_⟩, mu_lt hcS (by omega)⟩
      rw [uA_same, upd_at, ix_nI (by omega)]
      split
      · rename_i q; subst q; exact hy
      · rw [e4]; exact h20 j (by omega)
    refine ⟨fun cl => fin _ ?_, fun cl => fin _ ?_⟩
    · have : ¬ lgc t n v E c = true := fun q => by
        have q : lgl t n v E (dg v c) = true := q
        rw [if_pos q] at cl; exact absurd cl (by decide)
      rw [if_neg this]; rfl
    · have : lgc t n v E c = true := by
        show lgl t n v E (dg v c) = true
        by_cases q : lgl t n v E (dg v c) = true
        · exact q
        · rw [if_neg q] at cl; exact absurd rfl cl
      rw [if_pos this]; rfl
end MEAS
