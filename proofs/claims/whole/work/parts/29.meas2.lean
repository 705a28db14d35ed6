theorem cn_lt {p q : Nat → Bool} {c : Nat} : ∀ n, (∀ i, i < n → p i = true → q i = true) → c < n → q c = true → p c = false → cn n p < cn n q
  | 0, _, h, _, _ => absurd h (Nat.not_lt_zero c)
  | n + 1, h, hc, hq, hp => by
    rw [cn, cn]
    by_cases e : c = n
    · subst e
      have := cn_mono (p := p) (q := q) c (fun i hi => h i (by omega))
      rw [hq, hp]; simp; omega
    · have ih := cn_lt (p := p) (q := q) (c := c) n (fun i hi => h i (by omega)) (by omega) hq hp
      have := h n (by omega)
      split <;> split <;> simp_all <;> omega
section MEAS2
variable {F : Nat → Int32} {A : Nat → Nat → Int32} {t n v : Nat} {E : Nat → Nat → Bool}
theorem m_leadsTo {Post : Int32 → (Nat → Int32) → (Nat → Nat → Int32) → Prop} (hP : Par t n v) (hG : Gr t n v E) (hM : MOk F A t n v E) {c k : Nat} (hc : c < v ^ n) (hk : k ≤ 5000) {w : Nat → Option Nat} (hw : IsA (v ^ n) (-5) (A 21) w)
    (h1 : ∀ F' A', Fr [26] [24] F A F' A' → (∃ d, scB t n v E c d ∧ w d = some k) → Post 1 F' A') (h0 : ∀ F' A', Fr [26] [24] F A F' A' → (∀ d, scB t n v E c d → w d ≠ some k) → Post 0 F' A') : wp_X7_leadsTo F A (nI c) (nI k) Post := by
  obtain ⟨p1, p2, p3, p4, p5, p6, p7, p8, p9⟩ := id hP
  have hf : Rw n v (dg v c) := Rw_dg (by omega)
  unfold wp_X7_leadsTo
  refine m_rowOf hP hM hc (fun A1 hF1 hr => ?_)
  have hM1 := hM.fr hF1 (by decide)
  have hw1 : IsA (v ^ n) (-5) (A1 21) w := by rw [hF1.2 21 (by decide)]; exact hw
  unfold wp_X7_leadsTo_7
  refine Lp_of (fun z => ∃ j F', j ≤ n ∧ z = (nI j, F', A1) ∧ Fr [26] [] F A1 F' A1 ∧ ∀ i, i < j → mvc t n v E c i = true → w (tg t n v E c i) ≠ some k) (fun z => n - ix z.1) ⟨0, F, by omega, rfl, Fr.rf, fun i hi => absurd hi (Nat.not_lt_zero i)⟩ ?_
  rintro _ ⟨j, F', hj, rfl, hF, hI⟩
  dsimp only
  have hM' := hM1.fr hF (by decide)
  have hFa : ∀ F2, Fr [26] [] F A1 F2 A1 → Fr [26] [24] F A F2 A1 := fun F2 q => (hF1.mo (by decide) (by decide)).tr (q.mo (by decide) (by decide))
  unfold st_X7_leadsTo_7
  rw [hM'.2.1]
  simp (disch := omega) only [le_nI]
  refine ⟨fun hge => ?_, fun hlt => ?_⟩
  · refine h0 F' A1 (hFa F' hF) ?_
    rintro d ⟨i, hi, hm, rfl⟩
    exact hI i (by omega) hm
  · have hjn : j < n := by omega
    refine m_becomes hP hG hM' hf hr hjn (fun F2 hF2 => ?_)
    rw [bo_neg hP hG hf hjn]
    refine ⟨fun cm => ⟨⟨j + 1, F2, by omega, by rw [nI_s], hF.tr hF2, fun i hi hm => ?_⟩, mu_lt hjn (by omega)⟩, fun cm => ?_⟩
    · by_cases q : i = j
      · subst q
        have cm : mvc t n v E c i = false := cm
        rw [cm] at hm; cases hm
      · exact hI i (by omega) hm
    · have cm' : mvc t n v E c j = true := by
        cases e : mvc t n v E c j with
        | true => rfl
        | false => exact absurd e cm
      have eb : bo t n v E (dg v c) j = nI (wt t n v E (dg v c) j) := if_pos cm'
      have htg := tg_lt hP hG (c := c) hjn
      have eto := m_to hP hM1 hc hr hjn
      rw [eb, eto, ix_nI (a := tg t n v E c j) (by omega)]
      obtain ⟨hw1', hw2⟩ := hw1 _ htg
      refine ⟨in_nI (by omega) (by omega), in_nI (by omega) (by omega), in_nI (by omega) (by omega), fun ca => ⟨⟨j + 1, F2, by omega, by rw [nI_s], hF.tr hF2, fun i hi hm => ?_⟩, mu_lt hjn (by omega)⟩, fun ca => ?_⟩
      · by_cases q : i = j
        · subst q
          intro e
          rw [hw1', e] at ca
          exact ca rfl
        · exact hI i (by omega) hm
      · refine h1 F2 A1 (hFa F2 (hF.tr hF2)) ⟨_, ⟨j, hjn, cm', rfl⟩, ?_⟩
        rw [hw1'] at ca
        cases e : w (tg t n v E c j) with
        | none => rw [e] at ca; exact absurd ca.symm (neg_ne m5_neg (by omega))
        | some k2 =>
          rw [e] at ca
          have := hw2 k2 e
          simp only [eo] at ca
          rw [eq_nI (by omega) (by omega)] at ca
          rw [ca]
theorem scB_lt (hP : Par t n v) (hG : Gr t n v E) : ∀ c d, c < v ^ n → scB t n v E c d → d < v ^ n := by
  rintro c d hc ⟨i, hi, -, rfl⟩
  exact tg_lt hP hG hi
theorem scC_lt (hP : Par t n v) : ∀ c d, c < v ^ n → scC n v c d → d < v ^ n := by
  obtain ⟨p1, p2, p3, p4, p5, p6, p7, p8, p9⟩ := id hP
  rintro c d hc ⟨i, w, hi, hw, rfl⟩
  exact cd_lt n (uN_lt (fun j hj => dg_lt (by omega)) hw)
theorem tr_le {R : Nat → Nat → Prop} {far c k : Nat} (hf : far ≤ 4097) (h : tr R far c = some k) : k ≤ 4096 := by
  have := (tr_some.mp h).2
  omega
theorem zero_iff {S : Nat} {d : Int32} {g : Nat → Int32} {w : Nat → Option Nat} (h : IsA S d g w) (hd : d < 0) {c : Nat} (hc : c < S) : (g c = 0) = (w c = some 0) := by
  obtain ⟨h1, h2⟩ := h c hc
  rw [h1]
  cases e : w c with
  | none =>
    simp only [eo, eq_iff_iff, reduceCtorEq, iff_false]
    intro q
    rw [q] at hd
    exact absurd hd (by decide)
  | some k =>
    have := h2 k e
    simp only [eo]
    rw [i0, eq_nI (by omega) (by omega)]
    simp
theorem m_bests {Post : (Nat → Int32) → (Nat → Nat → Int32) → Prop} (hP : Par t n v) (hG : Gr t n v E) (hM : MOk F A t n v E) (hW : IsA (v ^ n) (-5) (A 20) (lv (Hb t n v E))) (h : ∀ F' A', Fr [26] [21, 24] F A F' A' → IsA (v ^ n) (-5) (A' 21) (lv (Bb t n v E)) → Post F' A') : wp_X7_bests F A Post := by
  obtain ⟨p1, p2, p3, p4, p5, p6, p7, p8, p9⟩ := id hP
  have hSp : 0 < v ^ n := Nat.pow_pos (by omega)
  have hsc := scB_lt hP hG
  generalize hS : v ^ n = S at *
  unfold wp_X7_bests wp_X7_bests_2
  refine Lp_of (fun z => ∃ c A', c ≤ S ∧ z = (nI c, F, A') ∧ Fr [26] [21, 24] F A F A' ∧ ∀ j, j < c → A' 21 j = eo (-5) (tr (Bb t n v E) 1 j)) (fun z => S - ix z.1) ⟨0, A, by omega, rfl, Fr.rf, fun i hi => absurd hi (Nat.not_lt_zero i)⟩ ?_
  rintro _ ⟨c, A', hc, rfl, hF, h21⟩
  dsimp only
  have hM' := hM.fr hF (by decide)
  unfold st_X7_bests_2
  rw [hM'.2.2.2.1, hS]
  simp (disch := omega) only [le_nI]
  refine ⟨fun hge => ?_, fun hlt => ⟨in_nI (by omega) (by omega), ?_⟩⟩
  · have hcS : c = S := by omega
    subst hcS
    unfold wp_X7_bests_41
    refine Lp_of (fun z => ∃ x far F' A', z = (x, nI far, F', A') ∧ 1 ≤ far ∧ far ≤ c + 2 ∧ Fr [26] [21, 24] F A F' A' ∧ IsA c (-5) (A' 21) (tr (Bb t n v E) far) ∧ ((x = 1 ∧ far + cn c (fun j => !isS (tr (Bb t n v E) far j)) ≤ c + 1) ∨ (x = 0 ∧ ∀ d, d < c → lv (Bb t n v E) d ≠ some (far - 1)))) (fun z => 2 * unk z.2.2.2 21 c + ix z.1) ⟨1, 1, F, A', rfl, by omega, by omega, hF, fun j hj => ⟨h21 j hj, fun k hk => tr_le (by omega) hk⟩, Or.inl ⟨rfl, by have := cn_le (fun j => !isS (tr (Bb t n v E) 1 j)) c; omega⟩⟩ ?_
    rintro _ ⟨x, far, F2, A2, rfl, hf1, hf2, hF2, hw, hx⟩
    dsimp only
    have hM2 := hM.fr hF2 (by decide)
    unfold st_X7_bests_41
    refine ⟨fun cx => ?_, fun cx => ?_⟩
    · rcases hx with ⟨hx, -⟩ | ⟨-, hno⟩
      · rw [hx] at cx; exact absurd cx (by decide)
      · refine h F2 A2 hF2 (hw.ofEq (fun d hd => ?_))
        cases e : lv (Bb t n v E) d with
        | none => unfold tr; rw [e]
        | some k =>
          by_cases q : k < far
          · exact tr_some.mpr ⟨e, q⟩
          · obtain ⟨d2, hd2, hl2⟩ := lvG_chain hsc k d (far - 1) hd e (by omega)
            exact absurd hl2 (hno d2 hd2)
    · have hx1 : x = 1 ∧ far + cn c (fun j => !isS (tr (Bb t n v E) far j)) ≤ c + 1 := by
        rcases hx with hx | ⟨hx, -⟩
        · exact hx
        · exact absurd hx cx
      obtain ⟨rfl, hbd⟩ := hx1
      clear hx
      have hu0 := unk_eq (A := A2) (r := 21) hw m5_neg
      unfold wp_X7_bests_49
      refine Lp_of (fun z => ∃ x d F3 A3, d ≤ c ∧ z = (x, nI d, F3, A3) ∧ Fr [26] [21, 24] F A F3 A3 ∧ IsA c (-5) (A3 21) (fun j => if j < d then tr (Bb t n v E) (far + 1) j else tr (Bb t n v E) far j) ∧ ((x = 1 ∧ ∃ e, e < d ∧ lv (Bb t n v E) e = some far) ∨ (x = 0 ∧ ∀ e, e < d → lv (Bb t n v E) e ≠ some far))) (fun z => c - ix z.2.1) ⟨0, 0, F2, A2, by omega, rfl, hF2, hw.ofEq (fun d hd => by rw [if_neg (Nat.not_lt_zero d)]), Or.inr ⟨rfl, fun e he => absurd he (Nat.not_lt_zero e)⟩⟩ ?_
      rintro _ ⟨x, d, F3, A3, hd, rfl, hF3, hw3, hx⟩
      dsimp only
      have hM3 := hM.fr hF3 (by decide)
      unfold st_X7_bests_49
      rw [hM3.2.2.2.1, hS]
      simp (disch := omega) only [le_nI]
      refine ⟨fun hge => ?_, fun hlt => ⟨in_nI (by omega) (by omega), ?_⟩⟩
      · have hdc : d = c := by omega
        subst hdc
        have hw4 : IsA d (-5) (A3 21) (tr (Bb t n v E) (far + 1)) := hw3.ofEq (fun j hj => if_pos hj)
        have hu3 := unk_eq (A := A3) (r := 21) hw4 m5_neg
        rcases hx with ⟨hx, e, he, hle⟩ | ⟨hx, hno⟩
        · have hlt : cn d (fun j => !isS (tr (Bb t n v E) (far + 1) j)) < cn d (fun j => !isS (tr (Bb t n v E) far j)) := by
            refine cn_lt d (fun j hj hh => ?_) he ?_ ?_
            · have h1 : tr (Bb t n v E) (far + 1) j = none := isS_no.mp (by simpa using hh)
              cases q : tr (Bb t n v E) far j with
              | none => rfl
              | some k =>
                have := tr_some.mp q
                rw [tr_some.mpr ⟨this.1, by omega⟩] at h1
                cases h1
            · rw [(tr_new hle).2]; rfl
            · rw [(tr_new hle).1]; rfl
          refine ⟨⟨x, far + 1, F3, A3, by rw [nI_s], by omega, by omega, hF3, hw4, Or.inl ⟨hx, by omega⟩⟩, ?_⟩
          rw [hu0, hu3, hx]; omega
        · have heq : cn d (fun j => !isS (tr (Bb t n v E) (far + 1) j)) = cn d (fun j => !isS (tr (Bb t n v E) far j)) := cn_congr d (fun j hj => by rw [tr_next (hno j hj)])
          refine ⟨⟨x, far + 1, F3, A3, by rw [nI_s], by omega, by omega, hF3, hw4, Or.inr ⟨hx, fun e he => by rw [Nat.add_sub_cancel]; exact hno e he⟩⟩, ?_⟩
          rw [hu0, hu3, heq, hx, show ix (0 : Int32) = 0 by decide, show ix (1 : Int32) = 1 by decide]; omega
      · have hdc : d < c := by omega
        have e21 : A3 21 (ix (nI d)) = A3 21 d := by rw [ix_nI (by omega)]
        rw [e21, hw3.neg m5_neg hdc]
        try dsimp only
        rw [if_neg (Nat.lt_irrefl d)]
        -- the next stage of the row
        have stage : ∀ (g : Nat → Int32), IsA c (-5) g (fun j => if j < d then tr (Bb t n v E) (far + 1) j else tr (Bb t n v E) far j) → tr (Bb t n v E) (far + 1) d = tr (Bb t n v E) far d → IsA c (-5) g (fun j => if j < d + 1 then tr (Bb t n v E) (far + 1) j else tr (Bb t n v E) far j) := fun g hg he => hg.ofEq (fun j hj => by
          by_cases q : j = d
          · subst q; rw [if_neg (by omega), if_pos (by omega), he]
          · by_cases q2 : j < d
            · rw [if_pos q2, if_pos (by omega)]
            · rw [if_neg q2, if_neg (by omega)])
        refine ⟨fun ca => ?_, fun ca => ?_⟩
        · obtain ⟨k, hk⟩ := isS_iff.mp ca
          have hk' := tr_some.mp hk
          have hne : lv (Bb t n v E) d ≠ some far := fun q => by rw [hk'.1] at q; cases q; omega
          refine ⟨⟨x, d + 1, F3, A3, by omega, by rw [nI_s], hF3, stage _ hw3 (tr_next hne), ?_⟩, mu_lt hdc (by omega)⟩
          rcases hx with ⟨hx, e, he, hle⟩ | ⟨hx, hno⟩
          · exact Or.inl ⟨hx, e, by omega, hle⟩
          · refine Or.inr ⟨hx, fun e he => ?_⟩
            by_cases q : e = d
            · subst q; exact hne
            · exact hno e (by omega)
        · have hnone : tr (Bb t n v E) far d = none := isS_no.mp (by simpa using ca)
          have hfar : far ≤ c := by
            have : 0 < cn c (fun j => !isS (tr (Bb t n v E) far j)) := cn_pos hdc (by rw [hnone]; rfl)
            omega
          have hge := tr_none hnone
          have ef : nI far - (1 : Int32) = nI (far - 1) := by rw [i1, sub_nI (by omega)]
          rw [ef]
          refine m_leadsTo hP hG hM3 (w := fun j => if j < d then tr (Bb t n v E) (far + 1) j else tr (Bb t n v E) far j) (by omega) (by omega) (by rw [hS]; exact hw3) (fun F4 A4 hF4 hl => ?_) (fun F4 A4 hF4 hl => ?_)
          · have hlv : lv (Bb t n v E) d = some far := by
              obtain ⟨d2, hs2, hl2⟩ := hl
              have h3 : lv (Bb t n v E) d2 = some (far - 1) := by
                try dsimp only at hl2
                split at hl2
                · exact (tr_some.mp hl2).1
                · exact (tr_some.mp hl2).1
              have := lvG_new (k := far - 1) (fun j hj q => by have := hge j q; omega) ⟨d2, hs2, h3⟩
              rw [show far - 1 + 1 = far by omega] at this
              exact this
            refine ⟨fun q => absurd q (by decide), fun _ => ⟨in_nI (by omega) (by omega), ?_⟩⟩
            rintro _ rfl
            refine ⟨⟨1, d + 1, F4, _, by omega, by rw [nI_s], (hF3.tr (hF4.mo (by decide) (by decide))).tr (Fr.uA (by decide)), ?_, Or.inl ⟨rfl, d, by omega, hlv⟩⟩, mu_lt hdc (by omega)⟩
            rw [uA_same, ix_nI (by omega), hF4.2 21 (by decide)]
            refine (hw3.put (c := d) (k := far) (by omega)).ofEq (fun j hj => ?_)
            by_cases q : j = d
            · subst q; rw [uO_same, if_pos (by omega), (tr_new hlv).1]
            · rw [uO_ne q]
              by_cases q2 : j < d
              · rw [if_pos q2, if_pos (by omega)]
              · rw [if_neg q2, if_neg (by omega)]
          · have hne : lv (Bb t n v E) d ≠ some far := fun q => by
              rw [show far = far - 1 + 1 by omega] at q
              obtain ⟨d2, hs2, hl2⟩ := lvG_succ q
              refine hl d2 hs2 ?_
              try dsimp only
              split
              · exact tr_some.mpr ⟨hl2, by omega⟩
              · exact tr_some.mpr ⟨hl2, by omega⟩
            refine ⟨fun _ => ⟨⟨x, d + 1, F4, A4, by omega, by rw [nI_s], hF3.tr (hF4.mo (by decide) (by decide)), ?_, ?_⟩, mu_lt hdc (by omega)⟩, fun q => absurd rfl q⟩
            · rw [hF4.2 21 (by decide)]
              exact stage _ hw3 (tr_next hne)
            · rcases hx with ⟨hx, e, he, hle⟩ | ⟨hx, hno⟩
              · exact Or.inl ⟨hx, e, by omega, hle⟩
              · refine Or.inr ⟨hx, fun e he => ?_⟩
                by_cases q : e = d
                · subst q; exact hne
                · exact hno e (by omega)
  · have hcS : c < S := by omega
    have e20 : A' 20 (ix (nI c)) = A 20 c := by rw [ix_nI (by omega), hF.2 20 (by decide)]
    rw [e20, zero_iff hW m5_neg hcS]
    have fin : ∀ y : Int32, y = eo (-5) (tr (Bb t n v E) 1 c) → wp_X7_bests_30 F A' (nI c) (nI c) y (fun t' => (∃ c A', c ≤ S ∧ t' = (nI c, F, A') ∧ Fr [26] [21, 24] F A F A' ∧ ∀ j, j < c → A' 21 j = eo (-5) (tr (Bb t n v E) 1 j)) ∧ S - ix t'.1 < S - ix (nI c)) Post := fun y hy => by
      unfold wp_X7_bests_30
      refine ⟨in_nI (by omega) (by omega), ?_⟩
      rintro _ rfl
      refine ⟨⟨c + 1, _, by omega, by rw [nI_s], hF.tr (Fr.uA (by decide)), fun j hj => ?_⟩, mu_lt hcS (by omega)⟩
      rw [uA_same, upd_at, ix_nI (by omega)]
      split
      · rename_i q; subst q; exact hy
      · exact h21 j (by omega)
    refine ⟨fun cl => fin _ ?_, fun cl => fin _ ?_⟩
    · have : ¬ lgc t n v E c = true := fun q => cl (lv_legal q).1
      rw [tr_one (S := S), if_neg this]; rfl
    · rw [tr_one (S := S), if_pos (lv_zero cl)]; rfl
end MEAS2
