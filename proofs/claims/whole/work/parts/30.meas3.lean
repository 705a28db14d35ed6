section MEAS3
variable {F : Nat → Int32} {A : Nat → Nat → Int32} {t n v : Nat} {E : Nat → Nat → Bool}
theorem m_isHitTo {Post : Int32 → Prop} (hP : Par t n v) (hM : MOk F A t n v E) {c k : Nat} (hc : c < v ^ n) (hk : k ≤ 5000) {w : Nat → Option Nat} (hw : IsA (v ^ n) (-4) (A 22) w)
    (h1 : (∃ d, scC n v c d ∧ w d = some k) → Post 1) (h0 : (∀ d, scC n v c d → w d ≠ some k) → Post 0) : wp_X7_isHitTo F A (nI c) (nI k) Post := by
  obtain ⟨p1, p2, p3, p4, p5, p6, p7, p8, p9⟩ := id hP
  obtain ⟨m1, m2, m3, m4, m5, m6⟩ := id hM
  unfold wp_X7_isHitTo wp_X7_isHitTo_2
  refine Lp_of (fun z => ∃ j, j ≤ n ∧ z = nI j ∧ ∀ i x, i < j → x < v → w (cd v n (uN (dg v c) i x)) ≠ some k) (fun z => n - ix z) ⟨0, by omega, rfl, fun i x hi => absurd hi (Nat.not_lt_zero i)⟩ ?_
  rintro _ ⟨j, hj, rfl, hI⟩
  unfold st_X7_isHitTo_2
  rw [m2, m3]
  simp (disch := omega) only [le_nI]
  refine ⟨fun hge => ?_, fun hlt => ?_⟩
  · refine h0 ?_
    rintro d ⟨i, x, hi, hx, rfl⟩
    exact hI i x (by omega) hx
  · have hjn : j < n := by omega
    have hpw := pow_lt_of hP (i := j) (by omega)
    have hpw0 : 0 < v ^ j := Nat.pow_pos (by omega)
    have e8 : A 8 (ix (nI j)) = nI (v ^ j) := by rw [ix_nI (by omega), m6 j hjn]
    have hd : c / v ^ j ≤ c := Nat.div_le_self _ _
    have hdg : dg v c j < v := dg_lt (by omega)
    rw [e8]
    refine ⟨in_nI (by omega) (by omega), by rw [i0, eq_nI (by omega) (by omega)]; omega, by rw [i0, eq_nI (by omega) (by omega)]; omega, ?_⟩
    rw [div_nI (by omega) hpw0 (by omega), rem_nI (by omega) (by omega) (by omega)]
    unfold wp_X7_isHitTo_28
    refine Lp_of (fun z => ∃ x, x ≤ v ∧ z = nI x ∧ ∀ y, y < x → w (cd v n (uN (dg v c) j y)) ≠ some k) (fun z => v - ix z) ⟨0, by omega, rfl, fun y hy => absurd hy (Nat.not_lt_zero y)⟩ ?_
    rintro _ ⟨x, hx, rfl, hI2⟩
    unfold st_X7_isHitTo_28
    rw [m3]
    simp (disch := omega) only [le_nI]
    refine ⟨fun hge => ⟨⟨j + 1, by omega, by rw [nI_s], fun i y hi hy => ?_⟩, mu_lt hjn (by omega)⟩, fun hlt2 => ?_⟩
    · by_cases q : i = j
      · subst q; exact hI2 y (by omega)
      · exact hI i y (by omega) hy
    · have hxv : x < v := by omega
      have hto : cd v n (uN (dg v c) j x) < v ^ n := cd_lt n (uN_lt (fun i hi => dg_lt (by omega)) hxv)
      have eto : nI c + (nI x - nI (c / v ^ j % v)) * A 8 (ix (nI j)) = nI (cd v n (uN (dg v c) j x)) := by
        rw [e8]
        exact with_nI (by omega) hc hjn
      rw [eto, ix_nI (a := cd v n (uN (dg v c) j x)) (by omega)]
      obtain ⟨hw1, hw2⟩ := hw _ hto
      refine ⟨in_nI (by omega) (by omega), in_nI (by omega) (by omega), fun ca => ⟨⟨x + 1, by omega, by rw [nI_s], fun y hy => ?_⟩, mu_lt hxv (by omega)⟩, fun ca => ?_⟩
      · by_cases q : y = x
        · subst q
          intro e
          rw [hw1, e] at ca
          exact ca rfl
        · exact hI2 y (by omega)
      · refine h1 ⟨_, ⟨j, x, hjn, hxv, rfl⟩, ?_⟩
        rw [hw1] at ca
        cases e : w (cd v n (uN (dg v c) j x)) with
        | none => rw [e] at ca; exact absurd ca.symm (neg_ne m4_neg (by omega))
        | some k2 =>
          rw [e] at ca
          have := hw2 k2 e
          simp only [eo] at ca
          rw [eq_nI (by omega) (by omega)] at ca
          rw [ca]
/-- what is measured is right -/
def MsA (A : Nat → Nat → Int32) (t n v : Nat) (E : Nat → Nat → Bool) : Prop := IsA (v ^ n) (-5) (A 20) (lv (Hb t n v E)) ∧ IsA (v ^ n) (-5) (A 21) (lv (Bb t n v E)) ∧ IsA (v ^ n) (-4) (A 22) (lv (Cb t n v E))
def Ms (F : Nat → Int32) (A : Nat → Nat → Int32) (t n v : Nat) (E : Nat → Nat → Bool) : Prop := F 23 = 0 ∨ (F 23 = 1 ∧ MsA A t n v E)
theorem lvC_le (hP : Par t n v) {c k : Nat} (hc : c < v ^ n) (h : lv (Cb t n v E) c = some k) : k ≤ n := by
  obtain ⟨p1, p2, p3, p4, p5, p6, p7, p8, p9⟩ := id hP
  obtain ⟨L, hL, hl⟩ := lvG_chain (S := v ^ n) (scC_lt hP) k c 0 hc h (by omega)
  have := Cb_all (E := E) (t := t) (by omega) hL (lv_some.mp hl).1 hc
  apply Nat.le_of_not_lt
  intro q
  exact (lv_some.mp h).2 n q this
theorem m_measures {Post : (Nat → Int32) → (Nat → Nat → Int32) → Prop} (hP : Par t n v) (hG : Gr t n v E) (hM : MOk F A t n v E) (hMs : Ms F A t n v E) (h : ∀ F' A', Fr [23, 26] [20, 21, 22, 24] F A F' A' → F' 23 = 1 → MsA A' t n v E → Post F' A') : wp_X7_measures F A Post := by
  obtain ⟨p1, p2, p3, p4, p5, p6, p7, p8, p9⟩ := id hP
  have hSp : 0 < v ^ n := Nat.pow_pos (by omega)
  have hsc := scC_lt hP
  unfold wp_X7_measures
  refine ⟨fun _ => ?_, fun q => ?_⟩
  · refine m_worsts hP hG hM (fun F1 A1 hF1 hW => ?_)
    have hM1 := hM.fr hF1 (by decide)
    refine m_bests hP hG hM1 hW (fun F2 A2 hF2 hB => ?_)
    have hM2 := hM1.fr hF2 (by decide)
    have hW2 : IsA (v ^ n) (-5) (A2 20) (lv (Hb t n v E)) := by rw [hF2.2 20 (by decide)]; exact hW
    have hFa : Fr [23, 26] [20, 21, 22, 24] F A F2 A2 := (hF1.mo (by decide) (by decide)).tr (hF2.mo (by decide) (by decide))
    unfold wp_X7_measures_18
    refine Lp_of (fun z => ∃ c A', c ≤ v ^ n ∧ z = (nI c, F2, A') ∧ Fr [] [22] F2 A2 F2 A' ∧ ∀ j, j < c → A' 22 j = eo (-4) (tr (Cb t n v E) 1 j)) (fun z => v ^ n - ix z.1) ⟨0, A2, by omega, rfl, Fr.rf, fun i hi => absurd hi (Nat.not_lt_zero i)⟩ ?_
    rintro _ ⟨c, A', hc, rfl, hF, h22⟩
    dsimp only
    have hM' := hM2.fr hF (by decide)
    unfold st_X7_measures_18
    rw [hM'.2.2.2.1]
    simp (disch := omega) only [le_nI]
    refine ⟨fun hge => ?_, fun hlt => ⟨in_nI (by omega) (by omega), ?_⟩⟩
    · have hcS : c = v ^ n := by omega
      rw [hcS] at h22
      unfold wp_X7_measures_55
      refine Lp_of (fun z => ∃ far A', 1 ≤ far ∧ far ≤ n + 1 ∧ z = (nI far, F2, A') ∧ Fr [] [22] F2 A2 F2 A' ∧ IsA (v ^ n) (-4) (A' 22) (tr (Cb t n v E) far)) (fun z => n + 1 - ix z.1) ⟨1, A', by omega, by omega, rfl, hF, fun j hj => ⟨h22 j hj, fun k hk => tr_le (by omega) hk⟩⟩ ?_
      rintro _ ⟨far, A3, hf1, hf2, rfl, hF3, hw⟩
      dsimp only
      have hM3 := hM2.fr hF3 (by decide)
      unfold st_X7_measures_55
      rw [hM3.2.1]
      simp (disch := omega) only [lt_nI]
      refine ⟨fun hge => ?_, fun hlt => ?_⟩
      · refine h _ A3 (hFa.tr ((hF3.mo (by decide) (by decide)).tr (Fr.uF (by decide)))) uF_same ⟨by rw [hF3.2 20 (by decide)]; exact hW2, by rw [hF3.2 21 (by decide)]; exact hB, hw.ofEq (fun d hd => ?_)⟩
        cases e : lv (Cb t n v E) d with
        | none => unfold tr; rw [e]
        | some k => exact tr_some.mpr ⟨e, by have := lvC_le hP hd e; omega⟩
      · unfold wp_X7_measures_65
        refine Lp_of (fun z => ∃ d A4, d ≤ v ^ n ∧ z = (nI d, F2, A4) ∧ Fr [] [22] F2 A2 F2 A4 ∧ IsA (v ^ n) (-4) (A4 22) (fun j => if j < d then tr (Cb t n v E) (far + 1) j else tr (Cb t n v E) far j)) (fun z => v ^ n - ix z.1) ⟨0, A3, by omega, rfl, hF3, hw.ofEq (fun d hd => by rw [if_neg (Nat.not_lt_zero d)])⟩ ?_
        rintro _ ⟨d, A4, hd, rfl, hF4, hw4⟩
        dsimp only
        have hM4 := hM2.fr hF4 (by decide)
        unfold st_X7_measures_65
        rw [hM4.2.2.2.1]
        simp (disch := omega) only [le_nI]
        refine ⟨fun hge => ?_, fun hlt2 => ⟨in_nI (by omega) (by omega), ?_⟩⟩
        · refine ⟨⟨far + 1, A4, by omega, by omega, by rw [nI_s], hF4, hw4.ofEq (fun j hj => if_pos (by omega))⟩, mu_lt (by omega) (by omega)⟩
        · have hdc : d < v ^ n := by omega
          have e22 : A4 22 (ix (nI d)) = A4 22 d := by rw [ix_nI (by omega)]
          rw [e22, hw4.neg m4_neg hdc]
          try dsimp only
          rw [if_neg (Nat.lt_irrefl d)]
          have stage : ∀ (g : Nat → Int32), IsA (v ^ n) (-4) g (fun j => if j < d then tr (Cb t n v E) (far + 1) j else tr (Cb t n v E) far j) → tr (Cb t n v E) (far + 1) d = tr (Cb t n v E) far d → IsA (v ^ n) (-4) g (fun j => if j < d + 1 then tr (Cb t n v E) (far + 1) j else tr (Cb t n v E) far j) := fun g hg he => hg.ofEq (fun j hj => by
            by_cases q : j = d
            · subst q; rw [if_neg (by omega), if_pos (by omega), he]
            · by_cases q2 : j < d
              · rw [if_pos q2, if_pos (by omega)]
              · rw [if_neg q2, if_neg (by omega)])
          refine ⟨fun ca => ?_, fun ca => ?_⟩
          · obtain ⟨k, hk⟩ := isS_iff.mp ca
            have hk' := tr_some.mp hk
            have hne : lv (Cb t n v E) d ≠ some far := fun q => by rw [hk'.1] at q; cases q; omega
            exact ⟨⟨d + 1, A4, by omega, by rw [nI_s], hF4, stage _ hw4 (tr_next hne)⟩, mu_lt hdc (by omega)⟩
          · have hnone : tr (Cb t n v E) far d = none := isS_no.mp (by simpa using ca)
            have hge := tr_none hnone
            have ef : nI far - (1 : Int32) = nI (far - 1) := by rw [i1, sub_nI (by omega)]
            rw [ef]
            refine m_isHitTo hP hM4 (w := fun j => if j < d then tr (Cb t n v E) (far + 1) j else tr (Cb t n v E) far j) (by omega) (by omega) hw4 (fun hl => ?_) (fun hl => ?_)
            · have hlv : lv (Cb t n v E) d = some far := by
                obtain ⟨d2, hs2, hl2⟩ := hl
                have h3 : lv (Cb t n v E) d2 = some (far - 1) := by
                  try dsimp only at hl2
                  split at hl2
                  · exact (tr_some.mp hl2).1
                  · exact (tr_some.mp hl2).1
                have := lvG_new (k := far - 1) (fun j hj q => by have := hge j q; omega) ⟨d2, hs2, h3⟩
                rw [show far - 1 + 1 = far by omega] at this
                exact this
              refine ⟨fun q => absurd q (by decide), fun _ => ⟨in_nI (by omega) (by omega), ?_⟩⟩
              rintro _ rfl
              refine ⟨⟨d + 1, _, by omega, by rw [nI_s], hF4.tr (Fr.uA (by decide)), ?_⟩, mu_lt hdc (by omega)⟩
              rw [uA_same, ix_nI (by omega)]
              refine (hw4.put (c := d) (k := far) (by omega)).ofEq (fun j hj => ?_)
              by_cases q : j = d
              · subst q; rw [uO_same, if_pos (by omega), (tr_new hlv).1]
              · rw [uO_ne q]
                by_cases q2 : j < d
                · rw [if_pos q2, if_pos (by omega)]
                · rw [if_neg q2, if_neg (by omega)]
            · have hne : lv (Cb t n v E) d ≠ some far := fun q => by
                rw [show far = far - 1 + 1 by omega] at q
                obtain ⟨d2, hs2, hl2⟩ := lvG_succ q
                refine hl d2 hs2 ?_
                try dsimp only
                split
                · exact tr_some.mpr ⟨hl2, by omega⟩
                · exact tr_some.mpr ⟨hl2, by omega⟩
              exact ⟨fun _ => ⟨⟨d + 1, A4, by omega, by rw [nI_s], hF4, stage _ hw4 (tr_next hne)⟩, mu_lt hdc (by omega)⟩, fun q => absurd rfl q⟩
    · have hcS : c < v ^ n := by omega
      have e20 : A' 20 (ix (nI c)) = A2 20 c := by rw [ix_nI (by omega), hF.2 20 (by decide)]
      rw [e20, zero_iff hW2 m5_neg hcS]
      have fin : ∀ y : Int32, y = eo (-4) (tr (Cb t n v E) 1 c) → wp_X7_measures_46 F2 A' (nI c) (nI c) y (fun t' => (∃ c A', c ≤ v ^ n ∧ t' = (nI c, F2, A') ∧ Fr [] [22] F2 A2 F2 A' ∧ ∀ j, j < c → A' 22 j = eo (-4) (tr (Cb t n v E) 1 j)) ∧ v ^ n - ix t'.1 < v ^ n - ix (nI c)) Post := fun y hy => by
        unfold wp_X7_measures_46
        refine ⟨in_nI (by omega) (by omega), ?_⟩
        rintro _ rfl
        refine ⟨⟨c + 1, _, by omega, by rw [nI_s], hF.tr (Fr.uA (by decide)), fun j hj => ?_⟩, mu_lt hcS (by omega)⟩
        rw [uA_same, upd_at, ix_nI (by omega)]
        split
        · rename_i q; subst q; exact hy
        · exact h22 j (by omega)
      refine ⟨fun cl => fin _ ?_, fun cl => fin _ ?_⟩
      · have : ¬ lgc t n v E c = true := fun q => cl (lv_legal q).1
        rw [tr_one (S := c), if_neg this]; rfl
      · rw [tr_one (S := c), if_pos (lv_zero cl)]; rfl
  · rcases hMs with q2 | ⟨h1, h2⟩
    · exact absurd q2 q
    · exact h F A Fr.rf h1 h2
end MEAS3
