theorem lgl_m1 : ∀ m, m < 64 → (¬ nI m = 0) → ((nI m &&& (nI m - (1 : Int32))) = 0 ↔ pcn m = 1) := by decide +kernel
theorem pcn_0 : pcn 0 = 0 := by decide +kernel
section MODY
variable {F : Nat → Int32} {A : Nat → Nat → Int32} {t n v : Nat} {E : Nat → Nat → Bool}
theorem m_isIn {x : Int32} {a b : Nat} {Post : Int32 → Prop} (ha : a < 2147483648) (hb : b < 2147483647) (h0 : (x < nI a ∨ nI (b + 1) ≤ x) → Post 0) (h1 : ∀ k, a ≤ k → k ≤ b → x = nI k → Post 1) : wp_X7_isIn x (nI a) (nI b) Post := by
  unfold wp_X7_isIn
  refine ⟨fun c => h0 (Or.inl c), fun c => ⟨fun c2 => ?_, fun c2 => ?_⟩⟩
  · refine h0 (Or.inr ?_)
    rcases pk_ix x (n := b + 1) (by omega) with q | q | ⟨j, hj, rfl⟩
    · exact absurd c2 (fun r => by
        rw [Int32.lt_iff_toInt_lt] at q r
        rw [nI_toInt' (by omega)] at r
        have : (0 : Int32).toInt = 0 := by decide
        omega)
    · exact q
    · rw [lt_nI (by omega) (by omega)] at c2; omega
  · rcases pk_ix x (n := b + 1) (by omega) with q | q | ⟨j, hj, rfl⟩
    · exact absurd (show x < nI a from lt_neg q ha) c
    · exact absurd (show nI b < x from by
        rw [Int32.le_iff_toInt_le, nI_toInt' (by omega)] at q
        rw [Int32.lt_iff_toInt_lt, nI_toInt' (by omega)]
        omega) c2
    · rw [lt_nI (by omega) (by omega)] at c
      exact h1 j (by omega) (by omega) rfl
theorem bool_ok {P : Prop} {x : Int32} (hx : x = 0 ∨ x = 1) (h : P) : narrow .boolean (.int x) = .int x ∧ P := by
  rcases hx with rfl | rfl
  · exact ⟨rfl, h⟩
  · exact ⟨rfl, h⟩
theorem m_isMachine (hP : Par t n v) (hM : MOk F A t n v E) {x : Int32} {Post : Int32 → Prop} (h0 : (x < 0 ∨ nI n ≤ x) → Post 0) (h1 : ∀ i, i < n → x = nI i → Post 1) : wp_X7_isMachine F A x Post := by
  obtain ⟨p1, p2, p3, p4, p5, p6, p7, p8, p9⟩ := id hP
  obtain ⟨m1, m2, m3, m4, m5, m6⟩ := id hM
  unfold wp_X7_isMachine
  rw [m2, i1, sub_nI (by omega)]
  refine m_isIn (a := 0) (by omega) (by omega) (fun c => ⟨rfl, h0 ?_⟩) (fun k hk1 hk2 e => ⟨rfl, h1 k (by omega) e⟩)
  rw [show n - 1 + 1 = n by omega] at c
  exact c
theorem m_distances {Post : Int32 → (Nat → Int32) → (Nat → Nat → Int32) → Prop} (hP : Par t n v) (hG : Gr t n v E) (hM : MOk F A t n v E) (ht : t = 3) {f : Nat → Nat} (hf : Rw n v f) (hr : Row A n f) {i : Nat} (hi : i < n) (h : BoP Post F A t n v E f i) : wp_X7_distances F A (nI i) Post := by
  obtain ⟨p1, p2, p3, p4, p5, p6, p7, p8, p9⟩ := id hP
  obtain ⟨m1, m2, m3, m4, m5, m6⟩ := id hM
  have hfi := hf i hi
  have hw : wt t n v E f i = if i = 0 then 0 else mn E f i v n := by unfold wt; rw [if_neg (by omega), if_neg (by omega), if_pos ht]
  have hrl : wt t n v E f i ≠ f i → rl t n v E f i = 1 := fun q => by unfold rl; rw [if_neg q, if_neg (by omega)]
  have mu : ∀ x, MOk (uF F 26 x) A t n v E := fun x => hM.fr (fs := [26]) (as := []) (Fr.uF (by decide)) (by decide)
  have hend : ∀ w, wt t n v E f i = w → w < 2147483648 → wp_X7_distances_70 (uF F 26 (1 : Int32)) A (nI i) (nI w) Post := fun w hw2 hl => by
    unfold wp_X7_distances_70
    rw [ix_nI (by omega), hr i hi]
    refine ⟨in_nI (by omega) (by omega), fun c => ?_, fun c => ?_⟩
    · rw [eq_nI (by omega) (by omega)] at c
      exact bo_yes h hw2 c (hrl (by omega))
    · rw [eq_nI (by omega) (by omega)] at c
      exact bo_no h (by omega) _
  unfold wp_X7_distances
  refine ⟨fun c => ?_, fun c => ?_⟩
  · rw [i0, eq_nI (by omega) (by omega)] at c
    rw [if_neg c] at hw
    rw [m3, i1, sub_nI (by omega)]
    unfold wp_X7_distances_19 wp_X7_distances_22
    refine Lp_of (fun z => ∃ j, j ≤ n ∧ z = (nI (mn E f i v j), nI j)) (fun z => n - ix z.2) ⟨0, by omega, rfl⟩ ?_
    rintro _ ⟨j, hj, rfl⟩
    have hm := mn_le (E := E) (f := f) (i := i) (v := v) j
    dsimp only
    unfold st_X7_distances_22
    rw [uF_ne (by decide), m2]
    simp (disch := omega) only [le_nI]
    refine ⟨fun hge => ?_, fun hlt => ⟨fun c2 => ?_, fun c2 => ?_⟩⟩
    · have : j = n := by omega
      subst this
      exact hend _ hw (by omega)
    · rw [i0, le_nI (by omega) (by omega)] at c2
      omega
    · have hfj := hf j (by omega)
      have ej : A 24 (ix (nI j)) = nI (f j) := by rw [ix_nI (by omega)]; exact hr j (by omega)
      refine m_isWired hP (mu _) hi (by omega) ⟨fun c3 => ?_, fun c3 => ?_⟩
      · have hE : ¬ E i j = true := fun hE => by rw [if_pos hE] at c3; exact absurd c3 (by decide)
        refine ⟨⟨j + 1, by omega, ?_⟩, ?_⟩
        · rw [nI_s, mn]; simp [hE]
        · first | omega | (simp (disch := omega) only [nI_s, ix_nI]; omega)
      · have hE : E i j = true := by
          by_cases hE : E i j = true
          · exact hE
          · rw [if_neg hE] at c3; exact absurd rfl c3
        rw [ej, nI_s (f j), le_nI (by omega) (by omega)]
        refine ⟨in_nI (by omega) (by omega), fun c4 => ⟨⟨j + 1, by omega, ?_⟩, ?_⟩, fun c4 => ⟨in_nI (by omega) (by omega), ⟨j + 1, by omega, ?_⟩, ?_⟩⟩
        · rw [nI_s, mn, if_neg (by simp; omega)]
        · first | omega | (simp (disch := omega) only [nI_s, ix_nI]; omega)
        · rw [nI_s, mn, if_pos (by simp [hE]; omega)]
        · first | omega | (simp (disch := omega) only [nI_s, ix_nI]; omega)
  · rw [i0, eq_nI (by omega) (by omega)] at c
    rw [if_pos c] at hw
    unfold wp_X7_distances_19 wp_X7_distances_22
    rw [i0]
    refine Lp_of (fun z => z = (nI 0, nI 0)) (fun z => 0) rfl ?_
    rintro _ rfl
    unfold st_X7_distances_22
    rw [uF_ne (by decide), m2]
    refine ⟨fun _ => hend 0 hw (by omega), fun _ => ⟨fun _ => hend 0 hw (by omega), fun q => absurd (by rw [i0, le_nI (by omega) (by omega)]; omega) q⟩⟩
theorem m_colours {Post : Int32 → (Nat → Int32) → (Nat → Nat → Int32) → Prop} (hP : Par t n v) (hG : Gr t n v E) (hM : MOk F A t n v E) (ht : t = 4) {f : Nat → Nat} (hf : Rw n v f) (hr : Row A n f) {i : Nat} (hi : i < n) (h : BoP Post F A t n v E f i) : wp_X7_colours F A (nI i) Post := by
  obtain ⟨p1, p2, p3, p4, p5, p6, p7, p8, p9⟩ := id hP
  obtain ⟨m1, m2, m3, m4, m5, m6⟩ := id hM
  have hfi := hf i hi
  have hw : wt t n v E f i = if lo1 n E f i (f i) < n then lw n E f i else f i := by unfold wt; rw [if_neg (by omega), if_neg (by omega), if_neg (by omega)]
  have hrl : wt t n v E f i ≠ f i → rl t n v E f i = 1 := fun q => by unfold rl; rw [if_neg q, if_neg (by omega)]
  have mu : ∀ x, MOk (uF F 26 x) A t n v E := fun x => hM.fr (fs := [26]) (as := []) (Fr.uF (by decide)) (by decide)
  have ll := fun w => lo1_le (n := n) (E := E) (f := f) (i := i) (w := w)
  have l0 := ll (f i)
  unfold wp_X7_colours
  rw [ix_nI (by omega), hr i hi]
  refine ⟨in_nI (by omega) (by omega), m_lo1 hP hG (mu _) hf hr hi (by omega) ?_⟩
  rw [ge_m1 (by omega)]
  refine ⟨fun c => ?_, fun c => ?_⟩
  · rw [if_pos c] at hw
    have hlw := lw_lt (f := f) hP hG ht hi
    have hfree := lw_free (n := n) (v := v) (E := E) (f := f) (i := i) (by omega)
    have hsome := lo1_some c
    have hne : lw n E f i ≠ f i := fun q => hfree _ c hsome.1 (by rw [hsome.2, q])
    unfold wp_X7_colours_23
    refine Lp_of (fun z => ∃ w, w ≤ lw n E f i ∧ z = nI w) (fun z => 8 - ix z) ⟨0, by omega, rfl⟩ ?_
    rintro _ ⟨w, hwl, rfl⟩
    have lww := ll w
    unfold st_X7_colours_23
    refine m_lo1 hP hG (mu _) hf hr hi (by omega) ?_
    rw [lt_m1 (by omega)]
    have hsp := fd_spec (fun w => decide (lo1 n E f i w = n)) 8
    refine ⟨fun c2 => ?_, fun c2 => ⟨⟨w + 1, ?_, by rw [nI_s]⟩, ?_⟩⟩
    · have e : w = lw n E f i := by
        apply Nat.le_antisymm hwl
        apply Nat.le_of_not_lt
        intro hlt
        have := hsp.2 w hlt
        have : ¬ lo1 n E f i w = n := by simpa using this
        omega
      rw [e]
      exact bo_yes h hw hne (hrl (by omega))
    · apply Nat.lt_of_le_of_ne hwl
      intro e
      have h8 : lw n E f i < 8 := by omega
      have := of_decide_eq_true (hsp.1 h8)
      rw [e] at c2
      exact c2 (by unfold lw; omega)
    · simp (disch := omega) only [nI_s, ix_nI]; omega
  · rw [if_neg c] at hw
    exact bo_no h hw _
theorem m_becomesOf {Post : Int32 → (Nat → Int32) → (Nat → Nat → Int32) → Prop} (hP : Par t n v) (hG : Gr t n v E) (hM : MOk F A t n v E) {f : Nat → Nat} (hf : Rw n v f) (hr : Row A n f) {i : Nat} (hi : i < n) (h : BoP Post F A t n v E f i) : wp_X7_becomesOf F A (nI i) Post := by
  obtain ⟨p1, p2, p3, p4, p5, p6, p7, p8, p9⟩ := id hP
  obtain ⟨m1, m2, m3, m4, m5, m6⟩ := id hM
  unfold wp_X7_becomesOf
  rw [m1]
  simp (disch := omega) only [i1, i2, i3, eq_nI]
  exact ⟨fun c => ⟨fun c2 => ⟨fun c3 => m_colours hP hG hM (by omega) hf hr hi h, fun c3 => m_distances hP hG hM c3 hf hr hi h⟩, fun c2 => m_pointers hP hG hM c2 hf hr hi h⟩, fun c => m_counters hP hG hM c hf hr hi h⟩
theorem m_becomes {Post : Int32 → (Nat → Int32) → (Nat → Nat → Int32) → Prop} (hP : Par t n v) (hG : Gr t n v E) (hM : MOk F A t n v E) {f : Nat → Nat} (hf : Rw n v f) (hr : Row A n f) {i : Nat} (hi : i < n) (h : ∀ F', Fr [26] [] F A F' A → Post (bo t n v E f i) F' A) : wp_X7_becomesOf F A (nI i) Post :=
  m_becomesOf hP hG hM hf hr hi (fun x _ => h _ (Fr.uF (by decide)))
theorem bo_neg (hP : Par t n v) (hG : Gr t n v E) {f : Nat → Nat} (hf : Rw n v f) {i : Nat} (hi : i < n) : (bo t n v E f i < 0) = (mv t n v E f i = false) := by
  have hw := wt_lt hP hG hf hi
  obtain ⟨p1, p2, p3, p4, p5, p6, p7, p8, p9⟩ := id hP
  unfold bo
  rw [lt_m1 (by omega)]
  simp
theorem m_tokensOf {Post : Int32 → (Nat → Int32) → (Nat → Nat → Int32) → Prop} (hP : Par t n v) (hG : Gr t n v E) (hM : MOk F A t n v E) {f : Nat → Nat} (hf : Rw n v f) (hr : Row A n f) (h : ∀ F', Fr [26] [] F A F' A → Post (nI (tks t n v E f)) F' A) : wp_X7_tokensOf F A Post := by
  obtain ⟨p1, p2, p3, p4, p5, p6, p7, p8, p9⟩ := id hP
  unfold wp_X7_tokensOf wp_X7_tokensOf_4
  refine Lp_of (fun z => ∃ j F', j ≤ n ∧ z = (nI (tk j (mv t n v E f)), nI j, F', A) ∧ Fr [26] [] F A F' A) (fun z => n - ix z.2.1) ⟨0, F, by omega, rfl, Fr.rf⟩ ?_
  rintro _ ⟨j, F', hj, rfl, hF⟩
  dsimp only
  have hM' := hM.fr hF (by decide)
  unfold st_X7_tokensOf_4
  rw [hM'.2.1]
  simp (disch := omega) only [le_nI]
  refine ⟨fun hge => ?_, fun hlt => ?_⟩
  · have : j = n := by omega
    subst this
    exact h F' hF
  · refine m_becomes hP hG hM' hf hr (by omega) (fun F2 hF2 => ?_)
    rw [bo_neg hP hG hf (by omega)]
    unfold wp_X7_tokensOf_28
    refine ⟨fun c => ⟨⟨j + 1, F2, by omega, ?_, hF.tr hF2⟩, ?_⟩, fun c => ⟨⟨j + 1, F2, by omega, ?_, hF.tr hF2⟩, ?_⟩⟩
    · rw [nI_s, tk, c, Int32.or_zero]; rfl
    · first | omega | (simp (disch := omega) only [nI_s, ix_nI]; omega)
    · rw [nI_s, or_nI j (by omega) _ (tk_lt _ _), tk, if_pos (by simpa using c)]
    · first | omega | (simp (disch := omega) only [nI_s, ix_nI]; omega)
theorem m_isLegal {Post : Int32 → (Nat → Int32) → (Nat → Nat → Int32) → Prop} (hP : Par t n v) (hG : Gr t n v E) (hM : MOk F A t n v E) {f : Nat → Nat} (hf : Rw n v f) (hr : Row A n f) (h : ∀ F', Fr [26] [] F A F' A → Post (nI (if lgl t n v E f then 1 else 0)) F' A) : wp_X7_isLegal F A Post := by
  obtain ⟨p1, p2, p3, p4, p5, p6, p7, p8, p9⟩ := id hP
  have hl := tks_lt (E := E) (f := f) hP
  unfold wp_X7_isLegal
  refine m_tokensOf hP hG hM hf hr (fun F' hF => ?_)
  have hM' := hM.fr hF (by decide)
  have h := h F' hF
  unfold lgl at h
  rw [hM'.1]
  refine ⟨fun c => ?_, fun c => ?_⟩
  · rw [i1, eq_nI (by omega) (by omega)] at c
    rw [if_neg c] at h
    rw [i0, eq_nI (by omega) (by omega)]
    refine ⟨fun c2 => ?_, fun c2 => ?_⟩
    · rw [if_neg (by simp [c2])] at h; exact h
    · rw [if_pos (by simp [c2])] at h; exact h
  · rw [i1, eq_nI (by omega) (by omega)] at c
    rw [if_pos c] at h
    refine ⟨fun c2 => ?_, fun c2 => ?_⟩
    · rw [i0, eq_nI (by omega) (by omega)] at c2
      rw [if_neg (by rw [c2, pcn_0]; decide)] at h; exact h
    · rw [lgl_m1 _ hl c2]
      refine ⟨fun c3 => ?_, fun c3 => ?_⟩
      · rw [if_neg (by simp [c3])] at h; exact h
      · rw [if_pos (by simp [c3])] at h; exact h
theorem m_moves {Post : (Nat → Int32) → (Nat → Nat → Int32) → Prop} (hP : Par t n v) (hG : Gr t n v E) (hM : MOk F A t n v E) {f : Nat → Nat} (hf : Rw n v f) (hr : Row A n f) {m : Nat} (hm : m < 128) (hb : ∀ i, i < n → m.testBit i = true → mv t n v E f i = true) (h : ∀ F' A', Fr [26] [24, 25] F A F' A' → Row A' n (mvd t n v E f m) → Post F' A') : wp_X7_moves F A (nI m) Post := by
  obtain ⟨p1, p2, p3, p4, p5, p6, p7, p8, p9⟩ := id hP
  unfold wp_X7_moves wp_X7_moves_2
  refine Lp_of (fun z => ∃ j F' A', j ≤ n ∧ z = (nI j, F', A') ∧ Fr [26] [25] F A F' A' ∧ ∀ i, i < j → A' 25 i = nI (mvd t n v E f m i)) (fun z => n - ix z.1) ⟨0, F, A, by omega, rfl, Fr.rf, fun i hi => absurd hi (Nat.not_lt_zero i)⟩ ?_
  rintro _ ⟨j, F', A', hj, rfl, hF, h25⟩
  dsimp only
  have hM' := hM.fr hF (by decide)
  have hr' : Row A' n f := fun i hi => by rw [hF.2 24 (by decide)]; exact hr i hi
  unfold st_X7_moves_2
  rw [hM'.2.1]
  simp (disch := omega) only [le_nI]
  refine ⟨fun hge => ?_, fun hlt => ?_⟩
  · have : j = n := by omega
    subst this
    unfold wp_X7_moves_47
    refine Lp_of (fun z => ∃ k A2, k ≤ j ∧ z = (nI k, F', A2) ∧ Fr [26] [24, 25] F A F' A2 ∧ A2 25 = A' 25 ∧ ∀ i, i < k → A2 24 i = nI (mvd t j v E f m i)) (fun z => j - ix z.1) ⟨0, A', by omega, rfl, hF.mo (by decide) (by decide), rfl, fun i hi => absurd hi (Nat.not_lt_zero i)⟩ ?_
    rintro _ ⟨k, A2, hk, rfl, hF2, e25, h24⟩
    dsimp only
    unfold st_X7_moves_47
    rw [hM'.2.1]
    simp (disch := omega) only [le_nI]
    refine ⟨fun hge => ?_, fun hlt => ⟨in_nI (by omega) (by omega), in_nI (by omega) (by omega), ?_⟩⟩
    · have : k = j := by omega
      subst this
      exact h F' A2 hF2 h24
    · rintro _ rfl
      rw [ix_nI (by omega), e25, h25 k (by omega)]
      refine ⟨⟨k + 1, _, by omega, by rw [nI_s], hF2.tr (Fr.uA (by decide)), by rw [uA_ne (by decide)]; exact e25, fun i hi => ?_⟩, ?_⟩
      · rw [uA_same, upd_at]
        split
        · rename_i e; subst e; rfl
        · exact h24 i (by omega)
      · first | omega | (simp (disch := omega) only [nI_s, ix_nI]; omega)
  · rw [bit_nI j (by omega) m hm]
    have fin : ∀ F2, Fr [26] [] F' A' F2 A' → wp_X7_moves_38 F2 A' (nI m) (nI j) (nI j) (nI (mvd t n v E f m j)) (fun t' => (∃ j F' A', j ≤ n ∧ t' = (nI j, F', A') ∧ Fr [26] [25] F A F' A' ∧ ∀ i, i < j → A' 25 i = nI (mvd t n v E f m i)) ∧ n - ix t'.1 < n - ix (nI j)) Post := fun F2 hF2 => by
      unfold wp_X7_moves_38
      refine ⟨in_nI (by omega) (by omega), ?_⟩
      rintro _ rfl
      refine ⟨⟨j + 1, F2, _, by omega, by rw [nI_s], (hF.tr (hF2.mo (by decide) (by decide))).tr (Fr.uA (by decide)), fun i hi => ?_⟩, ?_⟩
      · rw [uA_same, upd_at, ix_nI (by omega)]
        split
        · rename_i e; subst e; rfl
        · exact h25 i (by omega)
      · simp (disch := omega) only [nI_s, ix_nI]; omega
    refine ⟨fun c => ⟨in_nI (by omega) (by omega), ?_⟩, fun c => ?_⟩
    · have hbj : ¬ m.testBit j = true := fun q => by rw [if_pos q] at c; exact absurd rfl c
      have e : A' 24 (ix (nI j)) = nI (mvd t n v E f m j) := by rw [ix_nI (by omega), hr' j (by omega), mvd, if_neg hbj]
      rw [e]
      exact fin F' Fr.rf
    · have hbj : m.testBit j = true := by
        by_cases q : m.testBit j = true
        · exact q
        · rw [if_neg q] at c; exact absurd c (by decide)
      refine m_becomes hP hG hM' hf hr' (by omega) (fun F2 hF2 => ?_)
      have e : bo t n v E f j = nI (mvd t n v E f m j) := by rw [bo, if_pos (hb j (by omega) hbj), mvd, if_pos hbj]
      rw [e]
      exact fin F2 hF2
theorem m_valuesOf {Post : (Nat → Int32) → (Nat → Nat → Int32) → Prop} (hP : Par t n v) (hM : MOk F A t n v E) {s : Nat} (hs : s < v ^ n) (h : ∀ A', Fr [] [9, 24] F A F A' → (∀ i, i < n → A' 9 i = nI (dg v s i)) → Post F A') : wp_X7_valuesOf F A (nI s) Post := by
  obtain ⟨p1, p2, p3, p4, p5, p6, p7, p8, p9⟩ := id hP
  unfold wp_X7_valuesOf
  refine m_rowOf hP hM hs (fun A1 hF1 hr => ?_)
  unfold wp_X7_valuesOf_7
  refine Lp_of (fun z => ∃ j A', j ≤ n ∧ z = (nI j, F, A') ∧ Fr [] [9, 24] F A F A' ∧ A' 24 = A1 24 ∧ ∀ i, i < j → A' 9 i = nI (dg v s i)) (fun z => n - ix z.1) ⟨0, A1, by omega, rfl, hF1.mo (by decide) (by decide), rfl, fun i hi => absurd hi (Nat.not_lt_zero i)⟩ ?_
  rintro _ ⟨j, A', hj, rfl, hF, e24, h9⟩
  dsimp only
  have hM' := hM.fr hF (by decide)
  unfold st_X7_valuesOf_7
  rw [hM'.2.1]
  simp (disch := omega) only [le_nI]
  refine ⟨fun hge => ?_, fun hlt => ⟨in_nI (by omega) (by omega), in_nI (by omega) (by omega), ?_⟩⟩
  · have : j = n := by omega
    subst this
    exact h A' hF h9
  · rintro _ rfl
    rw [ix_nI (by omega), e24, hr j (by omega)]
    refine ⟨⟨j + 1, _, by omega, by rw [nI_s], hF.tr (Fr.uA (by decide)), by rw [uA_ne (by decide)]; exact e24, fun i hi => ?_⟩, ?_⟩
    · rw [uA_same, upd_at]
      split
      · rename_i e; subst e; rfl
      · exact h9 i (by omega)
    · first | omega | (simp (disch := omega) only [nI_s, ix_nI]; omega)
end MODY
