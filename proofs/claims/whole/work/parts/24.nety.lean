theorem low_nI : ∀ m, m < 128 → nI m &&& (-(nI m)) = nI (if fd 7 (fun i => m.testBit i) < 7 then 2 ^ fd 7 (fun i => m.testBit i) else 0) := by decide +kernel
/-- the lowest of the machines of a mask, as a mask -/
def lwm (m : Nat) : Nat := if fd 7 (fun i => m.testBit i) < 7 then 2 ^ fd 7 (fun i => m.testBit i) else 0
theorem x_lowest {m : Nat} {Post : Int32 → Prop} (hm : m < 128) (h : Post (nI (lwm m))) : wp_X0_lowest (nI m) Post := by
  unfold wp_X0_lowest
  rw [low_nI m hm]
  exact h
theorem x_has {m i : Nat} {Post : Int32 → Prop} (hm : m < 128) (hi : i < 32) (h : Post (nI (if m.testBit i then 1 else 0))) : wp_X0_has (nI m) (nI i) Post := by
  unfold wp_X0_has
  rw [bit_nI i hi m hm]
  refine ⟨fun c => ?_, fun c => ?_⟩
  · by_cases q : m.testBit i = true
    · rw [if_pos q] at c; exact absurd rfl c
    · rw [if_neg q] at h; exact h
  · by_cases q : m.testBit i = true
    · rw [if_pos q] at h; exact h
    · rw [if_neg q] at c; exact absurd c (by decide)
theorem lwm_pc : ∀ k, k < 8 → pcn (2 ^ k - 1) = k := by decide +kernel
theorem lwm_nz : ∀ m, m < 128 → m ≠ 0 → fd 7 (fun i => m.testBit i) < 7 := by decide +kernel
theorem x_indexOf {m : Nat} {Post : Int32 → Prop} (hm : m < 128) (h0 : m ≠ 0) (h : Post (nI (fd 7 (fun i => m.testBit i)))) : wp_X0_indexOf (nI m) Post := by
  have hl := lwm_nz m hm h0
  unfold wp_X0_indexOf
  refine x_lowest hm ?_
  rw [lwm, if_pos hl]
  have h2 : 2 ^ fd 7 (fun i => m.testBit i) ≤ 2 ^ 6 := Nat.pow_le_pow_right (by omega) (by omega)
  have h3 : 0 < 2 ^ fd 7 (fun i => m.testBit i) := Nat.pow_pos (by omega)
  rw [i1, sub_nI (by omega)]
  refine x_bitCount (by omega) ?_
  rw [lwm_pc _ (by omega)]
  exact h
/-- the lowest place that a mask does not have -/
theorem not_low : ∀ m, m < 128 → ((nI m ^^^ (-1 : Int32)) &&& (-(nI m ^^^ (-1 : Int32)))) - (1 : Int32) = nI (2 ^ fd 8 (fun i => !m.testBit i) - 1) := by decide +kernel
theorem fd8_lt : ∀ m, m < 128 → fd 8 (fun i => !m.testBit i) < 8 := by decide +kernel
theorem x_indexNot {m : Nat} {Post : Int32 → Prop} (hm : m < 128) (h : Post (nI (fd 8 (fun i => !m.testBit i)))) : wp_X0_indexOf (nI m ^^^ (-1 : Int32)) Post := by
  have hl := fd8_lt m hm
  unfold wp_X0_indexOf wp_X0_lowest
  show wp_J6_bitCount_0f7a4 (((nI m ^^^ (-1 : Int32)) &&& (-(nI m ^^^ (-1 : Int32)))) - (1 : Int32)) _
  rw [not_low m hm]
  have h2 : 2 ^ fd 8 (fun i => !m.testBit i) ≤ 2 ^ 7 := Nat.pow_le_pow_right (by omega) (by omega)
  refine x_bitCount (by omega) ?_
  rw [lwm_pc _ (by omega)]
  exact h
theorem or_bit : ∀ k, k < 7 → ∀ m, m < 128 → nI m ||| ((1 : Int32) <<< (nI k &&& 31)) = nI (m ||| 2 ^ k) ∧ m ||| 2 ^ k < 128 := by decide +kernel
section NETY
variable {F : Nat → Int32} {A : Nat → Nat → Int32} {t n v : Nat} {E : Nat → Nat → Bool} {Post : Int32 → Prop}
theorem x_colourWants (hP : Par t n v) (hG : Gr t n v E) (hN : NOk F A t n v E) (ht : t = 4) {s i : Nat} (hs : s < v ^ n) (hi : i < n) (h : Post (nI (wt t n v E (dg v s) i))) : wp_X1_colourWants F A (nI s) (nI i) Post := by
  obtain ⟨p1, p2, p3, p4, p5, p6, p7, p8, p9⟩ := id hP
  obtain ⟨n0, n1, n2, n3, n4, n5⟩ := id hN
  have hd : ∀ k, dg v s k < v := fun k => dg_lt (by omega)
  unfold wt at h
  rw [if_neg (by omega), if_neg (by omega), if_neg (by omega)] at h
  unfold wp_X1_colourWants wp_X1_colourWants_5
  refine Lp_of (fun z => ∃ j m, j ≤ n ∧ m < 128 ∧ z = (nI m, nI j) ∧ ∀ w, w < 8 → (m.testBit w = true ↔ ∃ k, k < j ∧ E i k = true ∧ dg v s k = w)) (fun z => n - ix z.2) ⟨0, 0, by omega, by omega, rfl, fun w _ => by simp⟩ ?_
  rintro _ ⟨j, m, hj, hm, rfl, hb⟩
  have hdj := hd j
  have hdi := hd i
  dsimp only
  unfold st_X1_colourWants_5
  rw [n1]
  simp (disch := omega) only [le_nI]
  refine ⟨fun hge => ?_, fun hlt => ?_⟩
  · have hjn : j = n := by omega
    subst hjn
    have hlo : ∀ w, w < 8 → (m.testBit w = true ↔ lo1 j E (dg v s) i w < j) := fun w hw => by
      rw [hb w hw]
      constructor
      · rintro ⟨k, hk, hE, hf⟩
        apply Nat.lt_of_not_le
        intro hle
        exact lo1_no (by omega) k hk hE hf
      · intro hl
        exact ⟨_, hl, lo1_some hl⟩
    refine x_valueAt hP hN hs hi ?_
    refine x_has hm (by omega) ⟨fun c => ?_, fun c => ?_⟩
    · have : ¬ m.testBit (dg v s i) = true := fun hh => by rw [if_pos hh] at c; exact absurd c (by decide)
      rw [if_neg (fun hh => this ((hlo _ (by omega)).mpr hh))] at h
      exact h
    · have : m.testBit (dg v s i) = true := by
        by_cases hh : m.testBit (dg v s i) = true
        · exact hh
        · rw [if_neg hh] at c; exact absurd rfl c
      rw [if_pos ((hlo _ (by omega)).mp this)] at h
      refine x_indexNot hm ?_
      have e : fd 8 (fun w => !m.testBit w) = lw j E (dg v s) i := fd_congr 8 (fun w hw => by
        have h1 := hlo w hw
        have h2 := lo1_le (n := j) (E := E) (f := dg v s) (i := i) (w := w)
        by_cases hh : m.testBit w = true
        · have := h1.mp hh
          have : ¬ lo1 j E (dg v s) i w = j := by omega
          simp [hh, this]
        · have h3 : ¬ lo1 j E (dg v s) i w < j := fun q => hh (h1.mpr q)
          have : lo1 j E (dg v s) i w = j := by omega
          simp [hh, this])
      rw [e]
      exact h
  · refine x_isLinked hP hG hN hi (by omega) ⟨fun c2 => ?_, fun c2 => ?_⟩
    · have hE : ¬ E i j = true := fun hE => by rw [if_pos hE] at c2; exact absurd c2 (by decide)
      refine ⟨⟨j + 1, m, by omega, hm, by rw [nI_s], fun w hw => ?_⟩, ?_⟩
      · rw [hb w hw]
        constructor
        · rintro ⟨k, hk, h1, h2⟩; exact ⟨k, by omega, h1, h2⟩
        · rintro ⟨k, hk, h1, h2⟩
          by_cases hkj : k = j
          · subst hkj; exact absurd h1 hE
          · exact ⟨k, by omega, h1, h2⟩
      · rw [nI_s, ix_nI (by omega), ix_nI (by omega)]; omega
    · have hE : E i j = true := by
        by_cases hE : E i j = true
        · exact hE
        · rw [if_neg hE] at c2; exact absurd rfl c2
      refine x_valueAt hP hN hs (by omega) ?_
      obtain ⟨e1, e2⟩ := or_bit (dg v s j) (by omega) m hm
      refine ⟨⟨j + 1, m ||| 2 ^ dg v s j, by omega, e2, by rw [nI_s, e1], fun w hw => ?_⟩, ?_⟩
      · rw [Nat.testBit_or, Nat.testBit_two_pow]
        simp only [Bool.or_eq_true, decide_eq_true_eq]
        rw [hb w hw]
        constructor
        · rintro (⟨k, hk, h1, h2⟩ | h1)
          · exact ⟨k, by omega, h1, h2⟩
          · exact ⟨j, by omega, hE, h1⟩
        · rintro ⟨k, hk, h1, h2⟩
          by_cases hkj : k = j
          · subst hkj; exact Or.inr h2
          · exact Or.inl ⟨k, by omega, h1, h2⟩
      · rw [nI_s, ix_nI (by omega), ix_nI (by omega)]; omega
theorem x_wants (hP : Par t n v) (hG : Gr t n v E) (hN : NOk F A t n v E) {s i : Nat} (hs : s < v ^ n) (hi : i < n) (h : Post (nI (wt t n v E (dg v s) i))) : wp_X1_wants F A (nI s) (nI i) Post := by
  obtain ⟨p1, p2, p3, p4, p5, p6, p7, p8, p9⟩ := id hP
  obtain ⟨n0, n1, n2, n3, n4, n5⟩ := id hN
  unfold wp_X1_wants
  rw [n0]
  simp (disch := omega) only [i1, i2, i3, eq_nI]
  refine ⟨fun c => x_counterWants hP hG hN c hs hi h, fun c => ⟨fun c2 => x_pointerWants hP hG hN c2 hs hi h, fun c2 => ⟨fun c3 => x_distanceWants hP hG hN c3 hs hi h, fun c3 => x_colourWants hP hG hN (by omega) hs hi h⟩⟩⟩
/-- by which rule -/
def rl (t n v : Nat) (E : Nat → Nat → Bool) (f : Nat → Nat) (i : Nat) : Nat :=
  if wt t n v E f i = f i then 0 else if t = 2 then (if f i = 0 then (if lo1 n E f i (i + 1) < n then 1 else 2) else 3) else 1
theorem x_ruleOf (hP : Par t n v) (hG : Gr t n v E) (hN : NOk F A t n v E) {s i : Nat} (hs : s < v ^ n) (hi : i < n) (h : Post (nI (rl t n v E (dg v s) i))) : wp_X1_ruleOf F A (nI s) (nI i) Post := by
  obtain ⟨p1, p2, p3, p4, p5, p6, p7, p8, p9⟩ := id hP
  obtain ⟨n0, n1, n2, n3, n4, n5⟩ := id hN
  have hd : ∀ k, dg v s k < v := fun k => dg_lt (by omega)
  have hdi := hd i
  have hw := wt_lt hP hG (f := dg v s) (Rw_dg (by omega)) hi
  unfold wp_X1_ruleOf
  unfold rl at h
  refine x_valueAt hP hN hs hi (x_wants hP hG hN hs hi ?_)
  rw [n0]
  refine ⟨fun c => ?_, fun c => ?_⟩
  · rw [eq_nI (by omega) (by omega)] at c
    rw [if_neg c] at h
    refine ⟨fun c2 => ?_, fun c2 => ?_⟩
    · rw [i2, eq_nI (by omega) (by omega)] at c2
      rw [if_pos c2] at h
      refine ⟨fun c3 => ?_, fun c3 => ?_⟩
      · rw [i0, eq_nI (by omega) (by omega)] at c3
        rw [if_pos c3] at h
        have hwt : wt t n v E (dg v s) i = if lo1 n E (dg v s) i (i + 1) < n then lo1 n E (dg v s) i (i + 1) + 1 else if lo1 n E (dg v s) i 0 < n then lo1 n E (dg v s) i 0 + 1 else 0 := by
          unfold wt
          rw [if_neg (by omega), if_pos c2, if_pos c3]
        rw [i1, sub_nI (by omega)]
        have hdw := hd (wt t n v E (dg v s) i - 1)
        by_cases l1 : lo1 n E (dg v s) i (i + 1) < n
        · rw [if_pos l1] at hwt h
          have hs1 := lo1_some l1
          refine x_valueAt hP hN hs (by omega) ⟨fun c4 => ?_, fun c4 => h⟩
          rw [nI_add, eq_nI (by omega) (by omega), hwt, Nat.add_sub_cancel, hs1.2] at c4
          exact absurd rfl c4
        · rw [if_neg l1] at hwt h
          by_cases l0 : lo1 n E (dg v s) i 0 < n
          · rw [if_pos l0] at hwt
            have hs1 := lo1_some l0
            refine x_valueAt hP hN hs (by omega) ⟨fun c4 => h, fun c4 => ?_⟩
            rw [nI_add, eq_nI (by omega) (by omega), hwt, Nat.add_sub_cancel, hs1.2] at c4
            omega
          · rw [if_neg l0] at hwt
            omega
      · rw [i0, eq_nI (by omega) (by omega)] at c3
        rw [if_neg c3] at h
        exact h
    · rw [i2, eq_nI (by omega) (by omega)] at c2
      rw [if_neg c2] at h
      exact h
  · rw [eq_nI (by omega) (by omega)] at c
    rw [if_pos c] at h
    exact h
theorem x_whoMay (hP : Par t n v) (hG : Gr t n v E) (hN : NOk F A t n v E) {s : Nat} (hs : s < v ^ n) (h : Post (nI (tks t n v E (dg v s)))) : wp_X1_whoMay F A (nI s) Post := by
  obtain ⟨p1, p2, p3, p4, p5, p6, p7, p8, p9⟩ := id hP
  obtain ⟨n0, n1, n2, n3, n4, n5⟩ := id hN
  have hd : ∀ k, dg v s k < v := fun k => dg_lt (by omega)
  unfold wp_X1_whoMay wp_X1_whoMay_4
  refine Lp_of (fun z => ∃ j, j ≤ n ∧ z = (nI (tk j (mv t n v E (dg v s))), nI j)) (fun z => n - ix z.2) ⟨0, by omega, rfl⟩ ?_
  rintro _ ⟨j, hj, rfl⟩
  have hdj := hd j
  dsimp only
  unfold st_X1_whoMay_4
  rw [n1]
  simp (disch := omega) only [le_nI]
  refine ⟨fun hge => ?_, fun hlt => ?_⟩
  · have hjn : j = n := by omega
    subst hjn
    exact h
  · have hw := wt_lt hP hG (f := dg v s) (Rw_dg (by omega)) (i := j) (by omega)
    refine x_wants hP hG hN hs (by omega) (x_valueAt hP hN hs (by omega) ?_)
    rw [eq_nI (by omega) (by omega)]
    refine ⟨fun c => ⟨⟨j + 1, by omega, ?_⟩, ?_⟩, fun c => ⟨⟨j + 1, by omega, ?_⟩, ?_⟩⟩
    · rw [nI_s, tk, mv, if_neg (by simp [c])]; rfl
    · rw [nI_s, ix_nI (by omega), ix_nI (by omega)]; omega
    · rw [nI_s, or_nI j (by omega) _ (tk_lt _ _), tk, mv, if_pos (by simp [c])]
    · rw [nI_s, ix_nI (by omega), ix_nI (by omega)]; omega
theorem x_isLegal (hP : Par t n v) (hG : Gr t n v E) (hN : NOk F A t n v E) {s : Nat} (hs : s < v ^ n) (h : Post (nI (if lgl t n v E (dg v s) then 1 else 0))) : wp_X1_isLegal F A (nI s) Post := by
  obtain ⟨p1, p2, p3, p4, p5, p6, p7, p8, p9⟩ := id hP
  obtain ⟨n0, n1, n2, n3, n4, n5⟩ := id hN
  have hl := tks_lt (E := E) (f := dg v s) hP
  have hpc : pcn (tks t n v E (dg v s)) ≤ 7 := cn_le _ _
  unfold wp_X1_isLegal
  unfold lgl at h
  refine x_whoMay hP hG hN hs ?_
  rw [n0]
  simp (disch := omega) only [i1, eq_nI]
  refine ⟨fun c => ?_, fun c => ?_⟩
  · rw [if_neg c] at h
    simp (disch := omega) only [i0, eq_nI]
    refine ⟨fun c2 => ?_, fun c2 => ?_⟩
    · rw [if_neg (by simp [c2])] at h; exact h
    · rw [if_pos (by simp [c2])] at h; exact h
  · rw [if_pos c] at h
    refine x_bitCount (by omega) ?_
    simp (disch := omega) only [eq_nI]
    refine ⟨fun c2 => ?_, fun c2 => ?_⟩
    · rw [if_neg (by simp [c2])] at h; exact h
    · rw [if_pos (by simp [c2])] at h; exact h
/-- the row behind a move of those of a mask -/
def mvd (t n v : Nat) (E : Nat → Nat → Bool) (f : Nat → Nat) (m : Nat) : Nat → Nat := fun i => if m.testBit i then wt t n v E f i else f i
theorem Rw_mvd (hP : Par t n v) (hG : Gr t n v E) {f : Nat → Nat} (hf : Rw n v f) (m : Nat) : Rw n v (mvd t n v E f m) := fun i hi => by
  unfold mvd
  split
  · exact wt_lt hP hG hf hi
  · exact hf i hi
theorem x_moved (hP : Par t n v) (hG : Gr t n v E) (hN : NOk F A t n v E) {s m : Nat} (hs : s < v ^ n) (hm : m < 128) (h : Post (nI (cd v n (mvd t n v E (dg v s) m)))) : wp_X1_moved F A (nI s) (nI m) Post := by
  obtain ⟨p1, p2, p3, p4, p5, p6, p7, p8, p9⟩ := id hP
  obtain ⟨n0, n1, n2, n3, n4, n5⟩ := id hN
  have hR : Rw n v (dg v s) := Rw_dg (by omega)
  have hM := Rw_mvd hP hG hR m
  unfold wp_X1_moved wp_X1_moved_5
  -- the row, moved ahead of j
  have key : ∀ j, Rw n v (fun i => if i < j then mvd t n v E (dg v s) m i else dg v s i) := fun j i hi => by
    show (if i < j then _ else _) < v
    split
    · exact hM i hi
    · exact hR i hi
  refine Lp_of (fun z => ∃ j, j ≤ n ∧ z = (nI (cd v n (fun i => if i < j then mvd t n v E (dg v s) m i else dg v s i)), nI j)) (fun z => n - ix z.2) ⟨0, by omega, ?_⟩ ?_
  · simp only [Nat.not_lt_zero, if_false]
    rw [show (fun i => dg v s i) = dg v s from rfl, cd_dg hs]
    rfl
  · rintro _ ⟨j, hj, rfl⟩
    dsimp only
    unfold st_X1_moved_5
    rw [n1]
    simp (disch := omega) only [le_nI]
    refine ⟨fun hge => ?_, fun hlt => ?_⟩
    · have hjn : j = n := by omega
      subst hjn
      rw [cd_congr (v := v) j (g := mvd t j v E (dg v s) m) (fun i hi => if_pos hi)]
      exact h
    · refine x_has hm (by omega) ⟨fun c => ⟨⟨j + 1, by omega, ?_⟩, ?_⟩, fun c => ?_⟩
      · have hb : ¬ m.testBit j = true := fun hh => by rw [if_pos hh] at c; exact absurd c (by decide)
        rw [nI_s, cd_congr (v := v) n (fun i hi => ?_)]
        by_cases hij : i = j
        · subst hij
          rw [if_neg (by omega), if_pos (by omega), mvd, if_neg hb]
        · by_cases hl : i < j
          · rw [if_pos hl, if_pos (by omega)]
          · rw [if_neg hl, if_neg (by omega)]
      · rw [nI_s, ix_nI (by omega), ix_nI (by omega)]; omega
      · have hb : m.testBit j = true := by
          by_cases hh : m.testBit j = true
          · exact hh
          · rw [if_neg hh] at c; exact absurd rfl c
        refine x_wants hP hG hN hs (by omega) (x_withValue hP hN (cd_lt n (key j)) (by omega) ⟨⟨j + 1, by omega, ?_⟩, ?_⟩)
        · rw [nI_s, cd_congr (v := v) n (fun i hi => ?_)]
          by_cases hij : i = j
          · subst hij
            rw [uN_same, if_pos (by omega), mvd, if_pos hb]
          · rw [uN_ne hij, dg_cd n (key j) i hi]
            by_cases hl : i < j
            · rw [if_pos hl, if_pos (by omega)]
            · rw [if_neg hl, if_neg (by omega)]
        · rw [nI_s, ix_nI (by omega), ix_nI (by omega)]; omega
end NETY
