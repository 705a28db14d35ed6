theorem Lp_of {σ : Type} {step : (σ → Prop) → σ → Prop} {s : σ} (I : σ → Prop) (μ : σ → Nat) (h0 : I s) (hs : ∀ t, I t → step (fun t' => I t' ∧ μ t' < μ t) t) : Lp step s := ⟨I, μ, h0, hs⟩
theorem nI_s (a : Nat) : nI a + 1 = nI (a + 1) := nI_1 a
section NETX
variable {F : Nat → Int32} {A : Nat → Nat → Int32} {t n v : Nat} {E : Nat → Nat → Bool} {Post : Int32 → Prop}
theorem x_lowestLinkedWith (hP : Par t n v) (hG : Gr t n v E) (hN : NOk F A t n v E) {s i : Nat} {x : Int32} {q : Nat → Bool} (hs : s < v ^ n) (hi : i < n) (hq : ∀ k, k < n → (nI (dg v s k) = x ↔ q k = true)) (h : Post (if fd n (fun j => E i j && q j) < n then nI (fd n (fun j => E i j && q j)) else -4)) : wp_X1_lowestLinkedWith F A (nI s) (nI i) x Post := by
  obtain ⟨p1, p2, p3, p4, p5, p6, p7, p8, p9⟩ := id hP
  obtain ⟨n0, n1, n2, n3, n4, n5⟩ := id hN
  unfold wp_X1_lowestLinkedWith wp_X1_lowestLinkedWith_3
  refine Lp_of (fun z => ∃ j, j ≤ n ∧ z = nI j ∧ ∀ k, k < j → (E i k && q k) = false) (fun z => n - ix z) ⟨0, by omega, rfl, fun k hk => absurd hk (Nat.not_lt_zero k)⟩ ?_
  rintro _ ⟨j, hj, rfl, hk⟩
  unfold st_X1_lowestLinkedWith_3
  rw [n1]
  simp (disch := omega) only [le_nI]
  have go : (E i j && q j) = false → j < n → (∃ j', j' ≤ n ∧ nI j + 1 = nI j' ∧ ∀ k, k < j' → (E i k && q k) = false) ∧ n - ix (nI j + 1) < n - ix (nI j) := fun hb hl => by
    refine ⟨⟨j + 1, by omega, nI_s j, fun k hk' => ?_⟩, ?_⟩
    · by_cases c : k = j
      · subst c; exact hb
      · exact hk k (by omega)
    · rw [nI_s, ix_nI (by omega), ix_nI (by omega)]; omega
  refine ⟨fun hge => ?_, fun hlt => ?_⟩
  · rw [fd_none n (fun k hk' => hk k (by omega)), if_neg (by omega)] at h
    exact h
  · refine x_isLinked hP hG hN hi (by omega) ?_
    refine ⟨fun c => ?_, fun c => ?_⟩
    · refine go ?_ (by omega)
      by_cases hE : E i j = true
      · rw [if_pos hE] at c; exact absurd c (by decide)
      · simp [hE]
    · have hE : E i j = true := by
        by_cases hE : E i j = true
        · exact hE
        · rw [if_neg hE] at c; exact absurd rfl c
      refine x_valueAt hP hN hs (by omega) ⟨fun c2 => ?_, fun c2 => ?_⟩
      · refine go ?_ (by omega)
        have : ¬ q j = true := fun hh => c2 ((hq j (by omega)).mpr hh)
        simp [this]
      · have hqj := (hq j (by omega)).mp c2
        rw [fd_eq n (by omega) (by simp [hE, hqj]) hk, if_pos (by omega)] at h
        exact h
theorem x_lo1 (hP : Par t n v) (hG : Gr t n v E) (hN : NOk F A t n v E) {s i w : Nat} (hs : s < v ^ n) (hi : i < n) (hw : w < 100) (h : Post (if lo1 n E (dg v s) i w < n then nI (lo1 n E (dg v s) i w) else -4)) : wp_X1_lowestLinkedWith F A (nI s) (nI i) (nI w) Post := by
  obtain ⟨p1, p2, p3, p4, p5, p6, p7, p8, p9⟩ := id hP
  refine x_lowestLinkedWith (q := fun k => dg v s k == w) hP hG hN hs hi (fun k hk => ?_) h
  have := dg_lt (v := v) (s := s) (i := k) (by omega)
  rw [eq_nI (by omega) (by omega)]
  simp
theorem x_counterWants (hP : Par t n v) (hG : Gr t n v E) (hN : NOk F A t n v E) (ht : t = 1) {s i : Nat} (hs : s < v ^ n) (hi : i < n) (h : Post (nI (wt t n v E (dg v s) i))) : wp_X1_counterWants F A (nI s) (nI i) Post := by
  obtain ⟨p1, p2, p3, p4, p5, p6, p7, p8, p9⟩ := id hP
  obtain ⟨n0, n1, n2, n3, n4, n5⟩ := id hN
  have hd : ∀ k, dg v s k < v := fun k => dg_lt (by omega)
  unfold wp_X1_counterWants
  refine x_aheadOf hP hN hi ?_
  refine x_valueAt hP hN hs (by split <;> omega) ?_
  unfold wt at h
  rw [if_pos ht] at h
  rw [n2]
  have hd0 := hd 0
  have hdi := hd i
  have hdn := hd (n - 1)
  have hdp := hd (i - 1)
  refine ⟨fun c => ?_, fun c => ?_⟩
  · rw [i0, eq_nI (by omega) (by omega)] at c
    subst c
    rw [if_pos rfl] at h ⊢
    refine x_valueAt hP hN hs hi ?_
    simp (disch := omega) only [eq_nI, i1, nI_add, le_nI]
    refine ⟨fun c => ?_, fun c => ?_⟩
    · rw [if_pos c] at h
      refine ⟨fun c2 => ?_, fun c2 => ?_⟩
      · rw [if_neg (by omega)] at h; exact h
      · rw [if_pos (by omega)] at h; exact h
    · rw [if_neg c] at h; exact h
  · rw [i0, eq_nI (by omega) (by omega)] at c
    rw [if_neg c] at h ⊢
    exact h
theorem x_pointerWants (hP : Par t n v) (hG : Gr t n v E) (hN : NOk F A t n v E) (ht : t = 2) {s i : Nat} (hs : s < v ^ n) (hi : i < n) (h : Post (nI (wt t n v E (dg v s) i))) : wp_X1_pointerWants F A (nI s) (nI i) Post := by
  obtain ⟨p1, p2, p3, p4, p5, p6, p7, p8, p9⟩ := id hP
  obtain ⟨n0, n1, n2, n3, n4, n5⟩ := id hN
  have hd : ∀ k, dg v s k < v := fun k => dg_lt (by omega)
  have hvn := p8 ht
  have hdi := hd i
  unfold wp_X1_pointerWants
  refine x_valueAt hP hN hs hi ?_
  unfold wt at h
  rw [if_neg (by omega), if_pos ht] at h
  refine ⟨fun c => ?_, fun c => ?_⟩
  · rw [i0, eq_nI (by omega) (by omega)] at c
    rw [if_neg c] at h
    rw [i1, sub_nI (by omega)]
    refine x_isLinked hP hG hN hi (by omega) ⟨fun c2 => ?_, fun c2 => ?_⟩
    · have hE : E i (dg v s i - 1) = true := by
        by_cases hE : E i (dg v s i - 1) = true
        · exact hE
        · rw [if_neg hE] at c2; exact absurd rfl c2
      rw [if_pos hE] at h
      have hj := (hG.1 _ _ hE).2.1
      have hdj := hd (dg v s i - 1)
      refine x_valueAt hP hN hs hj ?_
      simp (disch := omega) only [i0, nI_add, eq_nI]
      refine ⟨fun c3 => ?_, fun c3 => ⟨fun c4 => ?_, fun c4 => ?_⟩⟩
      · rw [if_pos (Or.inl c3)] at h; exact h
      · rw [if_neg (by omega)] at h; exact h
      · rw [if_pos (Or.inr c4)] at h; exact h
    · have hE : ¬ E i (dg v s i - 1) = true := fun hE => by rw [if_pos hE] at c2; exact absurd c2 (by decide)
      rw [if_neg hE] at h; exact h
  · rw [i0, eq_nI (by omega) (by omega)] at c
    rw [if_pos c] at h
    have l1 := lo1_le (n := n) (E := E) (f := dg v s) (i := i) (w := i + 1)
    have l0 := lo1_le (n := n) (E := E) (f := dg v s) (i := i) (w := 0)
    rw [i1, nI_add]
    refine x_lo1 hP hG hN hs hi (by omega) ⟨fun c2 => ?_, fun c2 => ?_⟩
    · have hn : ¬ lo1 n E (dg v s) i (i + 1) < n := fun hh => by rw [if_pos hh] at c2; exact neg_ne m4_neg (by omega) c2
      rw [if_neg hn] at h
      rw [i0]
      refine x_lo1 hP hG hN hs hi (by omega) ?_
      unfold wp_X1_pointerWants_41
      refine ⟨fun c3 => ?_, fun c3 => ?_⟩
      · have hn : ¬ lo1 n E (dg v s) i 0 < n := fun hh => by rw [if_pos hh] at c3; exact neg_ne m4_neg (by omega) c3
        rw [if_neg hn] at h
        rw [c]; exact h
      · have hn : lo1 n E (dg v s) i 0 < n := by
          by_cases hh : lo1 n E (dg v s) i 0 < n
          · exact hh
          · rw [if_neg hh] at c3; exact absurd rfl c3
        rw [if_pos hn] at h ⊢
        rw [i1, nI_add]; exact h
    · have hn : lo1 n E (dg v s) i (i + 1) < n := by
        by_cases hh : lo1 n E (dg v s) i (i + 1) < n
        · exact hh
        · rw [if_neg hh] at c2; exact absurd rfl c2
      rw [if_pos hn] at h c2 ⊢
      unfold wp_X1_pointerWants_41
      refine ⟨fun c3 => absurd c3 c2, fun c3 => ?_⟩
      rw [i1, nI_add]; exact h
theorem x_distanceWants (hP : Par t n v) (hG : Gr t n v E) (hN : NOk F A t n v E) (ht : t = 3) {s i : Nat} (hs : s < v ^ n) (hi : i < n) (h : Post (nI (wt t n v E (dg v s) i))) : wp_X1_distanceWants F A (nI s) (nI i) Post := by
  obtain ⟨p1, p2, p3, p4, p5, p6, p7, p8, p9⟩ := id hP
  obtain ⟨n0, n1, n2, n3, n4, n5⟩ := id hN
  have hd : ∀ k, dg v s k < v := fun k => dg_lt (by omega)
  unfold wt at h
  rw [if_neg (by omega), if_neg (by omega), if_pos ht] at h
  unfold wp_X1_distanceWants
  refine ⟨fun c => ?_, fun c => ?_⟩
  · rw [i0, eq_nI (by omega) (by omega)] at c
    rw [if_neg c] at h
    unfold wp_X1_distanceWants_16
    refine Lp_of (fun z => ∃ j, j ≤ n ∧ z = (nI (mn E (dg v s) i v j), nI j)) (fun z => n - ix z.2) ⟨0, by omega, by rw [n2, i1, sub_nI (by omega)]; rfl⟩ ?_
    rintro _ ⟨j, hj, rfl⟩
    have hm := mn_le (E := E) (f := dg v s) (i := i) (v := v) j
    have hdj := hd j
    dsimp only
    unfold st_X1_distanceWants_16
    rw [n1]
    simp (disch := omega) only [le_nI]
    refine ⟨fun hge => ?_, fun hlt => ?_⟩
    · have : j = n := by omega
      subst this
      exact h
    · refine x_isLinked hP hG hN hi (by omega) ⟨fun c2 => ?_, fun c2 => ?_⟩
      · have hE : ¬ E i j = true := fun hE => by rw [if_pos hE] at c2; exact absurd c2 (by decide)
        refine ⟨⟨j + 1, by omega, ?_⟩, ?_⟩
        · rw [nI_s, mn]; simp [hE]
        · rw [nI_s, ix_nI (by omega), ix_nI (by omega)]; omega
      · have hE : E i j = true := by
          by_cases hE : E i j = true
          · exact hE
          · rw [if_neg hE] at c2; exact absurd rfl c2
        refine x_valueAt hP hN hs (by omega) ⟨⟨j + 1, by omega, ?_⟩, ?_⟩
        · rw [nI_s, mn]
          simp (disch := omega) only [i1, nI_add, lt_nI, hE, Bool.true_and, decide_eq_true_eq]
          split <;> rfl
        · rw [nI_s, ix_nI (by omega), ix_nI (by omega)]; omega
  · rw [i0, eq_nI (by omega) (by omega)] at c
    rw [if_pos c] at h
    exact h
end NETX
