section LAY2
variable {FX FT : Nat → Int32} {AT : Nat → Nat → Int32} {FD : Nat → Int32} {AD : Nat → Nat → Int32} {FN : Nat → Int32} {AN : Nat → Nat → Int32} {FS : Nat → Int32} {AS : Nat → Nat → Int32} {FP : Nat → Int32} {AP : Nat → Nat → Int32} {F : Nat → Int32} {A : Nat → Nat → Int32} {t n v w : Nat} {E : Nat → Nat → Bool} {s : Nat}
theorem m_lay86 {Post : Int32 → (Nat → Int32) → (Nat → Nat → Int32) → Prop} (hP : Par t n v) (hD : DM F A t n v w E s) (h : ∀ F' A', Fr [2, 3, 4, 5, 6, 10, 17, 23] [7, 8, 9] F A F' A' → MOk F' A' t n v E → F' 6 = nI w → (∀ i, i < n → A' 9 i = nI (dg v s i)) → F' 10 = -4 → F' 17 = nI 0 → F' 23 = 0 → Post (nI (v ^ n)) F' A') : wp_X7_lay_86 F A Post := by
  obtain ⟨p1, p2, p3, p4, p5, p6, p7, p8, p9⟩ := id hP
  obtain ⟨d1, d2, d3, d4, d5, d6⟩ := id hD
  unfold wp_X7_lay_86
  rw [d1, d2, d3, d4]
  generalize hF0 : uF (uF (uF (uF F 2 (nI t)) 3 (nI n)) 4 (nI v)) 6 (nI w) = F0
  have g2 : F0 2 = nI t := by rw [← hF0, uF_ne (by decide), uF_ne (by decide), uF_ne (by decide), uF_same]
  have g3 : F0 3 = nI n := by rw [← hF0, uF_ne (by decide), uF_ne (by decide), uF_same]
  have g4 : F0 4 = nI v := by rw [← hF0, uF_ne (by decide), uF_same]
  have g6 : F0 6 = nI w := by rw [← hF0, uF_same]
  have hFr : Fr [2, 3, 4, 5, 6, 10, 17, 23] [7, 8, 9] F A F0 A := by
    rw [← hF0]
    exact (((Fr.uF (by decide) : Fr [2, 3, 4, 5, 6, 10, 17, 23] [7, 8, 9] F A (uF F 2 (nI t)) A).tr (Fr.uF (by decide))).tr (Fr.uF (by decide))).tr (Fr.uF (by decide))
  unfold wp_X7_lay_120
  rw [i0]
  refine Lp_of (fun z => ∃ i A1, i ≤ 36 ∧ z = (nI i, F0, A1) ∧ Fr [2, 3, 4, 5, 6, 10, 17, 23] [7, 8, 9] F A F0 A1 ∧ ∀ j, j < i → A1 7 j = A 15 j) (fun z => 36 - ix z.1) ⟨0, A, by omega, rfl, hFr, fun j hj => absurd hj (Nat.not_lt_zero j)⟩ ?_
  rintro _ ⟨i, A1, hi, rfl, hF1, h7⟩
  dsimp only
  unfold st_X7_lay_120
  rw [show (36 : Int32) = nI 36 from rfl, le_nI (by omega) (by omega)]
  refine ⟨fun c => ?_, fun c => ⟨in_nI (by omega) (by omega), in_nI (by omega) (by omega), ?_⟩⟩
  · unfold wp_X7_lay_146
    rw [i0]
    refine Lp_of (fun z => ∃ k A2, k ≤ 6 ∧ z = (nI k, F0, A2) ∧ Fr [2, 3, 4, 5, 6, 10, 17, 23] [7, 8, 9] F A F0 A2 ∧ (∀ j, j < 36 → A2 7 j = A 15 j) ∧ ∀ j, j < k → A2 9 j = A 16 j) (fun z => 6 - ix z.1) ⟨0, A1, by omega, rfl, hF1, fun j hj => h7 j (by omega), fun j hj => absurd hj (Nat.not_lt_zero j)⟩ ?_
    rintro _ ⟨k, A2, hk, rfl, hF2, b7, b9⟩
    dsimp only
    unfold st_X7_lay_146
    rw [show (6 : Int32) = nI 6 from rfl, le_nI (by omega) (by omega)]
    refine ⟨fun c2 => ?_, fun c2 => ⟨in_nI (by omega) (by omega), in_nI (by omega) (by omega), ?_⟩⟩
    · unfold wp_X7_begins wp_X7_begins_7
      rw [show (0 : Int32) = nI 0 from rfl]
      refine Lp_of (fun z => ∃ j F3 A3, j ≤ n ∧ z = (nI j, F3, A3) ∧ Fr [2, 3, 4, 5, 6, 10, 17, 23] [7, 8, 9] F A F3 A3 ∧ Fr [5] [8] F0 A2 F3 A3 ∧ F3 5 = nI (v ^ j) ∧ ∀ j', j' < j → A3 8 j' = nI (v ^ j')) (fun z => n - ix z.1) ⟨0, uF F0 5 1, A2, by omega, rfl, hF2.tr (Fr.uF (by decide)), Fr.uF (by decide), by rw [uF_same, Nat.pow_zero]; rfl, fun j hj => absurd hj (Nat.not_lt_zero j)⟩ ?_
      rintro _ ⟨j, F3, A3, hj, rfl, hF3, hG3, e5, e8⟩
      dsimp only
      unfold st_X7_begins_7
      rw [hG3.1 3 (by decide), g3, le_nI (by omega) (by omega)]
      refine ⟨fun c3 => ?_, fun c3 => ⟨in_nI (by omega) (by omega), ?_⟩⟩
      · have e : j = n := by omega
        subst e
        dsimp only
        rw [uF_ne (show (5 : Nat) ≠ 23 by decide), uF_ne (show (5 : Nat) ≠ 17 by decide), uF_ne (show (5 : Nat) ≠ 10 by decide), e5]
        have hF4 : Fr [2, 3, 4, 5, 6, 10, 17, 23] [7, 8, 9] F A (uF (uF (uF F3 10 (-4)) 17 (nI 0)) 23 (nI 0)) A3 := ((hF3.tr (Fr.uF (by decide))).tr (Fr.uF (by decide))).tr (Fr.uF (by decide))
        refine h _ A3 hF4 ⟨?_, ?_, ?_, ?_, fun a b ha hb => ?_, e8⟩ ?_ (fun i hi => ?_) ?_ ?_ ?_
        · rw [uF_ne (by decide), uF_ne (by decide), uF_ne (by decide), hG3.1 2 (by decide)]; exact g2
        · rw [uF_ne (by decide), uF_ne (by decide), uF_ne (by decide), hG3.1 3 (by decide)]; exact g3
        · rw [uF_ne (by decide), uF_ne (by decide), uF_ne (by decide), hG3.1 4 (by decide)]; exact g4
        · rw [uF_ne (by decide), uF_ne (by decide), uF_ne (by decide)]; exact e5
        · rw [hG3.2 7 (by decide), b7 _ (by omega)]; exact d5 a b (by omega) (by omega)
        · rw [uF_ne (by decide), uF_ne (by decide), uF_ne (by decide), hG3.1 6 (by decide)]; exact g6
        · rw [hG3.2 9 (by decide), b9 i (by omega)]; exact d6 i hi
        · rw [uF_ne (by decide), uF_ne (by decide), uF_same]
        · rw [uF_ne (by decide), uF_same]; rfl
        · rw [uF_same]
      · rintro _ rfl
        rw [hG3.1 4 (by decide), g4, e5]
        refine ⟨⟨j + 1, _, _, by omega, by rw [nI_s], (hF3.tr (Fr.uA (by decide))).tr (Fr.uF (by decide)), (hG3.tr (Fr.uA (by decide))).tr (Fr.uF (by decide)), by rw [uF_same, pk_mul, Nat.pow_succ], fun j' hj' => ?_⟩, mu_lt (by omega) (by omega)⟩
        rw [uA_same, upd_at, ix_nI (by omega)]
        by_cases e : j' = j
        · rw [if_pos e, e]
        · rw [if_neg e]; exact e8 j' (by omega)
    · rintro _ rfl
      refine ⟨⟨k + 1, _, by omega, by rw [nI_s], hF2.tr (Fr.uA (by decide)), fun j hj => by rw [uA_ne (by decide)]; exact b7 j hj, fun j hj => ?_⟩, mu_lt (by omega) (by omega)⟩
      rw [uA_same, upd_at, ix_nI (by omega), hF2.2 16 (by decide)]
      by_cases e : j = k
      · rw [if_pos e, e]
      · rw [if_neg e]; exact b9 j (by omega)
  · rintro _ rfl
    refine ⟨⟨i + 1, _, by omega, by rw [nI_s], hF1.tr (Fr.uA (by decide)), fun j hj => ?_⟩, mu_lt (by omega) (by omega)⟩
    rw [uA_same, upd_at, ix_nI (by omega), hF1.2 15 (by decide)]
    by_cases e : j = i
    · rw [if_pos e, e]
    · rw [if_neg e]; exact h7 j (by omega)
end LAY2
