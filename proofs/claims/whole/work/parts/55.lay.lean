section LAY
variable {FX FT : Nat → Int32} {AT : Nat → Nat → Int32} {FD : Nat → Int32} {AD : Nat → Nat → Int32} {FN : Nat → Int32} {AN : Nat → Nat → Int32} {FS : Nat → Int32} {AS : Nat → Nat → Int32} {FP : Nat → Int32} {AP : Nat → Nat → Int32} {F : Nat → Int32} {A : Nat → Nat → Int32} {t n v w : Nat} {E : Nat → Nat → Bool} {s : Nat}
theorem x_colours {Post : Int32 → Prop} (hP : Par t n v) (hN : NOk FD AD t n v E) (h1 : (t = 4 → ∀ i, i < n → cn n (E i) < v) → Post 1) (h0 : (¬ (t = 4 → ∀ i, i < n → cn n (E i) < v)) → Post 0) : wp_X1_hasColoursEnough FD AD Post := by
  obtain ⟨p1, p2, p3, p4, p5, p6, p7, p8, p9⟩ := id hP
  obtain ⟨n0, n1, n2, n3, n4, n5⟩ := id hN
  unfold wp_X1_hasColoursEnough wp_X1_hasColoursEnough_2
  rw [i0]
  refine Lp_of (fun z => ∃ i, i ≤ n ∧ z = nI i ∧ ∀ j, j < i → cn n (E j) < v) (fun z => n - ix z) ⟨0, by omega, rfl, fun j hj => absurd hj (Nat.not_lt_zero j)⟩ ?_
  rintro _ ⟨i, hi, rfl, hA⟩
  unfold st_X1_hasColoursEnough_2
  rw [n0, n1, n2, show (nI t = (4 : Int32)) = (t = 4) from eq_nI (b := 4) (by omega) (by omega), le_nI (by omega) (by omega)]
  refine ⟨fun c => h1 (fun e => absurd e c), fun c => ⟨fun k => h1 (fun _ j hj => hA j (by omega)), fun k => ?_⟩⟩
  rintro _ rfl
  have ht := tkE_lt (E := E) hP (i := i)
  have hcn := cn_le (E i) n
  rw [rAt_in (by omega) (by omega), n4 i (by omega)]
  refine x_bitCount (by omega) ?_
  rw [cn_bits (by omega), lt_nI (by omega) (by omega)]
  refine ⟨fun k2 => ⟨⟨i + 1, by omega, by rw [nI_s], fun j hj => ?_⟩, mu_lt (by omega) (by omega)⟩, fun k2 => h0 (fun hh => k2 (hh c i (by omega)))⟩
  by_cases e : j = i
  · rw [e]; exact k2
  · exact hA j (by omega)
theorem x_copyFrom {Post : (Nat → Int32) → (Nat → Nat → Int32) → Prop} (hP : Par t n v) (hD : DC FD AD t n v w E s) (h : ∀ F' A', NOk F' A' t n v E → F' 4 = nI w → F' 5 = nI s → Post F' A') : wp_X1_copyFrom FD AD FN AN Post := by
  obtain ⟨p1, p2, p3, p4, p5, p6, p7, p8, p9⟩ := id hP
  obtain ⟨⟨n0, n1, n2, n3, n4, n5⟩, hw, hs, hs2, hE⟩ := id hD
  unfold wp_X1_copyFrom
  rw [n0, n1, n2, n3, hw, hs]
  generalize hF0 : uF (uF (uF (uF (uF (uF FN 0 (nI t)) 1 (nI n)) 2 (nI v)) 3 (nI (v ^ n))) 4 (nI w)) 5 (nI s) = F0
  unfold wp_X1_copyFrom_50
  rw [i0]
  refine Lp_of (fun z => ∃ i A', i ≤ 6 ∧ z = (nI i, F0, A') ∧ ∀ j, j < i → A' 6 j = AD 6 j ∧ A' 7 j = AD 7 j) (fun z => 6 - ix z.1) ⟨0, AN, by omega, rfl, fun j hj => absurd hj (Nat.not_lt_zero j)⟩ ?_
  rintro _ ⟨i, A', hi, rfl, hA⟩
  dsimp only
  unfold st_X1_copyFrom_50
  rw [show (6 : Int32) = nI 6 from rfl, le_nI (by omega) (by omega)]
  refine ⟨fun c => h F0 A' ⟨?_, ?_, ?_, ?_, fun j hj => by rw [(hA j (by omega)).1]; exact n4 j hj, fun j hj => by rw [(hA j (by omega)).2]; exact n5 j hj⟩ ?_ ?_, fun c => ?_⟩
  · rw [← hF0, uF_ne (by decide), uF_ne (by decide), uF_ne (by decide), uF_ne (by decide), uF_ne (by decide), uF_same]
  · rw [← hF0, uF_ne (by decide), uF_ne (by decide), uF_ne (by decide), uF_ne (by decide), uF_same]
  · rw [← hF0, uF_ne (by decide), uF_ne (by decide), uF_ne (by decide), uF_same]
  · rw [← hF0, uF_ne (by decide), uF_ne (by decide), uF_same]
  · rw [← hF0, uF_ne (by decide), uF_same]
  · rw [← hF0, uF_same]
  · rintro _ rfl _ rfl _ rfl _ rfl
    refine ⟨⟨i + 1, _, by omega, by rw [nI_s], fun j hj => ?_⟩, mu_lt (by omega) (by omega)⟩
    rw [uA_ne (show (6 : Nat) ≠ 7 by decide), uA_same, uA_same, rPut_in (by omega) (by omega), rPut_in (by omega) (by omega), rAt_in (by omega) (by omega), rAt_in (by omega) (by omega), upd_at, upd_at]
    by_cases e : j = i
    · rw [if_pos e, if_pos e, e]; exact ⟨rfl, rfl⟩
    · rw [if_neg e, if_neg e]; exact hA j (by omega)
theorem m_lay21 {Post : Int32 → (Nat → Int32) → (Nat → Nat → Int32) → Prop} (hP : Par t n v) (hD : DM F A t n v w E s) (h1 : (t = 4 → ∀ i, i < n → cn n (E i) < v) → wp_X7_lay_86 F A Post) (h0 : (¬ (t = 4 → ∀ i, i < n → cn n (E i) < v)) → Post (-2) F A) : wp_X7_lay_21 F A (0 : Int32) Post := by
  obtain ⟨p1, p2, p3, p4, p5, p6, p7, p8, p9⟩ := id hP
  obtain ⟨d1, d2, d3, d4, d5, d6⟩ := id hD
  unfold wp_X7_lay_21
  rw [i0]
  refine Lp_of (fun z => ∃ i, i ≤ n ∧ z = nI i ∧ ∀ j, j < i → cn n (E j) < v) (fun z => n - ix z) ⟨0, by omega, rfl, fun j hj => absurd hj (Nat.not_lt_zero j)⟩ ?_
  rintro _ ⟨i, hi, rfl, hA⟩
  unfold st_X7_lay_21
  rw [d2, le_nI (by omega) (by omega), show (F 11 = (4 : Int32)) = (t = 4) by rw [d1]; exact eq_nI (b := 4) (by omega) (by omega)]
  refine ⟨fun c => h1 (fun _ j hj => hA j (by omega)), fun c => ⟨fun k => h1 (fun e => absurd e k), fun k => ?_⟩⟩
  unfold wp_X7_lay_41
  rw [i0]
  refine Lp_of (fun z => ∃ j, j ≤ n ∧ z = (nI (cn j (E i)), nI j)) (fun z => n - ix z.2) ⟨0, by omega, rfl⟩ ?_
  rintro _ ⟨j, hj, rfl⟩
  dsimp only
  have hcn := cn_le (E i) j
  unfold st_X7_lay_41
  rw [d2, d3, le_nI (by omega) (by omega), lt_nI (by omega) (by omega)]
  refine ⟨fun c2 => ?_, fun c2 => ?_⟩
  · have e : j = n := by omega
    subst e
    refine ⟨fun k2 => ⟨⟨i + 1, by omega, by rw [nI_s], fun j' hj' => ?_⟩, mu_lt (by omega) (by omega)⟩, fun k2 => h0 (fun hh => k2 (hh k i (by omega)))⟩
    by_cases e : j' = i
    · rw [e]; exact k2
    · exact hA j' (by omega)
  · rw [i6, pk_mul, nI_add, ix_nI (a := 6 * i + j) (by omega), d5 i j (by omega) (by omega), nI_add, nI_s]
    refine ⟨in_nI (by omega) (by omega), ⟨j + 1, by omega, ?_⟩, by rw [ix_nI (by omega), ix_nI (by omega)]; omega⟩
    rfl
end LAY
