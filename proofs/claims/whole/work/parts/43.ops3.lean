section OPS3
variable {FX FT : Nat → Int32} {AT : Nat → Nat → Int32} {FD : Nat → Int32} {AD : Nat → Nat → Int32} {FN : Nat → Int32} {AN : Nat → Nat → Int32} {FS : Nat → Int32} {AS : Nat → Nat → Int32} {FP : Nat → Int32} {AP : Nat → Nat → Int32} {F : Nat → Int32} {A : Nat → Nat → Int32} {t n v : Nat} {E : Nat → Nat → Bool} {c : Nat} {last : Option Nat} {k : Nat} {pc : Nat → Nat} {pl : Nat → Option Nat}
theorem ref_all {FS' : Nat → Int32} {AS' : Nat → Nat → Int32} (hR : Rs t n v E c last k pc pl FX FN AN FS AS FP AP F A) (hT : Tx FT AT F A) (hs0 : FS' 0 = 1) (hsA : SvA FS' AS' t n v E) {j : Nat} (hj : j ≤ 6) {r : Int32} (hr : r = allx t n v E j) : wp_X7_all F A (nI j) (fun r' F' A' => r = r' ∧ Rel FX FT AT FN AN FS' AS' FP AP F' A') := by
  obtain ⟨⟨hP, hG, hN, hM, hw⟩, ⟨hc, h5, h9⟩, ⟨hl, hx6, h10⟩, ⟨hPa, hMp, hpc, hpl⟩, hS, hMs⟩ := id hR
  unfold wp_X7_all
  rw [show (6 : Int32) = nI 6 from rfl]
  refine m_in_in (by omega) hj ⟨fun _ => m_measures hP hG hM hMs (fun F1 A1 hF1 h23 hA1 => ?_), fun q => absurd q (by decide)⟩
  refine m_all41 hP hG (hM.fr hF1 (by decide)) hA1 hj (fun F2 A2 hF2 => ⟨hr, ?_⟩)
  exact Rel.make hR hT hs0 hsA ((hF1.mo (by decide) (by decide)).tr (hF2.mo (by decide) (by decide))) (Ms.fr26 (Or.inr ⟨h23, hA1⟩) hF2 (by decide))
theorem e_all (x1 : Int32) (h : Rel FX FT AT FN AN FS AS FP AP F A) : wp_X6_all FX FT AT FD AD FN AN FS AS FP AP x1 (fun r FS' AS' => wp_X7_all F A x1 (fun r' F' A' => r = r' ∧ Rel FX FT AT FN AN FS' AS' FP AP F' A')) := by
  have h0 := h
  obtain ⟨⟨t, n, v, E, c, last, k, pc, pl, hR⟩, hT⟩ := h
  obtain ⟨⟨hP, hG, hN, hM, hw⟩, ⟨hc, h5, h9⟩, ⟨hl, hx6, h10⟩, ⟨hPa, hMp, hpc, hpl⟩, hS, hMs⟩ := id hR
  unfold wp_X6_all
  rcases cases_lt x1 7 (by omega) with hx | ⟨hx0, hx⟩ | ⟨j, hj, rfl⟩
  · refine ⟨fun _ => ?_, fun q => absurd hx q⟩
    unfold wp_X7_all
    exact m_in_out (b := 6) (by omega) (Or.inl hx) ⟨fun q => absurd rfl q, fun _ => ⟨rfl, h0⟩⟩
  · refine ⟨fun q => absurd q hx0, fun _ => ⟨fun q => absurd q (le_out (b := 6) (by omega) hx), fun _ => ?_⟩⟩
    unfold wp_X7_all
    exact m_in_out (b := 6) (by omega) (Or.inr hx) ⟨fun q => absurd rfl q, fun _ => ⟨rfl, h0⟩⟩
  · refine ⟨fun q => absurd q (by rw [i0, lt_nI (by omega) (by omega)]; omega), fun _ => ⟨fun _ => x_make hP hG hN hS (fun FS' AS' hs0 hsA => ?_), fun q => absurd (by rw [show (6 : Int32) = nI 6 from rfl, le_nI (by omega) (by omega)]; omega) q⟩⟩
    have ref : ∀ r, r = allx t n v E j → wp_X7_all F A (nI j) (fun r' F' A' => r = r' ∧ Rel FX FT AT FN AN FS' AS' FP AP F' A') := fun r hr => ref_all hR hT hs0 hsA (by omega) hr
    unfold wp_X4_greatestWorst wp_X4_greatestBest
    have lit : ∀ m, m < 7 → ((nI j = nI m) = (j = m)) := fun m hm => eq_nI (by omega) (by omega)
    unfold allx at ref
    refine ⟨fun q => ?_, fun q0 => ⟨fun q => ?_, fun q1 => ⟨fun q => ?_, fun q2 => ⟨fun q => ?_, fun q3 => ⟨fun q => ?_, fun q4 => ⟨fun q => ?_, fun q5 => ?_⟩⟩⟩⟩⟩⟩
    · have q := (lit 0 (by omega)).mp q
      subst q
      exact x_legalStates hP hsA (ref _ rfl)
    · have q := (lit 1 (by omega)).mp q
      subst q
      exact x_endlessStates hP hsA (ref _ rfl)
    · have q := (lit 2 (by omega)).mp q
      subst q
      exact x_greatestOf_4 hP hsA (ref _ rfl)
    · have q := (lit 3 (by omega)).mp q
      subst q
      exact x_lowestOf hP hsA (fun m hm => gmx_has hm) (ref _ rfl)
    · have q := (lit 4 (by omega)).mp q
      subst q
      exact x_movesOutOfLegal hP hG hN hsA (ref _ rfl)
    · have q := (lit 5 (by omega)).mp q
      subst q
      exact x_sumOfWorsts hP hsA (ref _ rfl)
    · have e : j = 6 := by
        have g0 : ¬ j = 0 := fun e => q0 (by rw [e]; rfl)
        have g1 : ¬ j = 1 := fun e => q1 (by rw [e]; rfl)
        have g2 : ¬ j = 2 := fun e => q2 (by rw [e]; rfl)
        have g3 : ¬ j = 3 := fun e => q3 (by rw [e]; rfl)
        have g4 : ¬ j = 4 := fun e => q4 (by rw [e]; rfl)
        have g5 : ¬ j = 5 := fun e => q5 (by rw [e]; rfl)
        omega
      subst e
      exact x_greatestOf_5 hP hsA (ref _ rfl)
theorem ref_within {FS' : Nat → Int32} {AS' : Nat → Nat → Int32} (hR : Rs t n v E c last k pc pl FX FN AN FS AS FP AP F A) (hT : Tx FT AT F A) (hs0 : FS' 0 = 1) (hsA : SvA FS' AS' t n v E) {j w : Nat} (hj : j ≤ n) (hw1 : w ≤ 1) {r : Int32} (hr : r = wtx t n v E j w) : wp_X7_within F A (nI j) (nI w) (fun r' F' A' => r = r' ∧ Rel FX FT AT FN AN FS' AS' FP AP F' A') := by
  obtain ⟨⟨hP, hG, hN, hM, hw⟩, ⟨hc, h5, h9⟩, ⟨hl, hx6, h10⟩, ⟨hPa, hMp, hpc, hpl⟩, hS, hMs⟩ := id hR
  obtain ⟨p1, p2, p3, p4, p5, p6, p7, p8, p9⟩ := id hP
  unfold wp_X7_within
  rw [hM.2.1]
  refine m_in_in (by omega) hj ⟨fun q => absurd q (by decide), fun _ => m_in_in (b := 1) (by omega) hw1 ⟨fun _ => m_measures hP hG hM hMs (fun F1 A1 hF1 h23 hA1 => ?_), fun q => absurd q (by decide)⟩⟩
  exact m_within38 hP (hM.fr hF1 (by decide)) hA1 hj hw1 ⟨hr, Rel.make hR hT hs0 hsA (hF1.mo (by decide) (by decide)) (Or.inr ⟨h23, hA1⟩)⟩
theorem e_within (x1 x2 : Int32) (h : Rel FX FT AT FN AN FS AS FP AP F A) : wp_X6_within FX FT AT FD AD FN AN FS AS FP AP x1 x2 (fun r FS' AS' => wp_X7_within F A x1 x2 (fun r' F' A' => r = r' ∧ Rel FX FT AT FN AN FS' AS' FP AP F' A')) := by
  have h0 := h
  obtain ⟨⟨t, n, v, E, c, last, k, pc, pl, hR⟩, hT⟩ := h
  obtain ⟨⟨hP, hG, hN, hM, hw⟩, ⟨hc, h5, h9⟩, ⟨hl, hx6, h10⟩, ⟨hPa, hMp, hpc, hpl⟩, hS, hMs⟩ := id hR
  obtain ⟨p1, p2, p3, p4, p5, p6, p7, p8, p9⟩ := id hP
  unfold wp_X6_within
  rw [hN.2.1]
  have bad1 : (x1 < 0 ∨ nI (n + 1) ≤ x1) → wp_X7_within F A x1 x2 (fun r' F' A' => (-1 : Int32) = r' ∧ Rel FX FT AT FN AN FS AS FP AP F' A') := fun q => by
    unfold wp_X7_within
    rw [hM.2.1]
    exact m_in_out (by omega) q ⟨fun _ => ⟨rfl, h0⟩, fun q => absurd rfl q⟩
  rcases cases_lt x1 (n + 1) (by omega) with hx | ⟨hx0, hx⟩ | ⟨j, hj, rfl⟩
  · exact ⟨fun _ => bad1 (Or.inl hx), fun q => absurd hx q⟩
  · exact ⟨fun q => absurd q hx0, fun _ => ⟨fun _ => bad1 (Or.inr hx), fun q => absurd (lt_out (by omega) hx) q⟩⟩
  · have bad2 : (x2 < 0 ∨ nI (1 + 1) ≤ x2) → wp_X7_within F A (nI j) x2 (fun r' F' A' => (-1 : Int32) = r' ∧ Rel FX FT AT FN AN FS AS FP AP F' A') := fun q => by
      unfold wp_X7_within
      rw [hM.2.1]
      exact m_in_in (by omega) (by omega) ⟨fun q => absurd q (by decide), fun _ => m_in_out (b := 1) (by omega) q ⟨fun q => absurd rfl q, fun _ => ⟨rfl, h0⟩⟩⟩
    refine ⟨fun q => absurd q (by rw [i0, lt_nI (by omega) (by omega)]; omega), fun _ => ⟨fun q => absurd q (by rw [lt_nI (by omega) (by omega)]; omega), fun _ => ?_⟩⟩
    rcases cases_lt x2 2 (by omega) with hy | ⟨hy0, hy⟩ | ⟨w, hw2, rfl⟩
    · exact ⟨fun _ => bad2 (Or.inl hy), fun q => absurd hy q⟩
    · exact ⟨fun q => absurd q hy0, fun _ => ⟨fun q => absurd q (le_out (b := 1) (by omega) hy), fun _ => bad2 (Or.inr hy)⟩⟩
    · refine ⟨fun q => absurd q (by rw [i0, lt_nI (by omega) (by omega)]; omega), fun _ => ⟨fun _ => x_make hP hG hN hS (fun FS' AS' hs0 hsA => ?_), fun q => absurd (by rw [show (1 : Int32) = nI 1 from rfl, le_nI (by omega) (by omega)]; omega) q⟩⟩
      have ref : ∀ r, r = wtx t n v E j w → wp_X7_within F A (nI j) (nI w) (fun r' F' A' => r = r' ∧ Rel FX FT AT FN AN FS' AS' FP AP F' A') := fun r hr => ref_within hR hT hs0 hsA (by omega) (by omega) hr
      have hcn := cn_le (wth (lv (Cb t n v E)) j) (v ^ n)
      refine x_statesWithin hP hsA (by omega) ⟨fun q => ⟨fun q1 => ref _ ?_, fun q1 => x_greatestWorstWithin hP hsA (by omega) (ref _ ?_)⟩, fun q => ref _ ?_⟩
      · rw [i0, eq_nI (by omega) (by omega)] at q q1
        unfold wtx; rw [if_neg q, if_pos (by omega)]
      · rw [i0, eq_nI (by omega) (by omega)] at q q1
        unfold wtx; rw [if_neg q, if_neg (show ¬ w = 1 by omega)]
      · rw [i0, eq_nI (by omega) (by omega)] at q
        unfold wtx; rw [if_pos q]
theorem e_next (x1 : Int32) (h : Rel FX FT AT FN AN FS AS FP AP F A) : wp_X6_next FX FT AT FD AD FN AN FS AS FP AP x1 (fun r FS' AS' => wp_X7_next F A x1 (fun r' F' A' => r = r' ∧ Rel FX FT AT FN AN FS' AS' FP AP F' A')) := by
  have h0 := h
  obtain ⟨⟨t, n, v, E, c, last, k, pc, pl, hR⟩, hT⟩ := h
  obtain ⟨⟨hP, hG, hN, hM, hw⟩, ⟨hc, h5, h9⟩, ⟨hl, hx6, h10⟩, ⟨hPa, hMp, hpc, hpl⟩, hS, hMs⟩ := id hR
  unfold wp_X6_next wp_X6_next_32
  rw [h5, hx6]
  have bad1 : (x1 < 0 ∨ nI (4 + 1) ≤ x1) → wp_X7_next F A x1 (fun r' F' A' => (-1 : Int32) = r' ∧ Rel FX FT AT FN AN FS AS FP AP F' A') := fun q => by
    unfold wp_X7_next
    exact m_in_out (b := 4) (by omega) q ⟨fun _ => ⟨rfl, h0⟩, fun q => absurd rfl q⟩
  rcases cases_lt x1 5 (by omega) with hx | ⟨hx0, hx⟩ | ⟨d, hd, rfl⟩
  · exact ⟨fun _ => bad1 (Or.inl hx), fun q => absurd hx q⟩
  · exact ⟨fun q => absurd q hx0, fun _ => ⟨fun _ => bad1 (Or.inr hx), fun q => absurd (lt_out (b := 4) (by omega) hx) q⟩⟩
  · have ref : d ≠ 3 → ∀ FS' AS', (Sv FS' AS' t n v E) → ∀ r, r = nI (dmx t n v E d c last 0) → wp_X7_next F A (nI d) (fun r' F' A' => r = r' ∧ Rel FX FT AT FN AN FS' AS' FP AP F' A') := fun d3 FS' AS' hsv r hr => by
      unfold wp_X7_next
      refine m_in_in (b := 4) (by omega) (by omega) ⟨fun q => absurd q (by decide), fun _ => ⟨fun _ => ?_, fun q => absurd q (by rw [show (3 : Int32) = nI 3 from rfl, eq_nI (by omega) (by omega)]; exact d3)⟩⟩
      refine m_rowNow hP hM h9 (fun A1 hF1 hr1 => ?_)
      rw [h10]
      refine m_chooses (z := 0) (k := 0) hP hG (hM.fr hF1 (by decide)) (hMs.fr26 (hF1.mo (by decide) (by decide)) (as := [24]) (by decide)) (by omega) hc hr1 hl (by omega) (by omega) (fun F2 A2 hF2 hr2 hms2 => ⟨?_, ?_⟩)
      · rw [hr]; exact congrArg nI (dmx_z d3)
      · obtain ⟨g1, g2, g3, g4, -, g6⟩ := hR.fr ((hF1.mo (by decide) (by decide) : Fr [23, 26] [20, 21, 22, 24] F A F A1).tr hF2) hms2 (by decide) (by decide)
        exact ⟨⟨t, n, v, E, c, last, k, pc, pl, g1, g2, g3, g4, hsv, g6⟩, hT.fr ((hF1.mo (by decide) (by decide) : Fr [23, 26] [20, 21, 22, 24] F A F A1).tr hF2) (by decide)⟩
    refine ⟨fun q => absurd q (by rw [i0, lt_nI (by omega) (by omega)]; omega), fun _ => ⟨fun q => absurd q (by rw [show (4 : Int32) = nI 4 from rfl, lt_nI (by omega) (by omega)]; omega), fun _ => ⟨fun q3 => ?_, fun q3 => ?_⟩⟩⟩
    · have q3' : d ≠ 3 := fun e => q3 (by rw [e]; rfl)
      refine ⟨fun q4 => ?_, fun q4 => x_make hP hG hN hS (fun FS' AS' hs0 hsA => ?_)⟩
      · have q4' : d ≠ 4 := fun e => q4 (by rw [e]; rfl)
        exact x_moversOf (z := 0) hP hG hN (fun e => absurd e q4') (by omega) hc hl (by omega) (ref q3' FS AS hS _ rfl)
      · exact x_moversOf (z := 0) hP hG hN (fun _ => hsA) (by omega) hc hl (by omega) (ref q3' FS' AS' (Or.inr ⟨hs0, hsA⟩) _ rfl)
    · unfold wp_X7_next
      exact m_in_in (b := 4) (by omega) (by omega) ⟨fun q => absurd q (by decide), fun _ => ⟨fun q => absurd q3 q, fun _ => ⟨rfl, h0⟩⟩⟩
end OPS3
