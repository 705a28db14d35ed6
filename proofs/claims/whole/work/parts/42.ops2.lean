theorem le_out {b : Nat} {x : Int32} (hb : b < 2147483647) (h : nI (b + 1) ≤ x) : ¬ x ≤ nI b := fun q => by
  have := Int32.le_trans h q
  rw [le_nI (by omega) (by omega)] at this; omega
theorem lt_out {b : Nat} {x : Int32} (hb : b < 2147483647) (h : nI (b + 1) ≤ x) : nI b < x := Int32.not_le.mp (le_out hb h)
section OPS2
variable {FX FT : Nat → Int32} {AT : Nat → Nat → Int32} {FD : Nat → Int32} {AD : Nat → Nat → Int32} {FN : Nat → Int32} {AN : Nat → Nat → Int32} {FS : Nat → Int32} {AS : Nat → Nat → Int32} {FP : Nat → Int32} {AP : Nat → Nat → Int32} {F : Nat → Int32} {A : Nat → Nat → Int32} {t n v : Nat} {E : Nat → Nat → Bool} {c : Nat} {last : Option Nat} {k : Nat} {pc : Nat → Nat} {pl : Nat → Option Nat}
theorem e_move (x1 : Int32) (h : Rel FX FT AT FN AN FS AS FP AP F A) : wp_X6_move FX FT AT FD AD FN AN FS AS FP AP x1 (fun r FX' FP' AP' => wp_X7_move F A x1 (fun r' F' A' => r = r' ∧ Rel FX' FT AT FN AN FS AS FP' AP' F' A')) := by
  have h0 := h
  obtain ⟨⟨t, n, v, E, c, last, k, pc, pl, hR⟩, hT⟩ := h
  obtain ⟨⟨hP, hG, hN, hM, hw⟩, ⟨hc, h5, h9⟩, ⟨hl, hx6, h10⟩, ⟨hPa, hMp, hpc, hpl⟩, hS, hMs⟩ := id hR
  obtain ⟨p1, p2, p3, p4, p5, p6, p7, p8, p9⟩ := id hP
  have hf : Rw n v (dg v c) := Rw_dg (by omega)
  unfold wp_X6_move wp_X7_move
  refine x_hasMachine hP hN (fun q => ⟨fun q => absurd rfl q, fun _ => m_mach_out hP hM q ⟨fun q => absurd rfl q, fun _ => ⟨rfl, h0⟩⟩⟩) (fun i hi e => ⟨fun _ => ?_, fun q => absurd q (by decide)⟩)
  subst e
  rw [h5]
  have hrli := rl_lt (t := t) (n := n) (v := v) (E := E) (f := dg v c) (i := i)
  have hwt := wt_lt hP hG hf hi
  refine x_ruleOf hP hG hN hc hi ⟨fun q => x_wants hP hG hN hc hi (x_withValue hP hN hc hi ?_), fun q => ?_⟩
  · rw [i0, eq_nI (by omega) (by omega), rl_zero] at q
    have q' : mv t n v E (dg v c) i = true := by simpa using q
    unfold wp_X6_change
    rw [h5, hx6]
    refine x_keep hPa (fun FP' AP' hPa' => m_mach_in hP hM hi ⟨fun _ => ?_, fun q => absurd q (by decide)⟩)
    refine m_rowNow hP hM h9 (fun A1 hF1 hr => m_becomes hP hG (hM.fr hF1 (by decide)) hf hr hi (fun F2 hF2 => ?_))
    rw [bo_ge hP hG hf hi]
    refine ⟨fun _ => ?_, fun q2 => absurd q' q2⟩
    have eb : bo t n v E (dg v c) i = nI (wt t n v E (dg v c) i) := if_pos q'
    rw [eb]
    have hF12 : Fr [26] [24] F A F2 A1 := (hF1.mo (by decide) (by decide)).tr (hF2.mo (by decide) (by decide))
    have hR2 : Rs t n v E c last k pc pl FX FN AN FS AS FP AP F2 A1 := hR.fr hF12 (hMs.fr26 hF12 (by decide)) (by decide) (by decide)
    obtain ⟨⟨-, -, -, hM2, -⟩, ⟨-, -, h92⟩, ⟨-, -, h102⟩, ⟨-, hMp2, -, -⟩, -, -⟩ := id hR2
    refine m_keeps hP hM2 hc h92 h102 hMp2 (fun F3 A3 hF3 hMp3 => ⟨in_nI (by omega) (by omega), ?_⟩)
    rintro _ rfl
    have hF4 : Fr [10] [9, 24] F3 A3 F3 (uA A3 9 (upd (A3 9) (ix (nI i)) (nI (wt t n v E (dg v c) i)))) := Fr.uA (by decide)
    refine ⟨rfl, ⟨t, n, v, E, _, last, _, _, _, hR2.keep (uF_same) (by rw [uF_ne (by decide)]; exact hx6) hl (cd_lt n (uN_lt (fun i _ => dg_lt (by omega)) hwt)) hPa' hF3 hMp3 hF4 (by rw [hF3.1 10 (by decide)]; exact h102) (fun j hj => ?_)⟩, ((hT.fr hF12 (by decide)).fr hF3 (by decide)).fr hF4 (by decide)⟩
    rw [dg_uN (by omega) hwt hi hj, uA_same, upd_at, ix_nI (by omega)]
    split
    · rfl
    · rw [hF3.2 9 (by decide)]; exact h92 j hj
  · rw [i0, eq_nI (by omega) (by omega), rl_zero] at q
    refine m_mach_in hP hM hi ⟨fun _ => ?_, fun q => absurd q (by decide)⟩
    refine m_rowNow hP hM h9 (fun A1 hF1 hr => m_becomes hP hG (hM.fr hF1 (by decide)) hf hr hi (fun F2 hF2 => ?_))
    rw [bo_ge hP hG hf hi]
    exact ⟨fun q2 => absurd (q.symm.trans q2) (by decide), fun _ => ⟨rfl, Rel.of26 hR hT ((hF1.mo (by decide) (by decide)).tr (hF2.mo (by decide) (by decide)))⟩⟩
theorem e_undo (h : Rel FX FT AT FN AN FS AS FP AP F A) : wp_X6_undo FX FT AT FD AD FN AN FS AS FP AP (fun r FX' FP' AP' => wp_X7_undo F A (fun r' F' A' => r = r' ∧ Rel FX' FT AT FN AN FS AS FP' AP' F' A')) := by
  have h0 := h
  obtain ⟨⟨t, n, v, E, c, last, k, pc, pl, hR⟩, hT⟩ := h
  obtain ⟨⟨hP, hG, hN, hM, hw⟩, ⟨hc, h5, h9⟩, ⟨hl, hx6, h10⟩, ⟨hPa, hMp, hpc, hpl⟩, hS, hMs⟩ := id hR
  obtain ⟨p1, p2, p3, p4, p5, p6, p7, p8, p9⟩ := id hP
  obtain ⟨a1, a2, a3⟩ := id hPa
  obtain ⟨b1, b2, b3⟩ := id hMp
  unfold wp_X6_undo wp_X7_undo wp_X2_size wp_X2_lastState wp_X2_lastMover wp_X2_drop
  rw [a1, b1]
  refine ⟨fun q => ?_, fun q => ⟨fun q2 => absurd q q2, fun _ => ⟨rfl, h0⟩⟩⟩
  have q' := q
  rw [i0, eq_nI (by omega) (by omega)] at q'
  have e1 : nI k - (1 : Int32) = nI (k - 1) := by rw [show (1 : Int32) = nI 1 from rfl, sub_nI (by omega)]
  rw [e1, rAt_in (by omega) (by omega), rAt_in (by omega) (by omega), (a3 (k - 1) (by omega)).1, (a3 (k - 1) (by omega)).2]
  rintro _ rfl _ rfl
  refine ⟨fun q2 => absurd q2 (by rw [i0, le_nI (by omega) (by omega)]; omega), fun _ => ⟨fun _ => ⟨in_nI (by omega) (by omega), ?_⟩, fun q2 => absurd q2 q⟩⟩
  rw [ix_nI (by omega), (b3 (k - 1) (by omega)).1]
  have hF1 : Fr [17] [] F A (uF F 17 (nI (k - 1))) A := Fr.uF (by decide)
  refine m_valuesOf hP (hM.fr hF1 (by decide)) (hpc (k - 1) (by omega)) (fun A2 hF2 h92 => ?_)
  rw [uF_same, uF_same]
  refine ⟨in_nI (by omega) (by omega), rfl, ?_⟩
  rw [ix_nI (by omega), hF2.2 19 (by decide), (b3 (k - 1) (by omega)).2]
  have hF3 : Fr [10, 17] [9, 24] F A (uF (uF F 17 (nI (k - 1))) 10 (eo (-4) (pl (k - 1)))) A2 := ((hF1.mo (by decide) (by decide)).tr (hF2.mo (by decide) (by decide))).tr (Fr.uF (by decide))
  refine ⟨⟨t, n, v, E, pc (k - 1), pl (k - 1), k - 1, pc, pl, ⟨hP, hG, hN, hM.fr hF3 (by decide), by rw [hF3.1 6 (by decide)]; exact hw⟩, ⟨hpc _ (by omega), by rw [uF_ne (by decide), uF_same], h92⟩, ⟨hpl _ (by omega), uF_same, uF_same⟩, ⟨⟨uF_same, by omega, fun i hi => a3 i (by omega)⟩, ⟨by rw [uF_ne (by decide), uF_same], by omega, fun i hi => by rw [hF3.2 18 (by decide), hF3.2 19 (by decide)]; exact b3 i (by omega)⟩, fun i hi => hpc i (by omega), fun i hi => hpl i (by omega)⟩, hS, ?_⟩, hT.fr hF3 (by decide)⟩
  unfold Ms MsA at hMs ⊢
  rw [hF3.1 23 (by decide), hF3.2 20 (by decide), hF3.2 21 (by decide), hF3.2 22 (by decide)]
  exact hMs
theorem e_write (x1 : Int32) (h : Rel FX FT AT FN AN FS AS FP AP F A) : wp_X6_write FX FT AT FD AD FN AN FS AS FP AP x1 (fun r FT' AT' => wp_X7_write F A x1 (fun r' F' A' => r = r' ∧ Rel FX FT' AT' FN AN FS AS FP AP F' A')) := by
  have h0 := h
  obtain ⟨⟨t, n, v, E, c, last, k, pc, pl, hR⟩, ⟨len, hlen, ht1, hf0, hq⟩⟩ := h
  unfold wp_X6_write wp_X7_write wp_X5_append wp_X5_length
  rcases cases_lt x1 127 (by omega) with hx | ⟨-, hx⟩ | ⟨y, hy, rfl⟩
  · have h1 : x1 < (32 : Int32) := Int32.lt_of_lt_of_le hx (by decide)
    exact ⟨fun _ => ⟨fun _ => ⟨rfl, h0⟩, fun q => absurd h1 q⟩, fun q => absurd h1 q⟩
  · have h1 : ¬ x1 ≤ (126 : Int32) := le_out (b := 126) (by omega) hx
    have h2 : ¬ x1 < (32 : Int32) := fun q => by
      have := Int32.lt_of_lt_of_le q (show (32 : Int32) ≤ nI 127 by decide)
      exact absurd hx (Int32.not_le.mpr this)
    exact ⟨fun q => absurd q h2, fun _ => ⟨fun q => absurd q h1, fun _ => ⟨fun q => absurd q h2, fun _ => ⟨fun q => absurd q h1, fun _ => ⟨rfl, h0⟩⟩⟩⟩⟩
  · rw [show (32 : Int32) = nI 32 from rfl, show (126 : Int32) = nI 126 from rfl, show (200 : Int32) = nI 200 from rfl, show (1 : Int32) = nI 1 from rfl, ht1, hf0]
    simp (disch := omega) only [lt_nI, le_nI, eq_nI, nI_add]
    refine ⟨fun q => ⟨fun _ => ⟨trivial, h0⟩, fun q2 => absurd q q2⟩, fun q => ⟨fun q1 => ⟨fun q2 => ?_, fun q2 => ⟨fun _ => ⟨fun q3 => absurd q3 q, fun _ => ⟨fun _ => ⟨fun q4 => absurd (by omega) q4, fun _ => ⟨trivial, h0⟩⟩, fun q4 => absurd q1 q4⟩⟩, fun q3 => absurd trivial q3⟩⟩, fun q1 => absurd (by omega) q1⟩⟩
    rintro _ rfl
    refine ⟨fun q3 => absurd q3 (by decide), fun _ => ⟨fun q3 => absurd q3 q, fun _ => ⟨fun _ => ⟨fun _ => ⟨in_nI (by omega) (by omega), ?_⟩, fun q4 => absurd q4 (by omega)⟩, fun q4 => absurd q1 q4⟩⟩⟩
    rintro _ rfl
    have hF1 : Fr [0] [1] F A (uF F 0 (nI (len + 1))) (uA A 1 (upd (A 1) (ix (nI len)) (nI y))) := (Fr.uA (by decide) : Fr [0] [1] F A F (uA A 1 (upd (A 1) (ix (nI len)) (nI y)))).tr (Fr.uF (by decide))
    refine ⟨uF_same, ⟨t, n, v, E, c, last, k, pc, pl, hR.fr hF1 ?_ (by decide) (by decide)⟩, len + 1, by omega, uF_same, uF_same, fun i hi => ?_⟩
    · have hMs := hR.2.2.2.2.2
      unfold Ms MsA at hMs ⊢
      rw [hF1.1 23 (by decide), hF1.2 20 (by decide), hF1.2 21 (by decide), hF1.2 22 (by decide)]
      exact hMs
    · rw [uA_same, uA_same, rPut_in (by omega) (by omega), upd_at, upd_at, ix_nI (by omega)]
      by_cases e : i = len
      · rw [if_pos e, if_pos e]; exact ⟨y, by omega, by omega, rfl, rfl⟩
      · rw [if_neg e, if_neg e]; exact hq i (by omega)
theorem e_wipe (h : Rel FX FT AT FN AN FS AS FP AP F A) : wp_X6_wipe FX FT AT FD AD FN AN FS AS FP AP (fun r FT' AT' => wp_X7_wipe F A (fun r' F' A' => r = r' ∧ Rel FX FT' AT' FN AN FS AS FP AP F' A')) := by
  obtain ⟨⟨t, n, v, E, c, last, k, pc, pl, hR⟩, ⟨len, hlen, ht1, hf0, hq⟩⟩ := h
  unfold wp_X6_wipe wp_X7_wipe wp_X5_clear wp_X5_length
  have hF1 : Fr [0] [] F A (uF F 0 0) A := Fr.uF (by decide)
  refine ⟨by rw [ht1, hf0], ⟨t, n, v, E, c, last, k, pc, pl, hR.fr hF1 ?_ (by decide) (by decide)⟩, 0, by omega, uF_same, uF_same, fun i hi => absurd hi (Nat.not_lt_zero i)⟩
  have hMs := hR.2.2.2.2.2
  unfold Ms at hMs ⊢
  rw [hF1.1 23 (by decide)]
  exact hMs
theorem Rel.make {F' : Nat → Int32} {A' : Nat → Nat → Int32} {FS' : Nat → Int32} {AS' : Nat → Nat → Int32} (h : Rs t n v E c last k pc pl FX FN AN FS AS FP AP F A) (hT : Tx FT AT F A) (h1 : FS' 0 = 1) (h2 : SvA FS' AS' t n v E) (hF : Fr [23, 26] [20, 21, 22, 24, 25] F A F' A') (hms : Ms F' A' t n v E) : Rel FX FT AT FN AN FS' AS' FP AP F' A' := by
  obtain ⟨h01, h02, h03, h04, hS, hMs⟩ := h.fr hF hms (by decide) (by decide)
  exact ⟨⟨t, n, v, E, c, last, k, pc, pl, h01, h02, h03, h04, Or.inr ⟨h1, h2⟩, hMs⟩, hT.fr hF (by decide)⟩
theorem e_state (x1 x2 : Int32) (h : Rel FX FT AT FN AN FS AS FP AP F A) : wp_X6_state FX FT AT FD AD FN AN FS AS FP AP x1 x2 (fun r FS' AS' => wp_X7_state F A x1 x2 (fun r' F' A' => r = r' ∧ Rel FX FT AT FN AN FS' AS' FP AP F' A')) := by
  have h0 := h
  obtain ⟨⟨t, n, v, E, c, last, k, pc, pl, hR⟩, hT⟩ := h
  obtain ⟨⟨hP, hG, hN, hM, hw⟩, ⟨hc, h5, h9⟩, ⟨hl, hx6, h10⟩, ⟨hPa, hMp, hpc, hpl⟩, hS, hMs⟩ := id hR
  obtain ⟨p1, p2, p3, p4, p5, p6, p7, p8, p9⟩ := id hP
  have hv1 := hP.v1
  have hs1 : F 5 - 1 = nI (v ^ n - 1) := by rw [hM.2.2.2.1, show (1 : Int32) = nI 1 from rfl, sub_nI (by omega)]
  unfold wp_X6_state wp_X7_state
  rw [hs1, show (3 : Int32) = nI 3 from rfl]
  refine x_hasState hP hN (fun q => ⟨fun _ => m_in_out (by omega) (by rw [show v ^ n - 1 + 1 = v ^ n by omega]; exact q) ⟨fun _ => ⟨rfl, h0⟩, fun q => absurd rfl q⟩, fun q => absurd rfl q⟩) (fun y hy e => ⟨fun q => absurd q (by decide), fun _ => ?_⟩)
  subst e
  rcases cases_lt x2 4 (by omega) with hx | ⟨hx0, hx⟩ | ⟨j, hj, rfl⟩
  · exact ⟨fun _ => m_in_in (by omega) (by omega) ⟨fun q => absurd q (by decide), fun _ => m_in_out (by omega) (Or.inl hx) ⟨fun q => absurd rfl q, fun _ => ⟨rfl, h0⟩⟩⟩, fun q => absurd hx q⟩
  · exact ⟨fun q => absurd q hx0, fun _ => ⟨fun q => absurd q (le_out (by omega) hx), fun _ => m_in_in (by omega) (by omega) ⟨fun q => absurd q (by decide), fun _ => m_in_out (by omega) (Or.inr hx) ⟨fun q => absurd rfl q, fun _ => ⟨rfl, h0⟩⟩⟩⟩⟩
  · rw [show (2 : Int32) = nI 2 from rfl, show (1 : Int32) = nI 1 from rfl, i0]
    simp (disch := omega) only [lt_nI, le_nI, eq_nI]
    refine ⟨fun q => absurd q (by omega), fun _ => ⟨fun _ => ⟨fun q3 => x_make hP hG hN hS (fun FS' AS' hs0 hsA => ?_), fun q3 => x_isLegal hP hG hN hy ?_⟩, fun q => absurd (by omega) q⟩⟩
    · have fin : ∀ r : Int32, r = (if j = 0 then eo (-5) (lv (Hb t n v E) y) else if j = 1 then eo (-5) (lv (Bb t n v E) y) else eo (-4) (lv (Cb t n v E) y)) → wp_X7_isIn (nI y) (nI 0) (nI (v ^ n - 1)) (fun r_1 => ((r_1 = nI 0 → r = (-1 : Int32) ∧ Rel FX FT AT FN AN FS' AS' FP AP F A) ∧ (¬ r_1 = nI 0 → wp_X7_isIn (nI j) (nI 0) (nI 3) (fun r_3 => ((¬ r_3 = nI 0 → wp_X7_measures F A (fun FM_5 AM_6 => ((j = 0 → (vp_in (nI y) 4096 ∧ (r = (AM_6 20) (ix (nI y)) ∧ Rel FX FT AT FN AN FS' AS' FP AP FM_5 AM_6))) ∧ (¬ j = 0 → ((j = 1 → (vp_in (nI y) 4096 ∧ (r = (AM_6 21) (ix (nI y)) ∧ Rel FX FT AT FN AN FS' AS' FP AP FM_5 AM_6))) ∧ (¬ j = 1 → ((j = 2 → (vp_in (nI y) 4096 ∧ (r = (AM_6 22) (ix (nI y)) ∧ Rel FX FT AT FN AN FS' AS' FP AP FM_5 AM_6))) ∧ (¬ j = 2 → (vp_in (nI y) 4096 ∧ ((¬ ((AM_6 20) (ix (nI y))) = nI 0 → r = nI 0 ∧ Rel FX FT AT FN AN FS' AS' FP AP FM_5 AM_6) ∧ (((AM_6 20) (ix (nI y))) = nI 0 → r = nI 1 ∧ Rel FX FT AT FN AN FS' AS' FP AP FM_5 AM_6))))))))))) ∧ (r_3 = nI 0 → r = (-1 : Int32) ∧ Rel FX FT AT FN AN FS' AS' FP AP F A)))))) := fun r hr => by
        refine m_in_in (by omega) (by omega) ⟨fun q => absurd q (by decide), fun _ => m_in_in (by omega) (by omega) ⟨fun _ => ?_, fun q => absurd q (by decide)⟩⟩
        refine m_measures hP hG hM hMs (fun F1 A1 hF1 h23 hA1 => ?_)
        have hR2 : Rel FX FT AT FN AN FS' AS' FP AP F1 A1 := Rel.make hR hT hs0 hsA (hF1.mo (by decide) (by decide)) (Or.inr ⟨h23, hA1⟩)
        rw [ix_nI (by omega), (hA1.1 y hy).1, (hA1.2.1 y hy).1, (hA1.2.2 y hy).1]
        refine ⟨fun j0 => ⟨in_nI (by omega) (by omega), by rw [hr, if_pos j0], hR2⟩, fun j0 => ⟨fun j1 => ⟨in_nI (by omega) (by omega), by rw [hr, if_neg j0, if_pos j1], hR2⟩, fun j1 => ⟨fun j2 => ⟨in_nI (by omega) (by omega), by rw [hr, if_neg j0, if_neg j1], hR2⟩, fun j2 => absurd (by omega) q3⟩⟩⟩
      refine ⟨fun j2 => ⟨fun j0 => x_bestOf hP hsA hy (fin _ ?_), fun j0 => x_worstOf hP hsA hy (fin _ ?_)⟩, fun j2 => x_hitsOf hP hsA hy (fin _ ?_)⟩
      · rw [if_neg j0, if_pos (by omega)]
      · rw [if_pos j0]
      · rw [if_neg (by omega), if_neg (by omega)]
    · have hlg : ∀ F1 A1, MsA A1 t n v E → Ms F1 A1 t n v E → (A1 20 y = nI 0 ↔ lgl t n v E (dg v y) = true) := fun F1 A1 hA1 _ => by
        have hz := zero_iff hA1.1 m5_neg hy
        rw [← i0, hz]
        exact ⟨fun q => lv_zero q, fun q => (lv_legal (show lgc t n v E y = true from q)).1⟩
      have ref : ∀ r : Int32, r = nI (if lgl t n v E (dg v y) then 1 else 0) → wp_X7_isIn (nI y) (nI 0) (nI (v ^ n - 1)) (fun r_1 => ((r_1 = nI 0 → r = (-1 : Int32) ∧ Rel FX FT AT FN AN FS AS FP AP F A) ∧ (¬ r_1 = nI 0 → wp_X7_isIn (nI j) (nI 0) (nI 3) (fun r_3 => ((¬ r_3 = nI 0 → wp_X7_measures F A (fun FM_5 AM_6 => ((j = 0 → (vp_in (nI y) 4096 ∧ (r = (AM_6 20) (ix (nI y)) ∧ Rel FX FT AT FN AN FS AS FP AP FM_5 AM_6))) ∧ (¬ j = 0 → ((j = 1 → (vp_in (nI y) 4096 ∧ (r = (AM_6 21) (ix (nI y)) ∧ Rel FX FT AT FN AN FS AS FP AP FM_5 AM_6))) ∧ (¬ j = 1 → ((j = 2 → (vp_in (nI y) 4096 ∧ (r = (AM_6 22) (ix (nI y)) ∧ Rel FX FT AT FN AN FS AS FP AP FM_5 AM_6))) ∧ (¬ j = 2 → (vp_in (nI y) 4096 ∧ ((¬ ((AM_6 20) (ix (nI y))) = nI 0 → r = nI 0 ∧ Rel FX FT AT FN AN FS AS FP AP FM_5 AM_6) ∧ (((AM_6 20) (ix (nI y))) = nI 0 → r = nI 1 ∧ Rel FX FT AT FN AN FS AS FP AP FM_5 AM_6))))))))))) ∧ (r_3 = nI 0 → r = (-1 : Int32) ∧ Rel FX FT AT FN AN FS AS FP AP F A)))))) := fun r hr => by
        refine m_in_in (by omega) (by omega) ⟨fun q => absurd q (by decide), fun _ => m_in_in (by omega) (by omega) ⟨fun _ => ?_, fun q => absurd q (by decide)⟩⟩
        refine m_measures hP hG hM hMs (fun F1 A1 hF1 h23 hA1 => ?_)
        have hR2 : Rel FX FT AT FN AN FS AS FP AP F1 A1 := Rel.of hR hT (hF1.mo (by decide) (by decide)) (Or.inr ⟨h23, hA1⟩)
        rw [ix_nI (by omega)]
        refine ⟨fun j0 => absurd j0 (by omega), fun _ => ⟨fun j1 => absurd j1 (by omega), fun _ => ⟨fun j2 => absurd j2 (by omega), fun _ => ⟨in_nI (by omega) (by omega), fun q => ⟨?_, hR2⟩, fun q => ⟨?_, hR2⟩⟩⟩⟩⟩
        · rw [hr, if_neg (fun q2 => q ((hlg F1 A1 hA1 (Or.inr ⟨h23, hA1⟩)).mpr q2))]
        · rw [hr, if_pos ((hlg F1 A1 hA1 (Or.inr ⟨h23, hA1⟩)).mp q)]
      refine ⟨fun q => ?_, fun q => ?_⟩
      · have hq : ¬ lgl t n v E (dg v y) = true := fun hq => by rw [if_pos hq] at q; exact absurd q (by decide)
        have := ref (nI 0) (by rw [if_neg hq])
        simp (disch := omega) only [lt_nI, le_nI, eq_nI] at this
        exact this
      · have hq : lgl t n v E (dg v y) = true := by
          by_cases hq : lgl t n v E (dg v y) = true
          · exact hq
          · rw [if_neg hq] at q; exact absurd rfl q
        have := ref (nI 1) (by rw [if_pos hq])
        simp (disch := omega) only [lt_nI, le_nI, eq_nI] at this
        exact this
end OPS2
