/-! runs -/
noncomputable def rst (t n v : Nat) (E : Nat → Nat → Bool) (d z : Nat) (s : Nat × Option Nat) (i : Nat) : Nat × Option Nat :=
  (cd v n (mvd t n v E (dg v s.1) (dmx t n v E d s.1 s.2 (dv z i))), lbx d (dmx t n v E d s.1 s.2 (dv z i)) s.2)
noncomputable def rit (t n v : Nat) (E : Nat → Nat → Bool) (d z c : Nat) (last : Option Nat) : Nat → Nat × Option Nat
  | 0 => (c, last)
  | i + 1 => rst t n v E d z (rit t n v E d z c last i) i
noncomputable def rsp (t n v : Nat) (E : Nat → Nat → Bool) (d z c : Nat) (last : Option Nat) (i : Nat) : Bool := lgl t n v E (dg v (rit t n v E d z c last i).1) || decide (tks t n v E (dg v (rit t n v E d z c last i).1) = 0)
section RUN
variable {FX FT : Nat → Int32} {AT : Nat → Nat → Int32} {FD : Nat → Int32} {AD : Nat → Nat → Int32} {FN : Nat → Int32} {AN : Nat → Nat → Int32} {FS : Nat → Int32} {AS : Nat → Nat → Int32} {FP : Nat → Int32} {AP : Nat → Nat → Int32} {F : Nat → Int32} {A : Nat → Nat → Int32} {t n v : Nat} {E : Nat → Nat → Bool} {c : Nat} {last : Option Nat} {k : Nat} {pc : Nat → Nat} {pl : Nat → Option Nat} {d z : Nat}
theorem rst_ok (hP : Par t n v) (hG : Gr t n v E) {s : Nat × Option Nat} {i : Nat} (h2 : ∀ l, s.2 = some l → l < n) : (rst t n v E d z s i).1 < v ^ n ∧ ∀ l, (rst t n v E d z s i).2 = some l → l < n :=
  ⟨cd_lt n (Rw_mvd hP hG (Rw_dg (by obtain ⟨p1, p2, p3, p4, p5, p6, p7, p8, p9⟩ := id hP; omega)) _), lbx_lt hP h2⟩
theorem rit_ok (hP : Par t n v) (hG : Gr t n v E) (hc : c < v ^ n) (hl : ∀ l, last = some l → l < n) : ∀ i, (rit t n v E d z c last i).1 < v ^ n ∧ ∀ l, (rit t n v E d z c last i).2 = some l → l < n
  | 0 => ⟨hc, hl⟩
  | i + 1 => rst_ok hP hG (rit_ok hP hG hc hl i).2
/-- the state behind a daemon's choice, on the reference's side -/
theorem m_step {Post : (Nat → Int32) → (Nat → Nat → Int32) → Prop} (hP : Par t n v) (hG : Gr t n v E) (hM : MOk F A t n v E) {m : Nat} (hm : m < 64) (hb : ∀ i, i < n → m.testBit i = true → mv t n v E (dg v c) i = true) (hr : Row A n (dg v c)) (h : ∀ F' A', Fr [26] [24, 25] F A F' A' → Row A' n (dg v (cd v n (mvd t n v E (dg v c) m))) → Post F' A') : wp_X7_moves F A (nI m) Post := by
  have hf : Rw n v (dg v c) := Rw_dg (by obtain ⟨p1, p2, p3, p4, p5, p6, p7, p8, p9⟩ := id hP; omega)
  refine m_moves hP hG hM hf hr (by omega) hb (fun F' A' hF hr' => h F' A' hF (hr'.congr (fun i hi => ?_)))
  rw [dg_cd n (Rw_mvd hP hG hf m) i hi]
theorem x_run68 {Post : Int32 → (Nat → Int32) → (Nat → Int32) → (Nat → Nat → Int32) → (Nat → Int32) → (Nat → Nat → Int32) → Prop} (hP : Par t n v) (hG : Gr t n v E) (hN : NOk FN AN t n v E) (hS : d = 4 → SvA FS AS t n v E) (hd : d ≤ 4) (hz : z ≤ 9999) {N : Nat} (hN3 : N ≤ 300) (hc : c < v ^ n) (hl : ∀ l, last = some l → l < n)
    (h : wp_X6_run_147 FT AT FD AD FN AN FX FS AS FP AP (nI (rit t n v E d z c last (fd N (rsp t n v E d z c last))).1) (eo (-4) (rit t n v E d z c last (fd N (rsp t n v E d z c last))).2) (nI (fd N (rsp t n v E d z c last))) Post) : wp_X6_run_68 FT AT FD AD FN AN FX FS AS FP AP (nI d) (nI z) (nI N) (nI c) (eo (-4) last) (0 : Int32) (0 : Int32) Post := by
  unfold wp_X6_run_68
  rw [i0]
  refine Lp_of (fun s => ∃ i, i ≤ N ∧ s = (nI (rit t n v E d z c last i).1, eo (-4) (rit t n v E d z c last i).2, nI i, nI i) ∧ ∀ j, j < i → rsp t n v E d z c last j = false) (fun s => N - ix s.2.2.2) ⟨0, by omega, rfl, fun j hj => absurd hj (Nat.not_lt_zero j)⟩ ?_
  rintro _ ⟨i, hi, rfl, hn⟩
  dsimp only
  obtain ⟨o1, o2⟩ := rit_ok (d := d) (z := z) hP hG hc hl i
  unfold st_X6_run_68
  rw [le_nI (by omega) (by omega)]
  refine ⟨fun q => ?_, fun q => ?_⟩
  · have e : i = N := by omega
    subst e
    rw [fd_none i hn] at h; exact h
  · have hT := tks_lt (f := dg v (rit t n v E d z c last i).1) (E := E) hP
    have stop : rsp t n v E d z c last i = true → wp_X6_run_147 FT AT FD AD FN AN FX FS AS FP AP (nI (rit t n v E d z c last i).1) (eo (-4) (rit t n v E d z c last i).2) (nI i) Post := fun q2 => by
      rw [fd_eq N (by omega) q2 hn] at h; exact h
    refine x_isLegal hP hG hN o1 ⟨fun q2 => stop ?_, fun q2 => x_whoMay hP hG hN o1 ⟨fun q3 => stop ?_, fun q3 => ?_⟩⟩
    · unfold rsp
      by_cases hq : lgl t n v E (dg v (rit t n v E d z c last i).1) = true
      · rw [hq]; rfl
      · rw [if_neg hq] at q2; exact absurd rfl q2
    · rw [i0, eq_nI (by omega) (by omega)] at q3
      unfold rsp; rw [decide_eq_true q3, Bool.or_true]
    · have q3' := q3
      rw [i0, eq_nI (by omega) (by omega)] at q3'
      have ns : rsp t n v E d z c last i = false := by
        unfold rsp
        rw [decide_eq_false q3', Bool.or_false]
        by_cases hq : lgl t n v E (dg v (rit t n v E d z c last i).1) = true
        · rw [if_pos hq] at q2; exact absurd q2 (by decide)
        · simpa using hq
      have hm := dmx_lt (d := d) (c := (rit t n v E d z c last i).1) (z := dv z i) (E := E) hP o2
      refine x_drawOf hz (by omega) (x_moversOf hP hG hN hS hd o1 o2 dv_lt (x_lastBehind hd hm (x_moved hP hG hN o1 (by omega) ⟨⟨i + 1, by omega, by rw [nI_s]; rfl, fun j hj => ?_⟩, mu_lt (by omega) (by omega)⟩)))
      by_cases e : j = i
      · rw [e]; exact ns
      · exact hn j (by omega)
theorem m_run46 {Post : Int32 → (Nat → Int32) → (Nat → Nat → Int32) → Prop} (hP : Par t n v) (hG : Gr t n v E) (hM : MOk F A t n v E) (hMs : Ms F A t n v E) (hd : d ≤ 4) (hz : z ≤ 9999) {N : Nat} (hN3 : N ≤ 300) (hc : c < v ^ n) (hl : ∀ l, last = some l → l < n) (hr : Row A n (dg v c))
    (h : ∀ F' A', Fr [23, 26] [20, 21, 22, 24, 25] F A F' A' → Ms F' A' t n v E → Row A' n (dg v (rit t n v E d z c last (fd N (rsp t n v E d z c last))).1) → wp_X7_run_107 F' A' (nI (fd N (rsp t n v E d z c last))) (eo (-4) (rit t n v E d z c last (fd N (rsp t n v E d z c last))).2) Post) : wp_X7_run_46 F A (nI d) (nI z) (nI N) (0 : Int32) (eo (-4) last) Post := by
  obtain ⟨p1, p2, p3, p4, p5, p6, p7, p8, p9⟩ := id hP
  unfold wp_X7_run_46
  rw [i0]
  refine Lp_of (fun s => ∃ i F' A', i ≤ N ∧ s = (nI i, eo (-4) (rit t n v E d z c last i).2, F', A') ∧ Fr [23, 26] [20, 21, 22, 24, 25] F A F' A' ∧ Ms F' A' t n v E ∧ Row A' n (dg v (rit t n v E d z c last i).1) ∧ ∀ j, j < i → rsp t n v E d z c last j = false) (fun s => N - ix s.1) ⟨0, F, A, by omega, rfl, Fr.rf, hMs, hr, fun j hj => absurd hj (Nat.not_lt_zero j)⟩ ?_
  rintro _ ⟨i, F1, A1, hi, rfl, hF1, hms1, hr1, hn⟩
  dsimp only
  obtain ⟨o1, o2⟩ := rit_ok (d := d) (z := z) hP hG hc hl i
  have hf : Rw n v (dg v (rit t n v E d z c last i).1) := Rw_dg (by omega)
  have hM1 := hM.fr hF1 (by decide)
  have hT := tks_lt (f := dg v (rit t n v E d z c last i).1) (E := E) hP
  unfold st_X7_run_46
  rw [le_nI (by omega) (by omega)]
  refine ⟨fun q => ?_, fun q => ?_⟩
  · have e : i = N := by omega
    subst e
    have h1 := h F1 A1 hF1 hms1
    rw [fd_none i hn] at h1; exact h1 hr1
  · have stop : ∀ F2, Fr [26] [] F1 A1 F2 A1 → rsp t n v E d z c last i = true → wp_X7_run_107 F2 A1 (nI i) (eo (-4) (rit t n v E d z c last i).2) Post := fun F2 hF2 q2 => by
      have h1 := h F2 A1 (hF1.tr (hF2.mo (by decide) (by decide))) (hms1.fr26 hF2 (by decide))
      rw [fd_eq N (by omega) q2 hn] at h1; exact h1 hr1
    refine m_isLegal hP hG hM1 hf hr1 (fun F2 hF2 => ⟨fun q2 => stop F2 hF2 ?_, fun q2 => ?_⟩)
    · unfold rsp
      by_cases hq : lgl t n v E (dg v (rit t n v E d z c last i).1) = true
      · rw [hq]; rfl
      · rw [if_neg hq] at q2; exact absurd rfl q2
    · have hM2 := hM1.fr hF2 (by decide)
      refine m_tokensOf hP hG hM2 hf hr1 (fun F3 hF3 => ⟨fun q3 => stop F3 (hF2.tr hF3) ?_, fun q3 => ?_⟩)
      · rw [i0, eq_nI (by omega) (by omega)] at q3
        unfold rsp; rw [decide_eq_true q3, Bool.or_true]
      · have q3' := q3
        rw [i0, eq_nI (by omega) (by omega)] at q3'
        have ns : rsp t n v E d z c last i = false := by
          unfold rsp
          rw [decide_eq_false q3', Bool.or_false]
          by_cases hq : lgl t n v E (dg v (rit t n v E d z c last i).1) = true
          · rw [if_pos hq] at q2; exact absurd q2 (by decide)
          · simpa using hq
        have hF13 : Fr [23, 26] [20, 21, 22, 24, 25] F A F3 A1 := hF1.tr ((hF2.tr hF3).mo (by decide) (by decide))
        have hM3 := hM.fr hF13 (by decide)
        have hm := dmx_lt (d := d) (c := (rit t n v E d z c last i).1) (z := dv z i) (E := E) hP o2
        have hmn := dmx_nz (d := d) (z := dv z i) hP o2 q3'
        refine m_chooses hP hG hM3 (hms1.fr26 (hF2.tr hF3) (by decide)) hd o1 hr1 o2 hz (by omega) (fun F4 A4 hF4 hr4 hms4 => ?_)
        have hF14 : Fr [23, 26] [20, 21, 22, 24, 25] F A F4 A4 := hF13.tr (hF4.mo (by decide) (by decide))
        have fin : wp_X7_run_93 F4 A4 (nI d) (nI z) (nI N) (nI i) (nI (dmx t n v E d (rit t n v E d z c last i).1 (rit t n v E d z c last i).2 (dv z i))) (eo (-4) (rit t n v E d z c last (i + 1)).2) (fun t' => (∃ i F' A', i ≤ N ∧ t' = (nI i, eo (-4) (rit t n v E d z c last i).2, F', A') ∧ Fr [23, 26] [20, 21, 22, 24, 25] F A F' A' ∧ Ms F' A' t n v E ∧ Row A' n (dg v (rit t n v E d z c last i).1) ∧ ∀ j, j < i → rsp t n v E d z c last j = false) ∧ N - ix t'.1 < N - ix (nI i)) Post := by
          unfold wp_X7_run_93
          refine m_step hP hG (hM.fr hF14 (by decide)) hm (dmx_mv hP o2) hr4 (fun F5 A5 hF5 hr5 => ⟨⟨i + 1, F5, A5, by omega, by rw [nI_s], hF14.tr (hF5.mo (by decide) (by decide)), hms4.fr26 hF5 (by decide), hr5, fun j hj => ?_⟩, mu_lt (by omega) (by omega)⟩)
          by_cases e : j = i
          · rw [e]; exact ns
          · exact hn j (by omega)
        refine ⟨fun q4 => ?_, fun q4 => ?_⟩
        · have e : (rit t n v E d z c last (i + 1)).2 = (rit t n v E d z c last i).2 := if_neg (fun q5 => q4 (by rw [q5.1]; rfl))
          rw [e] at fin; exact fin
        · rw [show (1 : Int32) = nI 1 from rfl, eq_nI (by omega) (by omega)] at q4
          refine m_lowestBit (by omega) hmn ?_
          have e : (rit t n v E d z c last (i + 1)).2 = some (fd 7 (fun i' => (dmx t n v E d (rit t n v E d z c last i).1 (rit t n v E d z c last i).2 (dv z i)).testBit i')) := if_pos ⟨q4, hmn⟩
          rw [e] at fin; exact fin
theorem e_run (x1 x2 x3 : Int32) (h : Rel FX FT AT FN AN FS AS FP AP F A) : wp_X6_run FX FT AT FD AD FN AN FS AS FP AP x1 x2 x3 (fun r FX' FS' AS' FP' AP' => wp_X7_run F A x1 x2 x3 (fun r' F' A' => r = r' ∧ Rel FX' FT AT FN AN FS' AS' FP' AP' F' A')) := by
  have h0 := h
  obtain ⟨⟨t, n, v, E, c, last, k, pc, pl, hR⟩, hT⟩ := h
  obtain ⟨⟨hP, hG, hN, hM, hw⟩, ⟨hc, h5, h9⟩, ⟨hl, hx6, h10⟩, ⟨hPa, hMp, hpc, hpl⟩, hS, hMs⟩ := id hR
  unfold wp_X6_run wp_X6_run_50
  rw [h5, hx6]
  have bad1 : (x1 < 0 ∨ nI (4 + 1) ≤ x1) → wp_X7_run F A x1 x2 x3 (fun r' F' A' => (-1 : Int32) = r' ∧ Rel FX FT AT FN AN FS AS FP AP F' A') := fun q => by
    unfold wp_X7_run
    exact m_in_out (b := 4) (by omega) q ⟨fun _ => ⟨rfl, h0⟩, fun q => absurd rfl q⟩
  rcases cases_lt x1 5 (by omega) with hx | ⟨hx0, hx⟩ | ⟨d, hd, rfl⟩
  · exact ⟨fun _ => bad1 (Or.inl hx), fun q => absurd hx q⟩
  · exact ⟨fun q => absurd q hx0, fun _ => ⟨fun _ => bad1 (Or.inr hx), fun q => absurd (lt_out (b := 4) (by omega) hx) q⟩⟩
  refine ⟨fun q => absurd q (by rw [i0, lt_nI (by omega) (by omega)]; omega), fun _ => ⟨fun q => absurd q (by rw [show (4 : Int32) = nI 4 from rfl, lt_nI (by omega) (by omega)]; omega), fun _ => ?_⟩⟩
  have bad2 : (x2 < 0 ∨ nI (9999 + 1) ≤ x2) → wp_X7_run F A (nI d) x2 x3 (fun r' F' A' => (-1 : Int32) = r' ∧ Rel FX FT AT FN AN FS AS FP AP F' A') := fun q => by
    unfold wp_X7_run
    exact m_in_in (b := 4) (by omega) (by omega) ⟨fun q => absurd q (by decide), fun _ => m_in_out (b := 9999) (by omega) q ⟨fun _ => ⟨rfl, h0⟩, fun q => absurd rfl q⟩⟩
  rcases cases_lt x2 10000 (by omega) with hx | ⟨hx0, hx⟩ | ⟨z, hz, rfl⟩
  · exact ⟨fun _ => bad2 (Or.inl hx), fun q => absurd hx q⟩
  · exact ⟨fun q => absurd q hx0, fun _ => ⟨fun _ => bad2 (Or.inr hx), fun q => absurd (lt_out (b := 9999) (by omega) hx) q⟩⟩
  refine ⟨fun q => absurd q (by rw [i0, lt_nI (by omega) (by omega)]; omega), fun _ => ⟨fun q => absurd q (by rw [show (9999 : Int32) = nI 9999 from rfl, lt_nI (by omega) (by omega)]; omega), fun _ => ?_⟩⟩
  have bad3 : (x3 < nI 1 ∨ nI (300 + 1) ≤ x3) → wp_X7_run F A (nI d) (nI z) x3 (fun r' F' A' => (-1 : Int32) = r' ∧ Rel FX FT AT FN AN FS AS FP AP F' A') := fun q => by
    unfold wp_X7_run
    refine m_in_in (b := 4) (by omega) (by omega) ⟨fun q => absurd q (by decide), fun _ => m_in_in (b := 9999) (by omega) (by omega) ⟨fun q => absurd q (by decide), fun _ => m_isIn (a := 1) (b := 300) (by omega) (by omega) (fun _ => ⟨fun q => absurd rfl q, fun _ => ⟨rfl, h0⟩⟩) (fun y y1 y2 e => ?_)⟩⟩
    subst e
    rw [lt_nI (by omega) (by omega), le_nI (by omega) (by omega)] at q
    omega
  rcases cases_lt x3 301 (by omega) with hx | ⟨hx0, hx⟩ | ⟨N, hN3, rfl⟩
  · have h1 : x3 < (1 : Int32) := Int32.lt_of_lt_of_le hx (by decide)
    exact ⟨fun _ => bad3 (Or.inl h1), fun q => absurd h1 q⟩
  · refine ⟨fun q => ?_, fun _ => ⟨fun q => absurd q (le_out (b := 300) (by omega) hx), fun _ => bad3 (Or.inr hx)⟩⟩
    exact bad3 (Or.inl q)
  refine ⟨fun q => bad3 (Or.inl q), fun q1 => ⟨fun _ => ?_, fun q => absurd (by rw [show (300 : Int32) = nI 300 from rfl, le_nI (by omega) (by omega)]; omega) q⟩⟩
  rw [show (1 : Int32) = nI 1 from rfl, lt_nI (by omega) (by omega)] at q1
  have main : ∀ FS' AS', Sv FS' AS' t n v E → (d = 4 → SvA FS' AS' t n v E) → wp_X6_run_68 FT AT FD AD FN AN FX FS' AS' FP AP (nI d) (nI z) (nI N) (nI c) (eo (-4) last) (0 : Int32) (0 : Int32) (fun r FX' FS' AS' FP' AP' => wp_X7_run F A (nI d) (nI z) (nI N) (fun r' F' A' => r = r' ∧ Rel FX' FT AT FN AN FS' AS' FP' AP' F' A')) := fun FS' AS' hsv hsa => by
    have hR' : Rs t n v E c last k pc pl FX FN AN FS' AS' FP AP F A := by
      obtain ⟨g1, g2, g3, g4, -, g6⟩ := hR
      exact ⟨g1, g2, g3, g4, hsv, g6⟩
    refine x_run68 hP hG hN hsa (by omega) (by omega) (by omega) hc hl ?_
    generalize hi : fd N (rsp t n v E d z c last) = i
    have hiN : i ≤ N := by rw [← hi]; exact fd_le _ _
    obtain ⟨o1, o2⟩ := rit_ok (d := d) (z := z) hP hG hc hl i
    -- the reference's side
    have ref : ∀ FX' FP' AP', (∀ F1 A1, Fr [23, 26] [20, 21, 22, 24, 25] F A F1 A1 → Ms F1 A1 t n v E → Row A1 n (dg v (rit t n v E d z c last i).1) → wp_X7_run_107 F1 A1 (nI i) (eo (-4) (rit t n v E d z c last i).2) (fun r' F' A' => nI i = r' ∧ Rel FX' FT AT FN AN FS' AS' FP' AP' F' A')) → wp_X7_run F A (nI d) (nI z) (nI N) (fun r' F' A' => nI i = r' ∧ Rel FX' FT AT FN AN FS' AS' FP' AP' F' A') := fun FX' FP' AP' hh => by
      unfold wp_X7_run
      refine m_in_in (b := 4) (by omega) (by omega) ⟨fun q => absurd q (by decide), fun _ => m_in_in (b := 9999) (by omega) (by omega) ⟨fun q => absurd q (by decide), fun _ => m_isIn (a := 1) (b := 300) (by omega) (by omega) (fun q => ?_) (fun _ _ _ _ => ⟨fun _ => ?_, fun q => absurd q (by decide)⟩)⟩⟩
      · rw [lt_nI (by omega) (by omega), le_nI (by omega) (by omega)] at q; omega
      · refine m_rowNow hP hM h9 (fun A1 hF1 hr1 => ?_)
        rw [h10]
        refine m_run46 hP hG (hM.fr hF1 (by decide)) (hMs.fr26 (hF1.mo (by decide) (by decide)) (as := [24]) (by decide)) (by omega) (by omega) (by omega) hc hl hr1 ?_
        rw [hi]
        intro F2 A2 hF2 hms2 hr2
        exact hh F2 A2 ((hF1.mo (by decide) (by decide)).tr hF2) hms2 hr2
    unfold wp_X6_run_147
    rw [i0, le_nI (by omega) (by omega)]
    refine ⟨fun q => ref FX FP AP (fun F1 A1 hF1 hms1 hr1 => ?_), fun q => ?_⟩
    · unfold wp_X7_run_107
      rw [i0, le_nI (by omega) (by omega)]
      exact ⟨fun _ => ⟨rfl, Rel.of hR' hT hF1 hms1⟩, fun q2 => absurd q q2⟩
    · unfold wp_X6_change
      rw [h5, hx6]
      refine x_keep hPa (fun FP' AP' hPa' => ref _ FP' AP' (fun F1 A1 hF1 hms1 hr1 => ?_))
      unfold wp_X7_run_107
      rw [i0, le_nI (by omega) (by omega)]
      refine ⟨fun q2 => absurd q2 q, fun _ => ?_⟩
      have hR1 := hR'.fr hF1 hms1 (by decide) (by decide)
      obtain ⟨⟨-, -, -, hM1, -⟩, ⟨-, -, h91⟩, ⟨-, -, h101⟩, ⟨-, hMp1, -, -⟩, -, -⟩ := id hR1
      refine m_codeOf hP hM1 hr1 ?_
      rw [cd_dg o1]
      refine m_keeps hP hM1 hc h91 h101 hMp1 (fun F2 A2 hF2 hMp2 => ?_)
      refine m_valuesOf hP (hM1.fr hF2 (by decide)) o1 (fun A3 hF3 h93 => ?_)
      have hF4 : Fr [10] [9, 24] F2 A2 (uF F2 10 (eo (-4) (rit t n v E d z c last i).2)) A3 := (hF3.mo (by decide) (by decide)).tr (Fr.uF (by decide))
      exact ⟨rfl, ⟨t, n, v, E, _, _, _, _, _, hR1.keep (by rw [uF_ne (by decide), uF_same]) uF_same o2 o1 hPa' hF2 hMp2 hF4 uF_same h93⟩, ((hT.fr hF1 (by decide)).fr hF2 (by decide)).fr hF4 (by decide)⟩
  refine ⟨fun q4 => main FS AS hS (fun e => absurd (by rw [e]; rfl) q4), fun q4 => x_make hP hG hN hS (fun FS' AS' hs0 hsA => main FS' AS' (Or.inr ⟨hs0, hsA⟩) (fun _ => hsA))⟩
end RUN
