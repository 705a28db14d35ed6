/-! storms -/
noncomputable def sstep (t n v : Nat) (E : Nat → Nat → Bool) (d z : Nat) (s : Nat × Option Nat) (i : Nat) : Nat × Option Nat :=
  if dv z i % 8 = 0 then (cd v n (uN (dg v s.1) (dv z i / 8 % n) (dv z i / 64 % v)), s.2) else rst t n v E d z s i
noncomputable def sit (t n v : Nat) (E : Nat → Nat → Bool) (d z c : Nat) (last : Option Nat) : Nat → Nat × Option Nat
  | 0 => (c, last)
  | i + 1 => sstep t n v E d z (sit t n v E d z c last i) i
noncomputable def slg (t n v : Nat) (E : Nat → Nat → Bool) (d z c : Nat) (last : Option Nat) (i : Nat) : Bool := lgl t n v E (dg v (sit t n v E d z c last (i + 1)).1)
def sct (p : Nat → Bool) : Nat → Nat
  | 0 => 0
  | i + 1 => sct p i + if p i then 1 else 0
def ssk (p : Nat → Bool) : Nat → Nat
  | 0 => 0
  | i + 1 => if p i then 0 else ssk p i + 1
def sbt (p : Nat → Bool) : Nat → Nat
  | 0 => 0
  | i + 1 => if sbt p i < ssk p (i + 1) then ssk p (i + 1) else sbt p i
theorem sct_le {p : Nat → Bool} : ∀ i, sct p i ≤ i
  | 0 => Nat.le_refl 0
  | i + 1 => by have := @sct_le p i; rw [sct]; split <;> omega
theorem ssk_le {p : Nat → Bool} : ∀ i, ssk p i ≤ i
  | 0 => Nat.le_refl 0
  | i + 1 => by have := @ssk_le p i; rw [ssk]; split <;> omega
theorem sbt_le {p : Nat → Bool} : ∀ i, sbt p i ≤ i
  | 0 => Nat.le_refl 0
  | i + 1 => by have := @sbt_le p i; have h2 := @ssk_le p (i + 1); rw [sbt]; split <;> omega
theorem ite_lt {a b : Nat} (ha : a < 2147483648) (hb : b < 2147483648) : (if nI a < nI b then nI b else nI a) = nI (if a < b then b else a) := by
  by_cases h : a < b
  · rw [if_pos h, if_pos (by rw [lt_nI ha hb]; exact h)]
  · rw [if_neg h, if_neg (by rw [lt_nI ha hb]; exact h)]
section STORM
variable {FX FT : Nat → Int32} {AT : Nat → Nat → Int32} {FD : Nat → Int32} {AD : Nat → Nat → Int32} {FN : Nat → Int32} {AN : Nat → Nat → Int32} {FS : Nat → Int32} {AS : Nat → Nat → Int32} {FP : Nat → Int32} {AP : Nat → Nat → Int32} {F : Nat → Int32} {A : Nat → Nat → Int32} {t n v : Nat} {E : Nat → Nat → Bool} {c : Nat} {last : Option Nat} {k : Nat} {pc : Nat → Nat} {pl : Nat → Option Nat} {d z : Nat}
theorem sit_ok (hP : Par t n v) (hG : Gr t n v E) (hc : c < v ^ n) (hl : ∀ l, last = some l → l < n) : ∀ i, (sit t n v E d z c last i).1 < v ^ n ∧ ∀ l, (sit t n v E d z c last i).2 = some l → l < n
  | 0 => ⟨hc, hl⟩
  | i + 1 => by
    obtain ⟨o1, o2⟩ := sit_ok hP hG hc hl i
    obtain ⟨p1, p2, p3, p4, p5, p6, p7, p8, p9⟩ := id hP
    rw [sit]; unfold sstep
    split
    · exact ⟨cd_lt n (uN_lt (fun i _ => dg_lt (by omega)) (Nat.mod_lt _ (by omega))), o2⟩
    · exact rst_ok hP hG o2
theorem x_struck {Post : Int32 → Prop} (hP : Par t n v) (hN : NOk FN AN t n v E) {r : Nat} (hr : r < 65521) (hc : c < v ^ n) (h : Post (nI (cd v n (uN (dg v c) (r / 8 % n) (r / 64 % v))))) : wp_X1_struck FN AN (nI c) (nI r) Post := by
  obtain ⟨p1, p2, p3, p4, p5, p6, p7, p8, p9⟩ := id hP
  unfold wp_X1_struck
  rw [hN.2.1, hN.2.2.1, show (8 : Int32) = nI 8 from rfl, show (64 : Int32) = nI 64 from rfl, show nI r / nI 8 = nI (r / 8) from div_nI (by omega) (by omega) (by omega), show nI r / nI 64 = nI (r / 64) from div_nI (by omega) (by omega) (by omega), rem_nI (by omega) (by omega) (by omega), rem_nI (by omega) (by omega) (by omega), i0]
  simp (disch := omega) only [le_nI, lt_nI, eq_nI]
  refine ⟨fun q => absurd q (by omega), fun _ => ⟨fun _ => ⟨by omega, by omega, ?_⟩, fun q => absurd (by omega) q⟩⟩
  exact x_withValue hP hN hc (Nat.mod_lt _ (by omega)) h
noncomputable def sres (t n v : Nat) (E : Nat → Nat → Bool) (d z c : Nat) (last : Option Nat) (N w : Nat) : Int32 :=
  if w = 0 then nI (sct (slg t n v E d z c last) N) else if w = 1 then nI (sit t n v E d z c last N).1 else nI (sbt (slg t n v E d z c last) N)
theorem x_storm69 {Post : Int32 → Prop} (hP : Par t n v) (hG : Gr t n v E) (hN : NOk FN AN t n v E) (hd : d ≤ 2) (hz : z ≤ 9999) {N w : Nat} (hN3 : N ≤ 200) (hw : w ≤ 2) (hc : c < v ^ n) (hl : ∀ l, last = some l → l < n) (h : Post (sres t n v E d z c last N w)) : wp_X6_storm_69 FX FT AT FD AD FN AN FS AS FP AP (nI d) (nI z) (nI N) (nI w) (nI c) (eo (-4) last) (0 : Int32) (0 : Int32) (0 : Int32) (0 : Int32) Post := by
  unfold wp_X6_storm_69
  rw [i0]
  refine Lp_of (fun s => ∃ i, i ≤ N ∧ s = (nI (sit t n v E d z c last i).1, eo (-4) (sit t n v E d z c last i).2, nI (sct (slg t n v E d z c last) i), nI (ssk (slg t n v E d z c last) i), nI (sbt (slg t n v E d z c last) i), nI i)) (fun s => N - ix s.2.2.2.2.2) ⟨0, by omega, rfl⟩ ?_
  rintro _ ⟨i, hi, rfl⟩
  dsimp only
  obtain ⟨o1, o2⟩ := sit_ok (d := d) (z := z) hP hG hc hl i
  have l1 := sct_le (p := slg t n v E d z c last) i
  have l2 := ssk_le (p := slg t n v E d z c last) i
  have l3 := sbt_le (p := slg t n v E d z c last) i
  unfold st_X6_storm_69
  rw [le_nI (by omega) (by omega)]
  refine ⟨fun q => ?_, fun q => ?_⟩
  · have e : i = N := by omega
    subst e
    unfold sres at h
    refine ⟨fun q0 => ⟨fun q1 => ?_, fun q1 => ?_⟩, fun q0 => ?_⟩
    · rw [if_neg (fun e => q0 (by rw [e]; rfl)), if_neg (fun e => q1 (by rw [e]; rfl))] at h; exact h
    · rw [if_neg (fun e => q0 (by rw [e]; rfl)), if_pos ((eq_nI (a := w) (b := 1) (by omega) (by omega)).mp q1)] at h; exact h
    · rw [if_pos ((eq_nI (a := w) (b := 0) (by omega) (by omega)).mp q0)] at h; exact h
  · have fin : ∀ s', s' = sit t n v E d z c last (i + 1) → wp_X6_storm_143 FX FT AT FD AD FN AN FS AS FP AP (nI d) (nI z) (nI N) (nI w) (nI s'.1) (eo (-4) s'.2) (nI (sct (slg t n v E d z c last) i)) (nI (ssk (slg t n v E d z c last) i)) (nI (sbt (slg t n v E d z c last) i)) (nI i) (fun t' => (∃ i, i ≤ N ∧ t' = (nI (sit t n v E d z c last i).1, eo (-4) (sit t n v E d z c last i).2, nI (sct (slg t n v E d z c last) i), nI (ssk (slg t n v E d z c last) i), nI (sbt (slg t n v E d z c last) i), nI i)) ∧ N - ix t'.2.2.2.2.2 < N - ix (nI i)) Post := fun s' hs' => by
      subst hs'
      obtain ⟨o3, o4⟩ := sit_ok (d := d) (z := z) hP hG hc hl (i + 1)
      have l4 := ssk_le (p := slg t n v E d z c last) (i + 1)
      unfold wp_X6_storm_143
      refine x_isLegal hP hG hN o3 ?_
      unfold wp_X6_storm_166 wp_X6_storm_182
      have e0 : lgl t n v E (dg v (sit t n v E d z c last (i + 1)).1) = slg t n v E d z c last i := rfl
      rw [e0]
      cases hb : slg t n v E d z c last i with
      | false =>
        have e1 : sct (slg t n v E d z c last) (i + 1) = sct (slg t n v E d z c last) i := by rw [sct, hb]; rfl
        have e2 : ssk (slg t n v E d z c last) (i + 1) = ssk (slg t n v E d z c last) i + 1 := by rw [ssk, hb]; rfl
        refine ⟨fun _ => ⟨fun _ => ⟨⟨i + 1, by omega, ?_⟩, mu_lt (by omega) (by omega)⟩, fun q2 => absurd rfl q2⟩, fun q2 => absurd rfl q2⟩
        rw [sbt, e1, e2, nI_s, nI_s, i0, nI_add, ite_lt (by omega) (by omega)]
        rfl
      | true =>
        have e1 : sct (slg t n v E d z c last) (i + 1) = sct (slg t n v E d z c last) i + 1 := by rw [sct, hb]; rfl
        have e2 : ssk (slg t n v E d z c last) (i + 1) = 0 := by rw [ssk, hb]; rfl
        refine ⟨fun q2 => absurd q2 (by decide), fun _ => ⟨fun q2 => absurd q2 (by decide), fun _ => ⟨⟨i + 1, by omega, ?_⟩, mu_lt (by omega) (by omega)⟩⟩⟩
        rw [sbt, e1, e2, nI_s, nI_s, i0, ite_lt (by omega) (by omega)]
    have hdv := dv_lt (z := z) (k := i)
    have hm := dmx_lt (d := d) (c := (sit t n v E d z c last i).1) (z := dv z i) (E := E) hP o2
    refine x_drawOf hz (by omega) ?_
    rw [show (8 : Int32) = nI 8 from rfl, rem_nI (by omega) (by omega) (by omega), i0, eq_nI (by omega) (by omega)]
    refine ⟨fun q2 => x_moversOf hP hG hN (fun e => absurd e (by omega)) (by omega) o1 o2 hdv (x_lastBehind (by omega) hm (x_moved hP hG hN o1 (by omega) (fin (_, _) ?_))), fun q2 => x_struck hP hN hdv o1 (fin (_, _) ?_)⟩
    · rw [sit]; unfold sstep; rw [if_neg q2]; rfl
    · rw [sit]; unfold sstep; rw [if_pos q2]
theorem mvd_zero (hc : c < v ^ n) : cd v n (mvd t n v E (dg v c) 0) = c := by
  rw [cd_congr n (g := dg v c) (fun i _ => by unfold mvd; rw [Nat.zero_testBit]; rfl), cd_dg hc]
theorem m_storm65 {Post : Int32 → (Nat → Int32) → (Nat → Nat → Int32) → Prop} (hP : Par t n v) (hG : Gr t n v E) (hM : MOk F A t n v E) (hMs : Ms F A t n v E) (hd : d ≤ 2) (hz : z ≤ 9999) {N w : Nat} (hN3 : N ≤ 200) (hw : w ≤ 2) (hc : c < v ^ n) (hl : ∀ l, last = some l → l < n) (hr : Row A n (dg v c)) (h : ∀ F' A', Fr [23, 26] [20, 21, 22, 24, 25] F A F' A' → Ms F' A' t n v E → Post (sres t n v E d z c last N w) F' A') : wp_X7_storm_65 F A (nI d) (nI z) (nI N) (nI w) (eo (-4) last) (0 : Int32) (0 : Int32) (0 : Int32) (0 : Int32) Post := by
  obtain ⟨p1, p2, p3, p4, p5, p6, p7, p8, p9⟩ := id hP
  unfold wp_X7_storm_65
  rw [i0]
  refine Lp_of (fun s => ∃ i F' A', i ≤ N ∧ s = (eo (-4) (sit t n v E d z c last i).2, nI (sct (slg t n v E d z c last) i), nI (ssk (slg t n v E d z c last) i), nI (sbt (slg t n v E d z c last) i), nI i, F', A') ∧ Fr [23, 26] [20, 21, 22, 24, 25] F A F' A' ∧ Ms F' A' t n v E ∧ Row A' n (dg v (sit t n v E d z c last i).1)) (fun s => N - ix s.2.2.2.2.1) ⟨0, F, A, by omega, rfl, Fr.rf, hMs, hr⟩ ?_
  rintro _ ⟨i, F1, A1, hi, rfl, hF1, hms1, hr1⟩
  dsimp only
  obtain ⟨o1, o2⟩ := sit_ok (d := d) (z := z) hP hG hc hl i
  have hf : Rw n v (dg v (sit t n v E d z c last i).1) := Rw_dg (by omega)
  have l1 := sct_le (p := slg t n v E d z c last) i
  have l2 := ssk_le (p := slg t n v E d z c last) i
  have l3 := sbt_le (p := slg t n v E d z c last) i
  have hM1 := hM.fr hF1 (by decide)
  have hT := tks_lt (f := dg v (sit t n v E d z c last i).1) (E := E) hP
  unfold st_X7_storm_65
  rw [le_nI (by omega) (by omega)]
  refine ⟨fun q => ?_, fun q => ?_⟩
  · have e : i = N := by omega
    subst e
    have h1 := h F1 A1 hF1 hms1
    unfold sres at h1
    refine ⟨fun q0 => ⟨fun q1 => ?_, fun q1 => m_codeOf hP hM1 hr1 ?_⟩, fun q0 => ?_⟩
    · rw [if_neg (fun e => q0 (by rw [e]; rfl)), if_neg (fun e => q1 (by rw [e]; rfl))] at h1; exact h1
    · rw [if_neg (fun e => q0 (by rw [e]; rfl)), if_pos ((eq_nI (a := w) (b := 1) (by omega) (by omega)).mp q1)] at h1
      rw [cd_dg o1]; exact h1
    · rw [if_pos ((eq_nI (a := w) (b := 0) (by omega) (by omega)).mp q0)] at h1; exact h1
  · have fin : ∀ F2 A2, Fr [23, 26] [20, 21, 22, 24, 25] F A F2 A2 → Ms F2 A2 t n v E → Row A2 n (dg v (sit t n v E d z c last (i + 1)).1) → wp_X7_storm_158 F2 A2 (nI d) (nI z) (nI N) (nI w) (eo (-4) (sit t n v E d z c last (i + 1)).2) (nI (sct (slg t n v E d z c last) i)) (nI (ssk (slg t n v E d z c last) i)) (nI (sbt (slg t n v E d z c last) i)) (nI i) (fun t' => (∃ i F' A', i ≤ N ∧ t' = (eo (-4) (sit t n v E d z c last i).2, nI (sct (slg t n v E d z c last) i), nI (ssk (slg t n v E d z c last) i), nI (sbt (slg t n v E d z c last) i), nI i, F', A') ∧ Fr [23, 26] [20, 21, 22, 24, 25] F A F' A' ∧ Ms F' A' t n v E ∧ Row A' n (dg v (sit t n v E d z c last i).1)) ∧ N - ix t'.2.2.2.2.1 < N - ix (nI i)) Post := fun F2 A2 hF2 hms2 hr2 => by
      obtain ⟨o3, o4⟩ := sit_ok (d := d) (z := z) hP hG hc hl (i + 1)
      have l4 := ssk_le (p := slg t n v E d z c last) (i + 1)
      unfold wp_X7_storm_158
      refine m_isLegal hP hG (hM.fr hF2 (by decide)) (Rw_dg (by omega)) hr2 (fun F3 hF3 => ?_)
      unfold wp_X7_storm_176 wp_X7_storm_192 wp_X7_storm_208
      have e0 : lgl t n v E (dg v (sit t n v E d z c last (i + 1)).1) = slg t n v E d z c last i := rfl
      rw [e0]
      have hF3' : Fr [23, 26] [20, 21, 22, 24, 25] F A F3 A2 := hF2.tr (hF3.mo (by decide) (by decide))
      have hms3 := hms2.fr26 hF3 (by decide)
      cases hb : slg t n v E d z c last i with
      | false =>
        have e1 : sct (slg t n v E d z c last) (i + 1) = sct (slg t n v E d z c last) i := by rw [sct, hb]; rfl
        have e2 : ssk (slg t n v E d z c last) (i + 1) = ssk (slg t n v E d z c last) i + 1 := by rw [ssk, hb]; rfl
        have e3 : nI (sct (slg t n v E d z c last) i) + 0 = nI (sct (slg t n v E d z c last) (i + 1)) := by rw [e1, i0, nI_add, Nat.add_zero]
        have e4 : nI (ssk (slg t n v E d z c last) i) + 1 = nI (ssk (slg t n v E d z c last) (i + 1)) := by rw [e2, nI_s]
        rw [e3, e4, le_nI (by omega) (by omega)]
        refine ⟨fun _ => ⟨fun _ => ⟨fun q2 => ⟨⟨i + 1, F3, A2, by omega, ?_, hF3', hms3, hr2⟩, mu_lt (by omega) (by omega)⟩, fun q2 => ⟨⟨i + 1, F3, A2, by omega, ?_, hF3', hms3, hr2⟩, mu_lt (by omega) (by omega)⟩⟩, fun q2 => absurd rfl q2⟩, fun q2 => absurd rfl q2⟩
        · rw [sbt, if_neg (by omega), nI_s]
        · rw [sbt, if_pos (by omega), nI_s]
      | true =>
        have e1 : sct (slg t n v E d z c last) (i + 1) = sct (slg t n v E d z c last) i + 1 := by rw [sct, hb]; rfl
        have e2 : ssk (slg t n v E d z c last) (i + 1) = 0 := by rw [ssk, hb]; rfl
        have e3 : nI (sct (slg t n v E d z c last) i) + 1 = nI (sct (slg t n v E d z c last) (i + 1)) := by rw [e1, nI_s]
        rw [e3]
        refine ⟨fun q2 => absurd q2 (by decide), fun _ => ⟨fun q2 => absurd q2 (by decide), fun _ => ⟨fun q2 => ⟨⟨i + 1, F3, A2, by omega, ?_, hF3', hms3, hr2⟩, mu_lt (by omega) (by omega)⟩, fun q2 => absurd (by rw [i0, le_nI (by omega) (by omega)]; omega) q2⟩⟩⟩
        rw [sbt, e2, if_neg (by omega), nI_s]; rfl
    have hdv := dv_lt (z := z) (k := i)
    have hm := dmx_lt (d := d) (c := (sit t n v E d z c last i).1) (z := dv z i) (E := E) hP o2
    refine m_drawn hz (by omega) ?_
    rw [lN_i, show (8 : Int32) = nI 8 from rfl, show (64 : Int32) = nI 64 from rfl, rem_nI (by omega) (by omega) (by omega), div_nI (by omega) (by omega) (by omega), div_nI (by omega) (by omega) (by omega), hM1.2.1, hM1.2.2.1, rem_nI (by omega) (by omega) (by omega), rem_nI (by omega) (by omega) (by omega), i0, eq_nI (by omega) (by omega), eq_nI (by omega) (by omega), eq_nI (by omega) (by omega)]
    have hmn : dv z i / 8 % n < n := Nat.mod_lt _ (by omega)
    have hmv : dv z i / 64 % v < v := Nat.mod_lt _ (by omega)
    refine ⟨fun q2 => ?_, fun q2 => ⟨by omega, by omega, in_nI (by omega) (by omega), ?_⟩⟩
    · have es : sit t n v E d z c last (i + 1) = rst t n v E d z (sit t n v E d z c last i) i := by rw [sit]; unfold sstep; rw [if_neg q2]
      refine m_tokensOf hP hG hM1 hf hr1 (fun F2 hF2 => ?_)
      have hF12 : Fr [23, 26] [20, 21, 22, 24, 25] F A F2 A1 := hF1.tr (hF2.mo (by decide) (by decide))
      have hms2 := hms1.fr26 hF2 (by decide)
      rw [eq_nI (by omega) (by omega)]
      refine ⟨fun q3 => ?_, fun q3 => ?_⟩
      · have e0 : dmx t n v E d (sit t n v E d z c last i).1 (sit t n v E d z c last i).2 (dv z i) = 0 := if_pos q3
        have es2 : sit t n v E d z c last (i + 1) = sit t n v E d z c last i := by
          rw [es]; unfold rst; rw [e0, mvd_zero o1]; unfold lbx; rw [if_neg (fun q4 => q4.2 rfl)]
        have := fin F2 A1 hF12 hms2 (by rw [es2]; exact hr1)
        rw [es2] at this; exact this
      · have hmnz := dmx_nz (d := d) (z := dv z i) hP o2 q3
        refine m_chooses hP hG (hM.fr hF12 (by decide)) hms2 (by omega) o1 hr1 o2 hz (by omega) (fun F4 A4 hF4 hr4 hms4 => ?_)
        have hF14 : Fr [23, 26] [20, 21, 22, 24, 25] F A F4 A4 := hF12.tr (hF4.mo (by decide) (by decide))
        have fin2 : wp_X7_storm_150 F4 A4 (nI d) (nI z) (nI N) (nI w) (nI (sct (slg t n v E d z c last) i)) (nI (ssk (slg t n v E d z c last) i)) (nI (sbt (slg t n v E d z c last) i)) (nI i) (nI (dmx t n v E d (sit t n v E d z c last i).1 (sit t n v E d z c last i).2 (dv z i))) (eo (-4) (sit t n v E d z c last (i + 1)).2) (fun t' => (∃ i F' A', i ≤ N ∧ t' = (eo (-4) (sit t n v E d z c last i).2, nI (sct (slg t n v E d z c last) i), nI (ssk (slg t n v E d z c last) i), nI (sbt (slg t n v E d z c last) i), nI i, F', A') ∧ Fr [23, 26] [20, 21, 22, 24, 25] F A F' A' ∧ Ms F' A' t n v E ∧ Row A' n (dg v (sit t n v E d z c last i).1)) ∧ N - ix t'.2.2.2.2.1 < N - ix (nI i)) Post := by
          unfold wp_X7_storm_150
          refine m_step hP hG (hM.fr hF14 (by decide)) hm (dmx_mv hP o2) hr4 (fun F5 A5 hF5 hr5 => ?_)
          exact fin F5 A5 (hF14.tr (hF5.mo (by decide) (by decide))) (hms4.fr26 hF5 (by decide)) (by rw [es]; exact hr5)
        refine ⟨fun q4 => ?_, fun q4 => ?_⟩
        · have e : (sit t n v E d z c last (i + 1)).2 = (sit t n v E d z c last i).2 := by rw [es]; exact if_neg (fun q5 => q4 (by rw [q5.1]; rfl))
          rw [e] at fin2; exact fin2
        · rw [show (1 : Int32) = nI 1 from rfl, eq_nI (by omega) (by omega)] at q4
          refine m_lowestBit (by omega) hmnz ?_
          have e : (sit t n v E d z c last (i + 1)).2 = some (fd 7 (fun i' => (dmx t n v E d (sit t n v E d z c last i).1 (sit t n v E d z c last i).2 (dv z i)).testBit i')) := by rw [es]; exact if_pos ⟨q4, hmnz⟩
          rw [e] at fin2; exact fin2
    · rintro _ rfl
      have es : sit t n v E d z c last (i + 1) = (cd v n (uN (dg v (sit t n v E d z c last i).1) (dv z i / 8 % n) (dv z i / 64 % v)), (sit t n v E d z c last i).2) := by rw [sit]; unfold sstep; rw [if_pos q2]
      have hFu : Fr [26] [24] F1 A1 F1 (uA A1 24 (upd (A1 24) (ix (nI (dv z i / 8 % n))) (nI (dv z i / 64 % v)))) := Fr.uA (by decide)
      have := fin F1 _ (hF1.tr (hFu.mo (by decide) (by decide))) (hms1.fr26 hFu (by decide)) (fun j hj => by
        rw [es, dg_uN (by omega) hmv hmn hj, uA_same, upd_at, ix_nI (by omega)]
        split
        · rfl
        · exact hr1 j hj)
      rw [es] at this
      exact this
theorem e_storm (x1 x2 x3 x4 : Int32) (h : Rel FX FT AT FN AN FS AS FP AP F A) : wp_X6_storm FX FT AT FD AD FN AN FS AS FP AP x1 x2 x3 x4 (fun r => wp_X7_storm F A x1 x2 x3 x4 (fun r' F' A' => r = r' ∧ Rel FX FT AT FN AN FS AS FP AP F' A')) := by
  have h0 := h
  obtain ⟨⟨t, n, v, E, c, last, k, pc, pl, hR⟩, hT⟩ := h
  obtain ⟨⟨hP, hG, hN, hM, hw⟩, ⟨hc, h5, h9⟩, ⟨hl, hx6, h10⟩, ⟨hPa, hMp, hpc, hpl⟩, hS, hMs⟩ := id hR
  unfold wp_X6_storm
  rw [h5, hx6]
  have bad1 : (x1 < 0 ∨ nI (2 + 1) ≤ x1) → wp_X7_storm F A x1 x2 x3 x4 (fun r' F' A' => (-1 : Int32) = r' ∧ Rel FX FT AT FN AN FS AS FP AP F' A') := fun q => by
    unfold wp_X7_storm
    exact m_in_out (b := 2) (by omega) q ⟨fun _ => ⟨rfl, h0⟩, fun q => absurd rfl q⟩
  rcases cases_lt x1 3 (by omega) with hx | ⟨hx0, hx⟩ | ⟨d, hd, rfl⟩
  · exact ⟨fun _ => bad1 (Or.inl hx), fun q => absurd hx q⟩
  · exact ⟨fun q => absurd q hx0, fun _ => ⟨fun _ => bad1 (Or.inr hx), fun q => absurd (lt_out (b := 2) (by omega) hx) q⟩⟩
  refine ⟨fun q => absurd q (by rw [i0, lt_nI (by omega) (by omega)]; omega), fun _ => ⟨fun q => absurd q (by rw [show (2 : Int32) = nI 2 from rfl, lt_nI (by omega) (by omega)]; omega), fun _ => ?_⟩⟩
  have bad2 : (x2 < 0 ∨ nI (9999 + 1) ≤ x2) → wp_X7_storm F A (nI d) x2 x3 x4 (fun r' F' A' => (-1 : Int32) = r' ∧ Rel FX FT AT FN AN FS AS FP AP F' A') := fun q => by
    unfold wp_X7_storm
    exact m_in_in (b := 2) (by omega) (by omega) ⟨fun q => absurd q (by decide), fun _ => m_in_out (b := 9999) (by omega) q ⟨fun _ => ⟨rfl, h0⟩, fun q => absurd rfl q⟩⟩
  rcases cases_lt x2 10000 (by omega) with hx | ⟨hx0, hx⟩ | ⟨z, hz, rfl⟩
  · exact ⟨fun _ => bad2 (Or.inl hx), fun q => absurd hx q⟩
  · exact ⟨fun q => absurd q hx0, fun _ => ⟨fun _ => bad2 (Or.inr hx), fun q => absurd (lt_out (b := 9999) (by omega) hx) q⟩⟩
  refine ⟨fun q => absurd q (by rw [i0, lt_nI (by omega) (by omega)]; omega), fun _ => ⟨fun q => absurd q (by rw [show (9999 : Int32) = nI 9999 from rfl, lt_nI (by omega) (by omega)]; omega), fun _ => ?_⟩⟩
  have bad3 : (x3 < nI 1 ∨ nI (200 + 1) ≤ x3) → wp_X7_storm F A (nI d) (nI z) x3 x4 (fun r' F' A' => (-1 : Int32) = r' ∧ Rel FX FT AT FN AN FS AS FP AP F' A') := fun q => by
    unfold wp_X7_storm
    refine m_in_in (b := 2) (by omega) (by omega) ⟨fun q => absurd q (by decide), fun _ => m_in_in (b := 9999) (by omega) (by omega) ⟨fun q => absurd q (by decide), fun _ => m_isIn (a := 1) (b := 200) (by omega) (by omega) (fun _ => ⟨fun _ => ⟨rfl, h0⟩, fun q => absurd rfl q⟩) (fun y y1 y2 e => ?_)⟩⟩
    subst e
    rw [lt_nI (by omega) (by omega), le_nI (by omega) (by omega)] at q
    omega
  rcases cases_lt x3 201 (by omega) with hx | ⟨hx0, hx⟩ | ⟨N, hN3, rfl⟩
  · have h1 : x3 < (1 : Int32) := Int32.lt_of_lt_of_le hx (by decide)
    exact ⟨fun _ => bad3 (Or.inl h1), fun q => absurd h1 q⟩
  · exact ⟨fun q => bad3 (Or.inl q), fun _ => ⟨fun _ => bad3 (Or.inr hx), fun q => absurd (lt_out (b := 200) (by omega) hx) q⟩⟩
  refine ⟨fun q => bad3 (Or.inl q), fun q1 => ⟨fun q => absurd q (by rw [show (200 : Int32) = nI 200 from rfl, lt_nI (by omega) (by omega)]; omega), fun _ => ?_⟩⟩
  rw [show (1 : Int32) = nI 1 from rfl, lt_nI (by omega) (by omega)] at q1
  have in3 : ∀ Post : Int32 → (Nat → Int32) → (Nat → Nat → Int32) → Prop, wp_X7_isIn x4 (0 : Int32) (2 : Int32) (fun r_7 => ((¬ r_7 = 0 → wp_X7_rowNow F A (fun FM_9 AM_10 => wp_X7_storm_65 FM_9 AM_10 (nI d) (nI z) (nI N) x4 (FM_9 10) (0 : Int32) (0 : Int32) (0 : Int32) (0 : Int32) Post)) ∧ (r_7 = 0 → Post (-1 : Int32) F A))) → wp_X7_storm F A (nI d) (nI z) (nI N) x4 Post := fun Post hh => by
    unfold wp_X7_storm
    refine m_in_in (b := 2) (by omega) (by omega) ⟨fun q => absurd q (by decide), fun _ => m_in_in (b := 9999) (by omega) (by omega) ⟨fun q => absurd q (by decide), fun _ => m_isIn (a := 1) (b := 200) (by omega) (by omega) (fun q => ?_) (fun _ _ _ _ => ⟨fun q => absurd q (by decide), fun _ => hh⟩)⟩⟩
    rw [lt_nI (by omega) (by omega), le_nI (by omega) (by omega)] at q; omega
  rcases cases_lt x4 3 (by omega) with hx | ⟨hx0, hx⟩ | ⟨w, hw3, rfl⟩
  · exact ⟨fun _ => in3 _ (m_in_out (b := 2) (by omega) (Or.inl hx) ⟨fun q => absurd rfl q, fun _ => ⟨rfl, h0⟩⟩), fun q => absurd hx q⟩
  · exact ⟨fun q => absurd q hx0, fun _ => ⟨fun q => absurd q (le_out (b := 2) (by omega) hx), fun _ => in3 _ (m_in_out (b := 2) (by omega) (Or.inr hx) ⟨fun q => absurd rfl q, fun _ => ⟨rfl, h0⟩⟩)⟩⟩
  refine ⟨fun q => absurd q (by rw [i0, lt_nI (by omega) (by omega)]; omega), fun _ => ⟨fun _ => ?_, fun q => absurd (by rw [show (2 : Int32) = nI 2 from rfl, le_nI (by omega) (by omega)]; omega) q⟩⟩
  refine x_storm69 hP hG hN (by omega) (by omega) (by omega) (by omega) hc hl (in3 _ (m_in_in (b := 2) (by omega) (by omega) ⟨fun _ => ?_, fun q => absurd q (by decide)⟩))
  refine m_rowNow hP hM h9 (fun A1 hF1 hr1 => ?_)
  rw [h10]
  refine m_storm65 hP hG (hM.fr hF1 (by decide)) (hMs.fr26 (hF1.mo (by decide) (by decide)) (as := [24]) (by decide)) (by omega) (by omega) (by omega) (by omega) hc hl hr1 (fun F2 A2 hF2 hms2 => ⟨rfl, Rel.of hR hT ((hF1.mo (by decide) (by decide)).tr hF2) hms2⟩)
end STORM
