/-! the operations answer alike -/
theorem out_in {n i : Nat} {x : Int32} (hn : n < 2147483648) (hi : i < n) (e : x = nI i) (q : x < 0 ∨ nI n ≤ x) : False := by
  subst e
  rcases q with q | q
  · rw [i0, lt_nI (by omega) (by omega)] at q; omega
  · rw [le_nI (by omega) (by omega)] at q; omega
theorem same_in {n i j : Nat} {x : Int32} (hn : n < 2147483648) (hi : i < n) (hj : j < n) (e : x = nI i) (e2 : x = nI j) : i = j := by
  rw [e, eq_nI (by omega) (by omega)] at e2; exact e2
section OPS
variable {FX FT : Nat → Int32} {AT : Nat → Nat → Int32} {FD : Nat → Int32} {AD : Nat → Nat → Int32} {FN : Nat → Int32} {AN : Nat → Nat → Int32} {FS : Nat → Int32} {AS : Nat → Nat → Int32} {FP : Nat → Int32} {AP : Nat → Nat → Int32} {F : Nat → Int32} {A : Nat → Nat → Int32} {t n v : Nat} {E : Nat → Nat → Bool} {c : Nat} {last : Option Nat} {k : Nat} {pc : Nat → Nat} {pl : Nat → Option Nat}
theorem Par.v1 (hP : Par t n v) : 1 ≤ v ^ n := Nat.pow_pos (by obtain ⟨p1, p2, p3, p4, p5, p6, p7, p8, p9⟩ := hP; omega)
theorem m_mach_out {x : Int32} {Post : Int32 → Prop} (hP : Par t n v) (hM : MOk F A t n v E) (q : x < 0 ∨ nI n ≤ x) (h : Post 0) : wp_X7_isMachine F A x Post :=
  m_isMachine hP hM (fun _ => h) (fun i hi e => (out_in (by obtain ⟨p1, p2, p3, p4, p5, p6, p7, p8, p9⟩ := id hP; omega) hi e q).elim)
theorem m_mach_in {i : Nat} {Post : Int32 → Prop} (hP : Par t n v) (hM : MOk F A t n v E) (hi : i < n) (h : Post 1) : wp_X7_isMachine F A (nI i) Post :=
  m_isMachine hP hM (fun q => (out_in (by obtain ⟨p1, p2, p3, p4, p5, p6, p7, p8, p9⟩ := id hP; omega) hi rfl q).elim) (fun _ _ _ => h)
theorem m_in_out {x : Int32} {b : Nat} {Post : Int32 → Prop} (hb : b < 2147483647) (q : x < 0 ∨ nI (b + 1) ≤ x) (h : Post 0) : wp_X7_isIn x (0 : Int32) (nI b) Post :=
  m_isIn (a := 0) (by omega) hb (fun _ => h) (fun i _ hi e => (out_in (by omega) (show i < b + 1 by omega) e q).elim)
theorem m_in_in {i b : Nat} {Post : Int32 → Prop} (hb : b < 2147483647) (hi : i ≤ b) (h : Post 1) : wp_X7_isIn (nI i) (0 : Int32) (nI b) Post :=
  m_isIn (a := 0) (by omega) hb (fun q => (out_in (by omega) (show i < b + 1 by omega) rfl q).elim) (fun _ _ _ _ => h)
theorem Rs.fr {F' : Nat → Int32} {A' : Nat → Nat → Int32} {fs as : List Nat} (h : Rs t n v E c last k pc pl FX FN AN FS AS FP AP F A) (hF : Fr fs as F A F' A') (hms : Ms F' A' t n v E) (hf : (2 ∉ fs ∧ 3 ∉ fs ∧ 4 ∉ fs ∧ 5 ∉ fs) ∧ 7 ∉ as ∧ 8 ∉ as) (hf2 : 6 ∉ fs ∧ 10 ∉ fs ∧ 17 ∉ fs ∧ 9 ∉ as ∧ 18 ∉ as ∧ 19 ∉ as) : Rs t n v E c last k pc pl FX FN AN FS AS FP AP F' A' := by
  obtain ⟨⟨hP, hG, hN, hM, hw⟩, ⟨hc, h5, h9⟩, ⟨hl, hx6, h10⟩, ⟨hPa, hMp, hpc, hpl⟩, hS, hMs⟩ := h
  obtain ⟨g6, g10, g17, a9, a18, a19⟩ := hf2
  refine ⟨⟨hP, hG, hN, hM.fr hF hf, by rw [hF.1 6 g6]; exact hw⟩, ⟨hc, h5, fun i hi => by rw [hF.2 9 a9]; exact h9 i hi⟩, ⟨hl, hx6, by rw [hF.1 10 g10]; exact h10⟩, ⟨hPa, ?_, hpc, hpl⟩, hS, hms⟩
  unfold Mp
  rw [hF.1 17 g17, hF.2 18 a18, hF.2 19 a19]
  exact hMp
theorem Tx.fr {F' : Nat → Int32} {A' : Nat → Nat → Int32} {fs as : List Nat} (h : Tx FT AT F A) (hF : Fr fs as F A F' A') (hf : 0 ∉ fs ∧ 1 ∉ as) : Tx FT AT F' A' := by
  unfold Tx at h ⊢
  rw [hF.1 0 hf.1, hF.2 1 hf.2]
  exact h
theorem Rel.of {F' : Nat → Int32} {A' : Nat → Nat → Int32} (h : Rs t n v E c last k pc pl FX FN AN FS AS FP AP F A) (hT : Tx FT AT F A) (hF : Fr [23, 26] [20, 21, 22, 24, 25] F A F' A') (hms : Ms F' A' t n v E) : Rel FX FT AT FN AN FS AS FP AP F' A' :=
  ⟨⟨t, n, v, E, c, last, k, pc, pl, h.fr hF hms (by decide) (by decide)⟩, hT.fr hF (by decide)⟩
theorem Rel.of26 {F' : Nat → Int32} {A' : Nat → Nat → Int32} (h : Rs t n v E c last k pc pl FX FN AN FS AS FP AP F A) (hT : Tx FT AT F A) (hF : Fr [26] [24, 25] F A F' A') : Rel FX FT AT FN AN FS AS FP AP F' A' :=
  Rel.of h hT (hF.mo (by decide) (by decide)) (h.2.2.2.2.2.fr26 hF (by decide))
theorem e_value (x1 : Int32) (h : Rel FX FT AT FN AN FS AS FP AP F A) : wp_X6_value FX FT AT FD AD FN AN FS AS FP AP x1 (fun r => wp_X7_value F A x1 (fun r' => r = r')) := by
  obtain ⟨⟨t, n, v, E, c, last, k, pc, pl, ⟨hP, hG, hN, hM, hw⟩, ⟨hc, h5, h9⟩, ⟨hl, hx6, h10⟩, ⟨hPa, hMp, hpc, hpl⟩, hS, hMs⟩, hT⟩ := h
  obtain ⟨p1, p2, p3, p4, p5, p6, p7, p8, p9⟩ := id hP
  unfold wp_X6_value wp_X7_value
  refine x_hasMachine hP hN (fun q => ⟨fun _ => m_mach_out hP hM q ⟨fun _ => rfl, fun q => absurd rfl q⟩, fun q => absurd rfl q⟩) (fun i hi e => ⟨fun q => absurd q (by decide), fun _ => ?_⟩)
  subst e
  rw [h5]
  refine x_valueAt hP hN hc hi (m_mach_in hP hM hi ⟨fun q => absurd q (by decide), fun _ => ⟨in_nI (by omega) (by omega), ?_⟩⟩)
  rw [ix_nI (by omega), h9 i hi]
theorem e_code (h : Rel FX FT AT FN AN FS AS FP AP F A) : wp_X6_code FX FT AT FD AD FN AN FS AS FP AP (fun r => wp_X7_code F A (fun r' F' A' => r = r' ∧ Rel FX FT AT FN AN FS AS FP AP F' A')) := by
  obtain ⟨⟨t, n, v, E, c, last, k, pc, pl, hR⟩, hT⟩ := h
  obtain ⟨⟨hP, hG, hN, hM, hw⟩, ⟨hc, h5, h9⟩, ⟨hl, hx6, h10⟩, ⟨hPa, hMp, hpc, hpl⟩, hS, hMs⟩ := id hR
  unfold wp_X6_code wp_X7_code
  refine m_rowNow hP hM h9 (fun A1 hF1 hr => m_codeOf hP (hM.fr hF1 (by decide)) hr ⟨?_, Rel.of26 hR hT (hF1.mo (by decide) (by decide))⟩)
  rw [h5, cd_dg hc]
theorem e_count (x1 : Int32) (h : Rel FX FT AT FN AN FS AS FP AP F A) : wp_X6_count FX FT AT FD AD FN AN FS AS FP AP x1 (fun r => wp_X7_count F A x1 (fun r' => r = r')) := by
  obtain ⟨⟨t, n, v, E, c, last, k, pc, pl, ⟨hP, hG, hN, hM, hw⟩, ⟨hc, h5, h9⟩, ⟨hl, hx6, h10⟩, ⟨hPa, hMp, hpc, hpl⟩, hS, hMs⟩, ⟨len, hlen, ht1, hf0, hq⟩⟩ := h
  obtain ⟨n0, n1, n2, n3, n4, n5⟩ := id hN
  obtain ⟨m0, m1, m2, m3, m4, m5⟩ := id hM
  unfold wp_X6_count wp_X7_count wp_X2_size wp_X5_length
  rw [n0, n1, n2, n3, hw, hPa.1, ht1, hx6, m0, m1, m2, m3, hMp.1, hf0, h10]
  refine ⟨fun c0 => ⟨fun _ => rfl, fun q => absurd c0 q⟩, fun c0 => ⟨fun c1 => ⟨fun q => absurd q c0, fun _ => ⟨fun _ => rfl, fun q => absurd c1 q⟩⟩, fun c1 => ⟨fun c2 => ⟨fun q => absurd q c0, fun _ => ⟨fun q => absurd q c1, fun _ => ⟨fun _ => rfl, fun q => absurd c2 q⟩⟩⟩, fun c2 => ⟨fun c3 => ⟨fun q => absurd q c0, fun _ => ⟨fun q => absurd q c1, fun _ => ⟨fun q => absurd q c2, fun _ => ⟨fun _ => rfl, fun q => absurd c3 q⟩⟩⟩⟩, fun c3 => ⟨fun c4 => ⟨fun q => absurd q c0, fun _ => ⟨fun q => absurd q c1, fun _ => ⟨fun q => absurd q c2, fun _ => ⟨fun q => absurd q c3, fun _ => ⟨fun _ => rfl, fun q => absurd c4 q⟩⟩⟩⟩⟩, fun c4 => ?_⟩⟩⟩⟩⟩
  refine ⟨fun c5 => ⟨fun q => absurd q c0, fun _ => ⟨fun q => absurd q c1, fun _ => ⟨fun q => absurd q c2, fun _ => ⟨fun q => absurd q c3, fun _ => ⟨fun q => absurd q c4, fun _ => ⟨fun _ => rfl, fun q => absurd c5 q⟩⟩⟩⟩⟩⟩, fun c5 => ⟨fun c6 => ⟨fun q => absurd q c0, fun _ => ⟨fun q => absurd q c1, fun _ => ⟨fun q => absurd q c2, fun _ => ⟨fun q => absurd q c3, fun _ => ⟨fun q => absurd q c4, fun _ => ⟨fun q => absurd q c5, fun _ => ⟨fun _ => rfl, fun q => absurd c6 q⟩⟩⟩⟩⟩⟩⟩, fun c6 => ⟨fun c7 => ⟨fun q => absurd q c0, fun _ => ⟨fun q => absurd q c1, fun _ => ⟨fun q => absurd q c2, fun _ => ⟨fun q => absurd q c3, fun _ => ⟨fun q => absurd q c4, fun _ => ⟨fun q => absurd q c5, fun _ => ⟨fun q => absurd q c6, fun _ => ⟨fun _ => rfl, fun q => absurd c7 q⟩⟩⟩⟩⟩⟩⟩⟩, fun c7 => ⟨fun q => absurd q c0, fun _ => ⟨fun q => absurd q c1, fun _ => ⟨fun q => absurd q c2, fun _ => ⟨fun q => absurd q c3, fun _ => ⟨fun q => absurd q c4, fun _ => ⟨fun q => absurd q c5, fun _ => ⟨fun q => absurd q c6, fun _ => ⟨fun q => absurd q c7, fun _ => rfl⟩⟩⟩⟩⟩⟩⟩⟩⟩⟩⟩
theorem rl_zero {f : Nat → Nat} {i : Nat} : rl t n v E f i = 0 ↔ mv t n v E f i = false := by
  unfold rl mv
  by_cases c : wt t n v E f i = f i
  · rw [if_pos c]; simp [c]
  · rw [if_neg c]
    refine ⟨fun q => ?_, fun q => ?_⟩
    · split at q
      · split at q
        · split at q <;> omega
        · omega
      · omega
    · exact absurd q (by simp [c])
theorem rl_lt {f : Nat → Nat} {i : Nat} : rl t n v E f i < 4 := by
  unfold rl
  split
  · omega
  · split
    · split
      · split <;> omega
      · omega
    · omega
theorem bo_ge (hP : Par t n v) (hG : Gr t n v E) {f : Nat → Nat} (hf : Rw n v f) {i : Nat} (hi : i < n) : (0 ≤ bo t n v E f i) = (mv t n v E f i = true) := by
  have hw := wt_lt hP hG hf hi
  obtain ⟨p1, p2, p3, p4, p5, p6, p7, p8, p9⟩ := id hP
  unfold bo
  rw [ge_m1 (by omega)]
theorem e_may (x1 : Int32) (h : Rel FX FT AT FN AN FS AS FP AP F A) : wp_X6_may FX FT AT FD AD FN AN FS AS FP AP x1 (fun r => wp_X7_may F A x1 (fun r' F' A' => r = r' ∧ Rel FX FT AT FN AN FS AS FP AP F' A')) := by
  have h0 := h
  obtain ⟨⟨t, n, v, E, c, last, k, pc, pl, hR⟩, hT⟩ := h
  obtain ⟨⟨hP, hG, hN, hM, hw⟩, ⟨hc, h5, h9⟩, ⟨hl, hx6, h10⟩, ⟨hPa, hMp, hpc, hpl⟩, hS, hMs⟩ := id hR
  obtain ⟨p1, p2, p3, p4, p5, p6, p7, p8, p9⟩ := id hP
  have hf : Rw n v (dg v c) := Rw_dg (by omega)
  unfold wp_X6_may wp_X7_may
  refine x_hasMachine hP hN (fun q => ⟨fun _ => m_mach_out hP hM q ⟨fun q => absurd rfl q, fun _ => ⟨rfl, h0⟩⟩, fun q => absurd rfl q⟩) (fun i hi e => ⟨fun q => absurd q (by decide), fun _ => ?_⟩)
  subst e
  rw [h5]
  refine x_ruleOf hP hG hN hc hi (m_mach_in hP hM hi ⟨fun _ => ?_, fun q => absurd q (by decide)⟩)
  refine m_rowNow hP hM h9 (fun A1 hF1 hr => m_becomesOf hP hG (hM.fr hF1 (by decide)) hf hr hi (fun x hx => ?_))
  have hR2 : Rel FX FT AT FN AN FS AS FP AP (uF F 26 x) A1 := Rel.of26 hR hT ((hF1.mo (by decide) (by decide)).tr (Fr.uF (by decide)))
  rw [bo_ge hP hG hf hi]
  refine ⟨fun q => ⟨?_, hR2⟩, fun q => ⟨?_, hR2⟩⟩
  · rw [uF_same, hx q]
  · have := (rl_zero (t := t) (n := n) (v := v) (E := E) (f := dg v c) (i := i)).mpr (by simpa using q)
    rw [this]; rfl
theorem e_becomes (x1 : Int32) (h : Rel FX FT AT FN AN FS AS FP AP F A) : wp_X6_becomes FX FT AT FD AD FN AN FS AS FP AP x1 (fun r => wp_X7_becomes F A x1 (fun r' F' A' => r = r' ∧ Rel FX FT AT FN AN FS AS FP AP F' A')) := by
  have h0 := h
  obtain ⟨⟨t, n, v, E, c, last, k, pc, pl, hR⟩, hT⟩ := h
  obtain ⟨⟨hP, hG, hN, hM, hw⟩, ⟨hc, h5, h9⟩, ⟨hl, hx6, h10⟩, ⟨hPa, hMp, hpc, hpl⟩, hS, hMs⟩ := id hR
  obtain ⟨p1, p2, p3, p4, p5, p6, p7, p8, p9⟩ := id hP
  have hf : Rw n v (dg v c) := Rw_dg (by omega)
  unfold wp_X6_becomes wp_X7_becomes
  refine x_hasMachine hP hN (fun q => ⟨fun q => absurd rfl q, fun _ => m_mach_out hP hM q ⟨fun q => absurd rfl q, fun _ => ⟨rfl, h0⟩⟩⟩) (fun i hi e => ⟨fun _ => ?_, fun q => absurd q (by decide)⟩)
  subst e
  rw [h5]
  have hrli := rl_lt (t := t) (n := n) (v := v) (E := E) (f := dg v c) (i := i)
  have ref : ∀ y : Int32, y = (if mv t n v E (dg v c) i then nI (wt t n v E (dg v c) i) else -4) → wp_X7_isMachine F A (nI i) (fun r_1 => ((¬ r_1 = 0 → wp_X7_rowNow F A (fun FM_3 AM_4 => wp_X7_becomesOf FM_3 AM_4 (nI i) (fun r_9 FM_6 AM_7 => ((0 ≤ r_9 → y = r_9 ∧ Rel FX FT AT FN AN FS AS FP AP FM_6 AM_7) ∧ (¬ 0 ≤ r_9 → y = (-4 : Int32) ∧ Rel FX FT AT FN AN FS AS FP AP FM_6 AM_7))))) ∧ (r_1 = 0 → y = (-1 : Int32) ∧ Rel FX FT AT FN AN FS AS FP AP F A))) := fun y hy => by
    refine m_mach_in hP hM hi ⟨fun _ => ?_, fun q => absurd q (by decide)⟩
    refine m_rowNow hP hM h9 (fun A1 hF1 hr => m_becomes hP hG (hM.fr hF1 (by decide)) hf hr hi (fun F2 hF2 => ?_))
    have hR2 : Rel FX FT AT FN AN FS AS FP AP F2 A1 := Rel.of26 hR hT ((hF1.mo (by decide) (by decide)).tr (hF2.mo (by decide) (by decide)))
    rw [bo_ge hP hG hf hi]
    refine ⟨fun q => ⟨?_, hR2⟩, fun q => ⟨?_, hR2⟩⟩
    · rw [hy, if_pos q, bo, if_pos q]
    · rw [hy, if_neg q]
  refine x_ruleOf hP hG hN hc hi ⟨fun q => x_wants hP hG hN hc hi (ref _ ?_), fun q => ref _ ?_⟩
  · rw [i0, eq_nI (by omega) (by omega), rl_zero] at q
    rw [if_pos (by simpa using q)]
  · rw [i0, eq_nI (by omega) (by omega), rl_zero] at q
    rw [if_neg (by simp [q])]
theorem e_tokens (h : Rel FX FT AT FN AN FS AS FP AP F A) : wp_X6_tokens FX FT AT FD AD FN AN FS AS FP AP (fun r => wp_X7_tokens F A (fun r' F' A' => r = r' ∧ Rel FX FT AT FN AN FS AS FP AP F' A')) := by
  obtain ⟨⟨t, n, v, E, c, last, k, pc, pl, hR⟩, hT⟩ := h
  obtain ⟨⟨hP, hG, hN, hM, hw⟩, ⟨hc, h5, h9⟩, ⟨hl, hx6, h10⟩, ⟨hPa, hMp, hpc, hpl⟩, hS, hMs⟩ := id hR
  have hf : Rw n v (dg v c) := Rw_dg (by obtain ⟨p1, p2, p3, p4, p5, p6, p7, p8, p9⟩ := hP; omega)
  unfold wp_X6_tokens wp_X7_tokens
  rw [h5]
  refine x_whoMay hP hG hN hc (m_rowNow hP hM h9 (fun A1 hF1 hr => m_tokensOf hP hG (hM.fr hF1 (by decide)) hf hr (fun F2 hF2 => ⟨rfl, Rel.of26 hR hT ((hF1.mo (by decide) (by decide)).tr (hF2.mo (by decide) (by decide)))⟩)))
theorem e_legal (h : Rel FX FT AT FN AN FS AS FP AP F A) : wp_X6_legal FX FT AT FD AD FN AN FS AS FP AP (fun r => wp_X7_legal F A (fun r' F' A' => r = r' ∧ Rel FX FT AT FN AN FS AS FP AP F' A')) := by
  obtain ⟨⟨t, n, v, E, c, last, k, pc, pl, hR⟩, hT⟩ := h
  obtain ⟨⟨hP, hG, hN, hM, hw⟩, ⟨hc, h5, h9⟩, ⟨hl, hx6, h10⟩, ⟨hPa, hMp, hpc, hpl⟩, hS, hMs⟩ := id hR
  have hf : Rw n v (dg v c) := Rw_dg (by obtain ⟨p1, p2, p3, p4, p5, p6, p7, p8, p9⟩ := hP; omega)
  unfold wp_X6_legal wp_X7_legal
  rw [h5]
  refine x_isLegal hP hG hN hc ⟨fun q => ?_, fun q => ?_⟩ <;> refine m_rowNow hP hM h9 (fun A1 hF1 hr => m_isLegal hP hG (hM.fr hF1 (by decide)) hf hr (fun F2 hF2 => ?_))
  · exact ⟨fun _ => ⟨rfl, Rel.of26 hR hT ((hF1.mo (by decide) (by decide)).tr (hF2.mo (by decide) (by decide)))⟩, fun q2 => absurd q q2⟩
  · exact ⟨fun q2 => absurd q2 q, fun _ => ⟨rfl, Rel.of26 hR hT ((hF1.mo (by decide) (by decide)).tr (hF2.mo (by decide) (by decide)))⟩⟩
/-- a change of the state, kept -/
theorem Rs.keep {FX' FP' : Nat → Int32} {AP' : Nat → Nat → Int32} {F1 F2 : Nat → Int32} {A1 A2 : Nat → Nat → Int32} {c2 : Nat} {last2 : Option Nat} (h : Rs t n v E c last k pc pl FX FN AN FS AS FP AP F A) (hx5 : FX' 5 = nI c2) (hx6 : FX' 6 = eo (-4) last2) (hl2 : ∀ l, last2 = some l → l < n) (hc2 : c2 < v ^ n) (hPa : Pa (kk k) (kp k pc c) (kp k pl last) FP' AP') (hF1 : Fr [17] [18, 19, 24] F A F1 A1) (hMp : Mp (kk k) (kp k pc c) (kp k pl last) F1 A1) (hF2 : Fr [10] [9, 24] F1 A1 F2 A2) (h10 : F2 10 = eo (-4) last2) (h9 : ∀ i, i < n → A2 9 i = nI (dg v c2 i)) : Rs t n v E c2 last2 (kk k) (kp k pc c) (kp k pl last) FX' FN AN FS AS FP' AP' F2 A2 := by
  obtain ⟨⟨hP, hG, hN, hM, hw⟩, ⟨hc, h5, -⟩, ⟨hl, -, -⟩, ⟨hPa0, hMp0, hpc, hpl⟩, hS, hMs⟩ := h
  refine ⟨⟨hP, hG, hN, (hM.fr hF1 (by decide)).fr hF2 (by decide), by rw [hF2.1 6 (by decide), hF1.1 6 (by decide)]; exact hw⟩, ⟨hc2, hx5, h9⟩, ⟨hl2, hx6, h10⟩, ⟨hPa, ?_, kp_all (P := fun x => x < v ^ n) hPa0.2.1 hpc hc, kp_all (P := fun o => ∀ l, o = some l → l < n) hPa0.2.1 hpl hl⟩, hS, ?_⟩
  · unfold Mp
    rw [hF2.1 17 (by decide), hF2.2 18 (by decide), hF2.2 19 (by decide)]
    exact hMp
  · unfold Ms MsA at hMs ⊢
    rw [hF2.1 23 (by decide), hF2.2 20 (by decide), hF2.2 21 (by decide), hF2.2 22 (by decide), hF1.1 23 (by decide), hF1.2 20 (by decide), hF1.2 21 (by decide), hF1.2 22 (by decide)]
    exact hMs
theorem dg_uN (hv : 0 < v) {s i x j : Nat} (hx : x < v) (hi : i < n) (hj : j < n) : dg v (cd v n (uN (dg v s) i x)) j = if j = i then x else dg v s j := by
  rw [dg_cd n (uN_lt (fun i _ => dg_lt hv) hx) j hj]; rfl
theorem e_hit (x1 x2 : Int32) (h : Rel FX FT AT FN AN FS AS FP AP F A) : wp_X6_hit FX FT AT FD AD FN AN FS AS FP AP x1 x2 (fun r FX' FP' AP' => wp_X7_hit F A x1 x2 (fun r' F' A' => r = r' ∧ Rel FX' FT AT FN AN FS AS FP' AP' F' A')) := by
  have h0 := h
  obtain ⟨⟨t, n, v, E, c, last, k, pc, pl, hR⟩, hT⟩ := h
  obtain ⟨⟨hP, hG, hN, hM, hw⟩, ⟨hc, h5, h9⟩, ⟨hl, hx6, h10⟩, ⟨hPa, hMp, hpc, hpl⟩, hS, hMs⟩ := id hR
  obtain ⟨p1, p2, p3, p4, p5, p6, p7, p8, p9⟩ := id hP
  have hv1 : F 4 - 1 = nI (v - 1) := by rw [hM.2.2.1, show (1 : Int32) = nI 1 from rfl, sub_nI (by omega)]
  unfold wp_X6_hit wp_X7_hit
  rw [hv1]
  refine x_hasMachine hP hN (fun q => ⟨fun _ => m_mach_out hP hM q ⟨fun _ => ⟨rfl, h0⟩, fun q => absurd rfl q⟩, fun q => absurd rfl q⟩) (fun i hi e => ⟨fun q => absurd q (by decide), fun _ => ?_⟩)
  subst e
  refine x_hasValue hP hN (fun q => ⟨fun q => absurd rfl q, fun _ => m_mach_in hP hM hi ⟨fun q => absurd q (by decide), fun _ => m_in_out (by omega) (by rw [show v - 1 + 1 = v by omega]; exact q) ⟨fun q => absurd rfl q, fun _ => ⟨rfl, h0⟩⟩⟩⟩) (fun y hy e => ⟨fun _ => ?_, fun q => absurd q (by decide)⟩)
  subst e
  rw [h5]
  refine x_valueAt hP hN hc hi ?_
  have hd := dg_lt (v := v) (s := c) (i := i) (by omega)
  have e9 : A 9 (ix (nI i)) = nI (dg v c i) := by rw [ix_nI (by omega)]; exact h9 i hi
  rw [e9]
  refine ⟨fun q => x_withValue hP hN hc hi ?_, fun q => m_mach_in hP hM hi ⟨fun q => absurd q (by decide), fun _ => m_in_in (by omega) (by omega) ⟨fun _ => ⟨in_nI (by omega) (by omega), fun q2 => absurd q q2, fun _ => ⟨rfl, h0⟩⟩, fun q => absurd q (by decide)⟩⟩⟩
  unfold wp_X6_change
  rw [h5, hx6]
  refine x_keep hPa (fun FP' AP' hPa' => m_mach_in hP hM hi ⟨fun q => absurd q (by decide), fun _ => m_in_in (by omega) (by omega) ⟨fun _ => ⟨in_nI (by omega) (by omega), fun _ => ?_, fun q2 => absurd q2 q⟩, fun q => absurd q (by decide)⟩⟩)
  refine m_keeps hP hM hc h9 h10 hMp (fun F1 A1 hF1 hMp1 => ⟨in_nI (by omega) (by omega), ?_⟩)
  rintro _ rfl
  have hF2 : Fr [10] [9, 24] F1 A1 F1 (uA A1 9 (upd (A1 9) (ix (nI i)) (nI y))) := Fr.uA (by decide)
  refine ⟨rfl, ⟨t, n, v, E, _, last, _, _, _, hR.keep (uF_same) (by rw [uF_ne (by decide)]; exact hx6) hl (cd_lt n (uN_lt (fun i _ => dg_lt (by omega)) hy)) hPa' hF1 hMp1 hF2 (by rw [hF1.1 10 (by decide)]; exact h10) (fun j hj => ?_)⟩, (hT.fr hF1 (by decide)).fr hF2 (by decide)⟩
  rw [dg_uN (by omega) hy hi hj, uA_same, upd_at, ix_nI (by omega)]
  split
  · rfl
  · rw [hF1.2 9 (by decide)]; exact h9 j hj
theorem e_turn (x1 : Int32) (h : Rel FX FT AT FN AN FS AS FP AP F A) : wp_X6_turn FX FT AT FD AD FN AN FS AS FP AP x1 (fun r FX' FP' AP' => wp_X7_turn F A x1 (fun r' F' A' => r = r' ∧ Rel FX' FT AT FN AN FS AS FP' AP' F' A')) := by
  have h0 := h
  obtain ⟨⟨t, n, v, E, c, last, k, pc, pl, hR⟩, hT⟩ := h
  obtain ⟨⟨hP, hG, hN, hM, hw⟩, ⟨hc, h5, h9⟩, ⟨hl, hx6, h10⟩, ⟨hPa, hMp, hpc, hpl⟩, hS, hMs⟩ := id hR
  obtain ⟨p1, p2, p3, p4, p5, p6, p7, p8, p9⟩ := id hP
  have hv1 := hP.v1
  have hs1 : F 5 - 1 = nI (v ^ n - 1) := by rw [hM.2.2.2.1, show (1 : Int32) = nI 1 from rfl, sub_nI (by omega)]
  unfold wp_X6_turn wp_X7_turn wp_X7_code
  rw [hs1]
  refine x_hasState hP hN (fun q => ⟨fun q => absurd rfl q, fun _ => m_in_out (by omega) (by rw [show v ^ n - 1 + 1 = v ^ n by omega]; exact q) ⟨fun q => absurd rfl q, fun _ => ⟨rfl, h0⟩⟩⟩) (fun y hy e => ⟨fun _ => ?_, fun q => absurd q (by decide)⟩)
  subst e
  rw [h5]
  refine ⟨fun q => ?_, fun q => m_in_in (by omega) (by omega) ⟨fun _ => m_rowNow hP hM h9 (fun A1 hF1 hr => m_codeOf hP (hM.fr hF1 (by decide)) hr ?_), fun q => absurd q (by decide)⟩⟩
  · unfold wp_X6_change
    rw [h5, hx6]
    refine x_keep hPa (fun FP' AP' hPa' => m_in_in (by omega) (by omega) ⟨fun _ => m_rowNow hP hM h9 (fun A1 hF1 hr => m_codeOf hP (hM.fr hF1 (by decide)) hr ?_), fun q => absurd q (by decide)⟩)
    rw [cd_dg hc]
    refine ⟨fun _ => ?_, fun q2 => absurd q2 q⟩
    refine m_keeps hP (hM.fr hF1 (by decide)) hc (fun i hi => by rw [hF1.2 9 (by decide)]; exact h9 i hi) h10 (k := k) (pc := pc) (pl := pl) (last := last) (by unfold Mp; rw [hF1.2 18 (by decide), hF1.2 19 (by decide)]; exact hMp) (fun F2 A2 hF2 hMp2 => ?_)
    have hF12 : Fr [17] [18, 19, 24] F A F2 A2 := (hF1.mo (by decide) (by decide)).tr hF2
    refine m_valuesOf hP (hM.fr hF12 (by decide)) hy (fun A3 hF3 h93 => ?_)
    have hF3' : Fr [10] [9, 24] F2 A2 F2 A3 := hF3.mo (by decide) (by decide)
    exact ⟨rfl, ⟨t, n, v, E, y, last, _, _, _, hR.keep (uF_same) (by rw [uF_ne (by decide)]; exact hx6) hl hy hPa' hF12 hMp2 hF3' (by rw [hF12.1 10 (by decide)]; exact h10) h93⟩, (hT.fr hF12 (by decide)).fr hF3' (by decide)⟩
  · rw [cd_dg hc]
    exact ⟨fun q2 => absurd q q2, fun _ => ⟨rfl, Rel.of26 hR hT (hF1.mo (by decide) (by decide))⟩⟩
end OPS
