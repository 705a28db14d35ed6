section LAY3
variable {FX FT : Nat → Int32} {AT : Nat → Nat → Int32} {FD : Nat → Int32} {AD : Nat → Nat → Int32} {FN : Nat → Int32} {AN : Nat → Nat → Int32} {FS : Nat → Int32} {AS : Nat → Nat → Int32} {FP : Nat → Int32} {AP : Nat → Nat → Int32} {F : Nat → Int32} {A : Nat → Nat → Int32}
theorem e_lay (h : Rel FX FT AT FN AN FS AS FP AP F A) : wp_X6_lay FX FT AT FD AD FN AN FS AS FP AP (fun r FX' _ _ FN' AN' FS' AS' FP' AP' => wp_X7_lay F A (fun r' F' A' => r = r' ∧ Rel FX' FT AT FN' AN' FS' AS' FP' AP' F' A')) := by
  obtain ⟨len, q, hC, hM⟩ := h.2.get
  have hlen := hC.2.1
  have zero : len = 0 → wp_X7_lay F A (fun r' F' A' => (-2 : Int32) = r' ∧ Rel FX FT AT FN AN FS AS FP AP F' A') := fun hz => by
    unfold wp_X7_lay
    exact m_reads (fun F1 A1 hF1 hD => m_rd_zero (hM.fr hF1 (by decide)) hz ⟨fun k => absurd rfl k, fun _ => ⟨fun k => absurd hD.1 k, fun _ => ⟨rfl, h.frT hF1⟩⟩⟩)
  unfold wp_X6_lay wp_X5_length
  rw [hC.1]
  refine ⟨fun c => zero (by rw [i0, eq_nI (by omega) (by omega)] at c; exact c), fun c => ?_⟩
  refine x_reads hC (fun hz => absurd (by rw [hz]; rfl) c) (fun hl hh _ _ => ⟨fun _ => ?_, fun k => absurd k (by decide)⟩) (fun t n v m d FD' AD' hl hG hd hk hle hDC => ⟨fun k => absurd rfl k, fun _ => ?_⟩) (fun t n v m d FD' AD' hl hG hd hk hlt hno => ⟨fun _ => ?_, fun k => absurd k (neg_ne m4_neg (by omega))⟩)
  · unfold wp_X7_lay
    exact m_reads (fun F1 A1 hF1 hD => m_rd_bad (hM.fr hF1 (by decide)) hl hD.1 hh (fun F2 hF2 => ⟨fun _ => ⟨rfl, h.frT (hF1.tr (hF2.mo (by decide) (by decide)))⟩, fun k => absurd k (by decide)⟩))
  · have hP : Par t n v := hG.2.2.2.2.2
    obtain ⟨p1, p2, p3, p4, p5, p6, p7, p8, p9⟩ := id hP
    obtain ⟨hN, hw, hs, hs2, hE⟩ := id hDC
    have run : ∀ Post : Int32 → (Nat → Int32) → (Nat → Nat → Int32) → Prop, (∀ F1 A1, Fr [11, 12, 13, 14] [15, 16] F A F1 A1 → DM F1 A1 t n v d.1 d.2.1 d.2.2 → wp_X7_lay_21 F1 A1 (0 : Int32) Post) → wp_X7_lay F A Post := fun Post hh => by
      unfold wp_X7_lay
      refine m_reads (fun F1 A1 hF1 hD => m_rd_run (hM.fr hF1 (by decide)) hl hD hG hd hk (fun _ F2 A2 hF2 hDM => ⟨fun k => absurd rfl k, fun _ => ⟨fun _ => hh F2 A2 (hF1.tr hF2) hDM, fun k => absurd k ?_⟩⟩) (fun c => absurd c (by omega)) (fun c => absurd c (by omega)))
      rw [hDM.1, i0, eq_nI (by omega) (by omega)]; omega
    refine x_colours hP hN (fun hc => ⟨fun _ => ?_, fun k => absurd k (by decide)⟩) (fun hc => ⟨fun k => absurd rfl k, fun _ => run _ (fun F1 A1 hF1 hDM => m_lay21 hP hDM (fun hc2 => absurd hc2 hc) (fun _ => ⟨rfl, h.frT hF1⟩))⟩)
    unfold wp_X6_takeDraft wp_X2_clear wp_X4_forget
    refine x_copyFrom hP hDC (fun FN' AN' hN' hw' hs' => run _ (fun F1 A1 hF1 hDM => m_lay21 hP hDM (fun _ => ?_) (fun hc2 => absurd hc hc2)))
    refine m_lay86 hP hDM (fun F2 A2 hF2 hM2 h6 h9 h10 h17 h23 => ⟨hN'.2.2.2.1, ⟨t, n, v, d.2.1, d.2.2, none, 0, fun _ => 0, fun _ => none, ⟨hP, ⟨hE.1, hE.2, hc⟩, hN', hM2, by rw [hw', h6]⟩, ⟨hs2, by rw [uF_ne (by decide), uF_same, hs'], h9⟩, ⟨fun l e => (by cases e), uF_same, h10⟩, ⟨⟨uF_same, by omega, fun i hi => absurd hi (Nat.not_lt_zero i)⟩, ⟨h17, by omega, fun i hi => absurd hi (Nat.not_lt_zero i)⟩, fun i hi => absurd hi (Nat.not_lt_zero i), fun i hi => absurd hi (Nat.not_lt_zero i)⟩, Or.inl uF_same, Or.inl h23⟩, (h.2.fr hF1 (by decide)).fr hF2 (by decide)⟩)
  · unfold wp_X7_lay
    exact m_reads (fun F1 A1 hF1 hD => m_rd_run (hM.fr hF1 (by decide)) hl hD hG hd hk (fun c => absurd c (by omega)) (fun _ F2 A2 hF2 => ⟨fun _ => ⟨rfl, h.frT (hF1.tr hF2)⟩, fun k => absurd k (neg_ne m4_neg (by omega))⟩) (fun _ => hno))
end LAY3
