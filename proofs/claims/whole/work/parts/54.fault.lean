section FAULT
variable {FX FT : Nat → Int32} {AT : Nat → Nat → Int32} {FD : Nat → Int32} {AD : Nat → Nat → Int32} {FN : Nat → Int32} {AN : Nat → Nat → Int32} {FS : Nat → Int32} {AS : Nat → Nat → Int32} {FP : Nat → Int32} {AP : Nat → Nat → Int32} {F : Nat → Int32} {A : Nat → Nat → Int32} {len : Nat} {q : Nat → Nat}
theorem m_reads {Post : Int32 → (Nat → Int32) → (Nat → Nat → Int32) → Prop} (h : ∀ F1 A1, Fr [11, 12, 13, 14] [15, 16] F A F1 A1 → D0 F1 A1 → wp_X7_reads_54 F1 A1 (0 : Int32) Post) : wp_X7_reads F A Post := by
  unfold wp_X7_reads
  generalize hF0 : uF (uF F 11 (0 : Int32)) 14 (0 : Int32) = F0
  have f11 : F0 11 = 0 := by rw [← hF0, uF_ne (by decide), uF_same]
  have f14 : F0 14 = nI 0 := by rw [← hF0, uF_same]; rfl
  have hFr : Fr [11, 12, 13, 14] [15, 16] F A F0 A := by
    rw [← hF0]
    exact (Fr.uF (by decide) : Fr [11, 12, 13, 14] [15, 16] F A (uF F 11 (0 : Int32)) A).tr (Fr.uF (by decide))
  unfold wp_X7_reads_12
  rw [i0]
  refine Lp_of (fun s => ∃ i A1, i ≤ 36 ∧ s = (nI i, F0, A1) ∧ Fr [11, 12, 13, 14] [15, 16] F A F0 A1 ∧ ∀ j, j < i → A1 15 j = nI 0) (fun s => 36 - ix s.1) ⟨0, A, by omega, rfl, hFr, fun j hj => absurd hj (Nat.not_lt_zero j)⟩ ?_
  rintro _ ⟨i, A1, hi, rfl, hF1, h15⟩
  dsimp only
  unfold st_X7_reads_12
  rw [show (36 : Int32) = nI 36 from rfl, le_nI (by omega) (by omega)]
  refine ⟨fun c => ?_, fun c => ⟨in_nI (by omega) (by omega), ?_⟩⟩
  · unfold wp_X7_reads_33
    rw [i0]
    refine Lp_of (fun s => ∃ k A2, k ≤ 6 ∧ s = (nI k, F0, A2) ∧ Fr [11, 12, 13, 14] [15, 16] F A F0 A2 ∧ (∀ j, j < 36 → A2 15 j = nI 0) ∧ ∀ j, j < k → A2 16 j = nI 0) (fun s => 6 - ix s.1) ⟨0, A1, by omega, rfl, hF1, fun j hj => h15 j (by omega), fun j hj => absurd hj (Nat.not_lt_zero j)⟩ ?_
    rintro _ ⟨k, A2, hk, rfl, hF2, g15, g16⟩
    dsimp only
    unfold st_X7_reads_33
    rw [show (6 : Int32) = nI 6 from rfl, le_nI (by omega) (by omega)]
    refine ⟨fun c2 => h F0 A2 hF2 ⟨f11, f14, g15, fun j hj => g16 j (by omega)⟩, fun c2 => ⟨in_nI (by omega) (by omega), ?_⟩⟩
    rintro _ rfl
    refine ⟨⟨k + 1, _, by omega, by rw [nI_s], hF2.tr (Fr.uA (by decide)), fun j hj => by rw [uA_ne (by decide)]; exact g15 j hj, fun j hj => ?_⟩, mu_lt (by omega) (by omega)⟩
    rw [uA_same, upd_at, ix_nI (by omega)]
    split
    · rfl
    · exact g16 j (by omega)
  · rintro _ rfl
    refine ⟨⟨i + 1, _, by omega, by rw [nI_s], hF1.tr (Fr.uA (by decide)), fun j hj => ?_⟩, mu_lt (by omega) (by omega)⟩
    rw [uA_same, upd_at, ix_nI (by omega)]
    split
    · rfl
    · exact h15 j (by omega)
theorem Ms.frT {F' : Nat → Int32} {A' : Nat → Nat → Int32} {t n v : Nat} {E : Nat → Nat → Bool} (h : Ms F A t n v E) (hF : Fr [11, 12, 13, 14] [15, 16] F A F' A') : Ms F' A' t n v E := by
  unfold Ms MsA at h ⊢
  rw [hF.1 23 (by decide), hF.2 20 (by decide), hF.2 21 (by decide), hF.2 22 (by decide)]
  exact h
theorem Rel.frT {F' : Nat → Int32} {A' : Nat → Nat → Int32} (h : Rel FX FT AT FN AN FS AS FP AP F A) (hF : Fr [11, 12, 13, 14] [15, 16] F A F' A') : Rel FX FT AT FN AN FS AS FP AP F' A' := by
  obtain ⟨⟨t, n, v, E, c, last, k, pc, pl, hR⟩, hT⟩ := h
  exact ⟨⟨t, n, v, E, c, last, k, pc, pl, hR.fr hF (hR.2.2.2.2.2.frT hF) (by decide) (by decide)⟩, hT.fr hF (by decide)⟩
theorem e_fault (h : Rel FX FT AT FN AN FS AS FP AP F A) : wp_X6_fault FX FT AT FD AD FN AN FS AS FP AP (fun r _ _ => wp_X7_fault F A (fun r' F' A' => r = r' ∧ Rel FX FT AT FN AN FS AS FP AP F' A')) := by
  obtain ⟨len, q, hC, hM⟩ := h.2.get
  unfold wp_X6_fault wp_X7_fault
  refine x_reads hC (fun hz => m_reads (fun F1 A1 hF1 hD => m_rd_zero (hM.fr hF1 (by decide)) hz ⟨rfl, h.frT hF1⟩)) (fun hl hh _ _ => m_reads (fun F1 A1 hF1 hD => m_rd_bad (hM.fr hF1 (by decide)) hl hD.1 hh (fun F2 hF2 => ⟨rfl, h.frT (hF1.tr (hF2.mo (by decide) (by decide)))⟩))) (fun t n v m d F' A' hl hG hd hk hle _ => m_reads (fun F1 A1 hF1 hD => ?_)) (fun t n v m d F' A' hl hG hd hk hlt hno => m_reads (fun F1 A1 hF1 hD => ?_))
  · exact m_rd_run (hM.fr hF1 (by decide)) hl hD hG hd hk (fun _ F2 A2 hF2 _ => ⟨rfl, h.frT (hF1.tr hF2)⟩) (fun c => absurd c (by omega)) (fun c => absurd c (by omega))
  · exact m_rd_run (hM.fr hF1 (by decide)) hl hD hG hd hk (fun c => absurd c (by omega)) (fun _ F2 A2 hF2 => ⟨rfl, h.frT (hF1.tr hF2)⟩) (fun _ => hno)
end FAULT
