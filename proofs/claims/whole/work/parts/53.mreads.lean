section MREADS
variable {len : Nat} {q : Nat → Nat} {F : Nat → Int32} {A : Nat → Nat → Int32} {t n v : Nat}
/-- nothing told yet -/
def D0 (F : Nat → Int32) (A : Nat → Nat → Int32) : Prop := F 11 = 0 ∧ F 14 = nI 0 ∧ (∀ i, i < 36 → A 15 i = nI 0) ∧ (∀ i, i < 6 → A 16 i = nI 0)
theorem TxM.fr {F' : Nat → Int32} {A' : Nat → Nat → Int32} {fs as : List Nat} (h : TxM len q F A) (hF : Fr fs as F A F' A') (hf : 0 ∉ fs ∧ 1 ∉ as) : TxM len q F' A' := by
  unfold TxM at h ⊢
  rw [hF.1 0 hf.1, hF.2 1 hf.2]
  exact h
theorem m_rd_zero {Post : Int32 → (Nat → Int32) → (Nat → Nat → Int32) → Prop} (hT : TxM len q F A) (hl : len = 0) (h : Post (-4) F A) : wp_X7_reads_54 F A (0 : Int32) Post := by
  unfold wp_X7_reads_54
  refine Lp_of (fun s => s = ((0 : Int32), F, A)) (fun _ => 0) rfl ?_
  rintro _ rfl
  dsimp only
  unfold st_X7_reads_54
  rw [hT.1, hl]
  exact ⟨fun _ => h, fun k => absurd (show nI 0 ≤ (0 : Int32) by decide) k⟩
theorem m_rd_bad {Post : Int32 → (Nat → Int32) → (Nat → Nat → Int32) → Prop} (hT : TxM len q F A) (hl : 0 < len) (h11 : F 11 = 0) (hh : ∀ t n v, ¬ StG len q 0 t n v) (h : ∀ F', Fr [11, 12, 13] [] F A F' A → Post (nI 0) F' A) : wp_X7_reads_54 F A (0 : Int32) Post := by
  have hlen := hT.2.1
  unfold wp_X7_reads_54
  refine Lp_of (fun s => s = (nI 0, F, A)) (fun _ => 0) rfl ?_
  rintro _ rfl
  dsimp only
  unfold st_X7_reads_54
  rw [hT.1, le_nI (by omega) (by omega), ix_nI (by omega), (hT.2.2 0 hl).1]
  refine ⟨fun k => absurd k (by omega), fun _ => ⟨in_nI (by omega) (by omega), ?_⟩⟩
  have e0 : ltr len q 0 = q 0 := if_pos hl
  rw [← e0]
  refine m_item0 hT h11 (fun t n v c e1 e2 e3 hP => ⟨fun k => absurd k (by decide), fun _ => m_letterAt (i := 4) (hT.fr (((Fr.uF (by decide) : Fr [11, 12, 13] [] F A (uF F 11 (nI t)) A).tr (Fr.uF (by decide))).tr (Fr.uF (by decide))) (by decide)) (by omega) ⟨fun k => ?_, fun k => ?_⟩⟩) (fun _ F' hF => ⟨fun _ => h F' hF, fun k => absurd m1_neg k⟩)
  · have l4 : ltr len q 4 ≤ 126 := ltr_le (fun i hi => (hT.2.2 i hi).2)
    rw [show (59 : Int32) = nI 59 from rfl, eq_nI (by omega) (by omega)] at k
    exact absurd ⟨c, e1, e2, e3, k, hP⟩ (hh t n v)
  · exact h _ (((Fr.uF (by decide) : Fr [11, 12, 13] [] F A (uF F 11 (nI t)) A).tr (Fr.uF (by decide))).tr (Fr.uF (by decide)))
theorem m_rd_run {Post : Int32 → (Nat → Int32) → (Nat → Nat → Int32) → Prop} (hT : TxM len q F A) (hl : 0 < len) (h0 : D0 F A) (hG : StG len q 0 t n v) {m : Nat} {d : Nat × (Nat → Nat → Bool) × Nat} (hd : dsq len q t n v m = some d) (hk : ∀ k, k < m → 4 * k + 5 < len)
    (hend : len ≤ 4 * m + 5 → ∀ F' A', Fr [11, 12, 13, 14] [15, 16] F A F' A' → DM F' A' t n v d.1 d.2.1 d.2.2 → Post (-4) F' A')
    (hfail : 4 * m + 5 < len → ∀ F' A', Fr [11, 12, 13, 14] [15, 16] F A F' A' → Post (nI (4 * m + 5)) F' A')
    (hcase : 4 * m + 5 < len → dsq len q t n v (m + 1) = none) : wp_X7_reads_54 F A (0 : Int32) Post := by
  have hlen := hT.2.1
  obtain ⟨h11, h14, h15, h16⟩ := id h0
  have hP : Par t n v := hG.2.2.2.2.2
  obtain ⟨p1, p2, p3, p4, p5, p6, p7, p8, p9⟩ := id hP
  have hm : m ≤ 50 := by
    cases m with
    | zero => omega
    | succ m => have := hk m (by omega); omega
  have hle : ∀ i, ltr len q i ≤ 126 := fun i => ltr_le (fun i hi => (hT.2.2 i hi).2)
  unfold wp_X7_reads_54
  refine Lp_of (fun s => s = (nI 0, F, A) ∨ ∃ k dk F' A', k ≤ m ∧ dsq len q t n v k = some dk ∧ s = (nI (4 * k + 5), F', A') ∧ Fr [11, 12, 13, 14] [15, 16] F A F' A' ∧ DM F' A' t n v dk.1 dk.2.1 dk.2.2) (fun s => 1000 - ix s.1) (Or.inl rfl) ?_
  rintro _ (rfl | ⟨k, dk, F1, A1, hkm, hdk, rfl, hF1, hD1⟩)
  · dsimp only
    unfold st_X7_reads_54
    rw [hT.1, le_nI (by omega) (by omega), ix_nI (by omega), (hT.2.2 0 hl).1]
    refine ⟨fun k => absurd k (by omega), fun _ => ⟨in_nI (by omega) (by omega), ?_⟩⟩
    have e0 : ltr len q 0 = q 0 := if_pos hl
    rw [← e0]
    refine m_item0 hT h11 (fun t' n' v' c e1 e2 e3 hP' => ?_) (fun hh F' hF => absurd hP (hh t n v hG.1 hG.2.1 hG.2.2.1 hG.2.2.2.1))
    have g1 := Option.some.inj (e1.symm.trans hG.2.1)
    have g2 := Option.some.inj (e2.symm.trans hG.2.2.1)
    have g3 := Option.some.inj (e3.symm.trans hG.2.2.2.1)
    subst g1; subst g2; subst g3
    have hF : Fr [11, 12, 13, 14] [15, 16] F A (uF (uF (uF F 11 (nI t')) 12 (nI n')) 13 (nI v')) A := ((Fr.uF (by decide) : Fr [11, 12, 13, 14] [15, 16] F A (uF F 11 (nI t')) A).tr (Fr.uF (by decide))).tr (Fr.uF (by decide))
    refine ⟨fun k => absurd k (by decide), fun _ => m_letterAt (i := 4) (hT.fr hF (by decide)) (by omega) ?_⟩
    rw [hG.2.2.2.2.1]
    refine ⟨fun _ => ⟨Or.inr ⟨0, _, _, _, Nat.zero_le m, rfl, rfl, hF, ⟨?_, ?_, ?_, ?_, fun a b ha hb => ?_, fun i hi => ?_⟩⟩, ?_⟩, fun k => absurd rfl k⟩
    · rw [uF_ne (by decide), uF_ne (by decide), uF_same]
    · rw [uF_ne (by decide), uF_same]
    · rw [uF_same]
    · rw [uF_ne (by decide), uF_ne (by decide), uF_ne (by decide)]; exact h14
    · rw [h15 _ (by omega)]; rfl
    · rw [h16 _ (by omega), dg_zero]
    · show 1000 - ix (nI 4 + nI 1) < 1000 - ix (nI 0)
      rw [nI_add, ix_nI (by omega), ix_nI (by omega)]; omega
  · dsimp only
    have hT1 := hT.fr hF1 (by decide)
    unfold st_X7_reads_54
    rw [hT1.1, le_nI (by omega) (by omega)]
    refine ⟨fun c => ?_, fun c => ⟨in_nI (by omega) (by omega), ?_⟩⟩
    · have e : k = m := by
        by_cases e : k = m
        · exact e
        · have := hk k (by omega); omega
      subst e
      have e2 := Option.some.inj (hdk.symm.trans hd)
      subst e2
      exact hend c F1 A1 hF1 hD1
    · rw [ix_nI (by omega), (hT1.2.2 (4 * k + 5) (by omega)).1, nI_s]
      have e0 : ltr len q (4 * k + 5) = q (4 * k + 5) := if_pos (by omega)
      rw [← e0]
      have l3 := hle (4 * k + 5 + 3)
      have fail : ∀ F' A', Fr [11, 12, 13, 14] [15, 16] F A F' A' → (∀ w' E' s', ¬ ItS len q (4 * k + 5) t n v dk.1 dk.2.1 dk.2.2 w' E' s') → Post (nI (4 * k + 5)) F' A' := fun F' A' hF' hh => by
        have e : k = m := by
          by_cases e : k = m
          · exact e
          · obtain ⟨d', hd'⟩ := dsq_le hd (k + 1) (by omega)
            rw [dsq_stop hdk hh] at hd'; cases hd'
        subst e
        exact hfail (by omega) F' A' hF'
      refine m_item hT1 hP hD1 (by omega) (fun w' E' s' F2 A2 hI hD2 hF2 => ?_) (fun hh => ⟨fun _ => fail F1 A1 hF1 (fun w' E' s' g => hh w' E' s' g.2), fun k => absurd m1_neg k⟩)
      have hF12 : Fr [11, 12, 13, 14] [15, 16] F A F2 A2 := hF1.tr (hF2.mo (by decide) (by decide))
      refine ⟨fun c2 => absurd c2 (by rw [i0, lt_nI (by omega) (by omega)]; omega), fun _ => m_letterAt (hT.fr hF12 (by decide)) (by omega) ?_⟩
      rw [show (59 : Int32) = nI 59 from rfl, eq_nI (by omega) (by omega)]
      refine ⟨fun c2 => ⟨Or.inr ⟨k + 1, (w', E', s'), F2, A2, ?_, dsq_next hdk ⟨c2, hI⟩, ?_, hF12, hD2⟩, ?_⟩, fun c2 => fail F2 A2 hF12 (fun _ _ _ g => c2 g.1)⟩
      · by_cases e : k = m
        · subst e
          have := hcase (by omega)
          rw [dsq_next hdk ⟨c2, hI⟩] at this; cases this
        · omega
      · rw [nI_s, show 4 * k + 5 + 3 + 1 = 4 * (k + 1) + 5 by omega]
      · simp (disch := omega) only [nI_s, ix_nI]; omega
end MREADS
