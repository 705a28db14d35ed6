/-! the items after the first -/
noncomputable def dsq (len : Nat) (q : Nat → Nat) (t n v : Nat) : Nat → Option (Nat × (Nat → Nat → Bool) × Nat)
  | 0 => some (0, fun _ _ => false, 0)
  | k + 1 => match dsq len q t n v k with
    | none => none
    | some d => @dite _ (∃ d' : Nat × (Nat → Nat → Bool) × Nat, ItS len q (4 * k + 5) t n v d.1 d.2.1 d.2.2 d'.1 d'.2.1 d'.2.2) (Classical.propDecidable _) (fun h => some (Classical.choose h)) (fun _ => none)
theorem ItS_det {len : Nat} {q : Nat → Nat} {x t n v w : Nat} {E : Nat → Nat → Bool} {s w1 : Nat} {E1 : Nat → Nat → Bool} {s1 w2 : Nat} {E2 : Nat → Nat → Bool} {s2 : Nat} (h1 : ItS len q x t n v w E s w1 E1 s1) (h2 : ItS len q x t n v w E s w2 E2 s2) : (w1, E1, s1) = (w2, E2, s2) := by
  rcases h1.2 with ⟨c1, i, j, ⟨a1, a2, -⟩, rfl, rfl, rfl⟩ | ⟨c1, i, j, ⟨a1, a2, -⟩, rfl, rfl, rfl⟩
  · rcases h2.2 with ⟨c2, i', j', ⟨b1, b2, -⟩, rfl, rfl, rfl⟩ | ⟨c2, -⟩
    · have g1 := Option.some.inj (a1.symm.trans b1)
      have g2 := Option.some.inj (a2.symm.trans b2)
      subst g1; subst g2; rfl
    · omega
  · rcases h2.2 with ⟨c2, -⟩ | ⟨c2, i', j', ⟨b1, b2, -⟩, rfl, rfl, rfl⟩
    · omega
    · have g1 := Option.some.inj (a1.symm.trans b1)
      have g2 := Option.some.inj (a2.symm.trans b2)
      subst g1; subst g2; rfl
section READS
variable {len : Nat} {q : Nat → Nat} {FT : Nat → Int32} {AT : Nat → Nat → Int32} {FD : Nat → Int32} {AD : Nat → Nat → Int32} {F : Nat → Int32} {A : Nat → Nat → Int32} {t n v : Nat}
theorem dsq_next {k : Nat} {d : Nat × (Nat → Nat → Bool) × Nat} {w' : Nat} {E' : Nat → Nat → Bool} {s' : Nat} (hd : dsq len q t n v k = some d) (h : ItS len q (4 * k + 5) t n v d.1 d.2.1 d.2.2 w' E' s') : dsq len q t n v (k + 1) = some (w', E', s') := by
  rw [dsq, hd]
  have hex : ∃ d' : Nat × (Nat → Nat → Bool) × Nat, ItS len q (4 * k + 5) t n v d.1 d.2.1 d.2.2 d'.1 d'.2.1 d'.2.2 := ⟨(w', E', s'), h⟩
  dsimp only
  rw [dif_pos hex]
  exact congrArg some (ItS_det (Classical.choose_spec hex) h)
theorem dsq_stop {k : Nat} {d : Nat × (Nat → Nat → Bool) × Nat} (hd : dsq len q t n v k = some d) (h : ∀ w' E' s', ¬ ItS len q (4 * k + 5) t n v d.1 d.2.1 d.2.2 w' E' s') : dsq len q t n v (k + 1) = none := by
  rw [dsq, hd]
  dsimp only
  exact dif_neg (fun ⟨d', h'⟩ => h _ _ _ h')
theorem dsq_has {k : Nat} {d' : Nat × (Nat → Nat → Bool) × Nat} (h : dsq len q t n v (k + 1) = some d') : ∃ d, dsq len q t n v k = some d ∧ ItS len q (4 * k + 5) t n v d.1 d.2.1 d.2.2 d'.1 d'.2.1 d'.2.2 := by
  cases hd : dsq len q t n v k with
  | none => rw [dsq, hd] at h; cases h
  | some d =>
    refine ⟨d, rfl, ?_⟩
    by_cases hex : ∃ w' E' s', ItS len q (4 * k + 5) t n v d.1 d.2.1 d.2.2 w' E' s'
    · obtain ⟨w', E', s', hh⟩ := hex
      have := (dsq_next hd hh).symm.trans h
      have e := Option.some.inj this
      subst e; exact hh
    · have := dsq_stop hd (fun w' E' s' hh => hex ⟨w', E', s', hh⟩)
      rw [this] at h; cases h
theorem dsq_le {m : Nat} {d : Nat × (Nat → Nat → Bool) × Nat} (h : dsq len q t n v m = some d) : ∀ k, k ≤ m → ∃ d', dsq len q t n v k = some d' := by
  induction m generalizing d with
  | zero => intro k hk; have : k = 0 := by omega
            subst this; exact ⟨d, h⟩
  | succ m ih =>
    intro k hk
    by_cases e : k = m + 1
    · subst e; exact ⟨d, h⟩
    · obtain ⟨d1, h1, -⟩ := dsq_has h
      exact ih h1 k (by omega)
theorem x_reads {Post : Int32 → (Nat → Int32) → (Nat → Nat → Int32) → Prop} (hT : TxC len q FT AT)
    (hz : len = 0 → Post (-4) FD AD)
    (hg : 0 < len → (∀ t n v, ¬ StG len q 0 t n v) → ∀ F' A', Post (nI 0) F' A')
    (he : ∀ t n v m d F' A', 0 < len → StG len q 0 t n v → dsq len q t n v m = some d → (∀ k, k < m → 4 * k + 5 < len) → len ≤ 4 * m + 5 → DC F' A' t n v d.1 d.2.1 d.2.2 → Post (-4) F' A')
    (hf : ∀ t n v m d F' A', 0 < len → StG len q 0 t n v → dsq len q t n v m = some d → (∀ k, k < m → 4 * k + 5 < len) → 4 * m + 5 < len → dsq len q t n v (m + 1) = none → Post (nI (4 * m + 5)) F' A') : wp_X5_readInto FT AT FD AD Post := by
  have hlen := hT.2.1
  have hle : ∀ i, ltr len q i ≤ 126 := fun i => ltr_le (fun i hi => (hT.2.2 i hi).2)
  unfold wp_X5_readInto wp_X5_readInto_4
  refine Lp_of (fun s => s = (nI 0, nI 0, FD, AD) ∨ ∃ t n v m d F' A', 0 < len ∧ StG len q 0 t n v ∧ dsq len q t n v m = some d ∧ (∀ k, k < m → 4 * k + 5 < len) ∧ DC F' A' t n v d.1 d.2.1 d.2.2 ∧ s = (nI (4 * m + 5), nI (m + 1), F', A')) (fun s => 200 - ix s.2.1) (Or.inl rfl) ?_
  rintro _ (rfl | ⟨t, n, v, m, d, F', A', hl0, hG, hd, hk, hD, rfl⟩)
  · dsimp only
    unfold st_X5_readInto_4 wp_X5_readInto_46
    rw [hT.1, le_nI (by omega) (by omega)]
    refine ⟨fun c => absurd c (by decide), fun _ => ⟨fun c => hz (by omega), fun c => ?_⟩⟩
    refine x_item0 hT (fun t n v F' A' hG hD => ⟨fun _ => x_letterAt (i := 0) hT (by omega) ?_, fun k => absurd k (by decide)⟩) (fun hh F' A' => ⟨fun k => absurd rfl k, fun _ => hg (by omega) hh F' A'⟩)
    rw [hG.1]
    exact ⟨fun k => absurd rfl k, fun _ => ⟨Or.inr ⟨t, n, v, 0, _, F', A', by omega, hG, rfl, fun k hk => absurd hk (Nat.not_lt_zero k), hD, rfl⟩, mu_lt (n := 200) (j := 0) (by omega) (by omega)⟩⟩
  · dsimp only
    have hm : m ≤ 50 := by
      cases m with
      | zero => omega
      | succ m => have := hk m (by omega); omega
    have hP : Par t n v := hG.2.2.2.2.2
    unfold st_X5_readInto_4 wp_X5_readInto_46
    rw [hT.1, show (200 : Int32) = nI 200 from rfl, le_nI (by omega) (by omega), le_nI (by omega) (by omega)]
    refine ⟨fun c => absurd c (by omega), fun _ => ⟨fun c => he t n v m d F' A' hl0 hG hd hk c hD, fun c => ?_⟩⟩
    have hl := hle (4 * m + 5)
    refine x_item hT hP hD (by omega) (by omega) (fun w' E' s' F2 A2 hI hD2 => ⟨fun _ => x_letterAt hT (by omega) ?_, fun k => absurd k (by decide)⟩) (fun hh F2 A2 => ⟨fun k => absurd rfl k, fun _ => hf t n v m d F2 A2 hl0 hG hd hk (by omega) (dsq_stop hd hh)⟩)
    rw [show (103 : Int32) = nI 103 from rfl, eq_nI (by omega) (by omega)]
    refine ⟨fun _ => ⟨Or.inr ⟨t, n, v, m + 1, (w', E', s'), F2, A2, hl0, hG, dsq_next hd hI, fun k hk2 => ?_, hD2, ?_⟩, ?_⟩, fun c2 => ?_⟩
    · by_cases e : k = m
      · omega
      · exact hk k (by omega)
    · rw [show (4 : Int32) = nI 4 from rfl, nI_add, nI_s, show 4 * m + 5 + 4 = 4 * (m + 1) + 5 by omega]
    · simp (disch := omega) only [nI_s, ix_nI]; omega
    · rcases hI.2 with ⟨g, -⟩ | ⟨g, -⟩ <;> omega
end READS
