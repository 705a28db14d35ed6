/-! one item on the reference's side -/
section ITEM2
variable {len : Nat} {q : Nat → Nat} {F : Nat → Int32} {A : Nat → Nat → Int32} {t n v w : Nat} {E : Nat → Nat → Bool} {s : Nat}
theorem m_item0 {Post : Int32 → (Nat → Int32) → (Nat → Nat → Int32) → Prop} (hT : TxM len q F A) (h11 : F 11 = 0)
    (h1 : ∀ t n v, ltr len q 0 = 103 → fg (ltr len q 1) = some t → fg (ltr len q 2) = some n → fg (ltr len q 3) = some v → Par t n v → Post (nI 4) (uF (uF (uF F 11 (nI t)) 12 (nI n)) 13 (nI v)) A)
    (h0 : (∀ t n v, ltr len q 0 = 103 → fg (ltr len q 1) = some t → fg (ltr len q 2) = some n → fg (ltr len q 3) = some v → ¬ Par t n v) → ∀ F', Fr [11, 12, 13] [] F A F' A → Post (-1) F' A) : wp_X7_readsItem F A (nI (ltr len q 0)) (nI 1) Post := by
  have l0 : ltr len q 0 ≤ 126 := ltr_le (fun i hi => (hT.2.2 i hi).2)
  unfold wp_X7_readsItem
  rw [show (nI (ltr len q 0) = (103 : Int32)) = (ltr len q 0 = 103) from eq_nI (b := 103) (by omega) (by omega)]
  refine ⟨fun c => ⟨fun k => absurd h11 k, fun _ => h0 (fun _ _ _ e => absurd e c) F Fr.rf⟩, fun c => ?_⟩
  exact m_readsNet (x := 1) hT h11 (by omega) (fun t n v e1 e2 e3 hP => ⟨fun k => absurd k (by decide), fun _ => h1 t n v c e1 e2 e3 hP⟩) (fun hh F' hF => ⟨fun _ => h0 (fun t n v _ e1 e2 e3 => hh t n v e1 e2 e3) F' hF, fun k => absurd rfl k⟩)
theorem m_item {Post : Int32 → (Nat → Int32) → (Nat → Nat → Int32) → Prop} (hT : TxM len q F A) (hP : Par t n v) (hD : DM F A t n v w E s) {x : Nat} (hx : x ≤ 200)
    (h1 : ∀ w' E' s' F' A', It0 len q x t n v w E s w' E' s' → DM F' A' t n v w' E' s' → Fr [14] [15, 16] F A F' A' → Post (nI (x + 3)) F' A')
    (h0 : (∀ w' E' s', ¬ It0 len q x t n v w E s w' E' s') → Post (-1) F A) : wp_X7_readsItem F A (nI (ltr len q x)) (nI (x + 1)) Post := by
  obtain ⟨p1, p2, p3, p4, p5, p6, p7, p8, p9⟩ := id hP
  obtain ⟨d1, d2, d3, d4, d5, d6⟩ := id hD
  have l0 : ltr len q x ≤ 126 := ltr_le (fun i hi => (hT.2.2 i hi).2)
  have fl1 : ∀ k, fg (ltr len q (x + 1)) = some k → k ≤ 9 := fun k e => fg_le e
  have fl2 : ∀ k, fg (ltr len q (x + 2)) = some k → k ≤ 9 := fun k e => fg_le e
  have ht0 : ¬ F 11 = 0 := by rw [d1, i0, eq_nI (by omega) (by omega)]; omega
  have ht1 : (F 11 = (1 : Int32)) = (t = 1) := by rw [d1]; exact eq_nI (b := 1) (by omega) (by omega)
  have en : F 12 - (1 : Int32) = nI (n - 1) := by rw [d2, show (1 : Int32) = nI 1 from rfl, sub_nI (by omega)]
  have ev : F 13 - (1 : Int32) = nI (v - 1) := by rw [d3, show (1 : Int32) = nI 1 from rfl, sub_nI (by omega)]
  have e2 : nI (x + 1) + (2 : Int32) = nI (x + 3) := by rw [show (2 : Int32) = nI 2 from rfl, nI_add]
  unfold wp_X7_readsItem
  rw [show (nI (ltr len q x) = (103 : Int32)) = (ltr len q x = 103) from eq_nI (b := 103) (by omega) (by omega), show (nI (ltr len q x) = (101 : Int32)) = (ltr len q x = 101) from eq_nI (b := 101) (by omega) (by omega), show (nI (ltr len q x) = (120 : Int32)) = (ltr len q x = 120) from eq_nI (b := 120) (by omega) (by omega), ht1, en, ev, e2, nI_s]
  refine ⟨fun c => ⟨fun _ => m_figure hT (by omega) (m_figure (i := x + 2) hT (by omega) ⟨fun c1 => ⟨fun c2 => h0 (fun w' E' s' g => ?_), fun c2 => ?_⟩, fun c1 => ?_⟩), fun k => absurd k ht0⟩, fun c => ?_⟩
  · rcases g with g | g
    · exact c1 g.1
    · exact c2 g.1
  · refine m_isInO (a := 0) fl1 (by omega) (by omega) (fun hh => ⟨fun _ => h0 (fun w' E' s' g => ?_), fun k => absurd rfl k⟩) (fun i ei _ hi => ⟨fun k => absurd k (by decide), fun _ => ?_⟩)
    · rcases g with ⟨g, -⟩ | ⟨-, i, y, ⟨e1, e3, hi, hy⟩, -⟩
      · exact c1 g
      · exact hh i e1 ⟨by omega, by omega⟩
    refine m_isInO (a := 0) fl2 (by omega) (by omega) (fun hh => ⟨fun k => absurd rfl k, fun _ => h0 (fun w' E' s' g => ?_)⟩) (fun y ey _ hy => ⟨fun _ => ?_, fun k => absurd k (by decide)⟩)
    · rcases g with ⟨g, -⟩ | ⟨-, i, y, ⟨e1, e3, hi, hy⟩, -⟩
      · exact c1 g
      · exact hh y e3 ⟨by omega, by omega⟩
    rw [ei, ey]
    simp only [eo]
    refine ⟨in_nI (by omega) (by omega), ?_⟩
    rintro _ rfl
    refine h1 w E (cd v n (uN (dg v s) i y)) _ _ (Or.inr ⟨c2, i, y, ⟨ei, ey, by omega, by omega⟩, rfl, rfl, rfl⟩) ⟨d1, d2, d3, d4, fun a b ha hb => by rw [uA_ne (by decide)]; exact d5 a b ha hb, fun j hj => ?_⟩ (Fr.uA (by decide))
    rw [dg_uN (by omega) (by omega) (by omega) hj, uA_same, upd_at, ix_nI (by omega)]
    split
    · rfl
    · exact d6 j hj
  · refine ⟨fun c2 => h0 (fun w' E' s' g => ?_), fun c2 => ?_⟩
    · rcases g with ⟨-, i, j, ⟨e1, e3, ht, hi, hj, hij, hf⟩, -⟩ | ⟨g, -⟩
      · exact ht c2
      · omega
    refine m_isInO (a := 0) fl1 (by omega) (by omega) (fun hh => ⟨fun _ => h0 (fun w' E' s' g => ?_), fun k => absurd rfl k⟩) (fun i ei _ hi => ⟨fun k => absurd k (by decide), fun _ => ?_⟩)
    · rcases g with ⟨-, i, j, ⟨e1, e3, ht, hi, hj, hij, hf⟩, -⟩ | ⟨g, -⟩
      · exact hh i e1 ⟨by omega, by omega⟩
      · omega
    refine m_isInO (a := 0) fl2 (by omega) (by omega) (fun hh => ⟨fun _ => h0 (fun w' E' s' g => ?_), fun k => absurd rfl k⟩) (fun j ej _ hj => ⟨fun k => absurd k (by decide), fun _ => ?_⟩)
    · rcases g with ⟨-, i, j, ⟨e1, e3, ht, hi, hj, hij, hf⟩, -⟩ | ⟨g, -⟩
      · exact hh j e3 ⟨by omega, by omega⟩
      · omega
    have sm : ∀ i' j', fg (ltr len q (x + 1)) = some i' → fg (ltr len q (x + 2)) = some j' → i' = i ∧ j' = j := fun i' j' g1 g2 => ⟨Option.some.inj (g1.symm.trans ei), Option.some.inj (g2.symm.trans ej)⟩
    rw [ei, ej]
    simp only [eo]
    rw [eq_nI (by omega) (by omega), i6, pk_mul, pk_mul, nI_add, nI_add, ix_nI (by omega), ix_nI (by omega), d5 i j (by omega) (by omega)]
    refine ⟨fun k => h0 (fun w' E' s' g => ?_), fun k => ⟨in_nI (by omega) (by omega), fun k2 => ⟨in_nI (by omega) (by omega), ?_⟩, fun k2 => h0 (fun w' E' s' g => ?_)⟩⟩
    · rcases g with ⟨-, i', j', ⟨e1, e3, ht, hi', hj', hij, hf⟩, -⟩ | ⟨g, -⟩
      · obtain ⟨g1, g2⟩ := sm i' j' e1 e3
        omega
      · omega
    · rintro _ rfl
      refine ⟨in_nI (by omega) (by omega), ?_⟩
      rintro _ rfl
      have hf : E i j = false := by
        cases e : E i j with
        | false => rfl
        | true => rw [e] at k2; exact absurd rfl k2
      refine h1 (w + 1) (addE E i j) s _ _ (Or.inl ⟨c1, i, j, ⟨ei, ej, c2, by omega, by omega, k, hf⟩, rfl, rfl, rfl⟩) ⟨by rw [uF_ne (by decide)]; exact d1, by rw [uF_ne (by decide)]; exact d2, by rw [uF_ne (by decide)]; exact d3, by rw [uF_same, d4, nI_s], fun a b ha hb => ?_, fun y hy => by rw [uA_ne (by decide)]; exact d6 y hy⟩ ((Fr.uA (by decide) : Fr [14] [15, 16] F A F (uA A 15 _)).tr (Fr.uF (by decide)))
      rw [uA_same, upd_at, upd_at]
      unfold addE
      by_cases g1 : a = j ∧ b = i
      · rw [if_pos (by omega), g1.1, g1.2, beq_self_eq_true, beq_self_eq_true, Bool.true_and, Bool.or_true]; rfl
      · rw [if_neg (by omega)]
        have z1 : (a == j && b == i) = false := by
          by_cases h1 : a = j
          · rw [beq_false_of_ne (fun h2 => g1 ⟨h1, h2⟩), Bool.and_false]
          · rw [beq_false_of_ne h1, Bool.false_and]
        rw [z1, Bool.or_false]
        by_cases g2 : a = i ∧ b = j
        · rw [if_pos (by omega), g2.1, g2.2, beq_self_eq_true, beq_self_eq_true, Bool.true_and, Bool.or_true]; rfl
        · rw [if_neg (by omega), d5 a b ha hb]
          have z2 : (a == i && b == j) = false := by
            by_cases h1 : a = i
            · rw [beq_false_of_ne (fun h2 => g2 ⟨h1, h2⟩), Bool.and_false]
            · rw [beq_false_of_ne h1, Bool.false_and]
          rw [z2, Bool.or_false]
    · rcases g with ⟨-, i', j', ⟨e1, e3, ht, hi', hj', hij, hf⟩, -⟩ | ⟨g, -⟩
      · obtain ⟨g1, g2⟩ := sm i' j' e1 e3
        subst g1; subst g2
        rw [hf] at k2; exact absurd k2 (by decide)
      · omega
  · unfold wp_X7_readsNet
    rw [show (1 : Int32) = nI 1 from rfl, show (2 : Int32) = nI 2 from rfl, nI_add, nI_add]
    refine m_figure hT (by omega) (m_figure hT (by omega) (m_figure hT (by omega) ?_))
    refine ⟨fun _ => ⟨fun _ => h0 (fun w' E' s' g => ?_), fun k => absurd rfl k⟩, fun k => absurd (by rw [d1, i0, lt_nI (by omega) (by omega)]; omega) k⟩
    rcases g with ⟨g, -⟩ | ⟨g, -⟩ <;> omega
end ITEM2
