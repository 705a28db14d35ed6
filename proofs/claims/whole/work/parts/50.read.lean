def It0 (len : Nat) (q : Nat → Nat) (x t n v w : Nat) (E : Nat → Nat → Bool) (s w' : Nat) (E' : Nat → Nat → Bool) (s' : Nat) : Prop :=
  (ltr len q x = 101 ∧ ∃ i j, StE len q x t n E i j ∧ w' = w + 1 ∧ E' = addE E i j ∧ s' = s) ∨ (ltr len q x = 120 ∧ ∃ i y, StX len q x n v i y ∧ w' = w ∧ E' = E ∧ s' = cd v n (uN (dg v s) i y))
theorem dg_zero {v : Nat} : ∀ i, dg v 0 i = 0 := fun i => by unfold dg; rw [Nat.zero_div, Nat.zero_mod]
theorem Dk_none {t n : Nat} : Dk t n (fun _ _ => false) := ⟨fun _ _ e => absurd (show (false : Bool) = true from e) (by decide), fun _ _ _ => rfl⟩
section READ
variable {len : Nat} {q : Nat → Nat} {FT : Nat → Int32} {AT : Nat → Nat → Int32} {FD : Nat → Int32} {AD : Nat → Nat → Int32} {F : Nat → Int32} {A : Nat → Nat → Int32} {t n v w : Nat} {E : Nat → Nat → Bool} {s : Nat}
theorem x_item0 {Post : Int32 → (Nat → Int32) → (Nat → Nat → Int32) → Prop} (hT : TxC len q FT AT)
    (h1 : ∀ t n v F' A', StG len q 0 t n v → DC F' A' t n v 0 (fun _ _ => false) 0 → Post 1 F' A')
    (h0 : (∀ t n v, ¬ StG len q 0 t n v) → ∀ F' A', Post 0 F' A') : wp_X5_readItem FT AT FD AD (nI 0) Post := by
  have hle : ∀ i, ltr len q i ≤ 126 := fun i => ltr_le (fun i hi => (hT.2.2 i hi).2)
  have l0 := hle 0
  have l4 := hle 4
  unfold wp_X5_readItem
  refine x_figureAt (i := 1) hT (by omega) (x_figureAt (i := 2) hT (by omega) (x_letterAt (i := 0) hT (by omega) ?_))
  rw [show (103 : Int32) = nI 103 from rfl, eq_nI (by omega) (by omega)]
  refine ⟨fun c => ⟨fun _ => h0 (fun t n v g => c g.1) _ _, fun k => absurd rfl k⟩, fun c => ⟨fun k => absurd rfl k, fun _ => x_letterAt (i := 4) hT (by omega) ?_⟩⟩
  rw [show (59 : Int32) = nI 59 from rfl, eq_nI (by omega) (by omega)]
  refine ⟨fun c2 => h0 (fun t n v g => c2 g.2.2.2.2.1) _ _, fun c2 => x_figureAt (i := 3) hT (by omega) ?_⟩
  refine x_begin (fun k e => fg_le e) (fun k e => fg_le e) (fun k e => fg_le e) (fun t n v F' A' e1 e2 e3 hP hN h4 h5 => ⟨fun k => absurd k (by decide), fun _ => h1 t n v F' A' ⟨c, e1, e2, e3, c2, hP⟩ ⟨hN, h4, h5, hP.v1, Dk_none⟩⟩) (fun hh F' A' => ⟨fun _ => h0 (fun t n v g => hh t n v g.2.1 g.2.2.1 g.2.2.2.1 g.2.2.2.2.2) _ _, fun k => absurd rfl k⟩)
theorem x_item {Post : Int32 → (Nat → Int32) → (Nat → Nat → Int32) → Prop} (hT : TxC len q FT AT) (hP : Par t n v) (hD : DC FD AD t n v w E s) {x : Nat} (hx0 : x ≠ 0) (hx : x ≤ 200)
    (h1 : ∀ w' E' s' F' A', ItS len q x t n v w E s w' E' s' → DC F' A' t n v w' E' s' → Post 1 F' A')
    (h0 : (∀ w' E' s', ¬ ItS len q x t n v w E s w' E' s') → ∀ F' A', Post 0 F' A') : wp_X5_readItem FT AT FD AD (nI x) Post := by
  have hle : ∀ i, ltr len q i ≤ 126 := fun i => ltr_le (fun i hi => (hT.2.2 i hi).2)
  have l0 := hle x
  have l3 := hle (x + 3)
  have fl1 : ∀ k, fg (ltr len q (x + 1)) = some k → k ≤ 9 := fun k e => fg_le e
  have fl2 : ∀ k, fg (ltr len q (x + 2)) = some k → k ≤ 9 := fun k e => fg_le e
  unfold wp_X5_readItem
  rw [show (1 : Int32) = nI 1 from rfl, show (2 : Int32) = nI 2 from rfl, show (3 : Int32) = nI 3 from rfl, show (4 : Int32) = nI 4 from rfl, nI_add, nI_add, nI_add, nI_add]
  refine x_figureAt hT (by omega) (x_figureAt hT (by omega) (x_letterAt hT (by omega) ?_))
  rw [show (103 : Int32) = nI 103 from rfl, show (101 : Int32) = nI 101 from rfl, show (120 : Int32) = nI 120 from rfl, eq_nI (by omega) (by omega), eq_nI (by omega) (by omega), eq_nI (by omega) (by omega), i0, eq_nI (by omega) (by omega)]
  refine ⟨fun c => ⟨fun k => absurd k hx0, fun _ => x_letterAt hT (by omega) ?_⟩, fun c => ⟨fun _ => h0 (fun w' E' s' g => ?_) _ _, fun k => absurd k hx0⟩⟩
  · rw [show (59 : Int32) = nI 59 from rfl, eq_nI (by omega) (by omega)]
    refine ⟨fun c2 => ⟨fun c3 => ⟨fun c4 => h0 (fun w' E' s' g => ?_) _ _, fun c4 => ?_⟩, fun c3 => ?_⟩, fun c2 => h0 (fun w' E' s' g => c2 g.1) _ _⟩
    · rcases g.2 with g | g
      · exact c3 g.1
      · exact c4 g.1
    · refine x_startWith hP hD fl1 fl2 (fun i y F' A' e1 e2 hi hy hD' => ⟨fun k => absurd k (by decide), fun _ => h1 _ _ _ F' A' ⟨c2, Or.inr ⟨c4, i, y, ⟨e1, e2, hi, hy⟩, rfl, rfl, rfl⟩⟩ hD'⟩) (fun hh => ⟨fun _ => h0 (fun w' E' s' g => ?_) _ _, fun k => absurd rfl k⟩)
      rcases g.2 with ⟨g, -⟩ | ⟨-, i, y, ⟨e1, e2, hi, hy⟩, -⟩
      · omega
      · exact hh i y e1 e2 hi hy
    · refine x_addWire hP hD fl1 fl2 (fun i j F' A' e1 e2 ht hi hj hij hf hD' => bool_ok (Or.inr rfl) (h1 _ _ _ F' A' ⟨c2, Or.inl ⟨c3, i, j, ⟨e1, e2, ht, hi, hj, hij, hf⟩, rfl, rfl, rfl⟩⟩ hD')) (fun hh => bool_ok (Or.inl rfl) (h0 (fun w' E' s' g => ?_) _ _))
      rcases g.2 with ⟨-, i, j, ⟨e1, e2, ht, hi, hj, hij, hf⟩, -⟩ | ⟨g, -⟩
      · exact hh i j e1 e2 ht hi hj hij hf
      · omega
  · rcases g.2 with ⟨g, -⟩ | ⟨g, -⟩ <;> omega
theorem m_readsNet {Post : Int32 → (Nat → Int32) → (Nat → Nat → Int32) → Prop} (hT : TxM len q F A) (h11 : F 11 = 0) {x : Nat} (hx : x ≤ 200)
    (h1 : ∀ t n v, fg (ltr len q x) = some t → fg (ltr len q (x + 1)) = some n → fg (ltr len q (x + 2)) = some v → Par t n v → Post 1 (uF (uF (uF F 11 (nI t)) 12 (nI n)) 13 (nI v)) A)
    (h0 : (∀ t n v, fg (ltr len q x) = some t → fg (ltr len q (x + 1)) = some n → fg (ltr len q (x + 2)) = some v → ¬ Par t n v) → ∀ F', Fr [11, 12, 13] [] F A F' A → Post 0 F' A) : wp_X7_readsNet F A (nI x) Post := by
  unfold wp_X7_readsNet
  rw [show (1 : Int32) = nI 1 from rfl, show (2 : Int32) = nI 2 from rfl, show (4 : Int32) = nI 4 from rfl, show (6 : Int32) = nI 6 from rfl, show (7 : Int32) = nI 7 from rfl, nI_add, nI_add]
  refine m_figure hT (by omega) (m_figure hT (by omega) (m_figure hT (by omega) ?_))
  rw [h11]
  refine ⟨fun k => absurd k (by decide), fun _ => ?_⟩
  refine m_isInO (fun k e => fg_le e) (by omega) (by omega) (fun hh => ⟨fun _ => h0 (fun t n v e1 e2 e3 hP => ?_) F Fr.rf, fun k => absurd rfl k⟩) (fun t et t1 t4 => ⟨fun k => absurd k (by decide), fun _ => ?_⟩)
  · obtain ⟨p1, p2, p3, p4, p5, p6, p7, p8, p9⟩ := hP
    exact hh t e1 ⟨p1, p2⟩
  refine m_isInO (fun k e => fg_le e) (by omega) (by omega) (fun hh => ⟨fun _ => h0 (fun t n v e1 e2 e3 hP => ?_) F Fr.rf, fun k => absurd rfl k⟩) (fun n en n2 n6 => ⟨fun k => absurd k (by decide), fun _ => ?_⟩)
  · obtain ⟨p1, p2, p3, p4, p5, p6, p7, p8, p9⟩ := hP
    exact hh n e2 ⟨p3, p4⟩
  refine m_isInO (fun k e => fg_le e) (by omega) (by omega) (fun hh => ⟨fun k => absurd rfl k, fun _ => h0 (fun t n v e1 e2 e3 hP => ?_) F Fr.rf⟩) (fun v ev v2 v7 => ⟨fun _ => ?_, fun k => absurd k (by decide)⟩)
  · obtain ⟨p1, p2, p3, p4, p5, p6, p7, p8, p9⟩ := hP
    exact hh v e3 ⟨p5, p6⟩
  rw [et, en, ev]
  simp only [eo]
  have no : ¬ Par t n v → ∀ F', Fr [11, 12, 13] [] F A F' A → Post 0 F' A := fun hh => h0 (fun t' n' v' e1 e2 e3 => by
    have q1 := Option.some.inj (et.symm.trans e1)
    have q2 := Option.some.inj (en.symm.trans e2)
    have q3 := Option.some.inj (ev.symm.trans e3)
    subst q1; subst q2; subst q3; exact hh)
  have hFr : Fr [11, 12, 13] [] F A (uF (uF (uF F 11 (nI t)) 12 (nI n)) 13 (nI v)) A := ((Fr.uF (by decide) : Fr [11, 12, 13] [] F A (uF F 11 (nI t)) A).tr (Fr.uF (by decide))).tr (Fr.uF (by decide))
  unfold wp_X7_readsNet_68
  refine Lp_of (fun s => ∃ i, i ≤ n ∧ s = (nI (v ^ i), nI i)) (fun s => n - ix s.2) ⟨0, by omega, rfl⟩ ?_
  rintro _ ⟨i, hi, rfl⟩
  dsimp only
  have hpi := pow_small (v := v) (i := i) (by omega) (by omega)
  unfold st_X7_readsNet_68 wp_X7_readsNet_124
  have l2 : (nI t = (2 : Int32)) = (t = 2) := eq_nI (b := 2) (by omega) (by omega)
  have l3 : (nI t = (3 : Int32)) = (t = 3) := eq_nI (b := 3) (by omega) (by omega)
  rw [l2, l3, nI_s, nI_s, eq_nI (a := v) (b := n + 1) (by omega) (by omega), lt_nI (a := v) (b := n) (by omega) (by omega), le_nI (by omega) (by omega), show (4096 : Int32) = nI 4096 from rfl, lt_nI (by omega) (by omega)]
  refine ⟨fun k => ?_, fun k => ⟨⟨i + 1, by omega, by rw [pk_mul, Nat.pow_succ]⟩, by rw [ix_nI (by omega), ix_nI (by omega)]; omega⟩⟩
  have e : i = n := by omega
  subst e
  have yes : v ^ i ≤ 4096 → (t = 2 → v = i + 1) → (t = 3 → i ≤ v) → Post 1 (uF (uF (uF F 11 (nI t)) 12 (nI i)) 13 (nI v)) A := fun g1 g2 g3 => h1 t i v et en ev ⟨by omega, by omega, by omega, by omega, by omega, by omega, g1, g2, g3⟩
  refine ⟨fun k2 => no (fun hP => ?_) _ hFr, fun k2 => ⟨fun k3 => ⟨fun k4 => yes (by omega) (fun e => absurd e k3) (fun e => absurd e k4), fun k4 => ⟨fun k5 => no (fun hP => ?_) _ hFr, fun k5 => yes (by omega) (fun e => absurd e k3) (fun _ => by omega)⟩⟩, fun k3 => ⟨fun k4 => no (fun hP => k4 (hP.2.2.2.2.2.2.2.1 k3)) _ hFr, fun k4 => ⟨fun k5 => yes (by omega) (fun _ => k4) (fun e => absurd e k5), fun k5 => absurd k5 (by omega)⟩⟩⟩⟩
  · have := hP.2.2.2.2.2.2.1; omega
  · have := hP.2.2.2.2.2.2.2.2 k4; omega
end READ
