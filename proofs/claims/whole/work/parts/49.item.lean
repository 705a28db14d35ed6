/-! one item of the text -/
def addE (E : Nat → Nat → Bool) (a b : Nat) : Nat → Nat → Bool := fun x y => E x y || (x == a && y == b) || (x == b && y == a)
def Dk (t n : Nat) (E : Nat → Nat → Bool) : Prop := (∀ a b, E a b = true → a < n ∧ b < n ∧ a ≠ b ∧ E b a = true) ∧ (t = 1 → ∀ a b, E a b = false)
def DC (FD : Nat → Int32) (AD : Nat → Nat → Int32) (t n v w : Nat) (E : Nat → Nat → Bool) (s : Nat) : Prop := NOk FD AD t n v E ∧ FD 4 = nI w ∧ FD 5 = nI s ∧ s < v ^ n ∧ Dk t n E
def DM (F : Nat → Int32) (A : Nat → Nat → Int32) (t n v w : Nat) (E : Nat → Nat → Bool) (s : Nat) : Prop := F 11 = nI t ∧ F 12 = nI n ∧ F 13 = nI v ∧ F 14 = nI w ∧ (∀ a b, a < 6 → b < 6 → A 15 (6 * a + b) = nI (if E a b then 1 else 0)) ∧ (∀ i, i < n → A 16 i = nI (dg v s i))
def StE (len : Nat) (q : Nat → Nat) (x t n : Nat) (E : Nat → Nat → Bool) (i j : Nat) : Prop := fg (ltr len q (x + 1)) = some i ∧ fg (ltr len q (x + 2)) = some j ∧ t ≠ 1 ∧ i < n ∧ j < n ∧ i ≠ j ∧ E i j = false
def StX (len : Nat) (q : Nat → Nat) (x n v : Nat) (i y : Nat) : Prop := fg (ltr len q (x + 1)) = some i ∧ fg (ltr len q (x + 2)) = some y ∧ i < n ∧ y < v
def ItS (len : Nat) (q : Nat → Nat) (x t n v w : Nat) (E : Nat → Nat → Bool) (s w' : Nat) (E' : Nat → Nat → Bool) (s' : Nat) : Prop :=
  ltr len q (x + 3) = 59 ∧ ((ltr len q x = 101 ∧ ∃ i j, StE len q x t n E i j ∧ w' = w + 1 ∧ E' = addE E i j ∧ s' = s) ∨ (ltr len q x = 120 ∧ ∃ i y, StX len q x n v i y ∧ w' = w ∧ E' = E ∧ s' = cd v n (uN (dg v s) i y)))
def StG (len : Nat) (q : Nat → Nat) (x t n v : Nat) : Prop := ltr len q x = 103 ∧ fg (ltr len q (x + 1)) = some t ∧ fg (ltr len q (x + 2)) = some n ∧ fg (ltr len q (x + 3)) = some v ∧ ltr len q (x + 4) = 59 ∧ Par t n v
theorem tk_or {p : Nat → Bool} {n b : Nat} (hb : b < n) : tk n p ||| 2 ^ b = tk n (fun y => p y || y == b) := by
  apply Nat.eq_of_testBit_eq
  intro i
  rw [Nat.testBit_or, tk_bit, tk_bit, Nat.testBit_two_pow]
  by_cases e : i = b
  · subst e; simp [hb]
  · have h1 : ¬ b = i := fun h => e h.symm
    have h2 : (i == b) = false := beq_false_of_ne e
    rw [h2, decide_eq_false h1, Bool.or_false, Bool.or_false]
theorem Dk.add {t n : Nat} {E : Nat → Nat → Bool} (h : Dk t n E) {i j : Nat} (hi : i < n) (hj : j < n) (hij : i ≠ j) (ht : t ≠ 1) : Dk t n (addE E i j) := by
  refine ⟨fun a b e => ?_, fun e => absurd e ht⟩
  unfold addE at e ⊢
  simp only [Bool.or_eq_true, Bool.and_eq_true, beq_iff_eq] at e ⊢
  rcases e with (e | ⟨e1, e2⟩) | ⟨e1, e2⟩
  · obtain ⟨g1, g2, g3, g4⟩ := h.1 a b e
    exact ⟨g1, g2, g3, Or.inl (Or.inl g4)⟩
  · subst e1; subst e2; exact ⟨hi, hj, hij, Or.inr ⟨rfl, rfl⟩⟩
  · subst e1; subst e2; exact ⟨hj, hi, fun e => hij e.symm, Or.inl (Or.inr ⟨rfl, rfl⟩)⟩
section ITEM
variable {len : Nat} {q : Nat → Nat} {FT : Nat → Int32} {AT : Nat → Nat → Int32} {FD : Nat → Int32} {AD : Nat → Nat → Int32} {F : Nat → Int32} {A : Nat → Nat → Int32} {t n v w : Nat} {E : Nat → Nat → Bool} {s : Nat}
theorem x_isLinkedD {Post : Int32 → Prop} (hP : Par t n v) (hE : Dk t n E) (hN : NOk FD AD t n v E) {a b : Nat} (ha : a < n) (hb : b < 32) (h : Post (nI (if E a b then 1 else 0))) : wp_X1_isLinked FD AD (nI a) (nI b) Post := by
  obtain ⟨h1, h2, h3, h4, h5, h6, h7, h8, h9⟩ := id hP
  obtain ⟨n0, n1, n2, n3, n4, n5⟩ := id hN
  unfold wp_X1_isLinked
  have e : ix (nI a) = a := ix_nI (by omega)
  simp only [e, n4 a ha]
  rw [bit_nI b hb _ (Nat.lt_trans (tkE_lt hP) (by omega)), tk_bit]
  have hE : (decide (b < n) && E a b) = E a b := by
    by_cases q : E a b = true
    · have := (hE.1 a b q).2.1
      simp [q, this]
    · simp [q]
  rw [hE]
  simp (disch := omega) only [i0, i6, lt_nI, le_nI]
  refine ⟨fun q => absurd q (by omega), fun _ => ⟨fun q => absurd q (by omega), fun _ => ⟨in_nI (by omega) (by omega), fun q => ?_, fun q => ?_⟩⟩⟩
  · by_cases c : E a b = true
    · rw [if_pos c] at q; exact absurd rfl q
    · rw [if_neg c] at h; exact h
  · by_cases c : E a b = true
    · rw [if_pos c] at h; exact h
    · rw [if_neg c] at q; exact absurd q (by decide)
theorem eo_in {o : Option Nat} {m : Nat} (hm : m ≤ 100) (ho : ∀ k, o = some k → k ≤ 9) (c : eo (-1) o < 0 ∨ nI m ≤ eo (-1) o) : ∀ k, o = some k → ¬ k < m := fun k e hk => by
  have := ho k e
  rw [e] at c
  simp only [eo] at c
  rw [i0, lt_nI (by omega) (by omega), le_nI (by omega) (by omega)] at c
  omega
theorem eo_at {o : Option Nat} {i : Nat} (hi : i ≤ 100) (ho : ∀ k, o = some k → k ≤ 9) (c : eo (-1) o = nI i) : o = some i := by
  cases o with
  | none => exact absurd c.symm (neg_ne m1_neg (by omega))
  | some k =>
    have := ho k rfl
    simp only [eo] at c
    rw [eq_nI (by omega) (by omega)] at c
    rw [c]
theorem x_addWire {a b : Option Nat} {Post : Int32 → (Nat → Int32) → (Nat → Nat → Int32) → Prop} (hP : Par t n v) (hD : DC FD AD t n v w E s) (ha : ∀ k, a = some k → k ≤ 9) (hb : ∀ k, b = some k → k ≤ 9)
    (h1 : ∀ i j F' A', a = some i → b = some j → t ≠ 1 → i < n → j < n → i ≠ j → E i j = false → DC F' A' t n v (w + 1) (addE E i j) s → Post 1 F' A')
    (h0 : (∀ i j, a = some i → b = some j → t ≠ 1 → i < n → j < n → i ≠ j → E i j = false → False) → Post 0 FD AD) : wp_X1_addWire FD AD (eo (-1) a) (eo (-1) b) Post := by
  obtain ⟨p1, p2, p3, p4, p5, p6, p7, p8, p9⟩ := id hP
  obtain ⟨hN, hw, hs, hs2, hE⟩ := id hD
  obtain ⟨n0, n1, n2, n3, n4, n5⟩ := id hN
  unfold wp_X1_addWire
  rw [n0, show (nI t = (1 : Int32)) = (t = 1) from eq_nI (b := 1) (by omega) (by omega)]
  refine ⟨fun c => h0 (fun _ _ _ _ ht _ _ _ _ => ht c), fun c => ?_⟩
  refine x_hasMachine hP hN (fun k => ⟨fun _ => h0 (fun i j e1 _ _ hi _ _ _ => eo_in (by omega) ha k i e1 hi), fun k => absurd rfl k⟩) (fun i hi ea => ⟨fun k => absurd k (by decide), fun _ => ?_⟩)
  have ea' := eo_at (by omega) ha ea
  rw [ea]
  refine x_hasMachine hP hN (fun k => ⟨fun _ => h0 (fun i j _ e2 _ _ hj _ _ => eo_in (by omega) hb k j e2 hj), fun k => absurd rfl k⟩) (fun j hj eb => ⟨fun k => absurd k (by decide), fun _ => ?_⟩)
  have eb' := eo_at (by omega) hb eb
  rw [eb, eq_nI (by omega) (by omega)]
  have sm : ∀ i' j', a = some i' → b = some j' → i' = i ∧ j' = j := fun i' j' e1 e2 => by
    rw [ea'] at e1; rw [eb'] at e2
    exact ⟨(Option.some.inj e1).symm, (Option.some.inj e2).symm⟩
  refine ⟨fun k => h0 (fun i' j' e1 e2 _ _ _ hne _ => by
    obtain ⟨g1, g2⟩ := sm i' j' e1 e2
    omega), fun k => x_isLinkedD hP hE hN hi (by omega) ⟨fun k2 => ?_, fun k2 => h0 (fun i' j' e1 e2 _ _ _ _ hf => ?_)⟩⟩
  · have hf : E i j = false := by
      cases e : E i j with
      | false => rfl
      | true => rw [e] at k2; exact absurd k2 (by decide)
    have ti := tkE_lt (E := E) hP (i := i)
    have tj := tkE_lt (E := E) hP (i := j)
    rintro _ rfl _ rfl _ rfl _ rfl
    rw [rAt_in (by omega) (by omega), rPut_in (by omega) (by omega), rAt_in (by omega) (by omega), rPut_in (by omega) (by omega), upd_at, if_neg (fun e => k e.symm), n4 i hi, n4 j hj, (or_bit j (by omega) _ (by omega)).1, (or_bit i (by omega) _ (by omega)).1, tk_or hj, tk_or hi]
    refine h1 i j _ _ ea' eb' c hi hj k hf ⟨⟨by rw [uF_ne (by decide)]; exact n0, by rw [uF_ne (by decide)]; exact n1, by rw [uF_ne (by decide)]; exact n2, by rw [uF_ne (by decide)]; exact n3, fun x hx => ?_, fun x hx => by rw [uA_ne (by decide)]; exact n5 x hx⟩, by rw [uF_same, hw, nI_s], by rw [uF_ne (by decide)]; exact hs, hs2, hE.add hi hj k c⟩
    rw [uA_same, upd_at, upd_at]
    by_cases e1 : x = j
    · rw [if_pos e1]
      refine congrArg nI (tk_congr n (fun y hy => ?_))
      unfold addE
      have h2 : (j == i) = false := beq_false_of_ne (fun e => k e.symm)
      rw [e1, h2, beq_self_eq_true, Bool.false_and, Bool.true_and, Bool.or_false]
    · rw [if_neg e1]
      by_cases e2 : x = i
      · rw [if_pos e2]
        refine congrArg nI (tk_congr n (fun y hy => ?_))
        unfold addE
        have h2 : (i == j) = false := beq_false_of_ne k
        rw [e2, h2, beq_self_eq_true, Bool.false_and, Bool.true_and, Bool.or_false]
      · rw [if_neg e2, n4 x hx]
        refine congrArg nI (tk_congr n (fun y hy => ?_))
        unfold addE
        rw [beq_false_of_ne e1, beq_false_of_ne e2, Bool.false_and, Bool.false_and, Bool.or_false, Bool.or_false]
  · obtain ⟨g1, g2⟩ := sm i' j' e1 e2
    subst g1; subst g2
    rw [hf] at k2; exact absurd rfl k2
theorem x_startWith {a b : Option Nat} {Post : Int32 → (Nat → Int32) → (Nat → Nat → Int32) → Prop} (hP : Par t n v) (hD : DC FD AD t n v w E s) (ha : ∀ k, a = some k → k ≤ 9) (hb : ∀ k, b = some k → k ≤ 9)
    (h1 : ∀ i y F' A', a = some i → b = some y → i < n → y < v → DC F' A' t n v w E (cd v n (uN (dg v s) i y)) → Post 1 F' A')
    (h0 : (∀ i y, a = some i → b = some y → i < n → y < v → False) → Post 0 FD AD) : wp_X1_startWith FD AD (eo (-1) a) (eo (-1) b) Post := by
  obtain ⟨p1, p2, p3, p4, p5, p6, p7, p8, p9⟩ := id hP
  obtain ⟨hN, hw, hs, hs2, hE⟩ := id hD
  obtain ⟨n0, n1, n2, n3, n4, n5⟩ := id hN
  unfold wp_X1_startWith
  refine x_hasMachine hP hN (fun k => ⟨fun _ => h0 (fun i j e1 _ hi _ => eo_in (by omega) ha k i e1 hi), fun k => absurd rfl k⟩) (fun i hi ea => ⟨fun k => absurd k (by decide), fun _ => ?_⟩)
  have ea' := eo_at (by omega) ha ea
  refine x_hasValue hP hN (fun k => ⟨fun k => absurd rfl k, fun _ => h0 (fun i j _ e2 _ hj => eo_in (by omega) hb k j e2 hj)⟩) (fun y hy eb => ⟨fun _ => ?_, fun k => absurd k (by decide)⟩)
  have eb' := eo_at (by omega) hb eb
  rw [ea, eb, hs]
  refine x_withValue hP hN hs2 hi ?_
  exact h1 i y _ _ ea' eb' hi hy ⟨⟨by rw [uF_ne (by decide)]; exact n0, by rw [uF_ne (by decide)]; exact n1, by rw [uF_ne (by decide)]; exact n2, by rw [uF_ne (by decide)]; exact n3, n4, n5⟩, by rw [uF_ne (by decide)]; exact hw, uF_same, cd_lt n (uN_lt (fun i _ => dg_lt (by omega)) hy), hE⟩
end ITEM
