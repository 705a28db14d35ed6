theorem i0 : (0 : Int32) = nI 0 := rfl
theorem i1 : (1 : Int32) = nI 1 := rfl
theorem i2 : (2 : Int32) = nI 2 := rfl
theorem i3 : (3 : Int32) = nI 3 := rfl
theorem i4 : (4 : Int32) = nI 4 := rfl
theorem i5 : (5 : Int32) = nI 5 := rfl
theorem i6 : (6 : Int32) = nI 6 := rfl
theorem i7 : (7 : Int32) = nI 7 := rfl
theorem le_nI {a b : Nat} (ha : a < 2147483648) (hb : b < 2147483648) : (nI a ≤ nI b) = (a ≤ b) := propext (nI_leI ha hb)
theorem lt_nI {a b : Nat} (ha : a < 2147483648) (hb : b < 2147483648) : (nI a < nI b) = (a < b) := propext (nI_ltI ha hb)
theorem eq_nI {a b : Nat} (ha : a < 2147483648) (hb : b < 2147483648) : (nI a = nI b) = (a = b) := propext (nI_eq ha hb)
theorem ix_nI {a : Nat} (ha : a < 2147483648) : ix (nI a) = a := nI_clamp ha
theorem sub_nI {a b : Nat} (h : b ≤ a) : nI a - nI b = nI (a - b) := pk_sub h
theorem div_nI {a d : Nat} (ha : a < 2147483648) (h0 : 0 < d) (hd : d < 2147483648) : nI a / nI d = nI (a / d) := pk_div ha h0 hd
theorem rem_nI {a d : Nat} (ha : a < 2147483648) (h0 : 0 < d) (hd : d < 2147483648) : nI a - nI a / nI d * nI d = nI (a % d) := pk_rem ha h0 hd
theorem in_nI {a n : Nat} (h : a < n) (hn : n < 2147483648) : vp_in (nI a) n := vp_in_nI h hn
theorem nI_toInt' {a : Nat} (ha : a < 2147483648) : (nI a).toInt = (a : Int) := nI_toInt ha
/-- below none: no place -/
theorem neg_ne {x : Int32} (hx : x < 0) {a : Nat} (ha : a < 2147483648) : ¬ nI a = x := fun h => by
  rw [← h, i0, lt_nI ha (by omega)] at hx
  omega
theorem m1_neg : (-1 : Int32) < 0 := by decide
theorem m4_neg : (-4 : Int32) < 0 := by decide
theorem m5_neg : (-5 : Int32) < 0 := by decide
theorem lt_neg {x : Int32} (hx : x < 0) {a : Nat} (ha : a < 2147483648) : x < nI a := by
  rw [Int32.lt_iff_toInt_lt] at hx ⊢
  rw [nI_toInt' ha]
  have : (0 : Int32).toInt = 0 := by decide
  omega
theorem nlt_neg {x : Int32} (hx : x < 0) {a : Nat} (ha : a < 2147483648) : ¬ nI a < x := by
  rw [Int32.lt_iff_toInt_lt] at hx ⊢
  rw [nI_toInt' ha]
  have : (0 : Int32).toInt = 0 := by decide
  omega
theorem nle_neg {x : Int32} (hx : x < 0) {a : Nat} (ha : a < 2147483648) : ¬ nI a ≤ x := by
  rw [Int32.lt_iff_toInt_lt] at hx
  rw [Int32.le_iff_toInt_le, nI_toInt' ha]
  have : (0 : Int32).toInt = 0 := by decide
  omega
/-- a number that is asked: below 0, at n or above, or a place -/
theorem cases_lt (x : Int32) (n : Nat) (hn : n < 2147483648) : x < 0 ∨ (¬ x < 0 ∧ nI n ≤ x) ∨ ∃ j, j < n ∧ x = nI j := by
  rcases pk_ix x hn with h | h | h
  · exact Or.inl h
  · refine Or.inr (Or.inl ⟨fun hx => ?_, h⟩)
    exact nle_neg hx hn h
  · exact Or.inr (Or.inr h)
/-! masks of a few machines -/
def tk : Nat → (Nat → Bool) → Nat
  | 0, _ => 0
  | k + 1, p => tk k p + if p k then 2 ^ k else 0
theorem tk_lt (p : Nat → Bool) : ∀ n, tk n p < 2 ^ n
  | 0 => by simp [tk]
  | n + 1 => by
    have h := tk_lt p n
    have h2 : 2 ^ (n + 1) = 2 ^ n + 2 ^ n := by rw [Nat.pow_succ]; omega
    rw [tk, h2]
    split <;> omega
theorem tk_bit (p : Nat → Bool) : ∀ n i, (tk n p).testBit i = (decide (i < n) && p i)
  | 0, i => by simp [tk]
  | n + 1, i => by
    have hlt := tk_lt p n
    rw [tk]
    by_cases hp : p n = true
    · rw [if_pos hp, Nat.add_comm]
      rcases Nat.lt_trichotomy i n with h | h | h
      · rw [Nat.testBit_two_pow_add_gt h, tk_bit p n i]
        have : (i < n + 1) = (i < n) := by simp only [eq_iff_iff]; omega
        simp only [this]
      · subst h
        rw [Nat.testBit_two_pow_add_eq, tk_bit p i i]
        simp [hp]
      · have h2 : 2 ^ (n + 1) = 2 ^ n + 2 ^ n := by rw [Nat.pow_succ]; omega
        have h3 : 2 ^ (n + 1) ≤ 2 ^ i := Nat.pow_le_pow_right (by omega) h
        rw [Nat.testBit_lt_two_pow (by omega)]
        have : ¬ i < n + 1 := by omega
        simp [this]
    · rw [if_neg hp, Nat.add_zero, tk_bit p n i]
      by_cases hi : i = n
      · subst hi; simp [hp]
      · have : (i < n + 1) = (i < n) := by simp only [eq_iff_iff]; omega
        simp only [this]
theorem tk_congr {p q : Nat → Bool} : ∀ n, (∀ i, i < n → p i = q i) → tk n p = tk n q
  | 0, _ => rfl
  | n + 1, h => by rw [tk, tk, tk_congr n (fun i hi => h i (by omega)), h n (by omega)]
theorem or_nI : ∀ k, k < 8 → ∀ a, a < 2 ^ k → nI a ||| ((1 : Int32) <<< (nI k &&& 31)) = nI (a + 2 ^ k) := by decide +kernel
theorem bit_nI : ∀ b, b < 32 → ∀ m, m < 128 → ((nI m >>> (nI b &&& 31)) &&& (1 : Int32)) = nI (if m.testBit b then 1 else 0) := by decide +kernel
