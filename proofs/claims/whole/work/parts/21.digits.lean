/-! codes and digits -/
def dg (v s i : Nat) : Nat := s / v ^ i % v
def cd (v : Nat) : Nat → (Nat → Nat) → Nat
  | 0, _ => 0
  | n + 1, f => cd v n f + f n * v ^ n
/-- a row with one value told anew -/
def uN (f : Nat → Nat) (k x : Nat) : Nat → Nat := fun j => if j = k then x else f j
theorem uN_same {f : Nat → Nat} {k x : Nat} : uN f k x k = x := if_pos rfl
theorem uN_ne {f : Nat → Nat} {k x j : Nat} (h : j ≠ k) : uN f k x j = f j := if_neg h
theorem dg_lt {v s i : Nat} (hv : 0 < v) : dg v s i < v := Nat.mod_lt _ hv
theorem cd_congr {v : Nat} {f g : Nat → Nat} : ∀ n, (∀ i, i < n → f i = g i) → cd v n f = cd v n g
  | 0, _ => rfl
  | n + 1, h => by rw [cd, cd, cd_congr n (fun i hi => h i (by omega)), h n (by omega)]
theorem cd_lt {v : Nat} {f : Nat → Nat} : ∀ n, (∀ i, i < n → f i < v) → cd v n f < v ^ n
  | 0, _ => by simp [cd]
  | n + 1, h => by
    have h1 := cd_lt n (fun i hi => h i (by omega))
    have h2 : f n + 1 ≤ v := h n (by omega)
    have h3 : (f n + 1) * v ^ n ≤ v * v ^ n := Nat.mul_le_mul_right _ h2
    rw [Nat.add_mul, Nat.one_mul] at h3
    rw [cd, Nat.pow_succ, Nat.mul_comm (v ^ n) v]
    omega
theorem dg_cd {v : Nat} {f : Nat → Nat} : ∀ n, (∀ i, i < n → f i < v) → ∀ i, i < n → dg v (cd v n f) i = f i
  | 0, _, i, hi => absurd hi (Nat.not_lt_zero i)
  | n + 1, h, i, hi => by
    have hv : 0 < v := Nat.lt_of_le_of_lt (Nat.zero_le _) (h n (by omega))
    have hp : ∀ k, 0 < v ^ k := fun k => Nat.pow_pos hv
    rw [cd]
    by_cases hin : i = n
    · subst hin
      unfold dg
      rw [Nat.add_mul_div_right _ _ (hp i), Nat.div_eq_of_lt (cd_lt i (fun j hj => h j (by omega))), Nat.zero_add, Nat.mod_eq_of_lt (h i (by omega))]
    · have hlt : i < n := by omega
      have e : v ^ n = v ^ i * (v * v ^ (n - i - 1)) := by
        rw [← Nat.pow_succ', ← Nat.pow_add]
        congr 1
        omega
      have ih := dg_cd n (fun j hj => h j (by omega)) i hlt
      unfold dg at ih ⊢
      rw [e, ← Nat.mul_assoc, Nat.mul_comm (f n), Nat.mul_assoc, Nat.add_mul_div_left _ _ (hp i), Nat.mul_comm (f n), Nat.mul_assoc, Nat.add_mul_mod_self_left, ih]
theorem cd_mod (v s : Nat) : ∀ n, cd v n (dg v s) = s % v ^ n
  | 0 => by simp [cd, Nat.mod_one]
  | n + 1 => by
    rw [cd, cd_mod v s n, Nat.pow_succ, Nat.mod_mul, dg, Nat.mul_comm (v ^ n)]
theorem cd_dg {v s n : Nat} (h : s < v ^ n) : cd v n (dg v s) = s := by rw [cd_mod, Nat.mod_eq_of_lt h]
theorem cd_uN {v : Nat} {f : Nat → Nat} {i x : Nat} : ∀ n, i < n → cd v n (uN f i x) + f i * v ^ i = cd v n f + x * v ^ i
  | 0, h => absurd h (Nat.not_lt_zero i)
  | n + 1, h => by
    rw [cd, cd]
    by_cases hi : i = n
    · subst hi
      rw [uN_same, cd_congr i (g := f) (fun j hj => uN_ne (by omega))]
      omega
    · have ih := cd_uN (v := v) (f := f) (i := i) (x := x) n (by omega)
      rw [uN_ne (by omega)]
      omega
theorem cd_ge {v : Nat} {f : Nat → Nat} {i : Nat} : ∀ n, i < n → f i * v ^ i ≤ cd v n f
  | 0, h => absurd h (Nat.not_lt_zero i)
  | n + 1, h => by
    rw [cd]
    by_cases hi : i = n
    · subst hi; omega
    · have := cd_ge (v := v) (f := f) (i := i) n (by omega)
      omega
theorem uN_lt {f : Nat → Nat} {v n k x : Nat} (h : ∀ i, i < n → f i < v) (hx : x < v) : ∀ i, i < n → uN f k x i < v := fun i hi => by
  unfold uN
  split
  · exact hx
  · exact h i hi
theorem cd_inj {v n : Nat} {f g : Nat → Nat} (hf : ∀ i, i < n → f i < v) (hg : ∀ i, i < n → g i < v) (h : cd v n f = cd v n g) : ∀ i, i < n → f i = g i := fun i hi => by
  rw [← dg_cd n hf i hi, h, dg_cd n hg i hi]
theorem pow_le_of {v n i : Nat} (hv : 0 < v) (hi : i ≤ n) : v ^ i ≤ v ^ n := Nat.pow_le_pow_right hv hi
/-- the class's way to tell a value anew -/
theorem with_nI {v n s i x : Nat} (hv : 0 < v) (hs : s < v ^ n) (hi : i < n) : nI s + (nI x - nI (dg v s i)) * nI (v ^ i) = nI (cd v n (uN (dg v s) i x)) := by
  have h1 := cd_uN (v := v) (f := dg v s) (x := x) n hi
  have h2 := cd_ge (v := v) (f := dg v s) n hi
  rw [cd_dg hs] at h1 h2
  rw [Int32.sub_mul, pk_mul, pk_mul]
  have e : nI s = nI (s - dg v s i * v ^ i) + nI (dg v s i * v ^ i) := by rw [nI_add]; congr 1; omega
  have e2 : cd v n (uN (dg v s) i x) = (s - dg v s i * v ^ i) + x * v ^ i := by omega
  rw [e2, ← nI_add, e, Int32.add_assoc, Int32.add_comm (nI (dg v s i * v ^ i)), Int32.sub_add_cancel]
/-! the lowest of a few -/
def fd : Nat → (Nat → Bool) → Nat
  | 0, _ => 0
  | k + 1, p => if fd k p < k then fd k p else if p k then k else k + 1
theorem fd_le (p : Nat → Bool) : ∀ n, fd n p ≤ n
  | 0 => Nat.le_refl 0
  | n + 1 => by
    rw [fd]
    split
    · omega
    · split <;> omega
theorem fd_none {p : Nat → Bool} : ∀ n, (∀ j, j < n → p j = false) → fd n p = n
  | 0, _ => rfl
  | n + 1, h => by rw [fd, fd_none n (fun j hj => h j (by omega)), if_neg (by omega), h n (by omega)]; simp
theorem fd_eq {p : Nat → Bool} {j : Nat} : ∀ n, j < n → p j = true → (∀ k, k < j → p k = false) → fd n p = j
  | 0, h, _, _ => absurd h (Nat.not_lt_zero j)
  | n + 1, h, hp, hk => by
    rw [fd]
    by_cases hj : j = n
    · subst hj
      rw [fd_none j hk, if_neg (by omega), if_pos hp]
    · rw [fd_eq n (by omega) hp hk, if_pos (by omega)]
theorem fd_spec (p : Nat → Bool) : ∀ n, (fd n p < n → p (fd n p) = true) ∧ (∀ k, k < fd n p → p k = false)
  | 0 => ⟨fun h => absurd h (by simp [fd]), fun k h => absurd h (by simp [fd])⟩
  | n + 1 => by
    have ih := fd_spec p n
    rw [fd]
    by_cases h : fd n p < n
    · rw [if_pos h]; exact ⟨fun _ => ih.1 h, ih.2⟩
    · have hn : fd n p = n := by have := fd_le p n; omega
      rw [if_neg h]
      rw [hn] at ih
      by_cases hp : p n = true
      · rw [if_pos hp]; exact ⟨fun _ => hp, ih.2⟩
      · rw [if_neg hp]
        refine ⟨fun h => absurd h (Nat.lt_irrefl _), fun k hk => ?_⟩
        by_cases hkn : k = n
        · subst hkn; simpa using hp
        · exact ih.2 k (by omega)
theorem fd_none_of {p : Nat → Bool} {n : Nat} (h : ¬ fd n p < n) : ∀ j, j < n → p j = false := fun j hj => (fd_spec p n).2 j (by have := fd_le p n; omega)
theorem fd_congr {p q : Nat → Bool} : ∀ n, (∀ i, i < n → p i = q i) → fd n p = fd n q
  | 0, _ => rfl
  | n + 1, h => by rw [fd, fd, fd_congr n (fun i hi => h i (by omega)), h n (by omega)]
/-- how many of a few -/
def cn : Nat → (Nat → Bool) → Nat
  | 0, _ => 0
  | k + 1, p => cn k p + if p k then 1 else 0
theorem cn_congr {p q : Nat → Bool} : ∀ n, (∀ i, i < n → p i = q i) → cn n p = cn n q
  | 0, _ => rfl
  | n + 1, h => by rw [cn, cn, cn_congr n (fun i hi => h i (by omega)), h n (by omega)]
theorem cn_le (p : Nat → Bool) : ∀ n, cn n p ≤ n
  | 0 => Nat.le_refl 0
  | n + 1 => by
    have := cn_le p n
    rw [cn]
    split <;> omega
theorem cn_mono {p q : Nat → Bool} : ∀ n, (∀ i, i < n → p i = true → q i = true) → cn n p ≤ cn n q
  | 0, _ => Nat.le_refl 0
  | n + 1, h => by
    have ih := cn_mono n (fun i hi => h i (by omega))
    rw [cn, cn]
    have := h n (by omega)
    split <;> split <;> simp_all <;> omega
theorem cn_one_less {p : Nat → Bool} {j : Nat} : ∀ n, j < n → p j = true → cn n p = cn n (fun i => p i && !(i == j)) + 1
  | 0, h, _ => absurd h (Nat.not_lt_zero j)
  | n + 1, h, hp => by
    rw [cn, cn]
    by_cases hj : j = n
    · subst hj
      rw [if_pos hp]
      simp only [beq_self_eq_true, Bool.not_true, Bool.and_false]
      rw [cn_congr j (q := fun i => p i && !(i == j)) (fun i hi => by have : (i == j) = false := by simp; omega
                                                                      simp [this])]
      simp
    · have ih := cn_one_less (p := p) (j := j) n (by omega) hp
      have : (n == j) = false := by simp; omega
      simp only [this, Bool.not_false, Bool.and_true]
      omega
/-- so many values, so many that have them -/
theorem cn_cover {f : Nat → Nat} {n : Nat} : ∀ (v : Nat) (q : Nat → Bool), (∀ w, w < v → ∃ j, j < n ∧ q j = true ∧ f j = w) → v ≤ cn n q
  | 0, _, _ => Nat.zero_le _
  | v + 1, q, h => by
    obtain ⟨j, hj, hq, hf⟩ := h v (by omega)
    rw [cn_one_less n hj hq]
    have := cn_cover v (fun i => q i && !(i == j)) (fun w hw => by
      obtain ⟨k, hk, hqk, hfk⟩ := h w (by omega)
      refine ⟨k, hk, ?_, hfk⟩
      have : (k == j) = false := by simp; rintro rfl; omega
      simp [hqk, this])
    omega
theorem cn_pos {p : Nat → Bool} {j n : Nat} (hj : j < n) (hp : p j = true) : 0 < cn n p := by
  rw [cn_one_less n hj hp]
  omega
theorem cn_zero {p : Nat → Bool} : ∀ n, (cn n p = 0 ↔ ∀ j, j < n → p j = false)
  | 0 => by simp [cn]
  | n + 1 => by
    rw [cn]
    have ih := cn_zero (p := p) n
    constructor
    · intro h j hj
      by_cases hp : p n = true
      · rw [if_pos hp] at h; omega
      · rw [if_neg hp] at h
        by_cases hjn : j = n
        · subst hjn; simpa using hp
        · exact ih.mp (by omega) j (by omega)
    · intro h
      rw [ih.mpr (fun j hj => h j (by omega)), h n (by omega)]
      simp
