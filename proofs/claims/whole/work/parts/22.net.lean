/-! the rules, of a row f of values -/
def lo1 (n : Nat) (E : Nat → Nat → Bool) (f : Nat → Nat) (i w : Nat) : Nat := fd n (fun j => E i j && f j == w)
def mn (E : Nat → Nat → Bool) (f : Nat → Nat) (i v : Nat) : Nat → Nat
  | 0 => v - 1
  | k + 1 => if E i k && decide (f k + 1 < mn E f i v k) then f k + 1 else mn E f i v k
def lw (n : Nat) (E : Nat → Nat → Bool) (f : Nat → Nat) (i : Nat) : Nat := fd 8 (fun w => decide (lo1 n E f i w = n))
def wt (t n v : Nat) (E : Nat → Nat → Bool) (f : Nat → Nat) (i : Nat) : Nat :=
  if t = 1 then (if i = 0 then (if f 0 = f (n - 1) then (if f 0 + 1 < v then f 0 + 1 else 0) else f 0) else f (i - 1))
  else if t = 2 then (if f i = 0 then (if lo1 n E f i (i + 1) < n then lo1 n E f i (i + 1) + 1 else if lo1 n E f i 0 < n then lo1 n E f i 0 + 1 else 0) else if E i (f i - 1) then (if f (f i - 1) = 0 ∨ f (f i - 1) = i + 1 then f i else 0) else 0)
  else if t = 3 then (if i = 0 then 0 else mn E f i v n)
  else (if lo1 n E f i (f i) < n then lw n E f i else f i)
def mv (t n v : Nat) (E : Nat → Nat → Bool) (f : Nat → Nat) (i : Nat) : Bool := decide (wt t n v E f i ≠ f i)
def tks (t n v : Nat) (E : Nat → Nat → Bool) (f : Nat → Nat) : Nat := tk n (mv t n v E f)
/-- how many bits -/
def pcn (m : Nat) : Nat := cn 7 (fun i => m.testBit i)
def lgl (t n v : Nat) (E : Nat → Nat → Bool) (f : Nat → Nat) : Bool := if t = 1 then decide (pcn (tks t n v E f) = 1) else decide (tks t n v E f = 0)
def Par (t n v : Nat) : Prop := 1 ≤ t ∧ t ≤ 4 ∧ 2 ≤ n ∧ n ≤ 6 ∧ 2 ≤ v ∧ v ≤ 7 ∧ v ^ n ≤ 4096 ∧ (t = 2 → v = n + 1) ∧ (t = 3 → n ≤ v)
def Gr (t n v : Nat) (E : Nat → Nat → Bool) : Prop := (∀ a b, E a b = true → a < n ∧ b < n ∧ a ≠ b ∧ E b a = true) ∧ (t = 1 → ∀ a b, E a b = false) ∧ (t = 4 → ∀ a, a < n → cn n (E a) < v)
def NOk (F : Nat → Int32) (A : Nat → Nat → Int32) (t n v : Nat) (E : Nat → Nat → Bool) : Prop :=
  F 0 = nI t ∧ F 1 = nI n ∧ F 2 = nI v ∧ F 3 = nI (v ^ n) ∧ (∀ i, i < n → A 6 i = nI (tk n (E i))) ∧ (∀ i, i < n → A 7 i = nI (v ^ i))
/-- a row's values are values -/
def Rw (n v : Nat) (f : Nat → Nat) : Prop := ∀ i, i < n → f i < v
theorem Rw_dg {n v s : Nat} (hv : 0 < v) : Rw n v (dg v s) := fun _ _ => dg_lt hv
theorem lo1_le {n : Nat} {E : Nat → Nat → Bool} {f : Nat → Nat} {i w : Nat} : lo1 n E f i w ≤ n := fd_le _ _
theorem mn_le {E : Nat → Nat → Bool} {f : Nat → Nat} {i v : Nat} : ∀ k, mn E f i v k ≤ v - 1
  | 0 => Nat.le_refl _
  | k + 1 => by
    have ih := mn_le (E := E) (f := f) (i := i) (v := v) k
    rw [mn]
    split
    · rename_i h
      simp only [Bool.and_eq_true, decide_eq_true_eq] at h
      omega
    · exact ih
theorem lo1_some {n : Nat} {E : Nat → Nat → Bool} {f : Nat → Nat} {i w : Nat} (h : lo1 n E f i w < n) : E i (lo1 n E f i w) = true ∧ f (lo1 n E f i w) = w := by
  have := (fd_spec (fun j => E i j && f j == w) n).1 h
  simp only [Bool.and_eq_true, beq_iff_eq] at this
  exact this
theorem lo1_no {n : Nat} {E : Nat → Nat → Bool} {f : Nat → Nat} {i w : Nat} (h : ¬ lo1 n E f i w < n) : ∀ j, j < n → E i j = true → f j ≠ w := fun j hj hE => by
  have := fd_none_of h j hj
  simpa [hE] using this
/-- of the values of those wired with it one is wanting below v -/
theorem lw_lt {t n v : Nat} {E : Nat → Nat → Bool} {f : Nat → Nat} {i : Nat} (hP : Par t n v) (hG : Gr t n v E) (ht : t = 4) (hi : i < n) : lw n E f i < v := by
  apply Nat.lt_of_not_le
  intro h
  have hc := hG.2.2 ht i hi
  have := cn_cover (f := f) (n := n) v (E i) (fun w hw => by
    have h1 := (fd_spec (fun w => decide (lo1 n E f i w = n)) 8).2 w (by unfold lw at h; omega)
    have h2 : lo1 n E f i w < n := by
      have h3 : ¬ lo1 n E f i w = n := by simpa using h1
      have := lo1_le (n := n) (E := E) (f := f) (i := i) (w := w)
      omega
    exact ⟨_, h2, lo1_some h2⟩)
  omega
theorem lw_free {n v : Nat} {E : Nat → Nat → Bool} {f : Nat → Nat} {i : Nat} (h : lw n E f i < 8) : ∀ j, j < n → E i j = true → f j ≠ lw n E f i := by
  have h1 := (fd_spec (fun w => decide (lo1 n E f i w = n)) 8).1 h
  have h2 : lo1 n E f i (lw n E f i) = n := of_decide_eq_true h1
  exact lo1_no (by omega)
theorem wt_lt {t n v : Nat} {E : Nat → Nat → Bool} {f : Nat → Nat} {i : Nat} (hP : Par t n v) (hG : Gr t n v E) (hf : Rw n v f) (hi : i < n) : wt t n v E f i < v := by
  obtain ⟨h1, h2, h3, h4, h5, h6, h7, h8, h9⟩ := id hP
  unfold wt
  by_cases t1 : t = 1
  · rw [if_pos t1]
    have := hf 0 (by omega)
    split
    · split
      · split <;> omega
      · omega
    · exact hf _ (by omega)
  · rw [if_neg t1]
    by_cases t2 : t = 2
    · rw [if_pos t2]
      have := h8 t2
      have := hf i hi
      split
      · split
        · omega
        · split <;> omega
      · split
        · split <;> omega
        · omega
    · rw [if_neg t2]
      by_cases t3 : t = 3
      · rw [if_pos t3]
        split
        · omega
        · have := mn_le (E := E) (f := f) (i := i) (v := v) n
          omega
      · rw [if_neg t3]
        split
        · exact lw_lt hP hG (by omega) hi
        · exact hf i hi
theorem mn_congr {E : Nat → Nat → Bool} {f g : Nat → Nat} {i v : Nat} : ∀ n, (∀ j, j < n → f j = g j) → mn E f i v n = mn E g i v n
  | 0, _ => rfl
  | n + 1, h => by rw [mn, mn, mn_congr n (fun j hj => h j (by omega)), h n (by omega)]
theorem lo1_congr {n : Nat} {E : Nat → Nat → Bool} {f g : Nat → Nat} {i w : Nat} (h : ∀ j, j < n → f j = g j) : lo1 n E f i w = lo1 n E g i w := fd_congr n (fun j hj => by rw [h j hj])
theorem wt_congr {t n v : Nat} {E : Nat → Nat → Bool} {f g : Nat → Nat} {i : Nat} (hP : Par t n v) (hG : Gr t n v E) (h : ∀ j, j < n → f j = g j) (hi : i < n) : wt t n v E f i = wt t n v E g i := by
  obtain ⟨h1, h2, h3, h4, h5, h6, h7, h8, h9⟩ := id hP
  unfold wt
  rw [h i hi, h 0 (by omega), h (n - 1) (by omega)]
  have hl : ∀ w, lo1 n E f i w = lo1 n E g i w := fun w => lo1_congr h
  have hw : lw n E f i = lw n E g i := by unfold lw; simp only [hl]
  simp only [hl, hw, mn_congr n h]
  by_cases t1 : t = 1
  · simp only [t1, if_true]
    split
    · rfl
    · rw [h (i - 1) (by omega)]
  · simp only [t1, if_false]
    by_cases hE : E i (g i - 1) = true
    · have := (hG.1 _ _ hE).2.1
      rw [h (g i - 1) this]
    · simp [hE]
theorem tks_congr {t n v : Nat} {E : Nat → Nat → Bool} {f g : Nat → Nat} (hP : Par t n v) (hG : Gr t n v E) (h : ∀ j, j < n → f j = g j) : tks t n v E f = tks t n v E g :=
  tk_congr n (fun i hi => by unfold mv; rw [wt_congr hP hG h hi, h i hi])
theorem lgl_congr {t n v : Nat} {E : Nat → Nat → Bool} {f g : Nat → Nat} (hP : Par t n v) (hG : Gr t n v E) (h : ∀ j, j < n → f j = g j) : lgl t n v E f = lgl t n v E g := by
  unfold lgl
  rw [tks_congr hP hG h]
theorem tks_lt {t n v : Nat} {E : Nat → Nat → Bool} {f : Nat → Nat} (hP : Par t n v) : tks t n v E f < 64 := by
  obtain ⟨h1, h2, h3, h4, h5, h6, h7, h8, h9⟩ := id hP
  have := tk_lt (mv t n v E f) n
  have : 2 ^ n ≤ 2 ^ 6 := Nat.pow_le_pow_right (by omega) h4
  unfold tks
  omega
theorem bitCount_nI : ∀ m, m < 128 → wp_J6_bitCount_0f7a4 (nI m) (fun r => r = nI (pcn m)) := by
  unfold wp_J6_bitCount_0f7a4
  decide +kernel
theorem x_bitCount {m : Nat} {Post : Int32 → Prop} (hm : m < 128) (h : Post (nI (pcn m))) : wp_J6_bitCount_0f7a4 (nI m) Post := by
  have e := bitCount_nI m hm
  unfold wp_J6_bitCount_0f7a4 at e ⊢
  rw [e]
  exact h
section NET
variable {F : Nat → Int32} {A : Nat → Nat → Int32} {t n v : Nat} {E : Nat → Nat → Bool} {Post : Int32 → Prop}
theorem pow_lt_of (hP : Par t n v) {i : Nat} (hi : i ≤ n) : v ^ i ≤ 4096 := by
  obtain ⟨h1, h2, h3, h4, h5, h6, h7, h8, h9⟩ := id hP
  exact Nat.le_trans (pow_le_of (by omega) hi) h7
theorem x_valueAt (hP : Par t n v) (hN : NOk F A t n v E) {s i : Nat} (hs : s < v ^ n) (hi : i < n) (h : Post (nI (dg v s i))) : wp_X1_valueAt F A (nI s) (nI i) Post := by
  obtain ⟨h1, h2, h3, h4, h5, h6, h7, h8, h9⟩ := id hP
  obtain ⟨n0, n1, n2, n3, n4, n5⟩ := id hN
  have hw := pow_lt_of hP (i := i) (by omega)
  have hw0 : 0 < v ^ i := Nat.pow_pos (by omega)
  unfold wp_X1_valueAt
  have e : ix (nI i) = i := ix_nI (by omega)
  simp only [e, n2, n5 i hi]
  simp (disch := omega) only [i0, i6, lt_nI, le_nI, eq_nI]
  have hd : s / v ^ i ≤ s := Nat.div_le_self _ _
  refine ⟨fun q => absurd q (by omega), fun _ => ⟨fun q => absurd q (by omega), fun _ => ⟨in_nI (by omega) (by omega), fun q => absurd q (by omega), fun _ => ⟨fun _ => ⟨in_nI (by omega) (by omega), by omega, by omega, ?_⟩, fun q => absurd q (by omega)⟩⟩⟩⟩
  rw [div_nI (by omega) hw0 (by omega), rem_nI (by omega) (by omega) (by omega)]
  exact h
theorem x_withValue (hP : Par t n v) (hN : NOk F A t n v E) {s i x : Nat} (hs : s < v ^ n) (hi : i < n) (h : Post (nI (cd v n (uN (dg v s) i x)))) : wp_X1_withValue F A (nI s) (nI i) (nI x) Post := by
  obtain ⟨h1, h2, h3, h4, h5, h6, h7, h8, h9⟩ := id hP
  obtain ⟨n0, n1, n2, n3, n4, n5⟩ := id hN
  unfold wp_X1_withValue
  refine x_valueAt hP hN hs hi ?_
  rintro _ rfl
  rw [rAt]
  simp (disch := omega) only [i0, lt_nI, le_nI]
  rw [if_neg (by omega), if_neg (by omega), ix_nI (by omega), n5 i hi, with_nI (by omega) hs hi]
  exact h
theorem tkE_lt (hP : Par t n v) {i : Nat} : tk n (E i) < 64 := by
  obtain ⟨h1, h2, h3, h4, h5, h6, h7, h8, h9⟩ := id hP
  have := tk_lt (E i) n
  have : 2 ^ n ≤ 2 ^ 6 := Nat.pow_le_pow_right (by omega) h4
  omega
theorem x_isLinked (hP : Par t n v) (hG : Gr t n v E) (hN : NOk F A t n v E) {a b : Nat} (ha : a < n) (hb : b < 32) (h : Post (nI (if E a b then 1 else 0))) : wp_X1_isLinked F A (nI a) (nI b) Post := by
  obtain ⟨h1, h2, h3, h4, h5, h6, h7, h8, h9⟩ := id hP
  obtain ⟨n0, n1, n2, n3, n4, n5⟩ := id hN
  unfold wp_X1_isLinked
  have e : ix (nI a) = a := ix_nI (by omega)
  simp only [e, n4 a ha]
  rw [bit_nI b hb _ (Nat.lt_trans (tkE_lt hP) (by omega)), tk_bit]
  have hE : (decide (b < n) && E a b) = E a b := by
    by_cases q : E a b = true
    · have := (hG.1 a b q).2.1
      simp [q, this]
    · simp [q]
  rw [hE]
  simp (disch := omega) only [i0, i6, lt_nI, le_nI]
  refine ⟨fun q => absurd q (by omega), fun _ => ⟨fun q => absurd q (by omega), fun _ => ⟨in_nI (by omega) (by omega), fun q => ?_, fun q => ?_⟩⟩⟩
  · by_cases c : E a b = true
    · rw [if_pos c] at q; exact absurd rfl q
    · rw [if_neg c] at h; exact h
  · by_cases c : E a b = true
    · rw [if_pos c] at h; exact h
    · rw [if_neg c] at q; exact absurd q (by decide)
theorem x_hasMachine (hP : Par t n v) (hN : NOk F A t n v E) {x : Int32} (h0 : (x < 0 ∨ nI n ≤ x) → Post 0) (h1 : ∀ i, i < n → x = nI i → Post 1) : wp_X1_hasMachine F A x Post := by
  obtain ⟨p1, p2, p3, p4, p5, p6, p7, p8, p9⟩ := id hP
  obtain ⟨n0, n1, n2, n3, n4, n5⟩ := id hN
  unfold wp_X1_hasMachine
  rw [n1]
  refine ⟨fun q => h0 (Or.inl q), fun q => ⟨fun r => h0 (Or.inr r), fun r => ?_⟩⟩
  rcases pk_ix x (n := n) (by omega) with c | c | ⟨j, hj, rfl⟩
  · exact absurd c q
  · exact absurd c r
  · exact h1 j hj rfl
theorem x_hasValue (hP : Par t n v) (hN : NOk F A t n v E) {x : Int32} (h0 : (x < 0 ∨ nI v ≤ x) → Post 0) (h1 : ∀ i, i < v → x = nI i → Post 1) : wp_X1_hasValue F A x Post := by
  obtain ⟨p1, p2, p3, p4, p5, p6, p7, p8, p9⟩ := id hP
  obtain ⟨n0, n1, n2, n3, n4, n5⟩ := id hN
  unfold wp_X1_hasValue
  rw [n2]
  refine ⟨fun q => h0 (Or.inl q), fun q => ⟨fun r => h0 (Or.inr r), fun r => ?_⟩⟩
  rcases pk_ix x (n := v) (by omega) with c | c | ⟨j, hj, rfl⟩
  · exact absurd c q
  · exact absurd c r
  · exact h1 j hj rfl
theorem x_hasState (hP : Par t n v) (hN : NOk F A t n v E) {x : Int32} (h0 : (x < 0 ∨ nI (v ^ n) ≤ x) → Post 0) (h1 : ∀ i, i < v ^ n → x = nI i → Post 1) : wp_X1_hasState F A x Post := by
  obtain ⟨p1, p2, p3, p4, p5, p6, p7, p8, p9⟩ := id hP
  obtain ⟨n0, n1, n2, n3, n4, n5⟩ := id hN
  unfold wp_X1_hasState
  rw [n3]
  refine ⟨fun q => h0 (Or.inl q), fun q => ⟨fun r => h0 (Or.inr r), fun r => ?_⟩⟩
  rcases pk_ix x (n := v ^ n) (by omega) with c | c | ⟨j, hj, rfl⟩
  · exact absurd c q
  · exact absurd c r
  · exact h1 j hj rfl
theorem x_aheadOf (hP : Par t n v) (hN : NOk F A t n v E) {i : Nat} (hi : i < n) (h : Post (nI (if i = 0 then n - 1 else i - 1))) : wp_X1_aheadOf F A (nI i) Post := by
  obtain ⟨p1, p2, p3, p4, p5, p6, p7, p8, p9⟩ := id hP
  obtain ⟨n0, n1, n2, n3, n4, n5⟩ := id hN
  unfold wp_X1_aheadOf
  rw [n1]
  simp (disch := omega) only [i0, i1, eq_nI]
  refine ⟨fun q => ?_, fun q => ?_⟩
  · rw [if_neg q] at h
    rw [sub_nI (by omega)]
    exact h
  · rw [if_pos q] at h
    rw [sub_nI (by omega)]
    exact h
end NET
