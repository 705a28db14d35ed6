/-! levels: the least k of which R k c holds -/
noncomputable def lv (R : Nat → Nat → Prop) (c : Nat) : Option Nat := @dite _ (∃ k, R k c) (Classical.propDecidable _) (fun h => some (Classical.choose (pk_least (fun k => R k c) h))) (fun _ => none)
theorem lv_some {R : Nat → Nat → Prop} {c k : Nat} : lv R c = some k ↔ R k c ∧ ∀ j, j < k → ¬ R j c := by
  unfold lv
  constructor
  · intro h
    by_cases e : ∃ k, R k c
    · rw [dif_pos e] at h
      have := Classical.choose_spec (pk_least (fun k => R k c) e)
      rw [Option.some.inj h] at this
      exact this
    · rw [dif_neg e] at h
      cases h
  · rintro ⟨h1, h2⟩
    have e : ∃ k, R k c := ⟨k, h1⟩
    rw [dif_pos e]
    have := Classical.choose_spec (pk_least (fun k => R k c) e)
    congr 1
    rcases Nat.lt_trichotomy (Classical.choose (pk_least (fun k => R k c) e)) k with q | q | q
    · exact absurd this.1 (h2 _ q)
    · exact q
    · exact absurd h1 (this.2 _ q)
theorem lv_none {R : Nat → Nat → Prop} {c : Nat} : lv R c = none ↔ ∀ k, ¬ R k c := by
  unfold lv
  constructor
  · intro h k hk
    rw [dif_pos ⟨k, hk⟩] at h
    cases h
  · intro h
    rw [dif_neg (fun ⟨k, hk⟩ => h k hk)]
def eo (d : Int32) : Option Nat → Int32
  | some k => nI k
  | none => d
/-- the array holds w -/
def IsA (S : Nat) (d : Int32) (g : Nat → Int32) (w : Nat → Option Nat) : Prop := ∀ c, c < S → g c = eo d (w c) ∧ ∀ k, w c = some k → k ≤ 4096
def isS (o : Option Nat) : Bool := match o with
  | some _ => true
  | none => false
theorem isS_iff {o : Option Nat} : isS o = true ↔ ∃ k, o = some k := by cases o <;> simp [isS]
theorem isS_no {o : Option Nat} : isS o = false ↔ o = none := by cases o <;> simp [isS]
/-- one state more is known -/
def uO (w : Nat → Option Nat) (c k : Nat) : Nat → Option Nat := fun j => if j = c then some k else w j
theorem uO_same {w : Nat → Option Nat} {c k : Nat} : uO w c k c = some k := if_pos rfl
theorem uO_ne {w : Nat → Option Nat} {c k j : Nat} (h : j ≠ c) : uO w c k j = w j := if_neg h
theorem cn_uO {w : Nat → Option Nat} {c k S : Nat} (hc : c < S) (h : w c = none) : cn S (fun j => isS (uO w c k j)) = cn S (fun j => isS (w j)) + 1 := by
  rw [cn_one_less (p := fun j => isS (uO w c k j)) S hc (by show isS (uO w c k c) = true; rw [uO_same]; rfl)]
  congr 1
  refine cn_congr S (fun j hj => ?_)
  by_cases e : j = c
  · subst e
    simp [h, isS]
  · rw [uO_ne e]
    simp [e]
theorem IsA.put {S : Nat} {d : Int32} {g : Nat → Int32} {w : Nat → Option Nat} (h : IsA S d g w) {c k : Nat} (hk : k ≤ 4096) : IsA S d (upd g c (nI k)) (uO w c k) := fun j hj => by
  by_cases e : j = c
  · subst e
    rw [uO_same, upd_at, if_pos rfl]
    exact ⟨rfl, fun k2 h2 => by cases h2; exact hk⟩
  · rw [uO_ne e, upd_at, if_neg e]
    exact h j hj
theorem IsA.neg {S : Nat} {d : Int32} {g : Nat → Int32} {w : Nat → Option Nat} (h : IsA S d g w) (hd : d < 0) {c : Nat} (hc : c < S) : (0 ≤ g c) = (isS (w c) = true) := by
  obtain ⟨h1, h2⟩ := h c hc
  rw [h1]
  cases e : w c with
  | none =>
    simp only [eo, isS, eq_iff_iff, Bool.false_eq_true, iff_false]
    rw [Int32.le_iff_toInt_le]
    rw [Int32.lt_iff_toInt_lt] at hd
    omega
  | some k =>
    have := h2 k e
    simp only [eo, isS, eq_iff_iff, iff_true]
    rw [i0, le_nI (by omega) (by omega)]
    omega
theorem IsA.lt0 {S : Nat} {d : Int32} {g : Nat → Int32} {w : Nat → Option Nat} (h : IsA S d g w) (hd : d < 0) {c : Nat} (hc : c < S) : (g c < 0) = (w c = none) := by
  obtain ⟨h1, h2⟩ := h c hc
  rw [h1]
  cases e : w c with
  | none => simp only [eo, hd]
  | some k =>
    have := h2 k e
    simp only [eo, eq_iff_iff, reduceCtorEq, iff_false]
    rw [i0, lt_nI (by omega) (by omega)]
    omega
theorem IsA.ofEq {S : Nat} {d : Int32} {g : Nat → Int32} {w w2 : Nat → Option Nat} (h : IsA S d g w) (e : ∀ c, c < S → w c = w2 c) : IsA S d g w2 := fun c hc => by
  rw [← e c hc]
  exact h c hc
section LEV
variable (t n v : Nat) (E : Nat → Nat → Bool)
def lgc (c : Nat) : Bool := lgl t n v E (dg v c)
def mvc (c i : Nat) : Bool := mv t n v E (dg v c) i
/-- the state behind a move -/
def tg (c i : Nat) : Nat := cd v n (uN (dg v c) i (wt t n v E (dg v c) i))
/-- at most k moves till legal, whoever moves -/
def Hb : Nat → Nat → Prop
  | 0, c => lgc t n v E c = true
  | k + 1, c => lgc t n v E c = true ∨ ((∃ i, i < n ∧ mvc t n v E c i = true) ∧ ∀ i, i < n → mvc t n v E c i = true → Hb k (tg t n v E c i))
/-- a move leads from c to d -/
def scB (c d : Nat) : Prop := ∃ i, i < n ∧ mvc t n v E c i = true ∧ d = tg t n v E c i
end LEV
/-- a value told anew leads from c to d -/
def scC (n v : Nat) (c d : Nat) : Prop := ∃ i w, i < n ∧ w < v ∧ d = cd v n (uN (dg v c) i w)
/-- within k steps to a legal one -/
def Gb (lg : Nat → Bool) (sc : Nat → Nat → Prop) : Nat → Nat → Prop
  | 0, c => lg c = true
  | k + 1, c => lg c = true ∨ ∃ d, sc c d ∧ Gb lg sc k d
abbrev Bb (t n v : Nat) (E : Nat → Nat → Bool) : Nat → Nat → Prop := Gb (lgc t n v E) (scB t n v E)
abbrev Cb (t n v : Nat) (E : Nat → Nat → Bool) : Nat → Nat → Prop := Gb (lgc t n v E) (scC n v)
section LEVG
variable {lg : Nat → Bool} {sc : Nat → Nat → Prop}
theorem Gb_mono {c : Nat} : ∀ {k : Nat}, Gb lg sc k c → Gb lg sc (k + 1) c
  | 0, h => Or.inl h
  | k + 1, h => by
    rcases h with h | ⟨d, h1, h2⟩
    · exact Or.inl h
    · exact Or.inr ⟨d, h1, Gb_mono h2⟩
theorem Gb_le {c k j : Nat} (h : Gb lg sc k c) (hj : k ≤ j) : Gb lg sc j c := by
  induction j with
  | zero => rw [Nat.le_zero.mp hj] at h; exact h
  | succ j ih =>
    by_cases e : k = j + 1
    · rw [← e]; exact h
    · exact Gb_mono (ih (by omega))
theorem lv_of_Gb {c k : Nat} (h : Gb lg sc k c) : ∃ j, j ≤ k ∧ lv (Gb lg sc) c = some j := by
  obtain ⟨j, h1, h2⟩ := pk_least (fun k => Gb lg sc k c) ⟨k, h⟩
  refine ⟨j, ?_, lv_some.mpr ⟨h1, h2⟩⟩
  apply Nat.le_of_not_lt
  intro q
  exact h2 k q h
theorem lvG_succ {c k : Nat} (h : lv (Gb lg sc) c = some (k + 1)) : ∃ d, sc c d ∧ lv (Gb lg sc) d = some k := by
  obtain ⟨h1, h2⟩ := lv_some.mp h
  rcases h1 with h1 | ⟨d, hs, hd⟩
  · exact absurd h1 (h2 0 (by omega))
  · refine ⟨d, hs, lv_some.mpr ⟨hd, fun j hj hG => h2 (j + 1) (by omega) (Or.inr ⟨d, hs, hG⟩)⟩⟩
theorem lvG_new {c k : Nat} (hn : ∀ j, j ≤ k → lv (Gb lg sc) c ≠ some j) (h : ∃ d, sc c d ∧ lv (Gb lg sc) d = some k) : lv (Gb lg sc) c = some (k + 1) := by
  obtain ⟨d, hs, hd⟩ := h
  have h1 : Gb lg sc (k + 1) c := Or.inr ⟨d, hs, (lv_some.mp hd).1⟩
  obtain ⟨j, hj, hl⟩ := lv_of_Gb h1
  by_cases e : j = k + 1
  · rw [e] at hl; exact hl
  · exact absurd hl (hn j (by omega))
theorem lvG_chain {S : Nat} (hS : ∀ c d, c < S → sc c d → d < S) : ∀ k c j, c < S → lv (Gb lg sc) c = some k → j ≤ k → ∃ d, d < S ∧ lv (Gb lg sc) d = some j
  | 0, c, j, hc, h, hj => ⟨c, hc, by rw [Nat.le_zero.mp hj]; exact h⟩
  | k + 1, c, j, hc, h, hj => by
    by_cases e : j = k + 1
    · rw [e]; exact ⟨c, hc, h⟩
    · obtain ⟨d, hs, hd⟩ := lvG_succ h
      exact lvG_chain hS k d j (hS c d hc hs) hd (by omega)
/-- known so far: what is below far -/
noncomputable def tr (R : Nat → Nat → Prop) (far c : Nat) : Option Nat := match lv R c with
  | some k => if k < far then some k else none
  | none => none
theorem tr_some {R : Nat → Nat → Prop} {far c k : Nat} : tr R far c = some k ↔ lv R c = some k ∧ k < far := by
  unfold tr
  cases e : lv R c with
  | none => simp
  | some j =>
    dsimp only
    split
    · constructor
      · intro h; cases h; exact ⟨rfl, by assumption⟩
      · rintro ⟨h, -⟩; exact h
    · constructor
      · intro h; cases h
      · rintro ⟨h, h2⟩; cases h; contradiction
theorem tr_none {R : Nat → Nat → Prop} {far c : Nat} (h : tr R far c = none) : ∀ k, lv R c = some k → far ≤ k := fun k hk => by
  apply Nat.le_of_not_lt
  intro q
  rw [tr_some.mpr ⟨hk, q⟩] at h
  cases h
theorem tr_next {R : Nat → Nat → Prop} {far c : Nat} (h : lv R c ≠ some far) : tr R (far + 1) c = tr R far c := by
  unfold tr
  cases e : lv R c with
  | none => rfl
  | some k =>
    dsimp only
    by_cases q : k < far
    · rw [if_pos q, if_pos (by omega)]
    · rw [if_neg q, if_neg (fun q2 => h (by rw [e]; congr 1; omega))]
theorem tr_new {R : Nat → Nat → Prop} {far c : Nat} (h : lv R c = some far) : tr R (far + 1) c = some far ∧ tr R far c = none := by
  unfold tr
  rw [h]
  dsimp only
  exact ⟨if_pos (by omega), if_neg (by omega)⟩
theorem tr_one {S c : Nat} : tr (Gb lg sc) 1 c = if lg c then some 0 else none := by
  by_cases h : lg c = true
  · rw [if_pos h, tr_some]
    exact ⟨lv_some.mpr ⟨h, fun j hj => absurd hj (Nat.not_lt_zero j)⟩, by omega⟩
  · rw [if_neg h]
    cases e : tr (Gb lg sc) 1 c with
    | none => rfl
    | some k =>
      obtain ⟨h1, h2⟩ := tr_some.mp e
      have : k = 0 := by omega
      subst this
      exact absurd (lv_some.mp h1).1 h
end LEVG
section LEVT
variable {t n v : Nat} {E : Nat → Nat → Bool}
theorem Hb_mono {c : Nat} : ∀ {k : Nat}, Hb t n v E k c → Hb t n v E (k + 1) c
  | 0, h => Or.inl h
  | k + 1, h => by
    rcases h with h | ⟨h1, h2⟩
    · exact Or.inl h
    · exact Or.inr ⟨h1, fun i hi hm => Hb_mono (h2 i hi hm)⟩
theorem Hb_le {c k j : Nat} (h : Hb t n v E k c) (hj : k ≤ j) : Hb t n v E j c := by
  induction j with
  | zero => rw [Nat.le_zero.mp hj] at h; exact h
  | succ j ih =>
    by_cases e : k = j + 1
    · rw [← e]; exact h
    · exact Hb_mono (ih (by omega))
theorem tg_lt (hP : Par t n v) (hG : Gr t n v E) {c i : Nat} (hi : i < n) : tg t n v E c i < v ^ n := by
  obtain ⟨p1, p2, p3, p4, p5, p6, p7, p8, p9⟩ := id hP
  exact cd_lt n (uN_lt (fun j hj => dg_lt (by omega)) (wt_lt hP hG (Rw_dg (by omega)) hi))
/-- exact levels, for all moves: what is said of one state by what is known of those behind its moves -/
theorem lvH_step {c m : Nat} (hl : lgc t n v E c = false) (ha : ∀ i, i < n → mvc t n v E c i = true → ∃ k, lv (Hb t n v E) (tg t n v E c i) = some k ∧ k ≤ m) (hx : ∃ i, i < n ∧ mvc t n v E c i = true ∧ lv (Hb t n v E) (tg t n v E c i) = some m) : lv (Hb t n v E) c = some (m + 1) := by
  rw [lv_some]
  obtain ⟨i0, hi0, hm0, hl0⟩ := hx
  refine ⟨Or.inr ⟨⟨i0, hi0, hm0⟩, fun i hi hm => ?_⟩, fun j hj hH => ?_⟩
  · obtain ⟨k, hk, hkm⟩ := ha i hi hm
    exact Hb_le (lv_some.mp hk).1 hkm
  · cases j with
    | zero => rw [Hb, hl] at hH; cases hH
    | succ j =>
      rcases hH with hH | ⟨-, hH⟩
      · rw [hl] at hH; cases hH
      · exact (lv_some.mp hl0).2 j (by omega) (hH i0 hi0 hm0)
/-- what is stuck is for ever -/
theorem lvH_none {S : Nat} (hS : ∀ c i, c < S → i < n → tg t n v E c i < S) {w : Nat → Option Nat} (h0 : ∀ c, c < S → lgc t n v E c = true → isS (w c) = true) (hs : ∀ c, c < S → w c = none → (∀ i, i < n → mvc t n v E c i = true → isS (w (tg t n v E c i)) = true) → ∀ i, i < n → mvc t n v E c i = false) : ∀ k c, c < S → Hb t n v E k c → isS (w c) = true
  | 0, c, hc, hH => h0 c hc hH
  | k + 1, c, hc, hH => by
    rcases hH with hH | ⟨⟨i0, hi0, hm0⟩, hH⟩
    · exact h0 c hc hH
    · cases e : w c with
      | some k => rfl
      | none =>
        have := hs c hc e (fun i hi hm => lvH_none hS h0 hs k _ (hS c i hc hi) (hH i hi hm)) i0 hi0
        rw [this] at hm0; cases hm0
theorem lv_legal {c : Nat} (h : lgc t n v E c = true) : lv (Hb t n v E) c = some 0 ∧ lv (Bb t n v E) c = some 0 ∧ lv (Cb t n v E) c = some 0 :=
  ⟨lv_some.mpr ⟨h, fun j hj => absurd hj (Nat.not_lt_zero j)⟩, lv_some.mpr ⟨h, fun j hj => absurd hj (Nat.not_lt_zero j)⟩, lv_some.mpr ⟨h, fun j hj => absurd hj (Nat.not_lt_zero j)⟩⟩
theorem lv_zero {c : Nat} (h : lv (Hb t n v E) c = some 0) : lgc t n v E c = true := (lv_some.mp h).1
/-- a legal state anywhere: as many values told anew as there are machines are enough -/
theorem Cb_all (hv : 0 < v) {L : Nat} (hL : L < v ^ n) (hl : lgc t n v E L = true) {c : Nat} (hc : c < v ^ n) : Cb t n v E n c := by
  have go : ∀ k j, j + k = n → ∀ c, c < v ^ n → (∀ i, i < j → dg v c i = dg v L i) → Cb t n v E k c := by
    intro k
    induction k with
    | zero =>
      intro j hj c hc he
      have : c = L := by rw [← cd_dg hc, ← cd_dg hL]; exact cd_congr n (fun i hi => he i (by omega))
      rw [this]; exact hl
    | succ k ih =>
      intro j hj c hc he
      refine Or.inr ⟨_, ⟨j, dg v L j, by omega, dg_lt hv, rfl⟩, ih (j + 1) (by omega) _ (cd_lt n (uN_lt (fun i hi => dg_lt hv) (dg_lt hv))) (fun i hi => ?_)⟩
      rw [dg_cd n (uN_lt (fun i hi => dg_lt hv) (dg_lt hv)) i (by omega)]
      by_cases e : i = j
      · subst e; rw [uN_same]
      · rw [uN_ne e]; exact he i (by omega)
  exact go n 0 (by omega) c hc (fun i hi => absurd hi (Nat.not_lt_zero i))
end LEVT
