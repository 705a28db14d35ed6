/-! waves from the legal states: d what is known, q the row of those that are known, its end, its head -/
def inQ (q : Nat → Nat) : Nat → Nat → Bool
  | 0, _ => false
  | k + 1, c => inQ q k c || q k == c
theorem inQ_iff {q : Nat → Nat} {c : Nat} : ∀ {k : Nat}, inQ q k c = true ↔ ∃ a, a < k ∧ q a = c
  | 0 => by simp [inQ]
  | k + 1 => by
    rw [inQ, Bool.or_eq_true, inQ_iff, beq_iff_eq]
    constructor
    · rintro (⟨a, h1, h2⟩ | h)
      · exact ⟨a, by omega, h2⟩
      · exact ⟨k, by omega, h⟩
    · rintro ⟨a, h1, h2⟩
      by_cases e : a = k
      · subst e; exact Or.inr h2
      · exact Or.inl ⟨a, by omega, h2⟩
theorem inQ_push {q : Nat → Nat} {tail o c : Nat} : ∀ {k : Nat}, k ≤ tail → inQ (uN q tail o) k c = inQ q k c
  | 0, _ => rfl
  | k + 1, h => by rw [inQ, inQ, inQ_push (by omega), uN_ne (by omega)]
def JQ (S : Nat) (lg : Nat → Bool) (R : Nat → Nat → Prop) (d : Nat → Option Nat) (q : Nat → Nat) (tail head : Nat) : Prop :=
  tail = cn S (fun c => isS (d c)) ∧
  (∀ a, a < tail → q a < S ∧ isS (d (q a)) = true) ∧
  (∀ a b, a < tail → b < tail → q a = q b → a = b) ∧
  (∀ c, c < S → isS (d c) = true → ∃ a, a < tail ∧ q a = c) ∧
  (∀ a b k l, a ≤ b → b < tail → d (q a) = some k → d (q b) = some l → k ≤ l) ∧
  (∀ b k l, b < tail → head < tail → d (q head) = some k → d (q b) = some l → l ≤ k + 1) ∧
  (∀ c k, c < S → d c = some k → lv R c = some k ∧ k ≤ tail) ∧
  (∀ c, c < S → lg c = true → d c = some 0)
section BFS
variable {S : Nat} {lg : Nat → Bool} {R : Nat → Nat → Prop} {d : Nat → Option Nat} {q : Nat → Nat} {tail head : Nat}
theorem JQ.le (h : JQ S lg R d q tail head) : tail ≤ S := by rw [h.1]; exact cn_le _ _
theorem JQ.push (h : JQ S lg R d q tail head) {k o : Nat} (hh : head < tail) (hk : d (q head) = some k) (ho : o < S) (hn : d o = none) (hl : lv R o = some (k + 1)) : JQ S lg R (uO d o (k + 1)) (uN q tail o) (tail + 1) head := by
  obtain ⟨j1, j2, j3, j4, j5, j6, j7, j8⟩ := h
  have hqo : ∀ a, a < tail → q a ≠ o := fun a ha e => by
    have := (j2 a ha).2
    rw [e, hn] at this; cases this
  have hq : ∀ a, a < tail → uN q tail o a = q a := fun a ha => uN_ne (by omega)
  have hqt : uN q tail o tail = o := uN_same
  have hd : ∀ a, a < tail → uO d o (k + 1) (uN q tail o a) = d (q a) := fun a ha => by rw [hq a ha, uO_ne (hqo a ha)]
  have hdt : uO d o (k + 1) (uN q tail o tail) = some (k + 1) := by rw [hqt, uO_same]
  have hkt := (j7 _ k (j2 head hh).1 hk).2
  refine ⟨by rw [cn_uO ho hn, ← j1], fun a ha => ?_, fun a b ha hb he => ?_, fun c hc hs => ?_, fun a b k1 l hab hb h1 h2 => ?_, fun b k1 l hb hh2 h1 h2 => ?_, fun c k1 hc h1 => ?_, fun c hc hlg => ?_⟩
  · by_cases e : a = tail
    · subst e; rw [hdt, hqt]; exact ⟨ho, rfl⟩
    · rw [hd a (by omega), hq a (by omega)]; exact j2 a (by omega)
  · by_cases ea : a = tail
    · by_cases eb : b = tail
      · omega
      · rw [ea, hqt, hq b (by omega)] at he
        exact absurd he.symm (hqo b (by omega))
    · by_cases eb : b = tail
      · rw [eb, hqt, hq a (by omega)] at he
        exact absurd he (hqo a (by omega))
      · rw [hq a (by omega), hq b (by omega)] at he
        exact j3 a b (by omega) (by omega) he
  · by_cases e : c = o
    · exact ⟨tail, by omega, by rw [hqt, e]⟩
    · rw [uO_ne e] at hs
      obtain ⟨a, ha, he⟩ := j4 c hc hs
      exact ⟨a, by omega, by rw [hq a ha, he]⟩
  · by_cases eb : b = tail
    · subst eb
      rw [hdt] at h2
      cases h2
      by_cases ea : a = b
      · subst ea; rw [hdt] at h1; cases h1; omega
      · rw [hd a (by omega)] at h1
        exact j6 a k k1 (by omega) hh hk h1
    · rw [hd b (by omega)] at h2
      rw [hd a (by omega)] at h1
      exact j5 a b k1 l hab (by omega) h1 h2
  · rw [hd head hh, hk] at h1
    cases h1
    by_cases eb : b = tail
    · subst eb; rw [hdt] at h2; cases h2; omega
    · rw [hd b (by omega)] at h2
      exact j6 b k l (by omega) hh hk h2
  · by_cases e : c = o
    · rw [e, uO_same] at h1
      cases h1
      rw [e]
      exact ⟨hl, by omega⟩
    · rw [uO_ne e] at h1
      have := j7 c k1 hc h1
      exact ⟨this.1, by omega⟩
  · have e : c ≠ o := fun e => by rw [← e, j8 c hc hlg] at hn; cases hn
    rw [uO_ne e]
    exact j8 c hc hlg
theorem JQ.next (h : JQ S lg R d q tail head) (hh : head < tail) : JQ S lg R d q tail (head + 1) := by
  obtain ⟨j1, j2, j3, j4, j5, j6, j7, j8⟩ := h
  refine ⟨j1, j2, j3, j4, j5, fun b k l hb hh2 h1 h2 => ?_, j7, j8⟩
  obtain ⟨k0, hk0⟩ := isS_iff.mp (j2 head hh).2
  have := j6 b k0 l hb hh hk0 h2
  have := j5 head (head + 1) k0 k (by omega) hh2 hk0 h1
  omega
/-- which edges into c are handled -/
def hq (q : Nat → Nat) (head i0 x0 c i y : Nat) : Bool := inQ q head c || (c == q head && (decide (i < i0) || (i == i0 && decide (y < x0))))
theorem hq_push {o c i y i0 x0 : Nat} (hh : head < tail) : hq (uN q tail o) head i0 x0 c i y = hq q head i0 x0 c i y := by
  unfold hq
  rw [inQ_push (by omega), uN_ne (by omega)]
theorem hq_x {c i y i0 x0 : Nat} (h : ¬ (c = q head ∧ i = i0 ∧ y = x0)) : hq q head i0 (x0 + 1) c i y = hq q head i0 x0 c i y := by
  unfold hq
  by_cases h1 : c = q head
  · by_cases h2 : i = i0
    · have h3 : y ≠ x0 := fun e => h ⟨h1, h2, e⟩
      have : (y < x0 + 1) = (y < x0) := by simp only [eq_iff_iff]; omega
      simp only [this]
    · have : (i == i0) = false := by simp [h2]
      simp only [this, Bool.false_and]
  · have : (c == q head) = false := by simp [h1]
    simp only [this, Bool.false_and]
theorem hq_x1 {i0 x0 : Nat} : hq q head i0 (x0 + 1) (q head) i0 x0 = true := by simp [hq]
theorem hq_x0 {i0 x0 : Nat} (h : inQ q head (q head) = false) : hq q head i0 x0 (q head) i0 x0 = false := by simp [hq, h]
theorem hq_i {c i y i0 v : Nat} (hy : y < v) : hq q head i0 v c i y = hq q head (i0 + 1) 0 c i y := by
  unfold hq
  have : (decide (i < i0) || (i == i0 && decide (y < v))) = (decide (i < i0 + 1) || (i == i0 + 1 && decide (y < 0))) := by
    simp only [hy, decide_true, Bool.and_true, Nat.not_lt_zero, decide_false, Bool.and_false, Bool.or_false]
    by_cases h1 : i < i0
    · have : i < i0 + 1 := by omega
      simp [h1, this]
    · by_cases h2 : i = i0
      · subst h2; simp
      · have : ¬ i < i0 + 1 := by omega
        simp [h1, h2, this]
  rw [this]
theorem hq_h {c i y n : Nat} (hi : i < n) : hq q head n 0 c i y = hq q (head + 1) 0 0 c i y := by
  unfold hq
  rw [inQ]
  have : (c == q head) = (q head == c) := by rw [Bool.eq_iff_iff, beq_iff_eq, beq_iff_eq]; exact eq_comm
  simp [hi, this]
theorem JQ.fresh (h : JQ S lg R d q tail head) (hh : head < tail) : inQ q head (q head) = false := by
  cases e : inQ q head (q head) with
  | false => rfl
  | true =>
    obtain ⟨a, h1, h2⟩ := inQ_iff.mp e
    have := h.2.2.1 a head (by omega) hh h2
    omega
end BFS
/-- where one digit of o' makes c0, o' is c0 with that digit told anew -/
theorem one_digit {v n c0 o i y : Nat} (hv : 0 < v) (hc : c0 < v ^ n) (ho : o < v ^ n) (hi : i < n) (hy : y < v) (h : c0 = cd v n (uN (dg v o) i y)) : o = cd v n (uN (dg v c0) i (dg v o i)) := by
  have hr := uN_lt (f := dg v o) (k := i) (n := n) (fun j _ => dg_lt hv) hy
  rw [← cd_dg ho]
  refine cd_congr n (fun j hj => ?_)
  by_cases e : j = i
  · subst e; rw [uN_same, cd_dg ho]
  · rw [uN_ne e, h, dg_cd n hr j hj, uN_ne e]
section BFSN
variable {t n v : Nat} {E : Nat → Nat → Bool} {d : Nat → Option Nat} {q : Nat → Nat} {tail head : Nat}
/-- ALL: how many moves are not handled yet -/
def KA (t n v : Nat) (E : Nat → Nat → Bool) (d : Nat → Option Nat) (q : Nat → Nat) (ml : Nat → Nat) (head i0 x0 : Nat) : Prop :=
  ∀ o, o < v ^ n → d o = none → ml o = cn n (fun i => mvc t n v E o i && !hq q head i0 x0 (tg t n v E o i) i (dg v o i)) ∧ (0 < cn n (mvc t n v E o) → 0 < ml o)
theorem wt_tg (hP : Par t n v) (hG : Gr t n v E) {o i c : Nat} (hi : i < n) (h : c = tg t n v E o i) : dg v c i = wt t n v E (dg v o) i := by
  obtain ⟨p1, p2, p3, p4, p5, p6, p7, p8, p9⟩ := id hP
  rw [h]
  unfold tg
  rw [dg_cd n (uN_lt (fun j hj => dg_lt (by omega)) (wt_lt hP hG (Rw_dg (by omega)) hi)) i hi, uN_same]
/-- of o, which is c with the value x: a move to c or none -/
theorem edge_iff (hP : Par t n v) (hG : Gr t n v E) {c i x : Nat} (hc : c < v ^ n) (hi : i < n) (hx : x < v) (hne : x ≠ dg v c i) : (wt t n v E (dg v (cd v n (uN (dg v c) i x))) i = dg v c i) ↔ (mvc t n v E (cd v n (uN (dg v c) i x)) i = true ∧ tg t n v E (cd v n (uN (dg v c) i x)) i = c) := by
  obtain ⟨p1, p2, p3, p4, p5, p6, p7, p8, p9⟩ := id hP
  have hr : ∀ j, j < n → uN (dg v c) i x j < v := uN_lt (fun j hj => dg_lt (by omega)) hx
  have ho := dg_cd n hr i hi
  rw [uN_same] at ho
  constructor
  · intro h
    refine ⟨?_, ?_⟩
    · unfold mvc mv
      rw [h, ho]
      simp [Ne.symm hne]
    · unfold tg
      rw [h, ← cd_dg hc]
      refine cd_congr n (fun j hj => ?_)
      by_cases e : j = i
      · subst e; rw [uN_same, cd_dg hc]
      · rw [uN_ne e, cd_dg hc, dg_cd n hr j hj, uN_ne e]
  · rintro ⟨-, h⟩
    exact (wt_tg hP hG hi h.symm).symm
theorem tg_one (hP : Par t n v) (hG : Gr t n v E) {o i c x : Nat} (hc : c < v ^ n) (ho : o < v ^ n) (hi : i < n) (h : tg t n v E o i = c) (hx : dg v o i = x) : o = cd v n (uN (dg v c) i x) := by
  obtain ⟨p1, p2, p3, p4, p5, p6, p7, p8, p9⟩ := id hP
  rw [← hx]
  exact one_digit (by omega) hc ho hi (wt_lt hP hG (Rw_dg (by omega)) hi) h.symm
/-- x0 is passed, and nothing was to be done -/
theorem KA.skip (hP : Par t n v) (hG : Gr t n v E) {ml : Nat → Nat} {i0 x0 : Nat} (h : KA t n v E d q ml head i0 x0) (hc : q head < v ^ n) (hi : i0 < n) (hx : x0 < v) (hs : x0 = dg v (q head) i0 ∨ isS (d (cd v n (uN (dg v (q head)) i0 x0))) = true ∨ wt t n v E (dg v (cd v n (uN (dg v (q head)) i0 x0))) i0 ≠ dg v (q head) i0) : KA t n v E d q ml head i0 (x0 + 1) := fun o ho hn => by
  have := h o ho hn
  rw [show cn n (fun i => mvc t n v E o i && !hq q head i0 (x0 + 1) (tg t n v E o i) i (dg v o i)) = cn n (fun i => mvc t n v E o i && !hq q head i0 x0 (tg t n v E o i) i (dg v o i)) from cn_congr n (fun i hi2 => ?_)]
  · exact this
  · by_cases e : tg t n v E o i = q head ∧ i = i0 ∧ dg v o i = x0
    · obtain ⟨e1, rfl, e3⟩ := e
      have eo := tg_one hP hG hc ho hi e1 e3
      rcases hs with hs | hs | hs
      · have hm : mvc t n v E o i = false := by
          have := wt_tg hP hG hi e1.symm
          unfold mvc mv
          rw [← this, e3, hs]
          simp
        rw [hm]; rfl
      · rw [← eo, hn] at hs; cases hs
      · by_cases ex : x0 = dg v (q head) i
        · have hm : mvc t n v E o i = false := by
            have := wt_tg hP hG hi e1.symm
            unfold mvc mv
            rw [← this, e3, ex]
            simp
          rw [hm]; rfl
        · rw [← eo] at hs
          exact absurd (wt_tg hP hG hi e1.symm).symm hs
    · rw [hq_x e]
/-- an edge is struck off -/
theorem KA.strike (hP : Par t n v) (hG : Gr t n v E) {ml : Nat → Nat} {i0 x0 : Nat} (h : KA t n v E d q ml head i0 x0) (hc : q head < v ^ n) (hf : inQ q head (q head) = false) (hi : i0 < n) (hx : x0 < v) (hne : x0 ≠ dg v (q head) i0) {o : Nat} (eo : o = cd v n (uN (dg v (q head)) i0 x0)) (hn : d o = none) (hw : wt t n v E (dg v o) i0 = dg v (q head) i0) :
    0 < ml o ∧ cn n (fun i => mvc t n v E o i && !hq q head i0 (x0 + 1) (tg t n v E o i) i (dg v o i)) = ml o - 1 := by
  obtain ⟨p1, p2, p3, p4, p5, p6, p7, p8, p9⟩ := id hP
  have hr : ∀ j, j < n → uN (dg v (q head)) i0 x0 j < v := uN_lt (fun j hj => dg_lt (by omega)) hx
  have ho : o < v ^ n := by rw [eo]; exact cd_lt n hr
  have hod : dg v o i0 = x0 := by rw [eo, dg_cd n hr i0 hi, uN_same]
  have hed := (edge_iff hP hG hc hi hx hne).mp (by rw [← eo]; exact hw)
  rw [← eo] at hed
  obtain ⟨h1, h2⟩ := h o ho hn
  have hpos : 0 < ml o := h2 (cn_pos hi hed.1)
  refine ⟨hpos, ?_⟩
  have hone := cn_one_less (p := fun i => mvc t n v E o i && !hq q head i0 x0 (tg t n v E o i) i (dg v o i)) n hi (by show (mvc t n v E o i0 && !hq q head i0 x0 (tg t n v E o i0) i0 (dg v o i0)) = true; rw [hed.1, hed.2, hod, hq_x0 hf]; rfl)
  rw [h1, hone, Nat.add_sub_cancel]
  refine cn_congr n (fun i hi2 => ?_)
  by_cases e : i = i0
  · subst e
    rw [hed.2, hod, hq_x1]
    simp
  · rw [hq_x (fun q => e q.2.1)]
    have : (i == i0) = false := by simp [e]
    simp [this]
/-- the count is told, for o; o may have come to be known -/
theorem KA.told (hP : Par t n v) (hG : Gr t n v E) {ml : Nat → Nat} {i0 x0 : Nat} (h : KA t n v E d q ml head i0 x0) (hc : q head < v ^ n) (hi : i0 < n) (hx : x0 < v) {o m : Nat} (eo : o = cd v n (uN (dg v (q head)) i0 x0)) (hm : m = cn n (fun i => mvc t n v E o i && !hq q head i0 (x0 + 1) (tg t n v E o i) i (dg v o i))) {d' : Nat → Option Nat} (hd : ∀ o', o' ≠ o → d' o' = d o') (hpos : d' o = none → 0 < m) : KA t n v E d' q (uN ml o m) head i0 (x0 + 1) := fun o' ho' hn' => by
  by_cases e : o' = o
  · subst e
    rw [uN_same]
    exact ⟨hm, fun _ => hpos hn'⟩
  · rw [uN_ne e]
    rw [hd o' e] at hn'
    have := h o' ho' hn'
    rw [show cn n (fun i => mvc t n v E o' i && !hq q head i0 (x0 + 1) (tg t n v E o' i) i (dg v o' i)) = cn n (fun i => mvc t n v E o' i && !hq q head i0 x0 (tg t n v E o' i) i (dg v o' i)) from cn_congr n (fun i hi2 => ?_)]
    · exact this
    · rw [hq_x]
      rintro ⟨e1, rfl, e3⟩
      exact e (by rw [eo]; exact tg_one hP hG hc ho' hi e1 e3)
theorem KA.push {ml : Nat → Nat} {i0 x0 o : Nat} (h : KA t n v E d q ml head i0 x0) (hh : head < tail) : KA t n v E d (uN q tail o) ml head i0 x0 := fun o' ho' hn' => by
  have := h o' ho' hn'
  simp only [hq_push hh]
  exact this
theorem KA.i (hv : 0 < v) {ml : Nat → Nat} {i0 : Nat} (h : KA t n v E d q ml head i0 v) : KA t n v E d q ml head (i0 + 1) 0 := fun o ho hn => by
  have := h o ho hn
  rw [show cn n (fun i => mvc t n v E o i && !hq q head (i0 + 1) 0 (tg t n v E o i) i (dg v o i)) = cn n (fun i => mvc t n v E o i && !hq q head i0 v (tg t n v E o i) i (dg v o i)) from cn_congr n (fun i hi2 => by rw [hq_i (dg_lt hv)])]
  exact this
theorem KA.h {ml : Nat → Nat} (h : KA t n v E d q ml head n 0) : KA t n v E d q ml (head + 1) 0 0 := fun o ho hn => by
  have := h o ho hn
  rw [show cn n (fun i => mvc t n v E o i && !hq q (head + 1) 0 0 (tg t n v E o i) i (dg v o i)) = cn n (fun i => mvc t n v E o i && !hq q head n 0 (tg t n v E o i) i (dg v o i)) from cn_congr n (fun i hi2 => by rw [hq_h hi2])]
  exact this
/-- o, whose moves are all handled, is one deeper than the head -/
theorem lvA (hP : Par t n v) (hG : Gr t n v E) (hJ : JQ (v ^ n) (lgc t n v E) (Hb t n v E) d q tail head) (hh : head < tail) {k i0 x0 o : Nat} (hk : d (q head) = some k) (hi : i0 < n) (ho : o < v ^ n) (hn : d o = none) (hm : mvc t n v E o i0 = true) (ht : tg t n v E o i0 = q head) (hz : cn n (fun i => mvc t n v E o i && !hq q head i0 x0 (tg t n v E o i) i (dg v o i)) = 0) : lv (Hb t n v E) o = some (k + 1) := by
  obtain ⟨j1, j2, j3, j4, j5, j6, j7, j8⟩ := hJ
  have hlg : lgc t n v E o = false := by
    cases e : lgc t n v E o with
    | false => rfl
    | true => rw [j8 o ho e] at hn; cases hn
  refine lvH_step hlg (fun i hi2 hmv => ?_) ⟨i0, hi, hm, by rw [ht]; exact (j7 _ k (j2 head hh).1 hk).1⟩
  have hz' := (cn_zero n).mp hz i hi2
  rw [hmv, Bool.true_and] at hz'
  have hz'' : hq q head i0 x0 (tg t n v E o i) i (dg v o i) = true := by simpa using hz'
  have : ∃ a, a ≤ head ∧ q a = tg t n v E o i := by
    unfold hq at hz''
    rw [Bool.or_eq_true] at hz''
    rcases hz'' with q1 | q1
    · obtain ⟨a, h1, h2⟩ := inQ_iff.mp q1
      exact ⟨a, by omega, h2⟩
    · rw [Bool.and_eq_true, beq_iff_eq] at q1
      exact ⟨head, by omega, q1.1.symm⟩
  obtain ⟨a, ha, hqa⟩ := this
  obtain ⟨k2, hk2⟩ := isS_iff.mp (j2 a (by omega)).2
  rw [← hqa]
  exact ⟨k2, (j7 _ k2 (j2 a (by omega)).1 hk2).1, j5 a head k2 k ha hh hk2 hk⟩
theorem endA (hP : Par t n v) (hG : Gr t n v E) (hJ : JQ (v ^ n) (lgc t n v E) (Hb t n v E) d q tail head) (hh : tail ≤ head) {ml : Nat → Nat} (hK : KA t n v E d q ml head 0 0) : ∀ c, c < v ^ n → d c = lv (Hb t n v E) c := fun c hc => by
  obtain ⟨j1, j2, j3, j4, j5, j6, j7, j8⟩ := hJ
  cases e : d c with
  | some k => exact (j7 c k hc e).1.symm
  | none =>
    symm
    rw [lv_none]
    intro k hk
    have := lvH_none (S := v ^ n) (w := d) (fun c i _ hi => tg_lt hP hG hi) (fun c hc hl => by rw [j8 c hc hl]; rfl) (fun c hc hn ha i hi => by
      obtain ⟨h1, h2⟩ := hK c hc hn
      cases em : mvc t n v E c i with
      | false => rfl
      | true =>
        have hz : cn n (fun i => mvc t n v E c i && !hq q head 0 0 (tg t n v E c i) i (dg v c i)) = 0 := (cn_zero n).mpr (fun i2 hi2 => by
          cases em2 : mvc t n v E c i2 with
          | false => rfl
          | true =>
            obtain ⟨a, h3, h4⟩ := j4 _ (tg_lt hP hG hi2) (ha i2 hi2 em2)
            have : inQ q head (tg t n v E c i2) = true := inQ_iff.mpr ⟨a, by omega, h4⟩
            simp [hq, this])
        have := h2 (cn_pos hi em)
        omega) k c hc hk
    rw [e] at this; cases this
/-! SOME: an edge by one digit is enough -/
def KS (n v : Nat) (ed : Nat → Nat → Nat → Prop) (d : Nat → Option Nat) (q : Nat → Nat) (head i0 x0 : Nat) : Prop :=
  ∀ o, o < v ^ n → d o = none → ∀ i c, i < n → ed o i c → hq q head i0 x0 c i (dg v o i) = false
section SOME
variable {ed : Nat → Nat → Nat → Prop} {lg : Nat → Bool} {sc : Nat → Nat → Prop}
/-- an edge tells one digit anew -/
def Ed1 (n v : Nat) (ed : Nat → Nat → Nat → Prop) : Prop := ∀ o i c, o < v ^ n → i < n → ed o i c → ∃ y, y < v ∧ y ≠ dg v o i ∧ c = cd v n (uN (dg v o) i y)
theorem KS.skip (hv : 0 < v) (h1 : Ed1 n v ed) {i0 x0 : Nat} (h : KS n v ed d q head i0 x0) (hc : q head < v ^ n) (hi : i0 < n) (hs : x0 = dg v (q head) i0 ∨ isS (d (cd v n (uN (dg v (q head)) i0 x0))) = true ∨ ¬ ed (cd v n (uN (dg v (q head)) i0 x0)) i0 (q head)) : KS n v ed d q head i0 (x0 + 1) := fun o ho hn i c hi2 he => by
  have := h o ho hn i c hi2 he
  rw [hq_x]
  · exact this
  · rintro ⟨rfl, rfl, e3⟩
    obtain ⟨y, hy, hyn, hcy⟩ := h1 o i _ ho hi he
    have eo := one_digit hv hc ho hi hy hcy
    rw [e3] at eo
    rcases hs with hs | hs | hs
    · rw [hcy, dg_cd n (uN_lt (fun j hj => dg_lt hv) hy) i hi, uN_same] at hs
      omega
    · rw [← eo, hn] at hs; cases hs
    · rw [← eo] at hs; exact hs he
theorem KS.got (hv : 0 < v) (h1 : Ed1 n v ed) {i0 x0 o k : Nat} (h : KS n v ed d q head i0 x0) (hc : q head < v ^ n) (hi : i0 < n) (eo : o = cd v n (uN (dg v (q head)) i0 x0)) : KS n v ed (uO d o k) q head i0 (x0 + 1) := fun o' ho' hn' i c hi2 he => by
  have hne : o' ≠ o := fun e => by rw [e, uO_same] at hn'; cases hn'
  rw [uO_ne hne] at hn'
  have := h o' ho' hn' i c hi2 he
  rw [hq_x]
  · exact this
  · rintro ⟨rfl, rfl, e3⟩
    obtain ⟨y, hy, hyn, hcy⟩ := h1 o' i _ ho' hi he
    have eo2 := one_digit hv hc ho' hi hy hcy
    rw [e3, ← eo] at eo2
    exact hne eo2
theorem KS.push {i0 x0 o : Nat} (h : KS n v ed d q head i0 x0) (hh : head < tail) : KS n v ed d (uN q tail o) head i0 x0 := fun o' ho' hn' i c hi he => by
  rw [hq_push hh]; exact h o' ho' hn' i c hi he
theorem KS.i (hv : 0 < v) {i0 : Nat} (h : KS n v ed d q head i0 v) : KS n v ed d q head (i0 + 1) 0 := fun o ho hn i c hi he => by
  rw [← hq_i (dg_lt hv)]; exact h o ho hn i c hi he
theorem KS.h (h : KS n v ed d q head n 0) : KS n v ed d q (head + 1) 0 0 := fun o ho hn i c hi he => by
  rw [← hq_h hi]; exact h o ho hn i c hi he
/-- each step is an edge, or none -/
def Es (n v : Nat) (ed : Nat → Nat → Nat → Prop) (sc : Nat → Nat → Prop) : Prop := ∀ o p, o < v ^ n → sc o p → p < v ^ n ∧ (p = o ∨ ∃ i, i < n ∧ ed o i p)
theorem KS.below (hE : Es n v ed sc) (hJ : JQ (v ^ n) lg (Gb lg sc) d q tail head) {i0 x0 : Nat} (hK : KS n v ed d q head i0 x0) (hp : ∀ c j, c < v ^ n → d c = some j → lv (Gb lg sc) c = some j → (∃ k, d (q head) = some k ∧ head < tail ∧ k ≤ j) ∨ inQ q head c = true) : ∀ j c, c < v ^ n → lv (Gb lg sc) c = some j → (∀ k, d (q head) = some k → head < tail → j ≤ k) → isS (d c) = true
  | 0, c, hc, hl, _ => by rw [hJ.2.2.2.2.2.2.2 c hc (lv_some.mp hl).1]; rfl
  | j + 1, c, hc, hl, hb => by
    obtain ⟨p, hs, hlp⟩ := lvG_succ hl
    obtain ⟨hpS, he⟩ := hE c p hc hs
    have ih := KS.below hE hJ hK hp j p hpS hlp (fun k hk hh => by have := hb k hk hh; omega)
    obtain ⟨j2, hj2⟩ := isS_iff.mp ih
    have hex := (hJ.2.2.2.2.2.2.1 p j2 hpS hj2).1
    rw [hlp] at hex
    cases hex
    cases ed' : d c with
    | some k => rfl
    | none =>
      rcases he with he | ⟨i, hi, he⟩
      · rw [he, hl] at hlp; cases hlp
      · rcases hp p j hpS hj2 hlp with ⟨k, hk, hh, hkj⟩ | hin
        · have := hb k hk hh; omega
        · have := hK c hc ed' i p hi he
          simp [hq, hin] at this
theorem lvS (hE : Es n v ed sc) (hJ : JQ (v ^ n) lg (Gb lg sc) d q tail head) (hh : head < tail) {k i0 x0 o : Nat} (hK : KS n v ed d q head i0 x0) (hk : d (q head) = some k) (ho : o < v ^ n) (hn : d o = none) (hs : sc o (q head)) : lv (Gb lg sc) o = some (k + 1) := by
  have hJ' := hJ
  obtain ⟨j1, j2, j3, j4, j5, j6, j7, j8⟩ := hJ
  refine lvG_new (fun j hj hl => ?_) ⟨_, hs, (j7 _ k (j2 head hh).1 hk).1⟩
  have := KS.below hE hJ' hK (fun c j hc hd hl => by
    obtain ⟨a, ha, hqa⟩ := j4 c hc (by rw [hd]; rfl)
    by_cases q1 : a < head
    · exact Or.inr (inQ_iff.mpr ⟨a, q1, hqa⟩)
    · refine Or.inl ⟨k, hk, hh, j5 head a k j (by omega) ha hk (by rw [hqa]; exact hd)⟩) j o ho hl (fun k2 hk2 _ => by rw [hk] at hk2; cases hk2; exact hj)
  rw [hn] at this; cases this
theorem endS (hE : Es n v ed sc) (hJ : JQ (v ^ n) lg (Gb lg sc) d q tail head) (hh : tail ≤ head) (hK : KS n v ed d q head 0 0) : ∀ c, c < v ^ n → d c = lv (Gb lg sc) c := fun c hc => by
  have hJ' := hJ
  obtain ⟨j1, j2, j3, j4, j5, j6, j7, j8⟩ := hJ
  cases e : d c with
  | some k => exact (j7 c k hc e).1.symm
  | none =>
    symm
    cases e2 : lv (Gb lg sc) c with
    | none => rfl
    | some j =>
      have := KS.below hE hJ' hK (fun c j hc hd hl => by
        obtain ⟨a, ha, hqa⟩ := j4 c hc (by rw [hd]; rfl)
        exact Or.inr (inQ_iff.mpr ⟨a, by omega, hqa⟩)) j c hc e2 (fun k hk hh2 => by omega)
      rw [e] at this; cases this
end SOME
end BFSN
