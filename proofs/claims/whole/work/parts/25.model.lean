/-! the reference's net -/
def MOk (F : Nat → Int32) (A : Nat → Nat → Int32) (t n v : Nat) (E : Nat → Nat → Bool) : Prop :=
  F 2 = nI t ∧ F 3 = nI n ∧ F 4 = nI v ∧ F 5 = nI (v ^ n) ∧ (∀ a b, a < n → b < n → A 7 (6 * a + b) = nI (if E a b then 1 else 0)) ∧ (∀ i, i < n → A 8 i = nI (v ^ i))
/-- nothing but these fields and rows has changed -/
def Fr (fs as : List Nat) (F : Nat → Int32) (A : Nat → Nat → Int32) (F' : Nat → Int32) (A' : Nat → Nat → Int32) : Prop := (∀ k, k ∉ fs → F' k = F k) ∧ (∀ k, k ∉ as → A' k = A k)
theorem Fr.rf {fs as : List Nat} {F : Nat → Int32} {A : Nat → Nat → Int32} : Fr fs as F A F A := ⟨fun _ _ => rfl, fun _ _ => rfl⟩
theorem Fr.tr {fs as : List Nat} {F F1 F2 : Nat → Int32} {A A1 A2 : Nat → Nat → Int32} (h1 : Fr fs as F A F1 A1) (h2 : Fr fs as F1 A1 F2 A2) : Fr fs as F A F2 A2 := ⟨fun k hk => (h2.1 k hk).trans (h1.1 k hk), fun k hk => (h2.2 k hk).trans (h1.2 k hk)⟩
theorem Fr.mo {fs as fs' as' : List Nat} {F F1 : Nat → Int32} {A A1 : Nat → Nat → Int32} (h : Fr fs as F A F1 A1) (hf : ∀ k, k ∈ fs → k ∈ fs') (ha : ∀ k, k ∈ as → k ∈ as') : Fr fs' as' F A F1 A1 := ⟨fun k hk => h.1 k (fun q => hk (hf k q)), fun k hk => h.2 k (fun q => hk (ha k q))⟩
theorem Fr.uF {fs as : List Nat} {F : Nat → Int32} {A : Nat → Nat → Int32} {k : Nat} {x : Int32} (hk : k ∈ fs) : Fr fs as F A (uF F k x) A := ⟨fun j hj => uF_ne (fun h => hj (h ▸ hk)), fun _ _ => rfl⟩
theorem Fr.uA {fs as : List Nat} {F : Nat → Int32} {A : Nat → Nat → Int32} {k : Nat} {g : Nat → Int32} (hk : k ∈ as) : Fr fs as F A F (uA A k g) := ⟨fun _ _ => rfl, fun j hj => uA_ne (fun h => hj (h ▸ hk))⟩
theorem MOk.fr {fs as : List Nat} {F F1 : Nat → Int32} {A A1 : Nat → Nat → Int32} {t n v : Nat} {E : Nat → Nat → Bool} (hM : MOk F A t n v E) (h : Fr fs as F A F1 A1) (hf : (2 ∉ fs ∧ 3 ∉ fs ∧ 4 ∉ fs ∧ 5 ∉ fs) ∧ 7 ∉ as ∧ 8 ∉ as) : MOk F1 A1 t n v E := by
  obtain ⟨m1, m2, m3, m4, m5, m6⟩ := hM
  obtain ⟨⟨h2, h3, h4, h5⟩, h7, h8⟩ := hf
  exact ⟨by rw [h.1 2 h2]; exact m1, by rw [h.1 3 h3]; exact m2, by rw [h.1 4 h4]; exact m3, by rw [h.1 5 h5]; exact m4, fun a b ha hb => by rw [h.2 7 h7]; exact m5 a b ha hb, fun i hi => by rw [h.2 8 h8]; exact m6 i hi⟩
/-- the row holds f -/
def Row (A : Nat → Nat → Int32) (n : Nat) (f : Nat → Nat) : Prop := ∀ i, i < n → A 24 i = nI (f i)
theorem Row.congr {A : Nat → Nat → Int32} {n : Nat} {f g : Nat → Nat} (h : Row A n f) (e : ∀ i, i < n → f i = g i) : Row A n g := fun i hi => by rw [h i hi, e i hi]
/-- what becomesOf answers -/
def bo (t n v : Nat) (E : Nat → Nat → Bool) (f : Nat → Nat) (i : Nat) : Int32 := if mv t n v E f i then nI (wt t n v E f i) else -1
theorem upd_at {f : Nat → Int32} {k j : Nat} {x : Int32} : upd f k x j = if j = k then x else f j := rfl
section MOD
variable {F : Nat → Int32} {A : Nat → Nat → Int32} {t n v : Nat} {E : Nat → Nat → Bool}
theorem m_rowOf {Post : (Nat → Int32) → (Nat → Nat → Int32) → Prop} (hP : Par t n v) (hM : MOk F A t n v E) {s : Nat} (hs : s < v ^ n) (h : ∀ A', Fr [] [24] F A F A' → Row A' n (dg v s) → Post F A') : wp_X7_rowOf F A (nI s) Post := by
  obtain ⟨p1, p2, p3, p4, p5, p6, p7, p8, p9⟩ := id hP
  obtain ⟨m1, m2, m3, m4, m5, m6⟩ := id hM
  unfold wp_X7_rowOf wp_X7_rowOf_4
  refine Lp_of (fun z => ∃ j A', j ≤ n ∧ z = (nI (s / v ^ j), nI j, F, A') ∧ Fr [] [24] F A F A' ∧ ∀ i, i < j → A' 24 i = nI (dg v s i)) (fun z => n - ix z.2.1) ⟨0, A, by omega, by rw [Nat.pow_zero, Nat.div_one]; rfl, Fr.rf, fun i hi => absurd hi (Nat.not_lt_zero i)⟩ ?_
  rintro _ ⟨j, A', hj, rfl, hF, hr⟩
  dsimp only
  unfold st_X7_rowOf_4
  have hd : s / v ^ j ≤ s := Nat.div_le_self _ _
  rw [m2, m3]
  simp (disch := omega) only [le_nI, i0, eq_nI]
  refine ⟨fun hge => ?_, fun hlt => ⟨by omega, in_nI (by omega) (by omega), ?_⟩⟩
  · have : j = n := by omega
    subst this
    exact h A' hF hr
  · rintro _ rfl
    rw [ix_nI (by omega), rem_nI (by omega) (by omega) (by omega), div_nI (by omega) (by omega) (by omega)]
    refine ⟨by omega, ⟨j + 1, uA A' 24 (upd (A' 24) j (nI (s / v ^ j % v))), by omega, ?_, hF.tr (Fr.uA (by decide)), fun i hi => ?_⟩, ?_⟩
    · rw [nI_s, Nat.div_div_eq_div_mul, Nat.pow_succ]
    · rw [uA_same, upd_at]
      split
      · rename_i e; subst e; rfl
      · exact hr i (by omega)
    · first | omega | (simp (disch := omega) only [nI_s, ix_nI]; omega)
theorem m_rowNow {Post : (Nat → Int32) → (Nat → Nat → Int32) → Prop} (hP : Par t n v) (hM : MOk F A t n v E) {f : Nat → Nat} (hv : ∀ i, i < n → A 9 i = nI (f i)) (h : ∀ A', Fr [] [24] F A F A' → Row A' n f → Post F A') : wp_X7_rowNow F A Post := by
  obtain ⟨p1, p2, p3, p4, p5, p6, p7, p8, p9⟩ := id hP
  obtain ⟨m1, m2, m3, m4, m5, m6⟩ := id hM
  unfold wp_X7_rowNow wp_X7_rowNow_2
  refine Lp_of (fun z => ∃ j A', j ≤ n ∧ z = (nI j, F, A') ∧ Fr [] [24] F A F A' ∧ ∀ i, i < j → A' 24 i = nI (f i)) (fun z => n - ix z.1) ⟨0, A, by omega, rfl, Fr.rf, fun i hi => absurd hi (Nat.not_lt_zero i)⟩ ?_
  rintro _ ⟨j, A', hj, rfl, hF, hr⟩
  dsimp only
  unfold st_X7_rowNow_2
  rw [m2]
  simp (disch := omega) only [le_nI]
  refine ⟨fun hge => ?_, fun hlt => ⟨in_nI (by omega) (by omega), in_nI (by omega) (by omega), ?_⟩⟩
  · have : j = n := by omega
    subst this
    exact h A' hF hr
  · rintro _ rfl
    rw [ix_nI (by omega)]
    refine ⟨⟨j + 1, uA A' 24 (upd (A' 24) j (A' 9 j)), by omega, by rw [nI_s], hF.tr (Fr.uA (by decide)), fun i hi => ?_⟩, ?_⟩
    · rw [uA_same, upd_at]
      split
      · rename_i e; subst e; rw [hF.2 9 (by decide)]; exact hv i (by omega)
      · exact hr i (by omega)
    · first | omega | (simp (disch := omega) only [nI_s, ix_nI]; omega)
theorem m_codeOf {Post : Int32 → Prop} (hP : Par t n v) (hM : MOk F A t n v E) {f : Nat → Nat} (hr : Row A n f) (h : Post (nI (cd v n f))) : wp_X7_codeOf F A Post := by
  obtain ⟨p1, p2, p3, p4, p5, p6, p7, p8, p9⟩ := id hP
  obtain ⟨m1, m2, m3, m4, m5, m6⟩ := id hM
  unfold wp_X7_codeOf wp_X7_codeOf_4
  refine Lp_of (fun z => ∃ j, j ≤ n ∧ z = (nI (cd v j f), nI j)) (fun z => n - ix z.2) ⟨0, by omega, rfl⟩ ?_
  rintro _ ⟨j, hj, rfl⟩
  dsimp only
  unfold st_X7_codeOf_4
  rw [m2]
  simp (disch := omega) only [le_nI]
  refine ⟨fun hge => ?_, fun hlt => ⟨in_nI (by omega) (by omega), in_nI (by omega) (by omega), ⟨j + 1, by omega, ?_⟩, ?_⟩⟩
  · have : j = n := by omega
    subst this
    exact h
  · rw [nI_s, ix_nI (by omega), hr j (by omega), m6 j (by omega), pk_mul, nI_add, cd]
  · first | omega | (simp (disch := omega) only [nI_s, ix_nI]; omega)
theorem m_isWired {Post : Int32 → Prop} (hP : Par t n v) (hM : MOk F A t n v E) {a b : Nat} (ha : a < n) (hb : b < n) (h : Post (nI (if E a b then 1 else 0))) : wp_X7_isWired F A (nI a) (nI b) Post := by
  obtain ⟨p1, p2, p3, p4, p5, p6, p7, p8, p9⟩ := id hP
  obtain ⟨m1, m2, m3, m4, m5, m6⟩ := id hM
  unfold wp_X7_isWired
  rw [i6, pk_mul, nI_add, ix_nI (by omega), m5 a b ha hb]
  refine ⟨in_nI (by omega) (by omega), fun c => ?_, fun c => ?_⟩
  · by_cases q : E a b = true
    · rw [if_pos q] at c; exact absurd rfl c
    · rw [if_neg q] at h; exact h
  · by_cases q : E a b = true
    · rw [if_pos q] at h; exact h
    · rw [if_neg q] at c; exact absurd c (by decide)
theorem m_lowest {Post : Int32 → Prop} (hP : Par t n v) (hG : Gr t n v E) (hM : MOk F A t n v E) {f : Nat → Nat} (hr : Row A n f) {i : Nat} {x : Int32} {q : Nat → Bool} (hi : i < n) (hq : ∀ k, k < n → (nI (f k) = x ↔ q k = true)) (h : Post (if fd n (fun j => E i j && q j) < n then nI (fd n (fun j => E i j && q j)) else -1)) : wp_X7_lowest F A (nI i) x Post := by
  obtain ⟨p1, p2, p3, p4, p5, p6, p7, p8, p9⟩ := id hP
  obtain ⟨m1, m2, m3, m4, m5, m6⟩ := id hM
  unfold wp_X7_lowest wp_X7_lowest_2
  refine Lp_of (fun z => ∃ j, j ≤ n ∧ z = nI j ∧ ∀ k, k < j → (E i k && q k) = false) (fun z => n - ix z) ⟨0, by omega, rfl, fun k hk => absurd hk (Nat.not_lt_zero k)⟩ ?_
  rintro _ ⟨j, hj, rfl, hk⟩
  unfold st_X7_lowest_2
  rw [m2]
  simp (disch := omega) only [le_nI]
  have go : (E i j && q j) = false → j < n → (∃ j', j' ≤ n ∧ nI j + 1 = nI j' ∧ ∀ k, k < j' → (E i k && q k) = false) ∧ n - ix (nI j + 1) < n - ix (nI j) := fun hb hl => by
    refine ⟨⟨j + 1, by omega, nI_s j, fun k hk' => ?_⟩, ?_⟩
    · by_cases c : k = j
      · subst c; exact hb
      · exact hk k (by omega)
    · first | omega | (simp (disch := omega) only [nI_s, ix_nI]; omega)
  refine ⟨fun hge => ?_, fun hlt => ?_⟩
  · rw [fd_none n (fun k hk' => hk k (by omega)), if_neg (by omega)] at h
    exact h
  · refine m_isWired hP hM hi (by omega) ?_
    refine ⟨fun c => ?_, fun c => ⟨in_nI (by omega) (by omega), ?_⟩⟩
    · refine go ?_ (by omega)
      by_cases hE : E i j = true
      · rw [if_pos hE] at c; exact absurd c (by decide)
      · simp [hE]
    · have hE : E i j = true := by
        by_cases hE : E i j = true
        · exact hE
        · rw [if_neg hE] at c; exact absurd rfl c
      have ej : A 24 (ix (nI j)) = nI (f j) := by rw [ix_nI (by omega)]; exact hr j (by omega)
      rw [ej]
      refine ⟨fun c2 => ?_, fun c2 => ?_⟩
      · refine go ?_ (by omega)
        have : ¬ q j = true := fun hh => c2 ((hq j (by omega)).mpr hh)
        simp [this]
      · have hqj := (hq j (by omega)).mp c2
        rw [fd_eq n (by omega) (by simp [hE, hqj]) hk, if_pos (by omega)] at h
        exact h
theorem m_lo1 {Post : Int32 → Prop} (hP : Par t n v) (hG : Gr t n v E) (hM : MOk F A t n v E) {f : Nat → Nat} (hf : Rw n v f) (hr : Row A n f) {i w : Nat} (hi : i < n) (hw : w < 100) (h : Post (if lo1 n E f i w < n then nI (lo1 n E f i w) else -1)) : wp_X7_lowest F A (nI i) (nI w) Post := by
  obtain ⟨p1, p2, p3, p4, p5, p6, p7, p8, p9⟩ := id hP
  refine m_lowest (q := fun k => f k == w) hP hG hM hr hi (fun k hk => ?_) h
  have := hf k hk
  rw [eq_nI (by omega) (by omega)]
  simp
theorem lt_m1 {c : Prop} [Decidable c] {a : Nat} (ha : a < 2147483648) : ((if c then nI a else (-1 : Int32)) < 0) = (¬ c) := by
  by_cases h : c
  · rw [if_pos h, i0, lt_nI ha (by omega)]; simp [h]
  · rw [if_neg h]; simp only [h, not_false_eq_true, eq_iff_iff, iff_true]; decide
theorem ge_m1 {c : Prop} [Decidable c] {a : Nat} (ha : a < 2147483648) : (0 ≤ (if c then nI a else (-1 : Int32))) = c := by
  by_cases h : c
  · rw [if_pos h, i0, le_nI (by omega) ha]; simp [h]
  · rw [if_neg h]; simp only [h, eq_iff_iff, iff_false]; decide
/-- becomesOf: the rule is written, where it may -/
def BoP (Post : Int32 → (Nat → Int32) → (Nat → Nat → Int32) → Prop) (F : Nat → Int32) (A : Nat → Nat → Int32) (t n v : Nat) (E : Nat → Nat → Bool) (f : Nat → Nat) (i : Nat) : Prop :=
  ∀ x, (mv t n v E f i = true → x = nI (rl t n v E f i)) → Post (bo t n v E f i) (uF F 26 x) A
theorem bo_yes {f : Nat → Nat} {i : Nat} {Post : Int32 → (Nat → Int32) → (Nat → Nat → Int32) → Prop} (h : BoP Post F A t n v E f i) {w r : Nat} (hw : wt t n v E f i = w) (hn : w ≠ f i) (hr : rl t n v E f i = r) : Post (nI w) (uF F 26 (nI r)) A := by
  have hm : mv t n v E f i = true := by unfold mv; simp [hw, hn]
  have := h (nI r) (fun _ => by rw [hr])
  rw [bo, if_pos hm, hw] at this
  exact this
theorem bo_no {f : Nat → Nat} {i : Nat} {Post : Int32 → (Nat → Int32) → (Nat → Nat → Int32) → Prop} (h : BoP Post F A t n v E f i) (hw : wt t n v E f i = f i) (x : Int32) : Post (-1) (uF F 26 x) A := by
  have hm : ¬ mv t n v E f i = true := by unfold mv; simp [hw]
  have := h x (fun q => absurd q hm)
  rw [bo, if_neg hm] at this
  exact this
theorem m_counters {Post : Int32 → (Nat → Int32) → (Nat → Nat → Int32) → Prop} (hP : Par t n v) (hG : Gr t n v E) (hM : MOk F A t n v E) (ht : t = 1) {f : Nat → Nat} (hf : Rw n v f) (hr : Row A n f) {i : Nat} (hi : i < n) (h : BoP Post F A t n v E f i) : wp_X7_counters F A (nI i) Post := by
  obtain ⟨p1, p2, p3, p4, p5, p6, p7, p8, p9⟩ := id hP
  obtain ⟨m1, m2, m3, m4, m5, m6⟩ := id hM
  have hf0 := hf 0 (by omega)
  have hfi := hf i hi
  have hfn := hf (n - 1) (by omega)
  have hrl : wt t n v E f i ≠ f i → rl t n v E f i = 1 := fun q => by unfold rl; rw [if_neg q, if_neg (by omega)]
  unfold wp_X7_counters
  rw [m2]
  simp (disch := omega) only [i0, i1, eq_nI]
  refine ⟨fun c => ?_, fun c => ?_⟩
  · have hfp := hf (i - 1) (by omega)
    have hw : wt t n v E f i = f (i - 1) := by unfold wt; rw [if_pos ht, if_neg c]
    rw [sub_nI (by omega)]
    unfold wp_X7_counters_25
    rw [ix_nI (by omega), ix_nI (by omega), hr i hi, hr (i - 1) (by omega)]
    refine ⟨in_nI (by omega) (by omega), fun _ => ⟨in_nI (by omega) (by omega), fun c2 => ?_, fun c2 => ?_⟩, fun c2 => absurd c2 (by rw [i0, eq_nI (by omega) (by omega)]; exact c)⟩
    · rw [eq_nI (by omega) (by omega)] at c2
      exact bo_yes h hw (by omega) (hrl (by omega))
    · rw [eq_nI (by omega) (by omega)] at c2
      exact bo_no h (by omega) _
  · subst c
    have hw : wt t n v E f 0 = if f 0 = f (n - 1) then (if f 0 + 1 < v then f 0 + 1 else 0) else f 0 := by unfold wt; rw [if_pos ht, if_pos rfl]
    rw [sub_nI (by omega)]
    unfold wp_X7_counters_25
    rw [i0, ix_nI (by omega), ix_nI (by omega), hr 0 hi, hr (n - 1) (by omega), uF_ne (by decide), m3]
    refine ⟨in_nI (by omega) (by omega), fun c2 => absurd rfl c2, fun _ => ⟨in_nI (by omega) (by omega), fun c2 => ?_, fun c2 => ⟨in_nI (by omega) (by omega), by rw [eq_nI (by omega) (by omega)]; omega, ?_⟩⟩⟩
    · rw [eq_nI (by omega) (by omega)] at c2
      rw [if_neg c2] at hw
      exact bo_no h hw _
    · rw [eq_nI (by omega) (by omega)] at c2
      rw [if_pos c2] at hw
      rw [i1, nI_add, rem_nI (by omega) (by omega) (by omega)]
      have e : (f 0 + 1) % v = if f 0 + 1 < v then f 0 + 1 else 0 := by
        by_cases q : f 0 + 1 < v
        · rw [if_pos q, Nat.mod_eq_of_lt q]
        · have : f 0 + 1 = v := by omega
          rw [if_neg q, this, Nat.mod_self]
      rw [← e] at hw
      have hne : (f 0 + 1) % v ≠ f 0 := by rw [e]; split <;> omega
      exact bo_yes h hw hne (hrl (by rw [hw]; exact hne))
theorem m_pointers {Post : Int32 → (Nat → Int32) → (Nat → Nat → Int32) → Prop} (hP : Par t n v) (hG : Gr t n v E) (hM : MOk F A t n v E) (ht : t = 2) {f : Nat → Nat} (hf : Rw n v f) (hr : Row A n f) {i : Nat} (hi : i < n) (h : BoP Post F A t n v E f i) : wp_X7_pointers F A (nI i) Post := by
  obtain ⟨p1, p2, p3, p4, p5, p6, p7, p8, p9⟩ := id hP
  obtain ⟨m1, m2, m3, m4, m5, m6⟩ := id hM
  have hvn := p8 ht
  have hfi := hf i hi
  have mu : ∀ x, MOk (uF F 26 x) A t n v E := fun x => hM.fr (fs := [26]) (as := []) (Fr.uF (by decide)) (by decide)
  have l1 := lo1_le (n := n) (E := E) (f := f) (i := i) (w := i + 1)
  have l0 := lo1_le (n := n) (E := E) (f := f) (i := i) (w := 0)
  unfold wp_X7_pointers
  rw [ix_nI (by omega), hr i hi]
  refine ⟨in_nI (by omega) (by omega), fun c => ?_, fun c => ?_⟩
  · have c0 : f i = 0 := by
      apply Nat.eq_zero_of_not_pos
      intro hp
      rw [i1, sub_nI (by omega), i0, lt_nI (by omega) (by omega)] at c
      omega
    have hw : wt t n v E f i = if lo1 n E f i (i + 1) < n then lo1 n E f i (i + 1) + 1 else if lo1 n E f i 0 < n then lo1 n E f i 0 + 1 else 0 := by
      unfold wt; rw [if_neg (by omega), if_pos ht, if_pos c0]
    have hrl : wt t n v E f i ≠ f i → rl t n v E f i = if lo1 n E f i (i + 1) < n then 1 else 2 := fun q => by unfold rl; rw [if_neg q, if_pos ht, if_pos c0]
    rw [i1, nI_add]
    refine m_lo1 hP hG (mu _) hf hr hi (by omega) ?_
    rw [ge_m1 (by omega)]
    refine ⟨fun c2 => ?_, fun c2 => ?_⟩
    · rw [if_pos c2] at hw hrl ⊢
      unfold wp_X7_pointers_89
      rw [i0, le_nI (by omega) (by omega)]
      refine ⟨fun _ => ?_, fun q => absurd (by omega) q⟩
      rw [i1, nI_add]
      exact bo_yes h hw (by omega) (hrl (by omega))
    · rw [if_neg c2] at hw hrl
      rw [i0, i2]
      refine m_lo1 hP hG (mu _) hf hr hi (by omega) ?_
      unfold wp_X7_pointers_89
      rw [ge_m1 (by omega)]
      refine ⟨fun c3 => ?_, fun c3 => ?_⟩
      · rw [if_pos c3] at hw ⊢
        rw [i1, nI_add]
        exact bo_yes h hw (by omega) (hrl (by omega))
      · rw [if_neg c3] at hw
        exact bo_no h (by omega) _
  · have c0 : f i ≠ 0 := fun q => c (by rw [q]; decide)
    have hw : wt t n v E f i = if E i (f i - 1) then (if f (f i - 1) = 0 ∨ f (f i - 1) = i + 1 then f i else 0) else 0 := by
      unfold wt; rw [if_neg (by omega), if_pos ht, if_neg c0]
    have hrl : wt t n v E f i ≠ f i → rl t n v E f i = 3 := fun q => by unfold rl; rw [if_neg q, if_pos ht, if_neg c0]
    rw [i1, sub_nI (by omega), i3]
    refine ⟨fun c2 => ?_, fun c2 => ?_⟩
    · rw [eq_nI (by omega) (by omega)] at c2
      have hE : ¬ E i (f i - 1) = true := fun hE => (hG.1 _ _ hE).2.2.1 (by omega)
      rw [if_neg hE] at hw
      exact bo_yes (w := 0) h hw (by omega) (hrl (by omega))
    · refine m_isWired hP (mu _) hi (by omega) ⟨fun c3 => ?_, fun c3 => ?_⟩
      · have hE : ¬ E i (f i - 1) = true := fun hE => by rw [if_pos hE] at c3; exact absurd c3 (by decide)
        rw [if_neg hE] at hw
        exact bo_yes (w := 0) h hw (by omega) (hrl (by omega))
      · have hE : E i (f i - 1) = true := by
          by_cases hE : E i (f i - 1) = true
          · exact hE
          · rw [if_neg hE] at c3; exact absurd rfl c3
        rw [if_pos hE] at hw
        have hfj := hf (f i - 1) (by omega)
        rw [ix_nI (by omega), hr (f i - 1) (by omega)]
        simp (disch := omega) only [i0, nI_add, eq_nI]
        refine ⟨in_nI (by omega) (by omega), fun c4 => ?_, fun c4 => ⟨in_nI (by omega) (by omega), fun c5 => ?_, fun c5 => ?_⟩⟩
        · rw [if_pos (Or.inl c4)] at hw
          exact bo_no h hw _
        · rw [if_pos (Or.inr c5)] at hw
          exact bo_no h hw _
        · rw [if_neg (by omega)] at hw
          exact bo_yes h hw (by omega) (hrl (by omega))
end MOD
