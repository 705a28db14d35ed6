/-! who moves -/
def drw : Nat → Nat → Nat
  | m, 0 => lwm m
  | m, a + 1 => drw (m - lwm m) a
def rng (n m : Nat) (last : Option Nat) : Nat := match last with
  | none => lwm m
  | some l => if l < n ∧ m / 2 ^ (l + 1) * 2 ^ (l + 1) ≠ 0 then lwm (m / 2 ^ (l + 1) * 2 ^ (l + 1)) else lwm m
def pickT (n m : Nat) : Nat → Nat → Nat → Option Nat
  | 0, _, _ => none
  | f + 1, a, at' => if m.testBit at' then (if a = 0 then some at' else pickT n m f (a - 1) ((at' + 1) % n)) else pickT n m f a ((at' + 1) % n)
theorem pick_low : ∀ n, n < 7 → 2 ≤ n → ∀ m, m < 2 ^ n → m ≠ 0 → (pickT n m 14 0 0).map (fun r => 2 ^ r) = some (lwm m) := by decide +kernel
def pR (n m l : Nat) : Bool := decide ((2 ≤ n ∧ m < 2 ^ n ∧ m ≠ 0 ∧ l < n) → (pickT n m 14 0 ((l + 1) % n)).map (fun r => 2 ^ r) = some (rng n m (some l)))
def pD (n m a : Nat) : Bool := decide ((2 ≤ n ∧ m < 2 ^ n ∧ m ≠ 0 ∧ a < pcn m) → (pickT n m 14 a 0).map (fun r => 2 ^ r) = some (drw m a))
theorem pick_rng' : ∀ n, n < 7 → ∀ m, m < 64 → ∀ l, l < 6 → pR n m l = true := by decide +kernel
theorem pick_drw' : ∀ n, n < 7 → ∀ m, m < 64 → ∀ a, a < 7 → pD n m a = true := by decide +kernel
theorem pick_rng {n m l : Nat} (hn : n ≤ 6) (hn2 : 2 ≤ n) (hm : m < 64) (hm2 : m < 2 ^ n) (h0 : m ≠ 0) (hl : l < n) : (pickT n m 14 0 ((l + 1) % n)).map (fun r => 2 ^ r) = some (rng n m (some l)) :=
  of_decide_eq_true (pick_rng' n (by omega) m hm l (by omega)) ⟨hn2, hm2, h0, hl⟩
theorem pick_drw {n m a : Nat} (hn : n ≤ 6) (hn2 : 2 ≤ n) (hm : m < 64) (hm2 : m < 2 ^ n) (h0 : m ≠ 0) (ha7 : a < 7) (ha : a < pcn m) : (pickT n m 14 a 0).map (fun r => 2 ^ r) = some (drw m a) :=
  of_decide_eq_true (pick_drw' n (by omega) m hm a ha7) ⟨hn2, hm2, h0, ha⟩
theorem low_le : ∀ m, m < 128 → lwm m ≤ m := by decide +kernel
theorem pcn_pos : ∀ m, m < 128 → m ≠ 0 → 0 < pcn m := by decide +kernel
theorem sh1 : ∀ k, k < 7 → (1 : Int32) <<< (nI k &&& 31) = nI (2 ^ k) := by decide +kernel
theorem ring_nI : ∀ l, l < 6 → ∀ m, m < 64 → ((nI m >>> ((nI l + (1 : Int32)) &&& 31)) <<< ((nI l + (1 : Int32)) &&& 31)) = nI (m / 2 ^ (l + 1) * 2 ^ (l + 1)) ∧ m / 2 ^ (l + 1) * 2 ^ (l + 1) < 64 := by decide +kernel
theorem fd_le_of {p : Nat → Bool} {k N : Nat} (h : p k = true) : fd N p ≤ k := by
  apply Nat.le_of_not_lt
  intro q
  have := (fd_spec p N).2 k q
  rw [h] at this; cases this
/-- the draw -/
def dv (z k : Nat) : Nat := (7919 * z + 6151 * k + 1) * (7919 * z + 6151 * k + 1) % 65521
theorem dv_lt {z k : Nat} : dv z k < 65521 := Nat.mod_lt _ (by omega)
theorem sq_lt {x : Nat} (h : x < 134217728) : x * x < 18014398509481984 := by
  have : x * x ≤ 134217727 * 134217727 := Nat.mul_le_mul (by omega) (by omega)
  omega
theorem dv_long {z k : Nat} (hz : z ≤ 9999) (hk : k ≤ 300) : ((((((7919 : Int64) * (Int32.toInt64 (nI z))) + ((6151 : Int64) * (Int32.toInt64 (nI k)))) + (1 : Int64)) * ((((7919 : Int64) * (Int32.toInt64 (nI z))) + ((6151 : Int64) * (Int32.toInt64 (nI k)))) + (1 : Int64))) - (((((7919 : Int64) * (Int32.toInt64 (nI z))) + ((6151 : Int64) * (Int32.toInt64 (nI k)))) + (1 : Int64)) * ((((7919 : Int64) * (Int32.toInt64 (nI z))) + ((6151 : Int64) * (Int32.toInt64 (nI k)))) + (1 : Int64))) / (65521 : Int64) * (65521 : Int64)) = lN (dv z k) := by
  rw [nI_l (show z < 2 ^ 31 by omega), nI_l (show k < 2 ^ 31 by omega), show (7919 : Int64) = lN 7919 from rfl, show (6151 : Int64) = lN 6151 from rfl, show (1 : Int64) = lN 1 from rfl, show (65521 : Int64) = lN 65521 from rfl, lN_mul, lN_mul, lN_add, lN_add, lN_mul]
  have := sq_lt (x := 7919 * z + 6151 * k + 1) (by omega)
  rw [pk_lRem (by omega) (by omega) (by omega)]
  rfl
theorem x_drawOf {z k : Nat} {Post : Int32 → Prop} (hz : z ≤ 9999) (hk : k ≤ 300) (h : Post (nI (dv z k))) : wp_X6_drawOf (nI z) (nI k) Post := by
  unfold wp_X6_drawOf
  rw [dv_long hz hk, lN_i]
  exact h
theorem m_drawn {z k : Nat} {Post : Int64 → Prop} (hz : z ≤ 9999) (hk : k ≤ 300) (h : Post (lN (dv z k))) : wp_X7_drawn (nI z) (nI k) Post := by
  unfold wp_X7_drawn
  rw [dv_long hz hk]
  exact h
theorem x_nextInRing {n m : Nat} {last : Option Nat} {Post : Int32 → Prop} (hn : n ≤ 6) (hm : m < 64) (hl : ∀ l, last = some l → l < n) (h : Post (nI (rng n m last))) : wp_X0_nextInRing (nI m) (eo (-4) last) (nI n) Post := by
  unfold wp_X0_nextInRing wp_X0_nextInRing_35
  unfold rng at h
  cases last with
  | none => exact ⟨fun q => absurd q (by decide), fun _ => x_lowest (by omega) h⟩
  | some l =>
    have hln := hl l rfl
    obtain ⟨r1, r2⟩ := ring_nI l (by omega) m hm
    simp only [eo]
    rw [r1]
    simp (disch := omega) only [i0, le_nI, eq_nI]
    dsimp only at h
    refine ⟨fun _ => ⟨fun q => absurd q (by omega), fun _ => ⟨fun q => ?_, fun q => ?_⟩⟩, fun q => absurd (by omega) q⟩
    · rw [if_neg (fun q2 => q2.2 q)] at h
      exact x_lowest (by omega) h
    · rw [if_pos ⟨hln, q⟩] at h
      exact x_lowest (by omega) h
theorem x_drawn {m d : Nat} {Post : Int32 → Prop} (hm : m < 64) (hm0 : m ≠ 0) (hd : d < 65521) (h : Post (nI (drw m (d % pcn m)))) : wp_X0_drawn (nI m) (nI d) Post := by
  have hpc : pcn m ≤ 7 := cn_le _ _
  have hp0 := pcn_pos m (by omega) hm0
  have hmod : d % pcn m < pcn m := Nat.mod_lt _ hp0
  unfold wp_X0_drawn
  refine x_bitCount (by omega) ?_
  simp (disch := omega) only [i0, eq_nI]
  refine ⟨fun _ => ⟨by omega, ?_⟩, fun q => by omega⟩
  rw [rem_nI (by omega) (by omega) (by omega)]
  unfold wp_X0_drawn_18
  refine Lp_of (fun z => ∃ r a, r < 64 ∧ a < 8 ∧ z = (nI r, nI a) ∧ drw r a = drw m (d % pcn m)) (fun z => ix z.2) ⟨m, d % pcn m, hm, by omega, rfl, rfl⟩ ?_
  rintro _ ⟨r, a, hr, ha, rfl, he⟩
  dsimp only
  unfold st_X0_drawn_18
  rw [i0, le_nI (by omega) (by omega)]
  have hlow := low_le r (by omega)
  refine ⟨fun q => x_lowest (by omega) ?_, fun q => x_lowest (by omega) ⟨⟨r - lwm r, a - 1, by omega, by omega, ?_, ?_⟩, ?_⟩⟩
  · have : a = 0 := by omega
    subst this
    rw [← he] at h; exact h
  · rw [sub_nI hlow, sb_m1 (by omega)]
  · rw [← he]
    have : a = a - 1 + 1 := by omega
    conv => rhs; rw [this]
    rfl
  · rw [sb_m1 (by omega), ix_nI (by omega), ix_nI (by omega)]; omega
theorem m_lowestBit {m : Nat} {Post : Int32 → Prop} (hm : m < 128) (hm0 : m ≠ 0) (h : Post (nI (fd 7 (fun i => m.testBit i)))) : wp_X7_lowestBit (nI m) Post := by
  have hl := lwm_nz m hm hm0
  have hsp := fd_spec (fun i => m.testBit i) 7
  unfold wp_X7_lowestBit wp_X7_lowestBit_2
  refine Lp_of (fun z => ∃ i, i ≤ fd 7 (fun i => m.testBit i) ∧ z = nI i) (fun z => 8 - ix z) ⟨0, by omega, rfl⟩ ?_
  rintro _ ⟨i, hi, rfl⟩
  unfold st_X7_lowestBit_2
  rw [bit_nI i (by omega) m hm]
  refine ⟨fun q => ?_, fun q => ⟨⟨i + 1, ?_, by rw [nI_s]⟩, mu_lt (by omega) (by omega)⟩⟩
  · have hb : m.testBit i = true := by
      by_cases c : m.testBit i = true
      · exact c
      · rw [if_neg c] at q; exact absurd rfl q
    have : fd 7 (fun i => m.testBit i) ≤ i := fd_le_of (p := fun i => m.testBit i) hb
    have e : i = fd 7 (fun i => m.testBit i) := by omega
    rw [e]; exact h
  · apply Nat.lt_of_le_of_ne hi
    intro e
    have := hsp.1 hl
    rw [← e] at this
    rw [if_pos this] at q
    exact absurd q (by decide)
theorem pickT_zero {n m a b r : Nat} (h : (pickT n m 0 a b).map (fun r => 2 ^ r) = some r) : False := by
  simp [pickT] at h
def stp (n m a b : Nat) : Nat := fd 15 (fun f => (pickT n m f a b).isSome)
theorem stp_lt {n m a b f r a2 b2 : Nat} (hf : f ≤ 14) (hr : (pickT n m f a b).map (fun r => 2 ^ r) = some r) (hg : ∀ g, pickT n m (g + 1) a b = pickT n m g a2 b2) : stp n m a2 b2 < stp n m a b := by
  have h1 : (pickT n m f a b).isSome = true := by
    cases e : pickT n m f a b with
    | none => rw [e] at hr; simp at hr
    | some _ => rfl
  have h2 : stp n m a b ≤ f := fd_le_of (p := fun f => (pickT n m f a b).isSome) h1
  have hsp : (pickT n m (stp n m a b) a b).isSome = true := (fd_spec (fun f => (pickT n m f a b).isSome) 15).1 (by unfold stp at h2; omega)
  generalize stp n m a b = k at hsp ⊢
  cases k with
  | zero => simp [pickT] at hsp
  | succ k =>
    rw [hg] at hsp
    have : stp n m a2 b2 ≤ k := fd_le_of (p := fun f => (pickT n m f a2 b2).isSome) hsp
    omega
/-- the reference's walk round the ring -/
theorem m_pick {F : Nat → Int32} {A : Nat → Nat → Int32} {t n v : Nat} {E : Nat → Nat → Bool} (hP : Par t n v) (hM : MOk F A t n v E) {m a b r : Nat} {Post : Int32 → (Nat → Int32) → (Nat → Nat → Int32) → Prop} (hm : m < 128) (ha : a < 8) (hb : b < n) (hr : (pickT n m 14 a b).map (fun r => 2 ^ r) = some r) (h : Post (nI r) F A) : wp_X7_chooses_113 F A (nI m) (nI a) (nI b) Post := by
  obtain ⟨p1, p2, p3, p4, p5, p6, p7, p8, p9⟩ := id hP
  obtain ⟨m1, m2, m3, m4, m5, m6⟩ := id hM
  unfold wp_X7_chooses_113
  refine Lp_of (fun z => ∃ f a b, f ≤ 14 ∧ a < 8 ∧ b < n ∧ z = (nI a, nI b) ∧ (pickT n m f a b).map (fun r => 2 ^ r) = some r) (fun z => stp n m (ix z.1) (ix z.2)) ⟨14, a, b, by omega, ha, hb, rfl, hr⟩ ?_
  rintro _ ⟨f, a, b, hf, ha, hb, rfl, hr⟩
  dsimp only
  unfold st_X7_chooses_113 wp_X7_chooses_128
  rw [bit_nI b (by omega) m hm, m2]
  have hmod : (b + 1) % n < n := Nat.mod_lt _ (by omega)
  have step : ∀ a2, a2 < 8 → (∀ g, pickT n m (g + 1) a b = pickT n m g a2 ((b + 1) % n)) → (∃ f a' b', f ≤ 14 ∧ a' < 8 ∧ b' < n ∧ (nI a2, nI ((b + 1) % n)) = (nI a', nI b') ∧ (pickT n m f a' b').map (fun r => 2 ^ r) = some r) ∧ stp n m (ix (nI a2)) (ix (nI ((b + 1) % n))) < stp n m (ix (nI a)) (ix (nI b)) := fun a2 ha2 hg => by
    refine ⟨?_, ?_⟩
    · cases f with
      | zero => exact (pickT_zero hr).elim
      | succ f => exact ⟨f, a2, (b + 1) % n, by omega, ha2, hmod, rfl, by rw [← hg]; exact hr⟩
    · rw [ix_nI (by omega), ix_nI (by omega), ix_nI (by omega), ix_nI (by omega)]
      exact stp_lt hf hr hg
  have eb : nI b + (1 : Int32) - (nI b + (1 : Int32)) / nI n * nI n = nI ((b + 1) % n) := by rw [nI_s, rem_nI (by omega) (by omega) (by omega)]
  have hn0 : ¬ nI n = 0 := by rw [i0, eq_nI (by omega) (by omega)]; omega
  refine ⟨fun c => ⟨hn0, ?_⟩, fun c => ⟨fun c2 => ?_, fun c2 => ⟨hn0, ?_⟩⟩⟩
  · have hbit : ¬ m.testBit b = true := fun q => by rw [if_pos q] at c; exact absurd c (by decide)
    rw [if_neg hbit, eb, show nI a - nI 0 = nI a by rw [sub_nI (by omega)]; rfl]
    exact step a ha (fun g => by rw [pickT, if_neg hbit])
  · have hbit : m.testBit b = true := by
      by_cases q : m.testBit b = true
      · exact q
      · rw [if_neg q] at c; exact absurd rfl c
    rw [i0, le_nI (by omega) (by omega)] at c2
    have ha0 : a = 0 := by omega
    subst ha0
    cases f with
    | zero => exact (pickT_zero hr).elim
    | succ f =>
      rw [pickT, if_pos hbit, if_pos rfl] at hr
      have hr' : 2 ^ b = r := Option.some.inj hr
      subst hr'
      rw [sh1 b (by omega)]
      exact h
  · have hbit : m.testBit b = true := by
      by_cases q : m.testBit b = true
      · exact q
      · rw [if_neg q] at c; exact absurd rfl c
    rw [i0, le_nI (by omega) (by omega)] at c2
    rw [if_pos hbit, eb, sub_nI (by omega)]
    exact step (a - 1) (by omega) (fun g => by rw [pickT, if_pos hbit, if_neg (by omega)])
