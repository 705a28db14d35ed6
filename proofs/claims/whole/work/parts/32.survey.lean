theorem rAt_in {N : Nat} {g : Nat → Int32} {c : Nat} (hc : c < N) (hN : N < 2147483648) : rAt N g (nI c) = g c := by
  rw [rAt, if_neg (by rw [i0, lt_nI (by omega) (by omega)]; omega), if_neg (by rw [le_nI (by omega) (by omega)]; omega), ix_nI (by omega)]
theorem rPut_in {N : Nat} {g : Nat → Int32} {c : Nat} {x : Int32} (hc : c < N) (hN : N < 2147483648) : rPut N g (nI c) x = upd g c x := by
  rw [rPut, if_neg (by rw [i0, lt_nI (by omega) (by omega)]; omega), if_neg (by rw [le_nI (by omega) (by omega)]; omega), ix_nI (by omega)]
theorem sh3 : ∀ i, i < 6 → (((nI (3 * i)) &&& 31).toBitVec.smod 32).toNat = 3 * i := by decide +kernel
theorem p8 (i : Nat) : 2 ^ (3 * i) = 8 ^ i := by rw [Nat.pow_mul]
theorem wanted_nI {m i : Nat} (hm : m < 262144) (hi : i < 6) : ((nI m >>> (((3 : Int32) * nI i) &&& 31)) &&& (7 : Int32)) = nI (dg 8 m i) := by
  rw [i3, pk_mul, pk_shrN (by omega) _ (3 * i) (sh3 i hi), p8]
  have : m / 8 ^ i ≤ m := Nat.div_le_self _ _
  rw [pk_andN (by omega) 3 (by decide)]
  rfl
theorem or_nat (a b : Nat) : nI a ||| nI b = nI (a ||| b) := by
  apply Int32.toBitVec_inj.mp
  show BitVec.ofNat 32 a ||| BitVec.ofNat 32 b = BitVec.ofNat 32 (a ||| b)
  apply BitVec.eq_of_getLsbD_eq
  intro i hi
  simp [hi]
theorem pack_nI {p w i : Nat} (hi : i < 6) (hw : w < 8) (hp : p < 8 ^ i) : nI p ||| (nI w <<< (((3 : Int32) * nI i) &&& 31)) = nI (p + w * 8 ^ i) := by
  have h8 : 8 ^ i ≤ 8 ^ 5 := Nat.pow_le_pow_right (by omega) (by omega)
  have hm : w * 8 ^ i ≤ 7 * 8 ^ 5 := Nat.mul_le_mul (by omega) h8
  rw [i3, pk_mul, pk_shlN _ (3 * i) (sh3 i hi) (by rw [p8]; omega), p8, or_nat]
  congr 1
  have := Nat.two_pow_add_eq_or_of_lt (i := 3 * i) (b := p) (by rw [p8]; exact hp) w
  rw [p8] at this
  rw [Nat.or_comm, Nat.mul_comm, ← this]
  omega
theorem cn_bits {p : Nat → Bool} {n : Nat} (hn : n ≤ 7) : pcn (tk n p) = cn n p := by
  unfold pcn
  have : ∀ m, n ≤ m → cn m (fun i => (tk n p).testBit i) = cn n p := by
    intro m hm
    induction m with
    | zero =>
      have : n = 0 := by omega
      subst this; rfl
    | succ m ih =>
      by_cases e : n = m + 1
      · subst e
        exact cn_congr _ (fun i hi => by rw [tk_bit]; simp [hi])
      · rw [cn, ih (by omega), tk_bit]
        have : ¬ m < n := by omega
        simp [this]
  exact this 7 hn
theorem tk_zero {p : Nat → Bool} {n : Nat} (hn : n ≤ 7) : tk n p = 0 ↔ cn n p = 0 := by
  rw [cn_zero]
  constructor
  · intro h j hj
    have := tk_bit p n j
    rw [h] at this
    simp [hj] at this
    exact this
  · intro h
    have : ∀ m, m ≤ n → tk m p = 0 := by
      intro m hm
      induction m with
      | zero => rfl
      | succ m ih => rw [tk, ih (by omega), h m (by omega)]; rfl
    exact this n (Nat.le_refl n)
/-- legal, by how many may -/
theorem lg_cn {t n v : Nat} {E : Nat → Nat → Bool} (hP : Par t n v) {c : Nat} : lgc t n v E c = decide (cn n (mvc t n v E c) = if t = 1 then 1 else 0) := by
  obtain ⟨p1, p2, p3, p4, p5, p6, p7, p8, p9⟩ := id hP
  unfold lgc lgl tks
  by_cases h : t = 1
  · rw [if_pos h, if_pos h, cn_bits (by omega)]; rfl
  · rw [if_neg h, if_neg h]
    have := tk_zero (p := mv t n v E (dg v c)) (n := n) (by omega)
    rw [Bool.eq_iff_iff, decide_eq_true_eq, decide_eq_true_eq, this]
    exact Iff.rfl
def l0 (t n v : Nat) (E : Nat → Nat → Bool) (c : Nat) : Option Nat := if lgc t n v E c then some 0 else none
def pkw (t n v : Nat) (E : Nat → Nat → Bool) (c : Nat) : Nat := cd 8 n (wt t n v E (dg v c))
section SUR
variable {FN : Nat → Int32} {AN : Nat → Nat → Int32} {FS : Nat → Int32} {AS : Nat → Nat → Int32} {t n v : Nat} {E : Nat → Nat → Bool}
theorem wt8 (hP : Par t n v) (hG : Gr t n v E) {c : Nat} : ∀ i, i < n → wt t n v E (dg v c) i < 8 := fun i hi => by
  obtain ⟨p1, p2, p3, p4, p5, p6, p7, p8, p9⟩ := id hP
  have := wt_lt hP hG (f := dg v c) (Rw_dg (by omega)) hi
  omega
theorem pkw_lt (hP : Par t n v) (hG : Gr t n v E) {c : Nat} : pkw t n v E c < 262144 := by
  obtain ⟨p1, p2, p3, p4, p5, p6, p7, p8, p9⟩ := id hP
  have := cd_lt n (wt8 hP hG (c := c))
  have : 8 ^ n ≤ 8 ^ 6 := Nat.pow_le_pow_right (by omega) p4
  unfold pkw
  omega
theorem x_wantedBy {Post : Int32 → Prop} (hP : Par t n v) (hG : Gr t n v E) (hw : ∀ c, c < v ^ n → AS 2 c = nI (pkw t n v E c)) {c i : Nat} (hc : c < v ^ n) (hi : i < n) (h : Post (nI (wt t n v E (dg v c) i))) : wp_X4_wantedBy FS AS (nI c) (nI i) Post := by
  obtain ⟨p1, p2, p3, p4, p5, p6, p7, p8, p9⟩ := id hP
  unfold wp_X4_wantedBy
  rintro _ rfl
  rw [rAt_in (by omega) (by omega), hw c hc, wanted_nI (pkw_lt hP hG) (by omega)]
  have : dg 8 (pkw t n v E c) i = wt t n v E (dg v c) i := dg_cd n (wt8 hP hG) i hi
  rw [this]
  exact h
theorem x_behind {Post : Int32 → Prop} (hP : Par t n v) (hG : Gr t n v E) (hN : NOk FN AN t n v E) (hw : ∀ c, c < v ^ n → AS 2 c = nI (pkw t n v E c)) {c i : Nat} (hc : c < v ^ n) (hi : i < n) (h : Post (nI (tg t n v E c i))) : wp_X4_behind FN AN FS AS (nI c) (nI i) Post := by
  unfold wp_X4_behind
  exact x_wantedBy hP hG hw hc hi (x_withValue hP hN hc hi h)
/-- what noteMoves notes of a state -/
def In0 (A : Nat → Nat → Int32) (t n v : Nat) (E : Nat → Nat → Bool) (c : Nat) : Prop :=
  A 2 c = nI (pkw t n v E c) ∧ A 3 c = nI (cn n (mvc t n v E c)) ∧ A 4 c = eo (-5) (l0 t n v E c) ∧ A 5 c = eo (-5) (l0 t n v E c) ∧ A 6 c = eo (-4) (l0 t n v E c)
theorem x_noteMoves {Post : (Nat → Int32) → (Nat → Nat → Int32) → Prop} (hP : Par t n v) (hG : Gr t n v E) (hN : NOk FN AN t n v E) {c : Nat} (hc : c < v ^ n) (h : ∀ A', Fr [] [2, 3, 4, 5, 6] FS AS FS A' → In0 A' t n v E c → (∀ j k, j ≠ c → A' k j = AS k j) → Post FS A') : wp_X4_noteMoves FN AN FS AS (nI c) Post := by
  obtain ⟨p1, p2, p3, p4, p5, p6, p7, p8, p9⟩ := id hP
  obtain ⟨n0, n1, n2, n3, n4, n5⟩ := id hN
  have hd : ∀ k, dg v c k < v := fun k => dg_lt (by omega)
  unfold wp_X4_noteMoves wp_X4_noteMoves_8
  refine Lp_of (fun z => ∃ j, j ≤ n ∧ z = (nI (cd 8 j (wt t n v E (dg v c))), nI (cn j (mvc t n v E c)), nI j)) (fun z => n - ix z.2.2) ⟨0, by omega, rfl⟩ ?_
  rintro _ ⟨j, hj, rfl⟩
  dsimp only
  have hcn := cn_le (mvc t n v E c) j
  unfold st_X4_noteMoves_8
  rw [n1]
  simp (disch := omega) only [le_nI]
  refine ⟨fun hge => ?_, fun hlt => ?_⟩
  · have hjn : j = n := by omega
    subst hjn
    rintro _ rfl _ rfl
    rw [rPut_in (by omega) (by omega), rPut_in (by omega) (by omega), n0]
    -- the three rows of depths
    have fin : ∀ (x : Int32) (o : Option Nat), o = l0 t j v E c → ((x = 0 ∧ o = none) ∨ (x = 1 ∧ o = some 0)) → wp_X4_noteMoves_106 FN AN FS (uA (uA AS 2 (upd (AS 2) c (nI (cd 8 j (wt t j v E (dg v c)))))) 3 (upd (AS 3) c (nI (cn j (mvc t j v E c))))) (nI c) x Post := fun x o ho hx => by
      have fin2 : ∀ y1 y2 y3 : Int32, y1 = eo (-5) (l0 t j v E c) → y2 = eo (-5) (l0 t j v E c) → y3 = eo (-4) (l0 t j v E c) → Post FS (uA (uA (uA (uA (uA AS 2 (upd (AS 2) c (nI (cd 8 j (wt t j v E (dg v c)))))) 3 (upd (AS 3) c (nI (cn j (mvc t j v E c))))) 4 (upd (AS 4) c y1)) 5 (upd (AS 5) c y2)) 6 (upd (AS 6) c y3)) := fun y1 y2 y3 h1 h2 h3 => by
        refine h _ ((((Fr.uA (by decide)).tr (Fr.uA (by decide))).tr (Fr.uA (by decide))).tr (Fr.uA (by decide)) |>.tr (Fr.uA (by decide))) ⟨?_, ?_, ?_, ?_, ?_⟩ (fun i k hi => ?_)
        · rw [uA_ne (by decide), uA_ne (by decide), uA_ne (by decide), uA_ne (by decide), uA_same, upd_at, if_pos rfl]; rfl
        · rw [uA_ne (by decide), uA_ne (by decide), uA_ne (by decide), uA_same, upd_at, if_pos rfl]
        · rw [uA_ne (by decide), uA_ne (by decide), uA_same, upd_at, if_pos rfl]; exact h1
        · rw [uA_ne (by decide), uA_same, upd_at, if_pos rfl]; exact h2
        · rw [uA_same, upd_at, if_pos rfl]; exact h3
        · by_cases k6 : k = 6
          · subst k6; rw [uA_same, upd_at, if_neg hi]
          rw [uA_ne k6]
          by_cases k5 : k = 5
          · subst k5; rw [uA_same, upd_at, if_neg hi]
          rw [uA_ne k5]
          by_cases k4 : k = 4
          · subst k4; rw [uA_same, upd_at, if_neg hi]
          rw [uA_ne k4]
          by_cases k3 : k = 3
          · subst k3; rw [uA_same, upd_at, if_neg hi]
          rw [uA_ne k3]
          by_cases k2 : k = 2
          · subst k2; rw [uA_same, upd_at, if_neg hi]
          rw [uA_ne k2]
      unfold wp_X4_noteMoves_106 wp_X4_noteMoves_124 wp_X4_noteMoves_143 wp_X4_noteMoves_162
      have e4 : (uA (uA AS 2 (upd (AS 2) c (nI (cd 8 j (wt t j v E (dg v c)))))) 3 (upd (AS 3) c (nI (cn j (mvc t j v E c))))) 4 = AS 4 := by rw [uA_ne (by decide), uA_ne (by decide)]
      have e5 : ∀ g, (uA (uA (uA AS 2 (upd (AS 2) c (nI (cd 8 j (wt t j v E (dg v c)))))) 3 (upd (AS 3) c (nI (cn j (mvc t j v E c))))) 4 g) 5 = AS 5 := fun g => by rw [uA_ne (by decide), uA_ne (by decide), uA_ne (by decide)]
      have e6 : ∀ g g2, (uA (uA (uA (uA AS 2 (upd (AS 2) c (nI (cd 8 j (wt t j v E (dg v c)))))) 3 (upd (AS 3) c (nI (cn j (mvc t j v E c))))) 4 g) 5 g2) 6 = AS 6 := fun g g2 => by rw [uA_ne (by decide), uA_ne (by decide), uA_ne (by decide), uA_ne (by decide)]
      simp only [e4, e5, e6]
      rcases hx with ⟨rfl, hx⟩ | ⟨rfl, hx⟩
      · refine ⟨fun _ => ?_, fun q => absurd rfl q⟩
        rintro _ rfl
        refine ⟨fun _ => ?_, fun q => absurd rfl q⟩
        rintro _ rfl
        refine ⟨fun _ => ?_, fun q => absurd rfl q⟩
        rintro _ rfl
        rw [rPut_in (by omega) (by omega), rPut_in (by omega) (by omega), rPut_in (by omega) (by omega)]
        exact fin2 _ _ _ (by rw [← ho, hx]; rfl) (by rw [← ho, hx]; rfl) (by rw [← ho, hx]; rfl)
      · refine ⟨fun q => absurd q (by decide), fun _ => ?_⟩
        rintro _ rfl
        refine ⟨fun q => absurd q (by decide), fun _ => ?_⟩
        rintro _ rfl
        refine ⟨fun q => absurd q (by decide), fun _ => ?_⟩
        rintro _ rfl
        rw [rPut_in (by omega) (by omega), rPut_in (by omega) (by omega), rPut_in (by omega) (by omega)]
        exact fin2 _ _ _ (by rw [← ho, hx]; rfl) (by rw [← ho, hx]; rfl) (by rw [← ho, hx]; rfl)
    have fin3 : ∀ y : Nat, y < 10 → (y = if t = 1 then 1 else 0) → wp_X4_noteMoves_98 FN AN FS (uA (uA AS 2 (upd (AS 2) c (nI (cd 8 j (wt t j v E (dg v c)))))) 3 (upd (AS 3) c (nI (cn j (mvc t j v E c))))) (nI c) (nI (cn j (mvc t j v E c))) (nI y) Post := fun y hy he => by
      unfold wp_X4_noteMoves_98
      rw [eq_nI (by omega) (by omega)]
      have hl : l0 t j v E c = if cn j (mvc t j v E c) = y then some 0 else none := by
        unfold l0
        rw [lg_cn hP, he]
        simp only [decide_eq_true_eq]
      refine ⟨fun q => fin 0 none ?_ (Or.inl ⟨rfl, rfl⟩), fun q => fin 1 (some 0) ?_ (Or.inr ⟨rfl, rfl⟩)⟩
      · rw [hl, if_neg q]
      · rw [hl, if_pos q]
    refine ⟨fun q => ?_, fun q => ?_⟩
    · rw [i1, eq_nI (by omega) (by omega)] at q
      exact fin3 0 (by omega) (by rw [if_neg q])
    · rw [i1, eq_nI (by omega) (by omega)] at q
      exact fin3 1 (by omega) (by rw [if_pos q])
  · have hjn : j < n := by omega
    have hdj := hd j
    have hw8 := wt8 hP hG (c := c) j hjn
    have hw := wt_lt hP hG (f := dg v c) (Rw_dg (by omega)) hjn
    refine x_wants hP hG hN hc hjn (x_valueAt hP hN hc hjn ?_)
    have hpk := cd_lt j (fun i hi => wt8 hP hG (c := c) i (by omega))
    have e3 : nI (cd 8 j (wt t n v E (dg v c))) ||| (nI (wt t n v E (dg v c) j) <<< (((3 : Int32) * nI j) &&& 31)) = nI (cd 8 (j + 1) (wt t n v E (dg v c))) := by
      rw [pack_nI (by omega) hw8 hpk]; rfl
    unfold wp_X4_noteMoves_55
    rw [eq_nI (by omega) (by omega)]
    refine ⟨fun q => ⟨⟨j + 1, by omega, ?_⟩, mu_lt hjn (by omega)⟩, fun q => ⟨⟨j + 1, by omega, ?_⟩, mu_lt hjn (by omega)⟩⟩
    · have hm : mvc t n v E c j = false := by unfold mvc mv; simp [q]
      rw [e3, nI_s, cn, hm, Int32.add_zero]; rfl
    · have hm : mvc t n v E c j = true := by unfold mvc mv; simp [q]
      rw [e3, nI_s, nI_s, cn, hm]; rfl
end SUR
