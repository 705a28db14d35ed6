/-! letters and figures -/
def ltr (len : Nat) (q : Nat → Nat) (i : Nat) : Nat := if i < len then q i else 0
def fg (y : Nat) : Option Nat := if 48 ≤ y ∧ y ≤ 57 then some (y - 48) else none
def TxC (len : Nat) (q : Nat → Nat) (FT : Nat → Int32) (AT : Nat → Nat → Int32) : Prop := FT 1 = nI len ∧ len ≤ 200 ∧ ∀ i, i < len → AT 0 i = nI (q i) ∧ q i ≤ 126
def TxM (len : Nat) (q : Nat → Nat) (F : Nat → Int32) (A : Nat → Nat → Int32) : Prop := F 0 = nI len ∧ len ≤ 200 ∧ ∀ i, i < len → A 1 i = nI (q i) ∧ q i ≤ 126
theorem fg_le {y k : Nat} (h : fg y = some k) : k ≤ 9 := by
  unfold fg at h
  split at h
  · rename_i hh
    have := Option.some.inj h
    omega
  · cases h
section TEXT
variable {len : Nat} {q : Nat → Nat} {FT : Nat → Int32} {AT : Nat → Nat → Int32} {FD : Nat → Int32} {AD : Nat → Nat → Int32} {F : Nat → Int32} {A : Nat → Nat → Int32} {t n v : Nat} {E : Nat → Nat → Bool}
theorem Tx.get (h : Tx FT AT F A) : ∃ len q, TxC len q FT AT ∧ TxM len q F A := by
  obtain ⟨len, h1, h2, h3, h4⟩ := h
  refine ⟨len, fun i => ix (A 1 i), ⟨h2, h1, fun i hi => ?_⟩, ⟨h3, h1, fun i hi => ?_⟩⟩
  · obtain ⟨y, y1, y2, e1, e2⟩ := h4 i hi
    have e3 : ix (A 1 i) = y := by rw [e2, ix_nI (by omega)]
    show AT 0 i = nI (ix (A 1 i)) ∧ ix (A 1 i) ≤ 126
    rw [e3, e1]; exact ⟨rfl, y2⟩
  · obtain ⟨y, y1, y2, e1, e2⟩ := h4 i hi
    have e3 : ix (A 1 i) = y := by rw [e2, ix_nI (by omega)]
    show A 1 i = nI (ix (A 1 i)) ∧ ix (A 1 i) ≤ 126
    rw [e3, e2]; exact ⟨rfl, y2⟩
theorem ltr_le (h : ∀ i, i < len → q i ≤ 126) {i : Nat} : ltr len q i ≤ 126 := by
  unfold ltr; split
  · exact h i (by assumption)
  · omega
theorem x_letterAt {Post : Int32 → Prop} (hT : TxC len q FT AT) {i : Nat} (hi : i < 1000) (h : Post (nI (ltr len q i))) : wp_X5_letterAt FT AT (nI i) Post := by
  obtain ⟨t1, t2, t3⟩ := hT
  unfold wp_X5_letterAt
  unfold ltr at h
  rw [t1, i0]
  simp (disch := omega) only [lt_nI, le_nI]
  refine ⟨fun c => absurd c (by omega), fun _ => ⟨fun c => ?_, fun c => ?_⟩⟩
  · rw [if_neg (by omega)] at h; exact h
  · rintro _ rfl
    rw [if_pos (by omega)] at h
    rw [rAt_in (by omega) (by omega), (t3 i (by omega)).1]; exact h
theorem m_letterAt {Post : Int32 → Prop} (hT : TxM len q F A) {i : Nat} (hi : i < 1000) (h : Post (nI (ltr len q i))) : wp_X7_letterAt F A (nI i) Post := by
  obtain ⟨t1, t2, t3⟩ := hT
  unfold wp_X7_letterAt
  unfold ltr at h
  rw [t1]
  simp (disch := omega) only [le_nI]
  refine ⟨fun c => ?_, fun c => ⟨in_nI (by omega) (by omega), ?_⟩⟩
  · rw [if_neg (by omega)] at h; exact h
  · rw [if_pos (by omega)] at h
    rw [ix_nI (by omega), (t3 i (by omega)).1]; exact h
theorem fig_ok {Post : Int32 → Prop} {y : Nat} (hy : y ≤ 126) (h : Post (eo (-1) (fg y))) : (nI y < (48 : Int32) → Post (-1 : Int32)) ∧ (¬ nI y < (48 : Int32) → (((57 : Int32) < nI y → Post (-1 : Int32)) ∧ (¬ (57 : Int32) < nI y → Post (nI y - (48 : Int32))))) := by
  rw [show (48 : Int32) = nI 48 from rfl, show (57 : Int32) = nI 57 from rfl, lt_nI (by omega) (by omega), lt_nI (by omega) (by omega)]
  unfold fg at h
  refine ⟨fun c => ?_, fun c => ⟨fun c2 => ?_, fun c2 => ?_⟩⟩
  · rw [if_neg (by omega)] at h; exact h
  · rw [if_neg (by omega)] at h; exact h
  · rw [if_pos (by omega)] at h
    rw [sub_nI (by omega)]; exact h
theorem x_figureAt {Post : Int32 → Prop} (hT : TxC len q FT AT) {i : Nat} (hi : i < 1000) (h : Post (eo (-1) (fg (ltr len q i)))) : wp_X5_figureAt FT AT (nI i) Post := by
  unfold wp_X5_figureAt
  exact x_letterAt hT hi (fig_ok (ltr_le (fun i hi => (hT.2.2 i hi).2)) h)
theorem m_figure {Post : Int32 → Prop} (hT : TxM len q F A) {i : Nat} (hi : i < 1000) (h : Post (eo (-1) (fg (ltr len q i)))) : wp_X7_figure F A (nI i) Post := by
  unfold wp_X7_figure
  exact m_letterAt hT hi (fig_ok (ltr_le (fun i hi => (hT.2.2 i hi).2)) h)
theorem eo_nlt {o : Option Nat} {m : Nat} (hm : 1 ≤ m) (hm2 : m ≤ 100) (c : ¬ eo (-1) o < nI m) : ∃ k, o = some k ∧ (k ≤ 9 → m ≤ k) := by
  cases o with
  | none => exact absurd (lt_neg m1_neg (by omega)) c
  | some k =>
    refine ⟨k, rfl, fun hk => ?_⟩
    simp only [eo] at c
    rw [lt_nI (by omega) (by omega)] at c
    omega
theorem eo_lt {o : Option Nat} {m : Nat} (hm2 : m ≤ 100) (c : eo (-1) o < nI m) : ∀ k, o = some k → k ≤ 9 → k < m := fun k e hk => by
  rw [e] at c
  simp only [eo] at c
  rw [lt_nI (by omega) (by omega)] at c; exact c
theorem m_isInO {o : Option Nat} {a b : Nat} {Post : Int32 → Prop} (ho : ∀ k, o = some k → k ≤ 9) (ha : a ≤ 100) (hb : b ≤ 100) (h0 : (∀ k, o = some k → ¬ (a ≤ k ∧ k ≤ b)) → Post 0) (h1 : ∀ k, o = some k → a ≤ k → k ≤ b → Post 1) : wp_X7_isIn (eo (-1) o) (nI a) (nI b) Post := by
  refine m_isIn (by omega) (by omega) (fun c => h0 (fun k e hk => ?_)) (fun k ka kb e => ?_)
  · have := ho k e
    rw [e] at c
    simp only [eo] at c
    rw [lt_nI (by omega) (by omega), le_nI (by omega) (by omega)] at c
    omega
  · cases o with
    | none => exact absurd e.symm (neg_ne m1_neg (by omega))
    | some j =>
      have := ho j rfl
      simp only [eo] at e
      rw [eq_nI (by omega) (by omega)] at e
      exact h1 j rfl (by omega) (by omega)
theorem tk_none : ∀ n, tk n (fun _ => false) = 0
  | 0 => rfl
  | n + 1 => by rw [tk, tk_none n]; rfl
theorem pow_small {v i : Nat} (hv : v ≤ 7) (hi : i ≤ 6) : v ^ i ≤ 117649 :=
  Nat.le_trans (Nat.pow_le_pow_left hv i) (Nat.pow_le_pow_right (by omega) hi)
theorem x_begin {a b c : Option Nat} {Post : Int32 → (Nat → Int32) → (Nat → Nat → Int32) → Prop} (ha : ∀ k, a = some k → k ≤ 9) (hb : ∀ k, b = some k → k ≤ 9) (hc : ∀ k, c = some k → k ≤ 9)
    (h1 : ∀ t n v F' A', a = some t → b = some n → c = some v → Par t n v → NOk F' A' t n v (fun _ _ => false) → F' 4 = nI 0 → F' 5 = nI 0 → Post 1 F' A')
    (h0 : (∀ t n v, a = some t → b = some n → c = some v → ¬ Par t n v) → ∀ F' A', Post 0 F' A') : wp_X1_begin FD AD (eo (-1) a) (eo (-1) b) (eo (-1) c) Post := by
  unfold wp_X1_begin
  have no : (∀ t n v, a = some t → b = some n → c = some v → t ≤ 9 → n ≤ 9 → v ≤ 9 → ¬ Par t n v) → ∀ F' A', Post 0 F' A' := fun hh => h0 (fun t n v e1 e2 e3 => hh t n v e1 e2 e3 (ha t e1) (hb n e2) (hc v e3))
  refine ⟨fun k1 => no (fun t n v e1 e2 e3 g1 g2 g3 hP => ?_) _ _, fun k1 => ?_⟩
  · have := eo_lt (m := 1) (by omega) k1 t e1 g1
    obtain ⟨p1, p2, p3, p4, p5, p6, p7, p8, p9⟩ := hP; omega
  obtain ⟨t, rfl, ht⟩ := eo_nlt (m := 1) (by omega) (by omega) k1
  have ht9 := ha t rfl
  have ht1 := ht ht9
  simp only [eo]
  refine ⟨fun k2 => no (fun t' n v e1 e2 e3 g1 g2 g3 hP => ?_) _ _, fun k2 => ⟨fun k3 => no (fun t' n v e1 e2 e3 g1 g2 g3 hP => ?_) _ _, fun k3 => ?_⟩⟩
  · have e := Option.some.inj e1
    subst e
    rw [show (4 : Int32) = nI 4 from rfl, lt_nI (by omega) (by omega)] at k2
    obtain ⟨p1, p2, p3, p4, p5, p6, p7, p8, p9⟩ := hP; omega
  · have := eo_lt (m := 2) (by omega) k3 n e2 g2
    obtain ⟨p1, p2, p3, p4, p5, p6, p7, p8, p9⟩ := hP; omega
  rw [show (4 : Int32) = nI 4 from rfl, lt_nI (by omega) (by omega)] at k2
  obtain ⟨n, rfl, hn⟩ := eo_nlt (m := 2) (by omega) (by omega) k3
  have hn9 := hb n rfl
  have hn1 := hn hn9
  simp only [eo]
  refine ⟨fun k4 => no (fun t' n' v e1 e2 e3 g1 g2 g3 hP => ?_) _ _, fun k4 => ⟨fun k5 => no (fun t' n' v e1 e2 e3 g1 g2 g3 hP => ?_) _ _, fun k5 => ?_⟩⟩
  · have e := Option.some.inj e2
    subst e
    rw [show (6 : Int32) = nI 6 from rfl, lt_nI (by omega) (by omega)] at k4
    obtain ⟨p1, p2, p3, p4, p5, p6, p7, p8, p9⟩ := hP; omega
  · have := eo_lt (m := 2) (by omega) k5 v e3 g3
    obtain ⟨p1, p2, p3, p4, p5, p6, p7, p8, p9⟩ := hP; omega
  rw [show (6 : Int32) = nI 6 from rfl, lt_nI (by omega) (by omega)] at k4
  obtain ⟨v, rfl, hv⟩ := eo_nlt (m := 2) (by omega) (by omega) k5
  have hv9 := hc v rfl
  have hv1 := hv hv9
  simp only [eo]
  have no2 : ¬ Par t n v → ∀ F' A', Post 0 F' A' := fun hh => h0 (fun t' n' v' e1 e2 e3 => by
    have q1 := Option.some.inj e1
    have q2 := Option.some.inj e2
    have q3 := Option.some.inj e3
    subst q1; subst q2; subst q3; exact hh)
  refine ⟨fun k6 => ?_, fun k6 => no2 (fun hP => ?_) _ _⟩
  · rw [show (7 : Int32) = nI 7 from rfl, le_nI (by omega) (by omega)] at k6
    have go : (t = 2 → v = n + 1) → (t = 3 → n ≤ v) → wp_X1_begin_58 FD AD (nI t) (nI n) (nI v) Post := fun g2 g3 => by
      unfold wp_X1_begin_58 wp_X1_begin_64
      refine Lp_of (fun s => ∃ i A', i ≤ n ∧ s = (nI (v ^ i), nI i, FD, A') ∧ ∀ j, j < i → A' 6 j = nI 0 ∧ A' 7 j = nI (v ^ j)) (fun s => n - ix s.2.1) ⟨0, AD, by omega, rfl, fun j hj => absurd hj (Nat.not_lt_zero j)⟩ ?_
      rintro _ ⟨i, A', hi, rfl, hA⟩
      dsimp only
      have hpi := pow_small (v := v) (i := i) (by omega) (by omega)
      unfold st_X1_begin_64
      rw [le_nI (by omega) (by omega), show (4096 : Int32) = nI 4096 from rfl, lt_nI (by omega) (by omega)]
      refine ⟨fun k7 => ?_, fun k7 => ?_⟩
      · have e : i = n := by omega
        subst e
        refine ⟨fun k8 => no2 (fun hP => ?_) _ _, fun k8 => h1 t i v _ _ rfl rfl rfl ⟨by omega, by omega, by omega, by omega, by omega, by omega, by omega, g2, g3⟩ ⟨?_, ?_, ?_, ?_, fun j hj => ?_, fun j hj => (hA j hj).2⟩ ?_ ?_⟩
        · obtain ⟨p1, p2, p3, p4, p5, p6, p7, p8, p9⟩ := hP; omega
        · rw [uF_ne (by decide), uF_ne (by decide), uF_ne (by decide), uF_ne (by decide), uF_ne (by decide), uF_same]
        · rw [uF_ne (by decide), uF_ne (by decide), uF_ne (by decide), uF_ne (by decide), uF_same]
        · rw [uF_ne (by decide), uF_ne (by decide), uF_ne (by decide), uF_same]
        · rw [uF_ne (by decide), uF_ne (by decide), uF_same]
        · rw [(hA j hj).1, tk_none]
        · rw [uF_ne (by decide), uF_same]; rfl
        · rw [uF_same]; rfl
      · rintro _ rfl _ rfl
        refine ⟨⟨i + 1, _, by omega, by rw [nI_s, pk_mul, Nat.pow_succ], fun j hj => ?_⟩, mu_lt (by omega) (by omega)⟩
        rw [uA_ne (show (6 : Nat) ≠ 7 by decide), uA_same, uA_same, rPut_in (by omega) (by omega), rPut_in (by omega) (by omega), upd_at, upd_at]
        by_cases e : j = i
        · rw [if_pos e, if_pos e, e]; exact ⟨rfl, rfl⟩
        · rw [if_neg e, if_neg e]; exact hA j (by omega)
    unfold wp_X1_begin_46
    have l2 : (nI t = (2 : Int32)) = (t = 2) := eq_nI (b := 2) (by omega) (by omega)
    have l3 : (nI t = (3 : Int32)) = (t = 3) := eq_nI (b := 3) (by omega) (by omega)
    rw [l2, l3, nI_s, eq_nI (by omega) (by omega), le_nI (by omega) (by omega)]
    refine ⟨fun k7 => ⟨fun k8 => go (fun e => absurd e k7) (fun e => absurd e k8), fun k8 => ⟨fun k9 => go (fun e => absurd e k7) (fun _ => k9), fun k9 => no2 (fun hP => k9 (hP.2.2.2.2.2.2.2.2 k8)) _ _⟩⟩, fun k7 => ⟨fun k8 => no2 (fun hP => k8 (hP.2.2.2.2.2.2.2.1 k7)) _ _, fun k8 => ⟨fun k9 => go (fun _ => k8) (fun e => absurd e k9), fun k9 => absurd k9 (by omega)⟩⟩⟩
  · rw [show (7 : Int32) = nI 7 from rfl, le_nI (by omega) (by omega)] at k6
    obtain ⟨p1, p2, p3, p4, p5, p6, p7, p8, p9⟩ := hP; omega
end TEXT
