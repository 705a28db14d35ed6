/-! the past -/
def kk (k : Nat) : Nat := if k < 6 then k + 1 else 6
def kp {α : Type} (k : Nat) (f : Nat → α) (x : α) : Nat → α := if k < 6 then (fun i => if i = k then x else f i) else (fun i => if i = 5 then x else f (i + 1))
def Pa (k : Nat) (pc : Nat → Nat) (pl : Nat → Option Nat) (FP : Nat → Int32) (AP : Nat → Nat → Int32) : Prop := FP 2 = nI k ∧ k ≤ 6 ∧ ∀ i, i < k → AP 0 i = nI (pc i) ∧ AP 1 i = eo (-4) (pl i)
def Mp (k : Nat) (pc : Nat → Nat) (pl : Nat → Option Nat) (F : Nat → Int32) (A : Nat → Nat → Int32) : Prop := F 17 = nI k ∧ k ≤ 6 ∧ ∀ i, i < k → A 18 i = nI (pc i) ∧ A 19 i = eo (-4) (pl i)
section PAST
variable {FP : Nat → Int32} {AP : Nat → Nat → Int32} {F : Nat → Int32} {A : Nat → Nat → Int32} {t n v : Nat} {E : Nat → Nat → Bool} {k : Nat} {pc : Nat → Nat} {pl : Nat → Option Nat}
theorem kk_le {k : Nat} : kk k ≤ 6 := by unfold kk; split <;> omega
theorem kp_all {α : Type} {P : α → Prop} {k : Nat} {f : Nat → α} {x : α} (hk : k ≤ 6) (h : ∀ i, i < k → P (f i)) (hx : P x) : ∀ i, i < kk k → P (kp k f x i) := fun i hi => by
  unfold kk at hi
  unfold kp
  split at hi
  · rename_i c; rw [if_pos c]
    split
    · exact hx
    · exact h i (by omega)
  · rename_i c; rw [if_neg c]
    split
    · exact hx
    · exact h (i + 1) (by omega)
theorem shift_at {g g' : Nat → Int32} {j i : Nat} (hj1 : 1 ≤ j) (hj : j < 6) (hA : ∀ i, i < 6 → g' i = if i + 1 < j then g (i + 1) else g i) (hi : i < 6) : upd g' (j - 1) (g' j) i = if i + 1 < j + 1 then g (i + 1) else g i := by
  rw [upd_at, hA j hj, hA i hi]
  by_cases e : i = j - 1
  · have e1 : i + 1 = j := by omega
    rw [if_pos e, if_neg (show ¬ j + 1 < j by omega), if_pos (show i + 1 < j + 1 by omega), e1]
  · rw [if_neg e]
    by_cases e2 : i + 1 < j
    · rw [if_pos e2, if_pos (show i + 1 < j + 1 by omega)]
    · rw [if_neg e2, if_neg (show ¬ i + 1 < j + 1 by omega)]
theorem x_keep13 {Post : (Nat → Int32) → (Nat → Nat → Int32) → Prop} {c : Nat} {last : Option Nat} (hk : k < 6) (hF : FP 2 = nI k) (h0 : ∀ i, i < k → AP 0 i = nI (pc i) ∧ AP 1 i = eo (-4) (pl i)) (h : ∀ F' A', F' 2 = nI (k + 1) → (∀ i, i < k + 1 → A' 0 i = nI (if i = k then c else pc i) ∧ A' 1 i = eo (-4) (if i = k then last else pl i)) → Post F' A') : wp_X2_keep_13 FP AP (nI c) (eo (-4) last) Post := by
  unfold wp_X2_keep_13
  rintro _ rfl _ rfl
  rw [hF, rPut_in (by omega) (by omega), rPut_in (by omega) (by omega)]
  refine h _ _ (by rw [uF_same, show (1 : Int32) = nI 1 from rfl, nI_add]) (fun i hi => ?_)
  rw [uA_ne (by decide), uA_same, uA_same, upd_at, upd_at]
  split
  · exact ⟨rfl, rfl⟩
  · exact h0 i (by omega)
theorem x_keep {Post : (Nat → Int32) → (Nat → Nat → Int32) → Prop} {c : Nat} {last : Option Nat} (hP : Pa k pc pl FP AP) (h : ∀ F' A', Pa (kk k) (kp k pc c) (kp k pl last) F' A' → Post F' A') : wp_X2_keep FP AP (nI c) (eo (-4) last) Post := by
  obtain ⟨h1, h2, h3⟩ := hP
  unfold wp_X2_keep
  rw [h1, show (6 : Int32) = nI 6 from rfl, lt_nI (by omega) (by omega)]
  unfold kk kp at h
  refine ⟨fun q => ?_, fun q => ?_⟩
  · simp only [if_pos q] at h
    exact x_keep13 q h1 h3 (fun F' A' e1 e2 => h F' A' ⟨e1, by omega, e2⟩)
  · simp only [if_neg q] at h
    have hk : k = 6 := by omega
    subst hk
    unfold wp_X2_forgetOldest wp_X2_forgetOldest_2
    rw [show (1 : Int32) = nI 1 from rfl]
    refine Lp_of (fun z => ∃ j A', 1 ≤ j ∧ j ≤ 6 ∧ z = (nI j, FP, A') ∧ (∀ i, i < 6 → A' 0 i = (if i + 1 < j then AP 0 (i + 1) else AP 0 i) ∧ A' 1 i = (if i + 1 < j then AP 1 (i + 1) else AP 1 i))) (fun z => 6 - ix z.1) ⟨1, AP, by omega, by omega, rfl, fun i hi => by rw [if_neg (by omega), if_neg (by omega)]; exact ⟨rfl, rfl⟩⟩ ?_
    rintro _ ⟨j, A', hj1, hj, rfl, hA⟩
    dsimp only
    unfold st_X2_forgetOldest_2
    rw [h1, le_nI (by omega) (by omega), show (1 : Int32) = nI 1 from rfl, sub_nI hj1]
    refine ⟨fun q => ?_, fun q => ?_⟩
    · have : j = 6 := by omega
      subst this
      refine x_keep13 (k := 5) (pc := fun i => pc (i + 1)) (pl := fun i => pl (i + 1)) (by omega) (by rw [uF_same, sub_nI (by omega)]) (fun i hi => ?_) (fun F' A' e1 e2 => h F' A' ⟨e1, by omega, e2⟩)
      rw [(hA i (by omega)).1, (hA i (by omega)).2, if_pos (by omega), if_pos (by omega)]
      exact h3 (i + 1) (by omega)
    · rintro _ rfl _ rfl _ rfl _ rfl
      refine ⟨⟨j + 1, _, by omega, by omega, by rw [nI_add], fun i hi => ?_⟩, ?_⟩
      · rw [uA_ne (show (0 : Nat) ≠ 1 by decide), uA_same, uA_same, rPut_in (by omega) (by omega), rPut_in (by omega) (by omega), rAt_in (by omega) (by omega), rAt_in (by omega) (by omega)]
        exact ⟨shift_at hj1 (by omega) (fun i hi => (hA i hi).1) hi, shift_at hj1 (by omega) (fun i hi => (hA i hi).2) hi⟩
      · rw [nI_add, ix_nI (by omega), ix_nI (by omega)]; omega
theorem m_keeps61 {Post : (Nat → Int32) → (Nat → Nat → Int32) → Prop} {c : Nat} {last : Option Nat} (hP : Par t n v) (hM : MOk F A t n v E) (hc : c < v ^ n) (h9 : ∀ i, i < n → A 9 i = nI (dg v c i)) (hl : F 10 = eo (-4) last) (hk : k < 6) (hF : F 17 = nI k) (h0 : ∀ i, i < k → A 18 i = nI (pc i) ∧ A 19 i = eo (-4) (pl i)) (h : ∀ F' A', Fr [17] [18, 19, 24] F A F' A' → F' 17 = nI (k + 1) → (∀ i, i < k + 1 → A' 18 i = nI (if i = k then c else pc i) ∧ A' 19 i = eo (-4) (if i = k then last else pl i)) → Post F' A') : wp_X7_keeps_61 F A Post := by
  unfold wp_X7_keeps_61
  refine m_rowNow hP hM h9 (fun A1 hF1 hr1 => m_codeOf hP (hM.fr hF1 (by decide)) hr1 ?_)
  rw [cd_dg hc, hF, hl]
  refine ⟨in_nI (by omega) (by omega), ?_⟩
  rintro _ rfl
  refine ⟨in_nI (by omega) (by omega), ?_⟩
  rintro _ rfl
  refine h _ _ (((hF1.mo (by decide) (by decide)).tr (Fr.uA (by decide))).tr (((Fr.uA (by decide)) : Fr [17] [18, 19, 24] _ _ _ _).tr (Fr.uF (by decide)))) (by rw [uF_same, show (1 : Int32) = nI 1 from rfl, nI_add]) (fun i hi => ?_)
  rw [uA_ne (by decide), uA_same, uA_same, upd_at, upd_at, ix_nI (by omega), hF1.2 18 (by decide), hF1.2 19 (by decide)]
  split
  · exact ⟨rfl, rfl⟩
  · exact h0 i (by omega)
theorem m_keeps {Post : (Nat → Int32) → (Nat → Nat → Int32) → Prop} {c : Nat} {last : Option Nat} (hP : Par t n v) (hM : MOk F A t n v E) (hc : c < v ^ n) (h9 : ∀ i, i < n → A 9 i = nI (dg v c i)) (hl : F 10 = eo (-4) last) (hK : Mp k pc pl F A) (h : ∀ F' A', Fr [17] [18, 19, 24] F A F' A' → Mp (kk k) (kp k pc c) (kp k pl last) F' A' → Post F' A') : wp_X7_keeps F A Post := by
  obtain ⟨h1, h2, h3⟩ := hK
  unfold wp_X7_keeps
  rw [h1, show (6 : Int32) = nI 6 from rfl, eq_nI (by omega) (by omega)]
  unfold kk kp at h
  refine ⟨fun q => ?_, fun q => ?_⟩
  · have q' : k < 6 := by omega
    simp only [if_pos q'] at h
    exact m_keeps61 hP hM hc h9 hl q' h1 h3 (fun F' A' e0 e1 e2 => h F' A' e0 ⟨e1, by omega, e2⟩)
  · subst q
    simp only [if_neg (show ¬ (6 : Nat) < 6 by omega)] at h
    unfold wp_X7_keeps_11
    rw [show (1 : Int32) = nI 1 from rfl]
    refine Lp_of (fun z => ∃ j A', 1 ≤ j ∧ j ≤ 6 ∧ z = (nI j, F, A') ∧ Fr [17] [18, 19, 24] F A F A' ∧ (∀ i, i < 6 → A' 18 i = (if i + 1 < j then A 18 (i + 1) else A 18 i) ∧ A' 19 i = (if i + 1 < j then A 19 (i + 1) else A 19 i))) (fun z => 6 - ix z.1) ⟨1, A, by omega, by omega, rfl, Fr.rf, fun i hi => by rw [if_neg (by omega), if_neg (by omega)]; exact ⟨rfl, rfl⟩⟩ ?_
    rintro _ ⟨j, A', hj1, hj, rfl, hF', hA⟩
    dsimp only
    unfold st_X7_keeps_11
    rw [show (6 : Int32) = nI 6 from rfl, le_nI (by omega) (by omega), show (1 : Int32) = nI 1 from rfl, sub_nI hj1]
    refine ⟨fun q => ?_, fun q => ?_⟩
    · have : j = 6 := by omega
      subst this
      have hF2 : Fr [17] [18, 19, 24] F A (uF F 17 (F 17 - nI 1)) A' := hF'.tr (Fr.uF (by decide))
      refine m_keeps61 (k := 5) (pc := fun i => pc (i + 1)) (pl := fun i => pl (i + 1)) (c := c) (last := last) hP (hM.fr hF2 (by decide)) hc (fun i hi => by rw [hF'.2 9 (by decide)]; exact h9 i hi) (by rw [uF_ne (by decide)]; exact hl) (by omega) (by rw [uF_same, h1, sub_nI (by omega)]) (fun i hi => ?_) (fun F' A' e0 e1 e2 => h F' A' (hF2.tr e0) ⟨e1, by omega, e2⟩)
      rw [(hA i (by omega)).1, (hA i (by omega)).2, if_pos (by omega), if_pos (by omega)]
      exact h3 (i + 1) (by omega)
    · refine ⟨in_nI (by omega) (by omega), in_nI (by omega) (by omega), ?_⟩
      rintro _ rfl
      refine ⟨in_nI (by omega) (by omega), in_nI (by omega) (by omega), ?_⟩
      rintro _ rfl
      refine ⟨⟨j + 1, _, by omega, by omega, by rw [nI_add], (hF'.tr (Fr.uA (by decide))).tr (Fr.uA (by decide)), fun i hi => ?_⟩, by rw [nI_add, ix_nI (by omega), ix_nI (by omega)]; omega⟩
      rw [uA_ne (show (18 : Nat) ≠ 19 by decide), uA_same, uA_same, ix_nI (by omega), ix_nI (by omega)]
      exact ⟨shift_at hj1 (by omega) (fun i hi => (hA i hi).1) hi, shift_at hj1 (by omega) (fun i hi => (hA i hi).2) hi⟩
end PAST
/-! the relation of the two states -/
def Rs (t n v : Nat) (E : Nat → Nat → Bool) (c : Nat) (last : Option Nat) (k : Nat) (pc : Nat → Nat) (pl : Nat → Option Nat) (FX FN : Nat → Int32) (AN : Nat → Nat → Int32) (FS : Nat → Int32) (AS : Nat → Nat → Int32) (FP : Nat → Int32) (AP : Nat → Nat → Int32) (F : Nat → Int32) (A : Nat → Nat → Int32) : Prop :=
  (Par t n v ∧ Gr t n v E ∧ NOk FN AN t n v E ∧ MOk F A t n v E ∧ FN 4 = F 6) ∧ (c < v ^ n ∧ FX 5 = nI c ∧ (∀ i, i < n → A 9 i = nI (dg v c i))) ∧ ((∀ l, last = some l → l < n) ∧ FX 6 = eo (-4) last ∧ F 10 = eo (-4) last) ∧ (Pa k pc pl FP AP ∧ Mp k pc pl F A ∧ (∀ i, i < k → pc i < v ^ n) ∧ (∀ i, i < k → ∀ l, pl i = some l → l < n)) ∧ Sv FS AS t n v E ∧ Ms F A t n v E
def Tx (FT : Nat → Int32) (AT : Nat → Nat → Int32) (F : Nat → Int32) (A : Nat → Nat → Int32) : Prop := ∃ len, len ≤ 200 ∧ FT 1 = nI len ∧ F 0 = nI len ∧ ∀ i, i < len → ∃ q, 32 ≤ q ∧ q ≤ 126 ∧ AT 0 i = nI q ∧ A 1 i = nI q
def Rel (FX FT : Nat → Int32) (AT : Nat → Nat → Int32) (FN : Nat → Int32) (AN : Nat → Nat → Int32) (FS : Nat → Int32) (AS : Nat → Nat → Int32) (FP : Nat → Int32) (AP : Nat → Nat → Int32) (F : Nat → Int32) (A : Nat → Nat → Int32) : Prop :=
  (∃ t n v E c last k pc pl, Rs t n v E c last k pc pl FX FN AN FS AS FP AP F A) ∧ Tx FT AT F A
