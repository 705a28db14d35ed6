/-! what is asked of all states -/
def gmx (w : Nat → Option Nat) : Nat → Option Nat
  | 0 => none
  | k + 1 => match w k with
    | none => gmx w k
    | some x => match gmx w k with
      | none => some x
      | some m => some (if m < x then x else m)
def smx (w : Nat → Option Nat) : Nat → Nat
  | 0 => 0
  | k + 1 => smx w k + (w k).getD 0
def lwx (w : Nat → Option Nat) (j : Nat) : Option Nat := match gmx w j with
  | none => none
  | some m => some (fd j (fun c => w c == some m))
/-- the greatest of some -/
def gwx (w : Nat → Option Nat) (p : Nat → Bool) : Nat → Nat
  | 0 => 0
  | k + 1 => if p k then (match w k with
    | none => gwx w p k
    | some x => if gwx w p k < x then x else gwx w p k) else gwx w p k
def wth (h : Nat → Option Nat) (k : Nat) (c : Nat) : Bool := match h c with
  | none => false
  | some x => decide (x ≤ k)
def evx (w : Nat → Option Nat) (p : Nat → Bool) (j : Nat) : Bool := decide (0 < cn j (fun c => p c && !isS (w c)))
def mox (t n v : Nat) (E : Nat → Nat → Bool) (w : Nat → Option Nat) (c : Nat) : Nat := cn n (fun i => mvc t n v E c i && !(w (tg t n v E c i) == some 0))
def mol (t n v : Nat) (E : Nat → Nat → Bool) (w : Nat → Option Nat) : Nat → Nat
  | 0 => 0
  | k + 1 => mol t n v E w k + if w k = some 0 then mox t n v E w k else 0
theorem gmx_le {w : Nat → Option Nat} {b : Nat} : ∀ {j m : Nat}, (∀ c, c < j → ∀ k, w c = some k → k ≤ b) → gmx w j = some m → m ≤ b
  | 0, m, _, h => by cases h
  | j + 1, m, hb, h => by
    rw [gmx] at h
    have ih := fun m2 (h2 : gmx w j = some m2) => gmx_le (m := m2) (fun c hc => hb c (by omega)) h2
    cases e : w j with
    | none => rw [e] at h; exact ih m h
    | some x =>
      have hx := hb j (by omega) x e
      rw [e] at h
      cases e2 : gmx w j with
      | none => rw [e2] at h; cases h; exact hx
      | some m2 =>
        rw [e2] at h
        have := ih m2 e2
        dsimp only at h
        split at h <;> cases h <;> omega
theorem smx_le {w : Nat → Option Nat} : ∀ {j : Nat}, (∀ c, c < j → ∀ k, w c = some k → k ≤ 4096) → smx w j ≤ j * 4096
  | 0, _ => by simp [smx]
  | j + 1, hb => by
    have ih := smx_le (j := j) (fun c hc => hb c (by omega))
    have hx : (w j).getD 0 ≤ 4096 := by
      cases e : w j with
      | none => simp
      | some x => exact hb j (by omega) x e
    rw [smx]
    omega
theorem gwx_le {w : Nat → Option Nat} {p : Nat → Bool} : ∀ {j : Nat}, (∀ c, c < j → ∀ k, w c = some k → k ≤ 4096) → gwx w p j ≤ 4096
  | 0, _ => by simp [gwx]
  | j + 1, hb => by
    have ih := gwx_le (p := p) (j := j) (fun c hc => hb c (by omega))
    rw [gwx]
    split
    · cases e : w j with
      | none => exact ih
      | some x =>
        have := hb j (by omega) x e
        dsimp only
        split <;> omega
    · exact ih
theorem mox_le {t n v : Nat} {E : Nat → Nat → Bool} {w : Nat → Option Nat} {c : Nat} : mox t n v E w c ≤ n := cn_le _ _
theorem mol_le {t n v : Nat} {E : Nat → Nat → Bool} {w : Nat → Option Nat} : ∀ j, mol t n v E w j ≤ j * n
  | 0 => by simp [mol]
  | j + 1 => by
    have := mol_le (t := t) (n := n) (v := v) (E := E) (w := w) j
    have := mox_le (t := t) (n := n) (v := v) (E := E) (w := w) (c := j)
    rw [mol, Nat.add_mul]
    split <;> omega
/-- the survey is right -/
def SvA (F : Nat → Int32) (A : Nat → Nat → Int32) (t n v : Nat) (E : Nat → Nat → Bool) : Prop :=
  F 1 = nI (v ^ n) ∧ (∀ c, c < v ^ n → A 2 c = nI (pkw t n v E c)) ∧ IsA (v ^ n) (-5) (A 4) (lv (Hb t n v E)) ∧ IsA (v ^ n) (-5) (A 5) (lv (Bb t n v E)) ∧ IsA (v ^ n) (-4) (A 6) (lv (Cb t n v E))
def Sv (F : Nat → Int32) (A : Nat → Nat → Int32) (t n v : Nat) (E : Nat → Nat → Bool) : Prop := F 0 = 0 ∨ (F 0 = 1 ∧ SvA F A t n v E)
section QRY
variable {FN : Nat → Int32} {AN : Nat → Nat → Int32} {FS : Nat → Int32} {AS : Nat → Nat → Int32} {t n v : Nat} {E : Nat → Nat → Bool}
theorem x_make {Post : (Nat → Int32) → (Nat → Nat → Int32) → Prop} (hP : Par t n v) (hG : Gr t n v E) (hN : NOk FN AN t n v E) (hS : Sv FS AS t n v E) (h : ∀ F' A', F' 0 = 1 → SvA F' A' t n v E → Post F' A') : wp_X4_make FN AN FS AS Post := by
  obtain ⟨p1, p2, p3, p4, p5, p6, p7, p8, p9⟩ := id hP
  obtain ⟨n0, n1, n2, n3, n4, n5⟩ := id hN
  unfold wp_X4_make
  refine ⟨fun _ => ?_, fun q => ?_⟩
  · rw [n3]
    have es : (if (4096 : Int32) < nI (v ^ n) then (4096 : Int32) else nI (v ^ n)) = nI (v ^ n) := if_neg (by rw [show (4096 : Int32) = nI 4096 from rfl, lt_nI (by omega) (by omega)]; omega)
    rw [es]
    generalize hF0 : uF (uF FS 0 (1 : Int32)) 1 (nI (v ^ n)) = F1
    have f1 : F1 1 = nI (v ^ n) := by rw [← hF0, uF_same]
    have f0 : F1 0 = 1 := by rw [← hF0, uF_ne (by decide), uF_same]
    unfold wp_X4_make_29
    refine Lp_of (fun z => ∃ c A', c ≤ v ^ n ∧ z = (nI c, F1, A') ∧ ∀ j, j < c → In0 A' t n v E j) (fun z => v ^ n - ix z.1) ⟨0, AS, by omega, rfl, fun j hj => absurd hj (Nat.not_lt_zero j)⟩ ?_
    rintro _ ⟨c, A', hc, rfl, hI⟩
    dsimp only
    unfold st_X4_make_29
    rw [f1]
    simp (disch := omega) only [le_nI]
    refine ⟨fun hge => ?_, fun hlt => ?_⟩
    · have hcS : c = v ^ n := by omega
      subst hcS
      refine x_spread_4 hP hG hN f1 hI (fun A2 hF2 hW => ?_)
      have e2 : ∀ c, c < v ^ n → A2 2 c = nI (pkw t n v E c) := fun c hc => by rw [hF2.2 2 (by decide)]; exact (hI c hc).1
      refine x_spread_5 hP hG hN f1 e2 (fun c hc => by rw [hF2.2 5 (by decide)]; exact (hI c hc).2.2.2.1) (fun A3 hF3 hB => ?_)
      have e3 : ∀ c, c < v ^ n → A3 2 c = nI (pkw t n v E c) := fun c hc => by rw [hF3.2 2 (by decide)]; exact e2 c hc
      refine x_spread_6 hP hG hN f1 e3 (fun c hc => by rw [hF3.2 6 (by decide), hF2.2 6 (by decide)]; exact (hI c hc).2.2.2.2) (fun A4 hF4 hC => ?_)
      refine h F1 A4 f0 ⟨f1, fun c hc => by rw [hF4.2 2 (by decide)]; exact e3 c hc, ?_, ?_, hC⟩
      · rw [hF4.2 4 (by decide), hF3.2 4 (by decide)]; exact hW
      · rw [hF4.2 5 (by decide)]; exact hB
    · have hcS : c < v ^ n := by omega
      refine x_noteMoves hP hG hN hcS (fun A2 hF2 hI2 ho => ⟨⟨c + 1, A2, by omega, by rw [nI_s], fun j hj => ?_⟩, mu_lt hcS (by omega)⟩)
      by_cases e : j = c
      · subst e; exact hI2
      · have := hI j (by omega)
        unfold In0 at this ⊢
        rw [ho j 2 e, ho j 3 e, ho j 4 e, ho j 5 e, ho j 6 e]
        exact this
  · rcases hS with hS | ⟨h1, h2⟩
    · exact absurd hS q
    · exact h FS AS h1 h2
theorem x_worstOf {Post : Int32 → Prop} (hP : Par t n v) (hS : SvA FS AS t n v E) {c : Nat} (hc : c < v ^ n) (h : Post (eo (-5) (lv (Hb t n v E) c))) : wp_X4_worstOf FS AS (nI c) Post := by
  obtain ⟨p1, p2, p3, p4, p5, p6, p7, p8, p9⟩ := id hP
  unfold wp_X4_worstOf
  rintro _ rfl
  rw [rAt_in (by omega) (by omega), (hS.2.2.1 c hc).1]
  exact h
theorem x_bestOf {Post : Int32 → Prop} (hP : Par t n v) (hS : SvA FS AS t n v E) {c : Nat} (hc : c < v ^ n) (h : Post (eo (-5) (lv (Bb t n v E) c))) : wp_X4_bestOf FS AS (nI c) Post := by
  obtain ⟨p1, p2, p3, p4, p5, p6, p7, p8, p9⟩ := id hP
  unfold wp_X4_bestOf
  rintro _ rfl
  rw [rAt_in (by omega) (by omega), (hS.2.2.2.1 c hc).1]
  exact h
theorem x_hitsOf {Post : Int32 → Prop} (hP : Par t n v) (hS : SvA FS AS t n v E) {c : Nat} (hc : c < v ^ n) (h : Post (eo (-4) (lv (Cb t n v E) c))) : wp_X4_hitsOf FS AS (nI c) Post := by
  obtain ⟨p1, p2, p3, p4, p5, p6, p7, p8, p9⟩ := id hP
  unfold wp_X4_hitsOf
  rintro _ rfl
  rw [rAt_in (by omega) (by omega), (hS.2.2.2.2 c hc).1]
  exact h
theorem x_countOf {Post : Int32 → Prop} (hP : Par t n v) (hS : SvA FS AS t n v E) {x : Int32} {p : Nat → Bool} (hp : ∀ c, c < v ^ n → (eo (-5) (lv (Hb t n v E) c) = x ↔ p c = true)) (h : Post (nI (cn (v ^ n) p))) : wp_X4_countOf_4 FS AS x Post := by
  obtain ⟨p1, p2, p3, p4, p5, p6, p7, p8, p9⟩ := id hP
  unfold wp_X4_countOf_4 wp_X4_countOf_4_5
  refine Lp_of (fun z => ∃ j, j ≤ v ^ n ∧ z = (nI (cn j p), nI j)) (fun z => v ^ n - ix z.2) ⟨0, by omega, rfl⟩ ?_
  rintro _ ⟨j, hj, rfl⟩
  dsimp only
  unfold st_X4_countOf_4_5
  rw [hS.1]
  simp (disch := omega) only [le_nI]
  refine ⟨fun hge => ?_, fun hlt => ?_⟩
  · have : j = v ^ n := by omega
    subst this; exact h
  · have hjS : j < v ^ n := by omega
    rintro _ rfl
    rw [rAt_in (by omega) (by omega), (hS.2.2.1 j hjS).1]
    have hpj := hp j hjS
    unfold wp_X4_countOf_4_30
    refine ⟨fun c => ⟨⟨j + 1, by omega, ?_⟩, mu_lt hjS (by omega)⟩, fun c => ⟨⟨j + 1, by omega, ?_⟩, mu_lt hjS (by omega)⟩⟩
    · have : ¬ p j = true := fun q => c (hpj.mpr q)
      rw [nI_s, cn, if_neg this, Int32.add_zero]; rfl
    · rw [nI_s, nI_s, cn, if_pos (hpj.mp c)]
theorem eo_zero {o : Option Nat} (ho : ∀ k, o = some k → k ≤ 4096) : eo (-5) o = 0 ↔ o = some 0 := by
  cases o with
  | none => simp only [eo, reduceCtorEq, iff_false]; decide
  | some k =>
    have := ho k rfl
    simp only [eo]
    rw [i0, eq_nI (by omega) (by omega)]
    simp
theorem eo_m5 {o : Option Nat} (ho : ∀ k, o = some k → k ≤ 4096) : eo (-5) o = -5 ↔ o = none := by
  cases o with
  | none => simp [eo]
  | some k =>
    have := ho k rfl
    simp only [eo, reduceCtorEq, iff_false]
    exact neg_ne m5_neg (by omega)
theorem x_legalStates {Post : Int32 → Prop} (hP : Par t n v) (hS : SvA FS AS t n v E) (h : Post (nI (cn (v ^ n) (fun c => lv (Hb t n v E) c == some 0)))) : wp_X4_legalStates FS AS Post := by
  unfold wp_X4_legalStates
  refine x_countOf hP hS (fun c hc => ?_) h
  rw [eo_zero (hS.2.2.1 c hc).2]; simp
theorem x_endlessStates {Post : Int32 → Prop} (hP : Par t n v) (hS : SvA FS AS t n v E) (h : Post (nI (cn (v ^ n) (fun c => !isS (lv (Hb t n v E) c))))) : wp_X4_endlessStates FS AS Post := by
  unfold wp_X4_endlessStates
  refine x_countOf hP hS (fun c hc => ?_) h
  rw [eo_m5 (hS.2.2.1 c hc).2]
  simp [isS_no]
theorem eo_max {o : Option Nat} {w : Nat → Option Nat} {j : Nat} (ho : o = gmx w j) (hb : ∀ k, o = some k → k ≤ 4096) (hw : ∀ k, w j = some k → k ≤ 4096) : (if eo (-1) o < eo (-5) (w j) then eo (-5) (w j) else eo (-1) o) = eo (-1) (gmx w (j + 1)) := by
  rw [gmx, ← ho]
  cases e : w j with
  | none =>
    cases o with
    | none => rfl
    | some m =>
      have := hb m rfl
      exact if_neg (nlt_neg (x := -5) m5_neg (a := m) (by omega))
  | some x =>
    have hx := hw x e
    cases o with
    | none => exact if_pos (lt_neg (x := -1) m1_neg (a := x) (by omega))
    | some m =>
      have := hb m rfl
      by_cases q : m < x
      · dsimp only
        rw [if_pos q]
        exact if_pos (show nI m < nI x by rw [lt_nI (by omega) (by omega)]; exact q)
      · dsimp only
        rw [if_neg q]
        exact if_neg (show ¬ nI m < nI x by rw [lt_nI (by omega) (by omega)]; exact q)
theorem x_greatestOf_4 {Post : Int32 → Prop} (hP : Par t n v) (hS : SvA FS AS t n v E) (h : Post (eo (-4) (gmx (lv (Hb t n v E)) (v ^ n)))) : wp_X4_greatestOf_4 FS AS Post := by
  obtain ⟨p1, p2, p3, p4, p5, p6, p7, p8, p9⟩ := id hP
  have hb : ∀ j, j ≤ v ^ n → ∀ k, gmx (lv (Hb t n v E)) j = some k → k ≤ 4096 := fun j hj k hk => gmx_le (fun c hc => (hS.2.2.1 c (by omega)).2) hk
  unfold wp_X4_greatestOf_4 wp_X4_greatestOf_4_4
  refine Lp_of (fun z => ∃ j, j ≤ v ^ n ∧ z = (eo (-1) (gmx (lv (Hb t n v E)) j), nI j)) (fun z => v ^ n - ix z.2) ⟨0, by omega, rfl⟩ ?_
  rintro _ ⟨j, hj, rfl⟩
  dsimp only
  unfold st_X4_greatestOf_4_4
  rw [hS.1]
  simp (disch := omega) only [le_nI]
  refine ⟨fun hge => ?_, fun hlt => ?_⟩
  · have : j = v ^ n := by omega
    subst this
    cases e : gmx (lv (Hb t n v E)) (v ^ n) with
    | none => rw [e] at h; exact ⟨fun q => absurd q (by decide), fun _ => h⟩
    | some m =>
      have := hb _ hj m e
      rw [e] at h
      exact ⟨fun _ => h, fun q => absurd (by simp only [eo]; rw [i0, le_nI (by omega) (by omega)]; omega) q⟩
  · have hjS : j < v ^ n := by omega
    rintro _ rfl
    rw [rAt_in (by omega) (by omega), (hS.2.2.1 j hjS).1]
    exact ⟨⟨j + 1, by omega, by rw [nI_s, eo_max rfl (hb j hj) (hS.2.2.1 j hjS).2]⟩, mu_lt hjS (by omega)⟩
theorem x_greatestOf_5 {Post : Int32 → Prop} (hP : Par t n v) (hS : SvA FS AS t n v E) (h : Post (eo (-4) (gmx (lv (Bb t n v E)) (v ^ n)))) : wp_X4_greatestOf_5 FS AS Post := by
  obtain ⟨p1, p2, p3, p4, p5, p6, p7, p8, p9⟩ := id hP
  have hb : ∀ j, j ≤ v ^ n → ∀ k, gmx (lv (Bb t n v E)) j = some k → k ≤ 4096 := fun j hj k hk => gmx_le (fun c hc => (hS.2.2.2.1 c (by omega)).2) hk
  unfold wp_X4_greatestOf_5 wp_X4_greatestOf_5_4
  refine Lp_of (fun z => ∃ j, j ≤ v ^ n ∧ z = (eo (-1) (gmx (lv (Bb t n v E)) j), nI j)) (fun z => v ^ n - ix z.2) ⟨0, by omega, rfl⟩ ?_
  rintro _ ⟨j, hj, rfl⟩
  dsimp only
  unfold st_X4_greatestOf_5_4
  rw [hS.1]
  simp (disch := omega) only [le_nI]
  refine ⟨fun hge => ?_, fun hlt => ?_⟩
  · have : j = v ^ n := by omega
    subst this
    cases e : gmx (lv (Bb t n v E)) (v ^ n) with
    | none => rw [e] at h; exact ⟨fun q => absurd q (by decide), fun _ => h⟩
    | some m =>
      have := hb _ hj m e
      rw [e] at h
      exact ⟨fun _ => h, fun q => absurd (by simp only [eo]; rw [i0, le_nI (by omega) (by omega)]; omega) q⟩
  · have hjS : j < v ^ n := by omega
    rintro _ rfl
    rw [rAt_in (by omega) (by omega), (hS.2.2.2.1 j hjS).1]
    exact ⟨⟨j + 1, by omega, by rw [nI_s, eo_max rfl (hb j hj) (hS.2.2.2.1 j hjS).2]⟩, mu_lt hjS (by omega)⟩
theorem x_lowestOf {Post : Int32 → Prop} (hP : Par t n v) (hS : SvA FS AS t n v E) (hw : ∀ m, gmx (lv (Hb t n v E)) (v ^ n) = some m → ∃ c, c < v ^ n ∧ lv (Hb t n v E) c = some m) (h : Post (eo (-4) (lwx (lv (Hb t n v E)) (v ^ n)))) : wp_X4_lowestOfGreatestWorst FS AS Post := by
  obtain ⟨p1, p2, p3, p4, p5, p6, p7, p8, p9⟩ := id hP
  unfold wp_X4_lowestOfGreatestWorst wp_X4_greatestWorst
  refine x_greatestOf_4 hP hS ?_
  unfold lwx at h
  unfold wp_X4_lowestOfGreatestWorst_7
  cases e : gmx (lv (Hb t n v E)) (v ^ n) with
  | none =>
    rw [e] at h
    refine Lp_of (fun z => True) (fun _ => 0) trivial (fun z _ => ?_)
    unfold st_X4_lowestOfGreatestWorst_7
    exact ⟨fun _ => h, fun q => absurd rfl q⟩
  | some m =>
    have hm := gmx_le (fun c hc => (hS.2.2.1 c hc).2) e
    rw [e] at h
    dsimp only at h
    obtain ⟨c0, hc0, hm0⟩ := hw m e
    refine Lp_of (fun z => ∃ j, j ≤ c0 ∧ z = nI j ∧ ∀ c, c < j → (lv (Hb t n v E) c == some m) = false) (fun z => v ^ n - ix z) ⟨0, by omega, rfl, fun j hj => absurd hj (Nat.not_lt_zero j)⟩ ?_
    rintro _ ⟨j, hj, rfl, hI⟩
    unfold st_X4_lowestOfGreatestWorst_7
    rw [hS.1]
    simp (disch := omega) only [le_nI]
    refine ⟨fun q => absurd q (neg_ne m4_neg (by omega)), fun _ => ⟨fun q => absurd q (by omega), fun _ => ?_⟩⟩
    have hjS : j < v ^ n := by omega
    refine x_worstOf hP hS hjS ?_
    have hb := (hS.2.2.1 j hjS).2
    have heq : eo (-5) (lv (Hb t n v E) j) = eo (-4) (some m) ↔ lv (Hb t n v E) j = some m := by
      cases e2 : lv (Hb t n v E) j with
      | none => simp only [eo, reduceCtorEq, iff_false]; exact fun q => neg_ne m5_neg (by omega) q.symm
      | some k =>
        have := hb k e2
        simp only [eo]
        rw [eq_nI (by omega) (by omega)]
        simp
    rw [heq]
    refine ⟨fun q => ⟨⟨j + 1, ?_, by rw [nI_s], fun c hc => ?_⟩, mu_lt hjS (by omega)⟩, fun q => ?_⟩
    · apply Nat.lt_of_le_of_ne hj
      intro e3
      subst e3
      exact q hm0
    · by_cases e3 : c = j
      · subst e3; simpa using q
      · exact hI c (by omega)
    · rw [fd_eq (v ^ n) hjS (by simp [q]) hI] at h
      exact h
theorem gmx_has {w : Nat → Option Nat} : ∀ {j m : Nat}, gmx w j = some m → ∃ c, c < j ∧ w c = some m
  | 0, m, h => by cases h
  | j + 1, m, h => by
    rw [gmx] at h
    have ih := fun m2 (h2 : gmx w j = some m2) => gmx_has (m := m2) h2
    cases e : w j with
    | none =>
      rw [e] at h
      obtain ⟨c, h1, h2⟩ := ih m h
      exact ⟨c, by omega, h2⟩
    | some x =>
      rw [e] at h
      cases e2 : gmx w j with
      | none => rw [e2] at h; cases h; exact ⟨j, by omega, e⟩
      | some m2 =>
        rw [e2] at h
        dsimp only at h
        split at h
        · cases h; exact ⟨j, by omega, e⟩
        · cases h
          obtain ⟨c, h1, h2⟩ := ih _ e2
          exact ⟨c, by omega, h2⟩
theorem x_sumOfWorsts {Post : Int32 → Prop} (hP : Par t n v) (hS : SvA FS AS t n v E) (h : Post (nI (smx (lv (Hb t n v E)) (v ^ n)))) : wp_X4_sumOfWorsts FS AS Post := by
  obtain ⟨p1, p2, p3, p4, p5, p6, p7, p8, p9⟩ := id hP
  unfold wp_X4_sumOfWorsts wp_X4_sumOfWorsts_4
  refine Lp_of (fun z => ∃ j, j ≤ v ^ n ∧ z = (nI (smx (lv (Hb t n v E)) j), nI j)) (fun z => v ^ n - ix z.2) ⟨0, by omega, rfl⟩ ?_
  rintro _ ⟨j, hj, rfl⟩
  dsimp only
  unfold st_X4_sumOfWorsts_4
  rw [hS.1]
  simp (disch := omega) only [le_nI]
  refine ⟨fun hge => ?_, fun hlt => ?_⟩
  · have : j = v ^ n := by omega
    subst this; exact h
  · have hjS : j < v ^ n := by omega
    refine x_worstOf hP hS hjS ⟨⟨j + 1, by omega, ?_⟩, mu_lt hjS (by omega)⟩
    have e : (if (0 : Int32) < eo (-5) (lv (Hb t n v E) j) then eo (-5) (lv (Hb t n v E) j) else (0 : Int32)) = nI ((lv (Hb t n v E) j).getD 0) := by
      cases e2 : lv (Hb t n v E) j with
      | none => rfl
      | some k =>
        have := (hS.2.2.1 j hjS).2 k e2
        show (if (0 : Int32) < nI k then nI k else (0 : Int32)) = nI k
        by_cases q : 0 < k
        · exact if_pos (by rw [i0, lt_nI (by omega) (by omega)]; exact q)
        · have hk0 : k = 0 := by omega
          rw [hk0]; rfl
    rw [e, nI_s, nI_add, smx]
theorem x_movesOutOf {Post : Int32 → Prop} (hP : Par t n v) (hG : Gr t n v E) (hN : NOk FN AN t n v E) (hS : SvA FS AS t n v E) {c : Nat} (hc : c < v ^ n) (hl : lv (Hb t n v E) c = some 0) (h : Post (nI (mox t n v E (lv (Hb t n v E)) c))) : wp_X4_movesOutOf FN AN FS AS (nI c) Post := by
  obtain ⟨p1, p2, p3, p4, p5, p6, p7, p8, p9⟩ := id hP
  obtain ⟨n0, n1, n2, n3, n4, n5⟩ := id hN
  unfold wp_X4_movesOutOf wp_X4_movesOutOf_5
  refine Lp_of (fun z => ∃ j, j ≤ n ∧ z = (nI (cn j (fun i => mvc t n v E c i && !(lv (Hb t n v E) (tg t n v E c i) == some 0))), nI j)) (fun z => n - ix z.2) ⟨0, by omega, rfl⟩ ?_
  rintro _ ⟨j, hj, rfl⟩
  dsimp only
  unfold st_X4_movesOutOf_5
  rw [n1]
  simp (disch := omega) only [le_nI]
  refine ⟨fun hge => ?_, fun hlt => ?_⟩
  · have : j = n := by omega
    subst this; exact h
  · have hjn : j < n := by omega
    have htg := tg_lt hP hG (c := c) hjn
    refine x_behind hP hG hN hS.2.1 hc hjn (x_worstOf hP hS htg ?_)
    rw [eo_zero (hS.2.2.1 _ htg).2]
    unfold wp_X4_movesOutOf_35
    refine ⟨fun q => ⟨⟨j + 1, by omega, ?_⟩, mu_lt hjn (by omega)⟩, fun q => ⟨⟨j + 1, by omega, ?_⟩, mu_lt hjn (by omega)⟩⟩
    · rw [nI_s, cn, if_neg (by simp [q]), Int32.add_zero]; rfl
    · have hm : mvc t n v E c j = true := by
        cases e : mvc t n v E c j with
        | true => rfl
        | false =>
          exfalso
          apply q
          have hw : wt t n v E (dg v c) j = dg v c j := by unfold mvc mv at e; simpa using e
          have : tg t n v E c j = c := by
            unfold tg
            rw [hw]
            have : cd v n (uN (dg v c) j (dg v c j)) = cd v n (dg v c) := cd_congr n (fun i hi => by
              by_cases q : i = j
              · subst q; rw [uN_same]
              · rw [uN_ne q])
            rw [this, cd_dg hc]
          rw [this]; exact hl
      rw [nI_s, nI_s, cn, if_pos (by simp [hm, q])]
theorem x_movesOutOfLegal {Post : Int32 → Prop} (hP : Par t n v) (hG : Gr t n v E) (hN : NOk FN AN t n v E) (hS : SvA FS AS t n v E) (h : Post (nI (mol t n v E (lv (Hb t n v E)) (v ^ n)))) : wp_X4_movesOutOfLegal FN AN FS AS Post := by
  obtain ⟨p1, p2, p3, p4, p5, p6, p7, p8, p9⟩ := id hP
  unfold wp_X4_movesOutOfLegal wp_X4_movesOutOfLegal_4
  refine Lp_of (fun z => ∃ j, j ≤ v ^ n ∧ z = (nI (mol t n v E (lv (Hb t n v E)) j), nI j)) (fun z => v ^ n - ix z.2) ⟨0, by omega, rfl⟩ ?_
  rintro _ ⟨j, hj, rfl⟩
  dsimp only
  unfold st_X4_movesOutOfLegal_4
  rw [hS.1]
  simp (disch := omega) only [le_nI]
  refine ⟨fun hge => ?_, fun hlt => ?_⟩
  · have : j = v ^ n := by omega
    subst this; exact h
  · have hjS : j < v ^ n := by omega
    refine x_worstOf hP hS hjS ?_
    rw [eo_zero (hS.2.2.1 j hjS).2]
    refine ⟨fun q => ⟨⟨j + 1, by omega, ?_⟩, mu_lt hjS (by omega)⟩, fun q => x_movesOutOf hP hG hN hS hjS q ⟨⟨j + 1, by omega, ?_⟩, mu_lt hjS (by omega)⟩⟩
    · rw [nI_s, mol, if_neg q]; rfl
    · rw [nI_s, nI_add, mol, if_pos q]
theorem x_isWithin {Post : Int32 → Prop} (hP : Par t n v) (hS : SvA FS AS t n v E) {c k : Nat} (hc : c < v ^ n) (hk : k ≤ n) (h : Post (nI (if wth (lv (Cb t n v E)) k c then 1 else 0))) : wp_X4_isWithin FS AS (nI c) (nI k) Post := by
  obtain ⟨p1, p2, p3, p4, p5, p6, p7, p8, p9⟩ := id hP
  unfold wp_X4_isWithin
  unfold wth at h
  have hb := (hS.2.2.2.2 c hc).2
  refine x_hitsOf hP hS hc ?_
  cases e : lv (Cb t n v E) c with
  | none => rw [e] at h; exact ⟨fun _ => h, fun q => absurd (by decide) q⟩
  | some x =>
    have := hb x e
    rw [e] at h
    simp only [eo]
    refine ⟨fun q => absurd q (by rw [i0, lt_nI (by omega) (by omega)]; omega), fun _ => x_hitsOf hP hS hc ?_⟩
    rw [e]
    simp only [eo]
    rw [lt_nI (by omega) (by omega)]
    refine ⟨fun q => ?_, fun q => ?_⟩
    · rw [if_neg (by simp; omega)] at h; exact h
    · rw [if_pos (by simp; omega)] at h; exact h
theorem x_statesWithin {Post : Int32 → Prop} (hP : Par t n v) (hS : SvA FS AS t n v E) {k : Nat} (hk : k ≤ n) (h : Post (nI (cn (v ^ n) (wth (lv (Cb t n v E)) k)))) : wp_X4_statesWithin FS AS (nI k) Post := by
  obtain ⟨p1, p2, p3, p4, p5, p6, p7, p8, p9⟩ := id hP
  unfold wp_X4_statesWithin wp_X4_statesWithin_4
  refine Lp_of (fun z => ∃ j, j ≤ v ^ n ∧ z = (nI (cn j (wth (lv (Cb t n v E)) k)), nI j)) (fun z => v ^ n - ix z.2) ⟨0, by omega, rfl⟩ ?_
  rintro _ ⟨j, hj, rfl⟩
  dsimp only
  unfold st_X4_statesWithin_4
  rw [hS.1]
  simp (disch := omega) only [le_nI]
  refine ⟨fun hge => ?_, fun hlt => ?_⟩
  · have : j = v ^ n := by omega
    subst this; exact h
  · have hjS : j < v ^ n := by omega
    refine x_isWithin hP hS hjS hk ?_
    unfold wp_X4_statesWithin_27
    refine ⟨fun c => ⟨⟨j + 1, by omega, ?_⟩, mu_lt hjS (by omega)⟩, fun c => ⟨⟨j + 1, by omega, ?_⟩, mu_lt hjS (by omega)⟩⟩
    · have : ¬ wth (lv (Cb t n v E)) k j = true := fun q => by rw [if_pos q] at c; exact absurd c (by decide)
      rw [nI_s, cn, if_neg this, Int32.add_zero]; rfl
    · have : wth (lv (Cb t n v E)) k j = true := by
        by_cases q : wth (lv (Cb t n v E)) k j = true
        · exact q
        · rw [if_neg q] at c; exact absurd rfl c
      rw [nI_s, nI_s, cn, if_pos this]
/-- the rank that the class counts with -/
def rkx (w : Nat → Option Nat) (p : Nat → Bool) (j : Nat) : Int32 := if evx w p j then 2147483647 else nI (gwx w p j)
theorem x_greatestWorstWithin {Post : Int32 → Prop} (hP : Par t n v) (hS : SvA FS AS t n v E) {k : Nat} (hk : k ≤ n) (h : Post (if evx (lv (Hb t n v E)) (wth (lv (Cb t n v E)) k) (v ^ n) then -5 else nI (gwx (lv (Hb t n v E)) (wth (lv (Cb t n v E)) k) (v ^ n)))) : wp_X4_greatestWorstWithin FS AS (nI k) Post := by
  obtain ⟨p1, p2, p3, p4, p5, p6, p7, p8, p9⟩ := id hP
  generalize hp : wth (lv (Cb t n v E)) k = p at h
  have hgw : ∀ j, j ≤ v ^ n → gwx (lv (Hb t n v E)) p j ≤ 4096 := fun j hj => gwx_le (fun c hc => (hS.2.2.1 c (by omega)).2)
  have big : (2147483647 : Int32) = nI 2147483647 := rfl
  unfold wp_X4_greatestWorstWithin wp_X4_greatestWorstWithin_4
  refine Lp_of (fun z => ∃ j, j ≤ v ^ n ∧ z = (rkx (lv (Hb t n v E)) p j, nI j)) (fun z => v ^ n - ix z.2) ⟨0, by omega, rfl⟩ ?_
  rintro _ ⟨j, hj, rfl⟩
  dsimp only
  have hg := hgw j hj
  unfold st_X4_greatestWorstWithin_4
  rw [hS.1]
  simp (disch := omega) only [le_nI]
  refine ⟨fun hge => ?_, fun hlt => ?_⟩
  · have : j = v ^ n := by omega
    subst this
    unfold rkx
    by_cases q : evx (lv (Hb t n v E)) p (v ^ n) = true
    · rw [if_pos q] at h ⊢; exact ⟨fun q => absurd rfl q, fun _ => h⟩
    · rw [if_neg q] at h ⊢
      refine ⟨fun _ => h, fun q2 => ?_⟩
      rw [big, eq_nI (by omega) (by omega)] at q2
      omega
  · have hjS : j < v ^ n := by omega
    refine x_isWithin hP hS hjS hk ?_
    rw [hp]
    have hev : ∀ b, (p j && !isS (lv (Hb t n v E) j)) = b → evx (lv (Hb t n v E)) p (j + 1) = (evx (lv (Hb t n v E)) p j || b) := fun b hb => by
      unfold evx
      rw [cn, hb]
      cases b with
      | false => simp
      | true => simp
    refine ⟨fun c => ⟨⟨j + 1, by omega, ?_⟩, mu_lt hjS (by omega)⟩, fun c => ?_⟩
    · have hpj : p j = false := by
        cases e : p j with
        | false => rfl
        | true => rw [e] at c; exact absurd c (by decide)
      rw [nI_s]
      unfold rkx
      rw [hev false (by rw [hpj]; rfl), Bool.or_false, gwx, hpj]
      rfl
    · have hpj : p j = true := by
        cases e : p j with
        | true => rfl
        | false => rw [e] at c; exact absurd rfl c
      have hb := (hS.2.2.1 j hjS).2
      refine x_worstOf hP hS hjS ?_
      unfold wp_X4_rankOf
      rw [eo_m5 hb]
      cases e : lv (Hb t n v E) j with
      | none =>
        have key : (if rkx (lv (Hb t n v E)) p j < (2147483647 : Int32) then (2147483647 : Int32) else rkx (lv (Hb t n v E)) p j) = rkx (lv (Hb t n v E)) p (j + 1) := by
          have e1 : rkx (lv (Hb t n v E)) p (j + 1) = 2147483647 := by
            unfold rkx
            rw [hev true (by rw [hpj, e]; rfl), Bool.or_true, if_pos rfl]
          rw [e1]
          by_cases q : evx (lv (Hb t n v E)) p j = true
          · have e2 : rkx (lv (Hb t n v E)) p j = 2147483647 := by unfold rkx; rw [if_pos q]
            rw [e2]; rfl
          · have e2 : rkx (lv (Hb t n v E)) p j = nI (gwx (lv (Hb t n v E)) p j) := by unfold rkx; rw [if_neg q]
            rw [e2]
            exact if_pos (by rw [big, lt_nI (by omega) (by omega)]; omega)
        refine ⟨fun q => absurd rfl q, fun _ => ⟨⟨j + 1, by omega, ?_⟩, mu_lt hjS (by omega)⟩⟩
        rw [nI_s, key]
      | some x =>
        have hx := hb x e
        have key : (if rkx (lv (Hb t n v E)) p j < nI x then nI x else rkx (lv (Hb t n v E)) p j) = rkx (lv (Hb t n v E)) p (j + 1) := by
          have e1 : rkx (lv (Hb t n v E)) p (j + 1) = if evx (lv (Hb t n v E)) p j then 2147483647 else nI (if gwx (lv (Hb t n v E)) p j < x then x else gwx (lv (Hb t n v E)) p j) := by
            unfold rkx
            rw [hev false (by rw [hpj, e]; rfl), Bool.or_false, gwx, if_pos hpj, e]
          rw [e1]
          by_cases q : evx (lv (Hb t n v E)) p j = true
          · have e2 : rkx (lv (Hb t n v E)) p j = 2147483647 := by unfold rkx; rw [if_pos q]
            rw [e2, if_pos q]
            exact if_neg (by rw [big, lt_nI (by omega) (by omega)]; omega)
          · have e2 : rkx (lv (Hb t n v E)) p j = nI (gwx (lv (Hb t n v E)) p j) := by unfold rkx; rw [if_neg q]
            rw [e2, if_neg q]
            by_cases q2 : gwx (lv (Hb t n v E)) p j < x
            · rw [if_pos q2]
              exact if_pos (by rw [lt_nI (by omega) (by omega)]; exact q2)
            · rw [if_neg q2]
              exact if_neg (by rw [lt_nI (by omega) (by omega)]; exact q2)
        refine ⟨fun _ => ⟨⟨j + 1, by omega, ?_⟩, mu_lt hjS (by omega)⟩, fun q => by cases q⟩
        rw [nI_s, ← key]
        rfl
end QRY
