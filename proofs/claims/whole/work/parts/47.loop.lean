/-! loops of a function -/
def itr (g : Nat → Nat) (c : Nat) : Nat → Nat
  | 0 => c
  | i + 1 => g (itr g c i)
theorem itr_add {g : Nat → Nat} {c i : Nat} : ∀ j, itr g c (i + j) = itr g (itr g c i) j
  | 0 => rfl
  | j + 1 => congrArg g (itr_add j)
theorem itr_one {g : Nat → Nat} {c : Nat} : ∀ j, itr g (g c) j = itr g c (j + 1)
  | 0 => rfl
  | j + 1 => congrArg g (itr_one j)
def LD (x : Nat → Nat) (mu la : Nat) : Prop := 1 ≤ la ∧ x (mu + la) = x mu ∧ ∀ a b, a < b → b < mu + la → x a ≠ x b
section LOOPN
variable {g : Nat → Nat} {c mu la : Nat}
theorem LD.mul (h : LD (itr g c) mu la) {a : Nat} (ha : mu ≤ a) : ∀ q, itr g c (a + la * q) = itr g c a
  | 0 => by rw [Nat.mul_zero, Nat.add_zero]
  | q + 1 => by
    have e0 : itr g c (a + la) = itr g c a := by
      have : a = mu + (a - mu) := by omega
      rw [this, show mu + (a - mu) + la = (mu + la) + (a - mu) by omega, itr_add (i := mu + la), h.2.1, ← itr_add]
    rw [Nat.mul_add, Nat.mul_one, show a + (la * q + la) = (a + la) + la * q by omega, itr_add (i := a + la), e0, ← itr_add]
    exact LD.mul h ha q
theorem LD.red (h : LD (itr g c) mu la) {a : Nat} (ha : mu ≤ a) : itr g c a = itr g c (mu + (a - mu) % la) := by
  have e : a = (mu + (a - mu) % la) + la * ((a - mu) / la) := by
    have := Nat.mod_add_div (a - mu) la
    omega
  conv => lhs; rw [e]
  exact h.mul (by omega) _
theorem LD.back (h : LD (itr g c) mu la) {a b : Nat} (hb : 1 ≤ b) (he : itr g c (a + b) = itr g c a) : mu ≤ a ∧ ∃ q, b = la * q := by
  obtain ⟨h1, h2, h3⟩ := id h
  have hmod : ∀ m, m % la < la := fun m => Nat.mod_lt _ h1
  have inj : ∀ i j, i < mu + la → j < mu + la → itr g c i = itr g c j → i = j := fun i j hi hj e => by
    rcases Nat.lt_trichotomy i j with q | q | q
    · exact absurd e (h3 i j q hj)
    · exact q
    · exact absurd e.symm (h3 j i q hi)
  by_cases ha : mu ≤ a
  · refine ⟨ha, b / la, ?_⟩
    have e1 := h.red ha
    have e2 := h.red (show mu ≤ a + b by omega)
    have m1 := hmod (a - mu)
    have m2 := hmod (a + b - mu)
    have e3 := inj _ _ (by omega) (by omega) (e2.symm.trans (he.trans e1))
    have e4 : (a + b - mu) % la = (a - mu) % la := by omega
    have e5 := Nat.sub_mod_eq_zero_of_mod_eq e4
    rw [show a + b - mu - (a - mu) = b by omega] at e5
    have := Nat.mod_add_div b la
    omega
  · exfalso
    by_cases hab : mu ≤ a + b
    · have e2 := h.red hab
      have m2 := hmod (a + b - mu)
      have := inj _ _ (by omega) (by omega) (e2.symm.trans he)
      omega
    · have := inj _ _ (by omega) (by omega) he
      omega
end LOOPN
noncomputable def gx (t n v : Nat) (E : Nat → Nat → Bool) (d c : Nat) : Nat := cd v n (mvd t n v E (dg v c) (dmx t n v E d c none 0))
section LOOP
variable {FX FT : Nat → Int32} {AT : Nat → Nat → Int32} {FD : Nat → Int32} {AD : Nat → Nat → Int32} {FN : Nat → Int32} {AN : Nat → Nat → Int32} {FS : Nat → Int32} {AS : Nat → Nat → Int32} {FP : Nat → Int32} {AP : Nat → Nat → Int32} {F : Nat → Int32} {A : Nat → Nat → Int32} {t n v : Nat} {E : Nat → Nat → Bool} {c : Nat} {last : Option Nat} {k : Nat} {pc : Nat → Nat} {pl : Nat → Option Nat} {d : Nat}
theorem gx_lt (hP : Par t n v) (hG : Gr t n v E) {c : Nat} : gx t n v E d c < v ^ n :=
  cd_lt n (Rw_mvd hP hG (Rw_dg (by obtain ⟨p1, p2, p3, p4, p5, p6, p7, p8, p9⟩ := id hP; omega)) _)
theorem itr_lt (hP : Par t n v) (hG : Gr t n v E) (hc : c < v ^ n) : ∀ i, itr (gx t n v E d) c i < v ^ n
  | 0 => hc
  | _ + 1 => gx_lt hP hG
theorem SvA.fr7 {AS' : Nat → Nat → Int32} (h : SvA FS AS t n v E) (hF : Fr [] [7] FS AS FS AS') : SvA FS AS' t n v E := by
  unfold SvA at h ⊢
  rw [hF.2 2 (by decide), hF.2 4 (by decide), hF.2 5 (by decide), hF.2 6 (by decide)]
  exact h
theorem Sv.fr7 {AS' : Nat → Nat → Int32} (h : Sv FS AS t n v E) (hF : Fr [] [7] FS AS FS AS') : Sv FS AS' t n v E := by
  rcases h with h | ⟨h1, h2⟩
  · exact Or.inl h
  · exact Or.inr ⟨h1, h2.fr7 hF⟩
theorem x_loop58 {Post : Int32 → (Nat → Int32) → (Nat → Nat → Int32) → Prop} (hP : Par t n v) (hG : Gr t n v E) (hN : NOk FN AN t n v E) (hS : d = 4 → SvA FS AS t n v E) (hd : d ≤ 4) (hc : c < v ^ n) {w : Nat} (hw : w ≤ 1) (h7 : ∀ y, y < v ^ n → AS 7 y = -1)
    (h : ∀ mu la AS', LD (itr (gx t n v E d) c) mu la → mu ≤ 4096 → la ≤ 4096 → Fr [] [7] FS AS FS AS' → Post (if w = 0 then nI mu else nI la) FS AS') : wp_X6_loop_58 FX FT AT FD AD FN AN FP AP FS AS (nI d) (nI w) (nI c) (0 : Int32) Post := by
  obtain ⟨p1, p2, p3, p4, p5, p6, p7, p8, p9⟩ := id hP
  unfold wp_X6_loop_58
  rw [i0]
  refine Lp_of (fun s => ∃ i AS', i ≤ v ^ n ∧ s = (nI (itr (gx t n v E d) c i), nI i, FS, AS') ∧ Fr [] [7] FS AS FS AS' ∧ (∀ j, j < i → AS' 7 (itr (gx t n v E d) c j) = nI j) ∧ (∀ y, y < v ^ n → (∀ j, j < i → itr (gx t n v E d) c j ≠ y) → AS' 7 y = -1)) (fun s => v ^ n + 1 - ix s.2.1) ⟨0, AS, by omega, rfl, Fr.rf, fun j hj => absurd hj (Nat.not_lt_zero j), fun y hy _ => h7 y hy⟩ ?_
  rintro _ ⟨i, AS', hi, rfl, hF, hA, hB⟩
  dsimp only
  have hxi := itr_lt (d := d) hP hG hc i
  have inj : ∀ a b, a < b → b < i → itr (gx t n v E d) c a ≠ itr (gx t n v E d) c b := fun a b hab hb e => by
    have e1 := hA a (by omega)
    have e2 := hA b hb
    rw [e, e2, eq_nI (by omega) (by omega)] at e1
    omega
  unfold st_X6_loop_58
  rw [hN.2.2.2.1, lt_nI (by omega) (by omega)]
  refine ⟨fun q => absurd q (by omega), fun _ => ?_⟩
  rintro _ rfl
  rw [rAt_in (by omega) (by omega)]
  by_cases hex : ∃ j, j < i ∧ itr (gx t n v E d) c j = itr (gx t n v E d) c i
  · obtain ⟨j, hj, e⟩ := hex
    have e1 : AS' 7 (itr (gx t n v E d) c i) = nI j := by rw [← e]; exact hA j hj
    rw [e1]
    have hld : LD (itr (gx t n v E d) c) j (i - j) := by
      refine ⟨by omega, ?_, fun a b hab hb => inj a b hab (by omega)⟩
      rw [show j + (i - j) = i by omega, e]
    have hp := h j (i - j) AS' hld (by omega) (by omega) hF
    refine ⟨fun q => absurd q (by rw [i0, lt_nI (by omega) (by omega)]; omega), fun _ => ⟨fun q => ?_, fun q => ?_⟩⟩
    · rw [if_neg (fun e => q (by rw [e]; rfl))] at hp
      rw [sub_nI (by omega)]; exact hp
    · rw [if_pos ((eq_nI (a := w) (b := 0) (by omega) (by omega)).mp q)] at hp; exact hp
  · have hne : ∀ j, j < i → itr (gx t n v E d) c j ≠ itr (gx t n v E d) c i := fun j hj e => hex ⟨j, hj, e⟩
    have e1 : AS' 7 (itr (gx t n v E d) c i) = -1 := hB _ hxi hne
    rw [e1]
    have hiS : i + 1 ≤ v ^ n := by
      have hcov := cn_cover (f := fun y => if y = itr (gx t n v E d) c i then i else ix (AS' 7 y)) (n := v ^ n) (i + 1) (fun _ => true) (fun w hw => by
        by_cases e : w = i
        · exact ⟨itr (gx t n v E d) c i, hxi, rfl, by rw [if_pos rfl, e]⟩
        · refine ⟨itr (gx t n v E d) c w, itr_lt hP hG hc w, rfl, ?_⟩
          rw [if_neg (hne w (by omega)), hA w (by omega), ix_nI (by omega)])
      exact Nat.le_trans hcov (cn_le _ _)
    refine ⟨fun _ => ?_, fun q => absurd m1_neg q⟩
    rintro _ rfl
    rw [rPut_in (by omega) (by omega)]
    have hF2 : Fr [] [7] FS AS FS (uA AS' 7 (upd (AS' 7) (itr (gx t n v E d) c i) (nI i))) := hF.tr (Fr.uA (by decide))
    have hm := dmx_lt (d := d) (c := itr (gx t n v E d) c i) (z := 0) (E := E) (last := none) hP (fun l q => by cases q)
    refine x_moversOf (z := 0) (last := none) hP hG hN (fun e => (hS e).fr7 hF2) hd hxi (fun l q => by cases q) (by omega) (x_moved hP hG hN hxi (by omega) ⟨⟨i + 1, _, hiS, by rw [nI_s]; rfl, hF2, fun j hj => ?_, fun y hy hn => ?_⟩, ?_⟩)
    · rw [uA_same, upd_at]
      by_cases e : j = i
      · rw [e, if_pos rfl]
      · rw [if_neg (hne j (by omega))]; exact hA j (by omega)
    · rw [uA_same, upd_at, if_neg (fun e => hn i (by omega) e.symm)]
      exact hB y hy (fun j hj => hn j (by omega))
    · simp (disch := omega) only [nI_s, ix_nI]; omega
theorem m_follows {Post : Int32 → (Nat → Int32) → (Nat → Nat → Int32) → Prop} (hP : Par t n v) (hG : Gr t n v E) (hM : MOk F A t n v E) (hMs : Ms F A t n v E) (hd : d ≤ 4) (hd3 : d ≠ 3) {c : Nat} (hc : c < v ^ n) (h : ∀ F' A', Fr [23, 26] [20, 21, 22, 24, 25] F A F' A' → Ms F' A' t n v E → Post (nI (gx t n v E d c)) F' A') : wp_X7_follows F A (nI d) (nI c) Post := by
  unfold wp_X7_follows
  refine m_rowOf hP hM hc (fun A1 hF1 hr1 => ?_)
  have hM1 := hM.fr hF1 (by decide)
  have hn : ∀ l, (none : Option Nat) = some l → l < n := fun l q => by cases q
  refine m_chooses (z := 0) (k := 0) (last := none) hP hG hM1 (hMs.fr26 (hF1.mo (by decide) (by decide)) (as := [24]) (by decide)) hd hc hr1 hn (by omega) (by omega) (fun F2 A2 hF2 hr2 hms2 => ?_)
  have hM2 := hM1.fr hF2 (by decide)
  rw [dmx_z (z' := 0) hd3]
  refine m_step hP hG hM2 (dmx_lt hP hn) (dmx_mv hP hn) hr2 (fun F3 A3 hF3 hr3 => ?_)
  have hM3 := hM2.fr hF3 (by decide)
  refine m_codeOf hP hM3 hr3 ?_
  rw [show cd v n (dg v (cd v n (mvd t n v E (dg v c) (dmx t n v E d c none 0)))) = gx t n v E d c from cd_dg (gx_lt hP hG)]
  exact h F3 A3 (((hF1.mo (by decide) (by decide)).tr (hF2.mo (by decide) (by decide))).tr (hF3.mo (by decide) (by decide))) (hms2.fr26 hF3 (by decide))
theorem m_loop47 {Post : Int32 → (Nat → Int32) → (Nat → Nat → Int32) → Prop} (hP : Par t n v) (hG : Gr t n v E) (hM : MOk F A t n v E) (hMs : Ms F A t n v E) (hd : d ≤ 4) (hd3 : d ≠ 3) (hc : c < v ^ n) {w mu la : Nat} (hw : w ≤ 1) (hL : LD (itr (gx t n v E d) c) mu la) (hmu : mu ≤ 4096) (hla : la ≤ 4096) (h : ∀ F' A', Fr [23, 26] [20, 21, 22, 24, 25] F A F' A' → Ms F' A' t n v E → Post (if w = 0 then nI mu else nI la) F' A') : wp_X7_loop_47 F A (nI d) (nI w) (nI c) (nI (itr (gx t n v E d) c 1)) (nI (itr (gx t n v E d) c 2)) Post := by
  obtain ⟨p1, p2, p3, p4, p5, p6, p7, p8, p9⟩ := id hP
  have hx := itr_lt (d := d) hP hG hc
  have hl1 := hL.1
  have eqx : ∀ a b, (nI (itr (gx t n v E d) c a) = nI (itr (gx t n v E d) c b)) = (itr (gx t n v E d) c a = itr (gx t n v E d) c b) := fun a b => eq_nI (by have := hx a; omega) (by have := hx b; omega)
  -- the meeting
  have hstar : mu ≤ la * (mu / la + 1) ∧ 1 ≤ la * (mu / la + 1) := by
    have h1 := Nat.mod_add_div mu la
    have h2 := Nat.mod_lt mu hl1
    rw [Nat.mul_add, Nat.mul_one]
    omega
  generalize hst : la * (mu / la + 1) = st at hstar
  have hmeet : itr (gx t n v E d) c (2 * st) = itr (gx t n v E d) c st := by
    rw [show 2 * st = st + la * (mu / la + 1) by omega]
    exact hL.mul hstar.1 _
  let p : Nat → Nat → Nat → Bool := fun a b k => itr (gx t n v E d) a k == itr (gx t n v E d) b (2 * k)
  unfold wp_X7_loop_47
  refine Lp_of (fun s => ∃ i F' A', 1 ≤ i ∧ i ≤ st ∧ s = (nI (itr (gx t n v E d) c i), nI (itr (gx t n v E d) c (2 * i)), F', A') ∧ Fr [23, 26] [20, 21, 22, 24, 25] F A F' A' ∧ Ms F' A' t n v E) (fun s => fd (st + 1) (p (ix s.1) (ix s.2.1))) ⟨1, F, A, by omega, hstar.2, rfl, Fr.rf, hMs⟩ ?_
  rintro _ ⟨i, F1, A1, hi1, hi, rfl, hF1, hms1⟩
  dsimp only
  have hM1 := hM.fr hF1 (by decide)
  unfold st_X7_loop_47
  rw [eqx]
  refine ⟨fun q => ?_, fun q => ?_⟩
  · -- the tail
    have hq := hL.back (a := i) (b := i) hi1 (by rw [show i + i = 2 * i by omega]; exact q.symm)
    obtain ⟨hmi, qq, hqq⟩ := hq
    unfold wp_X7_loop_86
    refine Lp_of (fun s => ∃ j F' A', j ≤ mu ∧ s = (nI (itr (gx t n v E d) c (j + 2 * i)), nI j, nI (itr (gx t n v E d) c j), F', A') ∧ Fr [23, 26] [20, 21, 22, 24, 25] F A F' A' ∧ Ms F' A' t n v E) (fun s => mu - ix s.2.1) ⟨0, F1, A1, by omega, by rw [Nat.zero_add]; rfl, hF1, hms1⟩ ?_
    rintro _ ⟨j, F2, A2, hj, rfl, hF2, hms2⟩
    dsimp only
    have hM2 := hM.fr hF2 (by decide)
    unfold st_X7_loop_86
    rw [eqx]
    refine ⟨fun q2 => ?_, fun q2 => ?_⟩
    · -- the round
      have hjm : j = mu := by
        have := (hL.back (a := j) (b := 2 * i) (by omega) q2.symm).1
        omega
      subst hjm
      refine m_follows hP hG hM2 hms2 hd hd3 (hx j) (fun F3 A3 hF3 hms3 => ?_)
      unfold wp_X7_loop_129
      refine Lp_of (fun s => ∃ r F' A', 1 ≤ r ∧ r ≤ la ∧ s = (nI r, nI (itr (gx t n v E d) c (j + r)), F', A') ∧ Fr [23, 26] [20, 21, 22, 24, 25] F A F' A' ∧ Ms F' A' t n v E) (fun s => la - ix s.1) ⟨1, F3, A3, by omega, by omega, rfl, hF2.tr hF3, hms3⟩ ?_
      rintro _ ⟨r, F4, A4, hr1, hr, rfl, hF4, hms4⟩
      dsimp only
      have hM4 := hM.fr hF4 (by decide)
      unfold st_X7_loop_129
      rw [eqx]
      refine ⟨fun q3 => ?_, fun q3 => ?_⟩
      · have hrl : r = la := by
          obtain ⟨-, q', hq'⟩ := hL.back (a := j) (b := r) hr1 q3
          have hq1 : 1 ≤ q' := by
            apply Nat.one_le_iff_ne_zero.mpr
            intro e
            rw [e, Nat.mul_zero] at hq'; omega
          have := Nat.mul_le_mul (Nat.le_refl la) hq1
          omega
        subst hrl
        have hp := h F4 A4 hF4 hms4
        refine ⟨fun q4 => ?_, fun q4 => ?_⟩
        · rw [if_neg (fun e => q4 (by rw [e]; rfl))] at hp; exact hp
        · rw [if_pos ((eq_nI (a := w) (b := 0) (by omega) (by omega)).mp q4)] at hp; exact hp
      · have hrl : r < la := by
          apply Nat.lt_of_le_of_ne hr
          intro e
          exact q3 (by rw [e]; exact hL.2.1)
        refine m_follows hP hG hM4 hms4 hd hd3 (hx (j + r)) (fun F5 A5 hF5 hms5 => ⟨⟨r + 1, F5, A5, by omega, by omega, by rw [nI_s]; rfl, hF4.tr hF5, hms5⟩, mu_lt hrl (by omega)⟩)
    · have hjm : j < mu := by
        apply Nat.lt_of_le_of_ne hj
        intro e
        apply q2
        rw [hqq, show 2 * (la * qq) = la * (2 * qq) by rw [Nat.mul_left_comm], hL.mul (by omega)]
      refine m_follows hP hG hM2 hms2 hd hd3 (hx j) (fun F3 A3 hF3 hms3 => ?_)
      refine m_follows hP hG (hM2.fr hF3 (by decide)) hms3 hd hd3 (hx (j + 2 * i)) (fun F4 A4 hF4 hms4 => ⟨⟨j + 1, F4, A4, by omega, ?_, (hF2.tr hF3).tr hF4, hms4⟩, mu_lt hjm (by omega)⟩)
      rw [nI_s, show j + 1 + 2 * i = (j + 2 * i) + 1 by omega]; rfl
  · have his : i < st := by
      apply Nat.lt_of_le_of_ne hi
      intro e
      exact q (by rw [e]; exact hmeet.symm)
    refine m_follows hP hG hM1 hms1 hd hd3 (hx i) (fun F2 A2 hF2 hms2 => ?_)
    refine m_follows hP hG (hM1.fr hF2 (by decide)) hms2 hd hd3 (hx (2 * i)) (fun F3 A3 hF3 hms3 => ?_)
    have hF13 := (hF1.tr hF2).tr hF3
    refine m_follows hP hG (hM.fr hF13 (by decide)) hms3 hd hd3 (hx (2 * i + 1)) (fun F4 A4 hF4 hms4 => ⟨⟨i + 1, F4, A4, by omega, by omega, ?_, hF13.tr hF4, hms4⟩, ?_⟩)
    · rw [show 2 * (i + 1) = (2 * i + 1) + 1 by omega]; rfl
    · dsimp only
      have b1 := hx i
      have b2 := hx (2 * i)
      have b3 := hx (i + 1)
      have b4 := hx (2 * i + 1 + 1)
      show fd (st + 1) (p (ix (nI (itr (gx t n v E d) c (i + 1)))) (ix (nI (itr (gx t n v E d) c (2 * i + 1 + 1))))) < _
      rw [ix_nI (by omega), ix_nI (by omega), ix_nI (by omega), ix_nI (by omega)]
      -- the least number of steps to the meeting
      have hp : p (itr (gx t n v E d) c i) (itr (gx t n v E d) c (2 * i)) (st - i) = true := by
        show (itr (gx t n v E d) (itr (gx t n v E d) c i) (st - i) == itr (gx t n v E d) (itr (gx t n v E d) c (2 * i)) (2 * (st - i))) = true
        rw [← itr_add, ← itr_add, show i + (st - i) = st by omega, show 2 * i + 2 * (st - i) = 2 * st by omega, hmeet]
        exact beq_self_eq_true _
      have hle : fd (st + 1) (p (itr (gx t n v E d) c i) (itr (gx t n v E d) c (2 * i))) ≤ st - i := fd_le_of hp
      have hsp := (fd_spec (p (itr (gx t n v E d) c i) (itr (gx t n v E d) c (2 * i))) (st + 1)).1 (by omega)
      generalize fd (st + 1) (p (itr (gx t n v E d) c i) (itr (gx t n v E d) c (2 * i))) = m at hsp hle
      cases m with
      | zero => exact absurd (eq_of_beq hsp) q
      | succ m =>
        have hsp' : p (itr (gx t n v E d) c (i + 1)) (itr (gx t n v E d) c (2 * i + 1 + 1)) m = true := by
          have e := eq_of_beq hsp
          show (itr (gx t n v E d) (itr (gx t n v E d) c (i + 1)) m == itr (gx t n v E d) (itr (gx t n v E d) c (2 * i + 1 + 1)) (2 * m)) = true
          rw [← itr_add, ← itr_add] at e ⊢
          rw [show i + 1 + m = i + (m + 1) by omega, show 2 * i + 1 + 1 + 2 * m = 2 * i + 2 * (m + 1) by omega, e]
          exact beq_self_eq_true _
        have := fd_le_of (N := st + 1) hsp'
        omega
theorem e_loop (x1 x2 : Int32) (h : Rel FX FT AT FN AN FS AS FP AP F A) : wp_X6_loop FX FT AT FD AD FN AN FS AS FP AP x1 x2 (fun r FS' AS' => wp_X7_loop F A x1 x2 (fun r' F' A' => r = r' ∧ Rel FX FT AT FN AN FS' AS' FP AP F' A')) := by
  have h0 := h
  obtain ⟨⟨t, n, v, E, c, last, k, pc, pl, hR⟩, hT⟩ := h
  obtain ⟨⟨hP, hG, hN, hM, hw⟩, ⟨hc, h5, h9⟩, ⟨hl, hx6, h10⟩, ⟨hPa, hMp, hpc, hpl⟩, hS, hMs⟩ := id hR
  obtain ⟨p1, p2, p3, p4, p5, p6, p7, p8, p9⟩ := id hP
  have main : ∀ d, d ≤ 4 → d ≠ 3 → x1 = nI d → (∀ Post, wp_X7_loop_14 F A (nI d) x2 Post → wp_X7_loop F A (nI d) x2 Post) → wp_X6_loop_14 FX FT AT FD AD FN AN FP AP FS AS (nI d) x2 (fun r FS' AS' => wp_X7_loop F A (nI d) x2 (fun r' F' A' => r = r' ∧ Rel FX FT AT FN AN FS' AS' FP AP F' A')) := fun d hd hd3 e1 up => by
    unfold wp_X6_loop_14 wp_X6_loop_41 wp_X4_clearedSpare
    have bad : (x2 < 0 ∨ nI (1 + 1) ≤ x2) → wp_X7_loop F A (nI d) x2 (fun r' F' A' => (-1 : Int32) = r' ∧ Rel FX FT AT FN AN FS AS FP AP F' A') := fun q => up _ (by
      unfold wp_X7_loop_14
      exact m_in_out (b := 1) (by omega) q ⟨fun q => absurd rfl q, fun _ => ⟨rfl, h0⟩⟩)
    rcases cases_lt x2 2 (by omega) with hx | ⟨hx0, hx⟩ | ⟨w, hw2, rfl⟩
    · exact ⟨fun _ => bad (Or.inl hx), fun q => absurd hx q⟩
    · exact ⟨fun q => absurd q hx0, fun _ => ⟨fun q => absurd q (le_out (b := 1) (by omega) hx), fun _ => bad (Or.inr hx)⟩⟩
    refine ⟨fun q => absurd q (by rw [i0, lt_nI (by omega) (by omega)]; omega), fun _ => ⟨fun _ => ?_, fun q => absurd (by rw [show (1 : Int32) = nI 1 from rfl, le_nI (by omega) (by omega)]; omega) q⟩⟩
    have go : ∀ FS' AS', Sv FS' AS' t n v E → (d = 4 → SvA FS' AS' t n v E) → ∀ g_1 : Nat → Int32, g_1 = rFill 4096 (AS' 7) (-1 : Int32) → wp_X6_loop_58 FX FT AT FD AD FN AN FP AP FS' (uA AS' 7 g_1) (nI d) (nI w) (FX 5) (0 : Int32) (fun r FS' AS' => wp_X7_loop F A (nI d) (nI w) (fun r' F' A' => r = r' ∧ Rel FX FT AT FN AN FS' AS' FP AP F' A')) := fun FS' AS' hsv hsa g hg => by
      rw [h5]
      have hF0 : Fr [] [7] FS' AS' FS' (uA AS' 7 g) := Fr.uA (by decide)
      refine x_loop58 hP hG hN (fun e => (hsa e).fr7 hF0) hd hc (by omega) (fun y hy => by rw [uA_same, hg]; unfold rFill; exact if_pos (by omega)) (fun mu la AS2 hL hmu hla hF2 => up _ ?_)
      unfold wp_X7_loop_14 wp_X7_code
      refine m_in_in (b := 1) (by omega) (by omega) ⟨fun _ => ?_, fun q => absurd q (by decide)⟩
      refine m_rowNow hP hM h9 (fun A1 hF1 hr1 => m_codeOf hP (hM.fr hF1 (by decide)) hr1 ?_)
      rw [cd_dg hc]
      have hF1' : Fr [23, 26] [20, 21, 22, 24, 25] F A F A1 := hF1.mo (by decide) (by decide)
      refine m_follows hP hG (hM.fr hF1 (by decide)) (hMs.fr26 (hF1.mo (by decide) (by decide)) (as := [24]) (by decide)) hd hd3 hc (fun F3 A3 hF3 hms3 => ?_)
      refine m_follows hP hG (hM.fr (hF1'.tr hF3) (by decide)) hms3 hd hd3 (gx_lt hP hG) (fun F4 A4 hF4 hms4 => ?_)
      have hF14 := (hF1'.tr hF3).tr hF4
      refine m_loop47 hP hG (hM.fr hF14 (by decide)) hms4 hd hd3 hc (by omega) hL hmu hla (fun F5 A5 hF5 hms5 => ⟨rfl, ?_⟩)
      obtain ⟨g1, g2, g3, g4, -, g6⟩ := hR.fr (hF14.tr hF5) hms5 (by decide) (by decide)
      exact ⟨⟨t, n, v, E, c, last, k, pc, pl, g1, g2, g3, g4, (hsv.fr7 hF0).fr7 hF2, g6⟩, hT.fr (hF14.tr hF5) (by decide)⟩
    refine ⟨fun q4 => go FS AS hS (fun e => absurd (by rw [e]; rfl) q4), fun q4 => x_make hP hG hN hS (fun FS' AS' hs0 hsA => go FS' AS' (Or.inr ⟨hs0, hsA⟩) (fun _ => hsA))⟩
  unfold wp_X6_loop
  refine ⟨fun q0 => ?_, fun q0 => ⟨fun q2 => ?_, fun q2 => ⟨fun q4 => ?_, fun q4 => ?_⟩⟩⟩
  · have := main 0 (by omega) (by omega) q0 (fun Post hh => by unfold wp_X7_loop; exact ⟨fun _ => hh, fun q => absurd rfl q⟩)
    rw [q0]; exact this
  · have := main 2 (by omega) (by omega) q2 (fun Post hh => by unfold wp_X7_loop; exact ⟨fun q => absurd q (by decide), fun _ => ⟨fun _ => hh, fun q => absurd rfl q⟩⟩)
    rw [q2]; exact this
  · unfold wp_X7_loop
    exact ⟨fun q => absurd q q0, fun _ => ⟨fun q => absurd q q2, fun _ => ⟨fun _ => ⟨rfl, h0⟩, fun q => absurd q q4⟩⟩⟩
  · have := main 4 (by omega) (by omega) q4 (fun Post hh => by unfold wp_X7_loop; exact ⟨fun q => absurd q (by decide), fun _ => ⟨fun q => absurd q (by decide), fun _ => ⟨fun q => absurd rfl q, fun _ => hh⟩⟩⟩)
    rw [q4]; exact this
end LOOP
