/-! whom a daemon lets move -/
noncomputable def dmx (t n v : Nat) (E : Nat → Nat → Bool) (d c : Nat) (last : Option Nat) (z : Nat) : Nat :=
  if tks t n v E (dg v c) = 0 then 0 else
  if d = 0 then lwm (tks t n v E (dg v c)) else if d = 1 then rng n (tks t n v E (dg v c)) last else if d = 2 then tks t n v E (dg v c) else if d = 3 then drw (tks t n v E (dg v c)) (z % pcn (tks t n v E (dg v c))) else mk1 (crc t n v E c n)
def sbm (m r : Nat) : Bool := decide (r ≠ 0 ∧ r < 64 ∧ r &&& m = r)
theorem sbm_of {m r : Nat} (h : sbm m r = true) : r ≠ 0 ∧ r < 64 ∧ ∀ i, i < 7 → r.testBit i = true → m.testBit i = true := by
  obtain ⟨h1, h2, h3⟩ := of_decide_eq_true h
  refine ⟨h1, h2, fun i _ q => ?_⟩
  rw [← h3, Nat.testBit_and] at q
  exact (Bool.and_eq_true_iff.mp q).2
theorem sb_lwm : ∀ m, m < 64 → m ≠ 0 → sbm m (lwm m) = true := by decide +kernel
theorem sb_all : ∀ m, m < 64 → m ≠ 0 → sbm m m = true := by decide +kernel
def sbR (m l : Nat) : Bool := decide (m ≠ 0 → sbm m (rng (l + 1) m (some l)) = true)
theorem sb_rng' : ∀ m, m < 64 → ∀ l, l < 6 → sbR m l = true := by decide +kernel
def sbD (m a : Nat) : Bool := decide (a < pcn m → sbm m (drw m a) = true)
theorem sb_drw' : ∀ m, m < 64 → ∀ a, a < 7 → sbD m a = true := by decide +kernel
theorem rng_n {n m l : Nat} (h : l < n) : rng n m (some l) = rng (l + 1) m (some l) := by
  simp only [rng, h, Nat.lt_succ_self, true_and]
theorem pow2_6 : ∀ b, b < 6 → ∀ m, m < 64 → m.testBit b = true → sbm m (2 ^ b) = true := by decide +kernel
section MOV
variable {FN : Nat → Int32} {AN : Nat → Nat → Int32} {FS : Nat → Int32} {AS : Nat → Nat → Int32} {F : Nat → Int32} {A : Nat → Nat → Int32} {t n v : Nat} {E : Nat → Nat → Bool}
theorem tks_bit (hP : Par t n v) {c i : Nat} (hi : i < 7) : (tks t n v E (dg v c)).testBit i = (decide (i < n) && mvc t n v E c i) := by
  unfold tks; rw [tk_bit]; rfl

theorem tks_cn (hP : Par t n v) {c : Nat} : pcn (tks t n v E (dg v c)) = cn n (mvc t n v E c) := cn_bits (by obtain ⟨p1, p2, p3, p4, p5, p6, p7, p8, p9⟩ := id hP; omega)
theorem tks_some (hP : Par t n v) {c : Nat} (h : tks t n v E (dg v c) ≠ 0) : ∃ i, i < n ∧ mvc t n v E c i = true := by
  obtain ⟨p1, p2, p3, p4, p5, p6, p7, p8, p9⟩ := id hP
  have hT := tks_lt (f := dg v c) (E := E) hP
  have h1 := lwm_nz _ (show tks t n v E (dg v c) < 128 by omega) h
  have h2 := (fd_spec (fun i => (tks t n v E (dg v c)).testBit i) 7).1 h1
  rw [tks_bit hP h1] at h2
  have h3 := Bool.and_eq_true_iff.mp h2
  exact ⟨_, of_decide_eq_true h3.1, h3.2⟩
theorem dmx_ok (hP : Par t n v) {d c z : Nat} {last : Option Nat} (hl : ∀ l, last = some l → l < n) (h0 : tks t n v E (dg v c) ≠ 0) : sbm (tks t n v E (dg v c)) (dmx t n v E d c last z) = true := by
  obtain ⟨p1, p2, p3, p4, p5, p6, p7, p8, p9⟩ := id hP
  have hT := tks_lt (f := dg v c) (E := E) hP
  have hpc : pcn (tks t n v E (dg v c)) ≤ 6 := by rw [tks_cn hP]; exact Nat.le_trans (cn_le _ _) (by omega)
  unfold dmx
  rw [if_neg h0]
  split
  · exact sb_lwm _ hT h0
  · split
    · cases last with
      | none => exact sb_lwm _ hT h0
      | some l =>
        have := hl l rfl
        rw [rng_n this]
        exact of_decide_eq_true (sb_rng' _ hT l (by omega)) h0
    · split
      · exact sb_all _ hT h0
      · split
        · have hmod : z % pcn (tks t n v E (dg v c)) < pcn (tks t n v E (dg v c)) := Nat.mod_lt _ (pcn_pos _ (by omega) h0)
          exact of_decide_eq_true (sb_drw' _ hT _ (by omega)) hmod
        · obtain ⟨i, hi, hm⟩ := tks_some hP h0
          obtain ⟨b, hb⟩ := crx_some (r := hbr t n v E c) hi hm
          have e : crc t n v E c n = some b := hb
          obtain ⟨b1, b2⟩ := crx_lt hb
          rw [e]
          exact pow2_6 b (by omega) _ hT (by rw [tks_bit hP (by omega), b2, decide_eq_true b1]; rfl)
theorem dmx_lt (hP : Par t n v) {d c z : Nat} {last : Option Nat} (hl : ∀ l, last = some l → l < n) : dmx t n v E d c last z < 64 := by
  by_cases h0 : tks t n v E (dg v c) = 0
  · unfold dmx; rw [if_pos h0]; omega
  · exact (sbm_of (dmx_ok hP hl h0)).2.1
theorem dmx_nz (hP : Par t n v) {d c z : Nat} {last : Option Nat} (hl : ∀ l, last = some l → l < n) (h0 : tks t n v E (dg v c) ≠ 0) : dmx t n v E d c last z ≠ 0 := (sbm_of (dmx_ok hP hl h0)).1
theorem dmx_mv (hP : Par t n v) {d c z : Nat} {last : Option Nat} (hl : ∀ l, last = some l → l < n) : ∀ i, i < n → (dmx t n v E d c last z).testBit i = true → mv t n v E (dg v c) i = true := fun i hi q => by
  obtain ⟨p1, p2, p3, p4, p5, p6, p7, p8, p9⟩ := id hP
  by_cases h0 : tks t n v E (dg v c) = 0
  · unfold dmx at q; rw [if_pos h0, Nat.zero_testBit] at q; cases q
  · have := (sbm_of (dmx_ok (d := d) (z := z) hP hl h0)).2.2 i (by omega) q
    rw [tks_bit hP (by omega)] at this
    exact (Bool.and_eq_true_iff.mp this).2
theorem dmx_z {d c z z' : Nat} {last : Option Nat} (hd : d ≠ 3) : dmx t n v E d c last z = dmx t n v E d c last z' := by
  unfold dmx; simp only [if_neg hd]
theorem x_moversOf {FX FT : Nat → Int32} {AT : Nat → Nat → Int32} {FD : Nat → Int32} {AD : Nat → Nat → Int32} {FP : Nat → Int32} {AP : Nat → Nat → Int32} {Post : Int32 → Prop} (hP : Par t n v) (hG : Gr t n v E) (hN : NOk FN AN t n v E) {d c z : Nat} {last : Option Nat} (hS : d = 4 → SvA FS AS t n v E) (hd : d ≤ 4) (hc : c < v ^ n) (hl : ∀ l, last = some l → l < n) (hz : z < 65521) (h : Post (nI (dmx t n v E d c last z))) : wp_X6_moversOf FX FT AT FD AD FN AN FS AS FP AP (nI d) (nI c) (eo (-4) last) (nI z) Post := by
  obtain ⟨p1, p2, p3, p4, p5, p6, p7, p8, p9⟩ := id hP
  have hT := tks_lt (f := dg v c) (E := E) hP
  unfold wp_X6_moversOf
  refine x_whoMay hP hG hN hc ?_
  rw [hN.2.1, show (1 : Int32) = nI 1 from rfl, show (2 : Int32) = nI 2 from rfl, show (3 : Int32) = nI 3 from rfl, i0]
  simp (disch := omega) only [eq_nI]
  by_cases h0 : tks t n v E (dg v c) = 0
  · have e : dmx t n v E d c last z = 0 := if_pos h0
    rw [e] at h
    rw [h0]
    refine ⟨fun _ => x_lowest (by omega) h, fun _ => ⟨fun _ => x_nextInRing (by omega) (by omega) hl ?_, fun _ => ⟨fun _ => h, fun _ => ⟨fun _ => ?_, fun c4 => ?_⟩⟩⟩⟩
    · have e2 : rng n 0 last = 0 := by
        cases last with
        | none => rfl
        | some l => simp only [rng, Nat.zero_div, Nat.zero_mul, ne_eq, not_true_eq_false, and_false, if_false]; rfl
      rw [e2]; exact h
    · unfold wp_X0_drawn
      refine x_bitCount (by omega) ?_
      exact ⟨fun q => absurd rfl q, fun _ => h⟩
    · rw [← h0]
      refine x_cruellest hP hG hN (hS (by omega)) hc ?_
      have e2 : crc t n v E c n = none := by
        cases e3 : crc t n v E c n with
        | none => rfl
        | some b =>
          obtain ⟨b1, b2⟩ := crx_lt e3
          have := tks_bit (E := E) (c := c) (i := b) hP (by omega)
          rw [h0, b2, decide_eq_true b1, Nat.zero_testBit] at this
          cases this
      rw [e2]; exact h
  · unfold dmx at h
    rw [if_neg h0] at h
    refine ⟨fun c0 => ?_, fun c0 => ?_⟩
    · rw [if_pos c0] at h; exact x_lowest (by omega) h
    · rw [if_neg c0] at h
      refine ⟨fun c1 => ?_, fun c1 => ?_⟩
      · rw [if_pos c1] at h; exact x_nextInRing (by omega) (by omega) hl h
      · rw [if_neg c1] at h
        refine ⟨fun c2 => ?_, fun c2 => ?_⟩
        · rw [if_pos c2] at h; exact h
        · rw [if_neg c2] at h
          refine ⟨fun c3 => ?_, fun c3 => ?_⟩
          · rw [if_pos c3] at h; exact x_drawn hT h0 hz h
          · rw [if_neg c3] at h; exact x_cruellest hP hG hN (hS (by omega)) hc h
/-- the last in the ring after a move -/
def lbx (d m : Nat) (last : Option Nat) : Option Nat := if d = 1 ∧ m ≠ 0 then some (fd 7 (fun i => m.testBit i)) else last
theorem x_lastBehind {d m : Nat} {last : Option Nat} {Post : Int32 → Prop} (hd : d ≤ 4) (hm : m < 64) (h : Post (eo (-4) (lbx d m last))) : wp_X6_lastBehind (nI d) (eo (-4) last) (nI m) Post := by
  unfold wp_X6_lastBehind
  unfold lbx at h
  rw [show (1 : Int32) = nI 1 from rfl, i0]
  simp (disch := omega) only [eq_nI]
  refine ⟨fun c => ?_, fun c => ⟨fun c2 => ?_, fun c2 => ?_⟩⟩
  · rw [if_neg (fun q => c q.1)] at h; exact h
  · rw [if_neg (fun q => q.2 c2)] at h; exact h
  · rw [if_pos ⟨c, c2⟩] at h; exact x_indexOf (by omega) c2 h
theorem lbx_lt (hP : Par t n v) {d c z : Nat} {last : Option Nat} (hl : ∀ l, last = some l → l < n) : ∀ l, lbx d (dmx t n v E d c last z) last = some l → l < n := fun l q => by
  unfold lbx at q
  split at q
  · rename_i hh
    by_cases h0 : tks t n v E (dg v c) = 0
    · exact absurd (if_pos h0) hh.2
    · obtain ⟨s1, s2, s3⟩ := sbm_of (dmx_ok (d := d) (z := z) hP hl h0)
      have h1 := lwm_nz _ (show dmx t n v E d c last z < 128 by omega) s1
      have h2 := s3 _ h1 ((fd_spec _ 7).1 h1)
      rw [tks_bit hP h1] at h2
      have h3 := of_decide_eq_true (Bool.and_eq_true_iff.mp h2).1
      have e := Option.some.inj q
      omega
  · exact hl l q
theorem Ms.fr26 {F' : Nat → Int32} {A' : Nat → Nat → Int32} {as : List Nat} (h : Ms F A t n v E) (hF : Fr [26] as F A F' A') (ha : 20 ∉ as ∧ 21 ∉ as ∧ 22 ∉ as) : Ms F' A' t n v E := by
  unfold Ms MsA at h ⊢
  rw [hF.1 23 (by decide), hF.2 20 ha.1, hF.2 21 ha.2.1, hF.2 22 ha.2.2]
  exact h
theorem m_chooses84 {Post : Int32 → (Nat → Int32) → (Nat → Nat → Int32) → Prop} (hP : Par t n v) (hM : MOk F A t n v E) {d m a r : Nat} {last : Option Nat} (hd : d ≤ 4) (hm : m < 64) (ha : a < 8) (hl : ∀ l, last = some l → l < n)
    (hr : (pickT n m 14 a (match d, last with | 1, some l => (l + 1) % n | _, _ => 0)).map (fun r => 2 ^ r) = some r) (h : Post (nI r) F A) : wp_X7_chooses_84 F A (nI d) (eo (-4) last) (nI m) (nI a) Post := by
  obtain ⟨p1, p2, p3, p4, p5, p6, p7, p8, p9⟩ := id hP
  have hn0 : ¬ F 3 = 0 := by rw [hM.2.1, i0, eq_nI (by omega) (by omega)]; omega
  have z0 : ∀ r', (pickT n m 14 a 0).map (fun r => 2 ^ r) = some r' → Post (nI r') F A → wp_X7_chooses_101 F A (nI m) (nI a) Post := fun r' hr' h' => by
    unfold wp_X7_chooses_101 wp_X7_chooses_102
    refine ⟨hn0, ?_⟩
    rw [hM.2.1, i0, rem_nI (by omega) (by omega) (by omega), Nat.zero_mod]
    exact m_pick hP hM (by omega) ha (by omega) hr' h'
  unfold wp_X7_chooses_84
  rw [show (1 : Int32) = nI 1 from rfl]
  simp (disch := omega) only [eq_nI]
  refine ⟨fun c => z0 r ?_ h, fun c => ?_⟩
  · split at hr
    · exact absurd rfl c
    · exact hr
  · subst c
    cases last with
    | none => exact ⟨fun _ => z0 r hr h, fun q => absurd m4_neg q⟩
    | some l =>
      have := hl l rfl
      simp only [eo]
      refine ⟨fun q => absurd q (by rw [i0, lt_nI (by omega) (by omega)]; omega), fun _ => ?_⟩
      unfold wp_X7_chooses_102
      refine ⟨hn0, ?_⟩
      rw [hM.2.1, show nI l + nI 1 = nI (l + 1) from nI_s l, rem_nI (by omega) (by omega) (by omega)]
      exact m_pick hP hM (by omega) ha (Nat.mod_lt _ (by omega)) hr h
theorem m_chooses {Post : Int32 → (Nat → Int32) → (Nat → Nat → Int32) → Prop} (hP : Par t n v) (hG : Gr t n v E) (hM : MOk F A t n v E) (hMs : Ms F A t n v E) {d c z k : Nat} {last : Option Nat} (hd : d ≤ 4) (hc : c < v ^ n) (hr : Row A n (dg v c)) (hl : ∀ l, last = some l → l < n) (hz : z ≤ 9999) (hk : k ≤ 300) (h : ∀ F' A', Fr [23, 26] [20, 21, 22, 24] F A F' A' → Row A' n (dg v c) → Ms F' A' t n v E → Post (nI (dmx t n v E d c last (dv z k))) F' A') : wp_X7_chooses F A (nI d) (nI z) (nI k) (eo (-4) last) Post := by
  obtain ⟨p1, p2, p3, p4, p5, p6, p7, p8, p9⟩ := id hP
  have hf : Rw n v (dg v c) := Rw_dg (by omega)
  have hT := tks_lt (f := dg v c) (E := E) hP
  have hT2 : tks t n v E (dg v c) < 2 ^ n := tk_lt _ _
  have hpc : pcn (tks t n v E (dg v c)) ≤ 6 := by rw [tks_cn hP]; exact Nat.le_trans (cn_le _ _) (by omega)
  unfold wp_X7_chooses
  refine m_tokensOf hP hG hM hf hr (fun F1 hF1 => ?_)
  have hM1 := hM.fr hF1 (by decide)
  have hMs1 := hMs.fr26 hF1 (by decide)
  have h1 := h F1 A (hF1.mo (by decide) (by decide)) hr hMs1
  rw [show (1 : Int32) = nI 1 from rfl, show (2 : Int32) = nI 2 from rfl, show (3 : Int32) = nI 3 from rfl, show (4 : Int32) = nI 4 from rfl]
  refine ⟨fun q => ?_, fun q => ?_⟩
  · rw [i0, eq_nI (by omega) (by omega)] at q
    have e : dmx t n v E d c last (dv z k) = 0 := if_pos q
    rw [e] at h1
    rw [q]; exact h1
  · rw [i0, eq_nI (by omega) (by omega)] at q
    have hp0 := pcn_pos _ (show tks t n v E (dg v c) < 128 by omega) q
    simp (disch := omega) only [eq_nI]
    refine ⟨fun c2 => ⟨fun c4 => ⟨fun c3 => ?_, fun c3 => ?_⟩, fun c4 => ?_⟩, fun c2 => ?_⟩
    · unfold dmx at h1
      rw [if_neg q] at h1
      rw [i0]
      by_cases c0 : d = 0
      · rw [if_pos c0] at h1
        refine m_chooses84 hP hM1 hd hT (by omega) hl ?_ h1
        subst c0
        exact pick_low n (by omega) (by omega) _ hT2 q
      · rw [if_neg c0] at h1
        have c1 : d = 1 := by omega
        rw [if_pos c1] at h1
        refine m_chooses84 hP hM1 hd hT (by omega) hl ?_ h1
        subst c1
        cases last with
        | none => exact pick_low n (by omega) (by omega) _ hT2 q
        | some l => exact pick_rng (by omega) (by omega) hT hT2 q (hl l rfl)
    · unfold dmx at h1
      rw [if_neg q, if_neg (by omega), if_neg (by omega), if_neg c2, if_pos c3] at h1
      unfold wp_X7_chooses_45
      rw [i0]
      refine Lp_of (fun s => ∃ j, j ≤ n ∧ s = (nI (cn j (mvc t n v E c)), nI j)) (fun s => n - ix s.2) ⟨0, by omega, rfl⟩ ?_
      rintro _ ⟨j, hj, rfl⟩
      dsimp only
      unfold st_X7_chooses_45
      rw [hM1.2.1]
      simp (disch := omega) only [le_nI]
      refine ⟨fun hge => ?_, fun hlt => ⟨⟨j + 1, by omega, ?_⟩, mu_lt (by omega) (by omega)⟩⟩
      · have : j = n := by omega
        subst this
        refine m_drawn hz hk ?_
        have ecn := tks_cn (E := E) (c := c) hP
        rw [← ecn, nI_l (by omega)]
        refine ⟨fun qz => ?_, ?_⟩
        · rw [show (0 : Int64) = lN 0 from rfl, pk_lEQ (by omega) (by omega)] at qz; omega
        · have hdv := dv_lt (z := z) (k := k)
          have hmod : dv z k % pcn (tks t j v E (dg v c)) < pcn (tks t j v E (dg v c)) := Nat.mod_lt _ hp0
          rw [pk_lRem (by omega) (by omega) (by omega), lN_i]
          refine m_chooses84 hP hM1 hd hT (by omega) hl ?_ h1
          subst c3
          exact pick_drw (by omega) (by omega) hT hT2 q (by omega) hmod
      · rw [bit_nI j (by omega) _ (by omega), tks_bit hP (by omega), nI_s]
        have hjn : j < n := by omega
        simp only [cn, hjn, decide_true, Bool.true_and]
        rw [nI_add]
    · refine m_cruel hP hG hM1 hMs1 hc hr (fun F2 A2 hF2 hr2 h23 hA2 => ?_)
      have h2 := h F2 A2 ((hF1.mo (by decide) (by decide)).tr hF2) hr2 (Or.inr ⟨h23, hA2⟩)
      unfold dmx at h2
      rw [if_neg q, if_neg (by omega), if_neg (by omega), if_neg c2, if_neg (by omega)] at h2
      obtain ⟨i, hi, hm⟩ := tks_some hP q
      obtain ⟨b, hb⟩ := crx_some (r := hbr t n v E c) hi hm
      have e : crc t n v E c n = some b := hb
      have b1 := (crx_lt hb).1
      rw [e] at h2 ⊢
      simp only [ox1]
      rw [show nI 1 <<< (nI b &&& 31) = nI (2 ^ b) from sh1 b (by omega)]
      exact h2
    · unfold dmx at h1
      rw [if_neg q, if_neg (by omega), if_neg (by omega), if_pos c2] at h1
      exact h1
end MOV
