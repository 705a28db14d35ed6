theorem gmx_ge {w : Nat → Option Nat} : ∀ {j c k : Nat}, c < j → w c = some k → ∃ m, gmx w j = some m ∧ k ≤ m
  | 0, c, k, h, _ => absurd h (Nat.not_lt_zero c)
  | j + 1, c, k, h, hw => by
    rw [gmx]
    by_cases e : c = j
    · subst e
      rw [hw]
      cases e2 : gmx w c with
      | none => exact ⟨k, rfl, Nat.le_refl k⟩
      | some m =>
        dsimp only
        by_cases q : m < k
        · exact ⟨k, by rw [if_pos q], Nat.le_refl k⟩
        · exact ⟨m, by rw [if_neg q], by omega⟩
    · obtain ⟨m, h1, h2⟩ := gmx_ge (j := j) (by omega) hw
      rw [h1]
      cases e2 : w j with
      | none => exact ⟨m, rfl, h2⟩
      | some x =>
        dsimp only
        by_cases q : m < x
        · exact ⟨x, by rw [if_pos q], by omega⟩
        · exact ⟨m, by rw [if_neg q], h2⟩
theorem gmx_new {w : Nat → Option Nat} {j x : Nat} (hw : w j = some x) (h : ∀ m, gmx w j = some m → m < x) : gmx w (j + 1) = some x ∧ lwx w (j + 1) = some j := by
  have h1 : gmx w (j + 1) = some x := by
    rw [gmx, hw]
    cases e : gmx w j with
    | none => rfl
    | some m => dsimp only; rw [if_pos (h m e)]
  refine ⟨h1, ?_⟩
  unfold lwx
  rw [h1]
  dsimp only
  have hlow : ∀ c, c < j → (w c == some x) = false := by
    intro c hc
    cases e : w c with
    | none => rfl
    | some k =>
      obtain ⟨m, h2, h3⟩ := gmx_ge hc e
      have := h m h2
      have : ¬ k = x := by omega
      simp [this]
  have hfd : fd (j + 1) (fun c => w c == some x) = j := fd_eq (j := j) (j + 1) (by omega) (by simp [hw]) hlow
  rw [hfd]
theorem gmx_old {w : Nat → Option Nat} {j : Nat} (h : ∀ x, w j = some x → ∃ m, gmx w j = some m ∧ x ≤ m) : gmx w (j + 1) = gmx w j ∧ lwx w (j + 1) = lwx w j := by
  have h1 : gmx w (j + 1) = gmx w j := by
    rw [gmx]
    cases e : w j with
    | none => rfl
    | some x =>
      obtain ⟨m, h2, h3⟩ := h x e
      rw [h2]
      dsimp only
      rw [if_neg (by omega)]
  refine ⟨h1, ?_⟩
  unfold lwx
  rw [h1]
  cases e : gmx w j with
  | none => rfl
  | some m =>
    dsimp only
    congr 1
    obtain ⟨c, hc, hwc⟩ := gmx_has e
    have hlt : fd j (fun c => w c == some m) < j := by
      apply Nat.lt_of_not_le
      intro q
      have := fd_none_of (p := fun c => w c == some m) (n := j) (by omega) c hc
      simp [hwc] at this
    rw [fd, if_pos hlt]
/-- what 'all' answers -/
noncomputable def allx (t n v : Nat) (E : Nat → Nat → Bool) (k : Nat) : Int32 :=
  if k = 0 then nI (cn (v ^ n) (fun c => lv (Hb t n v E) c == some 0)) else if k = 1 then nI (cn (v ^ n) (fun c => !isS (lv (Hb t n v E) c))) else if k = 2 then eo (-4) (gmx (lv (Hb t n v E)) (v ^ n)) else if k = 3 then eo (-4) (lwx (lv (Hb t n v E)) (v ^ n)) else if k = 4 then nI (mol t n v E (lv (Hb t n v E)) (v ^ n)) else if k = 5 then nI (smx (lv (Hb t n v E)) (v ^ n)) else eo (-4) (gmx (lv (Bb t n v E)) (v ^ n))
noncomputable def wtx (t n v : Nat) (E : Nat → Nat → Bool) (k what : Nat) : Int32 :=
  if cn (v ^ n) (wth (lv (Cb t n v E)) k) = 0 then -4 else if what = 1 then nI (cn (v ^ n) (wth (lv (Cb t n v E)) k)) else if evx (lv (Hb t n v E)) (wth (lv (Cb t n v E)) k) (v ^ n) then -5 else nI (gwx (lv (Hb t n v E)) (wth (lv (Cb t n v E)) k) (v ^ n))
section MQ
variable {F : Nat → Int32} {A : Nat → Nat → Int32} {t n v : Nat} {E : Nat → Nat → Bool}
theorem m_leaves {Post : Int32 → (Nat → Int32) → (Nat → Nat → Int32) → Prop} (hP : Par t n v) (hG : Gr t n v E) (hM : MOk F A t n v E) {c : Nat} (hc : c < v ^ n) {w : Nat → Option Nat} (hw : IsA (v ^ n) (-5) (A 20) w) (h : ∀ F' A', Fr [26] [24] F A F' A' → Post (nI (mox t n v E w c)) F' A') : wp_X7_leaves F A (nI c) Post := by
  obtain ⟨p1, p2, p3, p4, p5, p6, p7, p8, p9⟩ := id hP
  have hf : Rw n v (dg v c) := Rw_dg (by omega)
  unfold wp_X7_leaves
  refine m_rowOf hP hM hc (fun A1 hF1 hr => ?_)
  have hM1 := hM.fr hF1 (by decide)
  have hw1 : IsA (v ^ n) (-5) (A1 20) w := by rw [hF1.2 20 (by decide)]; exact hw
  unfold wp_X7_leaves_9
  refine Lp_of (fun z => ∃ j F', j ≤ n ∧ z = (nI (cn j (fun i => mvc t n v E c i && !(w (tg t n v E c i) == some 0))), nI j, F', A1) ∧ Fr [26] [] F A1 F' A1) (fun z => n - ix z.2.1) ⟨0, F, by omega, rfl, Fr.rf⟩ ?_
  rintro _ ⟨j, F', hj, rfl, hF⟩
  dsimp only
  have hM' := hM1.fr hF (by decide)
  unfold st_X7_leaves_9
  rw [hM'.2.1]
  simp (disch := omega) only [le_nI]
  refine ⟨fun hge => ?_, fun hlt => ?_⟩
  · have : j = n := by omega
    subst this
    exact h F' A1 ((hF1.mo (by decide) (by decide)).tr (hF.mo (by decide) (by decide)))
  · have hjn : j < n := by omega
    refine m_becomes hP hG hM' hf hr hjn (fun F2 hF2 => ?_)
    rw [bo_neg hP hG hf hjn]
    unfold wp_X7_leaves_60 wp_X7_leaves_61
    refine ⟨fun cm => ⟨⟨j + 1, F2, by omega, ?_, hF.tr hF2⟩, mu_lt hjn (by omega)⟩, fun cm => ?_⟩
    · have cm' : mvc t n v E c j = false := cm
      rw [nI_s, cn, if_neg (by simp [cm']), Int32.add_zero]; rfl
    · have cm' : mvc t n v E c j = true := by
        cases e : mvc t n v E c j with
        | true => rfl
        | false => exact absurd e cm
      have eb : bo t n v E (dg v c) j = nI (wt t n v E (dg v c) j) := if_pos cm'
      have htg := tg_lt hP hG (c := c) hjn
      have eto := m_to hP hM1 hc hr hjn
      rw [eb, eto, ix_nI (a := tg t n v E c j) (by omega), zero_iff hw1 m5_neg htg]
      refine ⟨in_nI (by omega) (by omega), in_nI (by omega) (by omega), in_nI (by omega) (by omega), fun ca => ⟨⟨j + 1, F2, by omega, ?_, hF.tr hF2⟩, mu_lt hjn (by omega)⟩, fun ca => ⟨⟨j + 1, F2, by omega, ?_, hF.tr hF2⟩, mu_lt hjn (by omega)⟩⟩
      · rw [nI_s, cn, if_neg (by simp [ca]), Int32.add_zero]; rfl
      · rw [nI_s, nI_s, cn, if_pos (by simp [cm', ca])]
theorem m_all41 {Post : Int32 → (Nat → Int32) → (Nat → Nat → Int32) → Prop} (hP : Par t n v) (hG : Gr t n v E) (hM : MOk F A t n v E) (hA : MsA A t n v E) {k : Nat} (hk : k ≤ 6) (h : ∀ F' A', Fr [26] [24] F A F' A' → Post (allx t n v E k) F' A') : wp_X7_all_41 F A (nI k) (0 : Int32) (0 : Int32) (-4 : Int32) (-4 : Int32) (0 : Int32) (0 : Int32) (-4 : Int32) (0 : Int32) Post := by
  obtain ⟨p1, p2, p3, p4, p5, p6, p7, p8, p9⟩ := id hP
  obtain ⟨hW, hB, hC⟩ := hA
  unfold allx at h
  generalize lv (Hb t n v E) = w at *
  generalize lv (Bb t n v E) = b at *
  have hgw : ∀ j, j ≤ v ^ n → ∀ m, gmx w j = some m → m ≤ 4096 := fun j hj m hm => gmx_le (fun c hc => (hW c (by omega)).2) hm
  have hgb : ∀ j, j ≤ v ^ n → ∀ m, gmx b j = some m → m ≤ 4096 := fun j hj m hm => gmx_le (fun c hc => (hB c (by omega)).2) hm
  unfold wp_X7_all_41
  refine Lp_of (fun z => ∃ j F' A', j ≤ v ^ n ∧ z = (nI (cn j (fun c => w c == some 0)), nI (cn j (fun c => !isS (w c))), eo (-4) (gmx w j), eo (-4) (lwx w j), nI (if k = 4 then mol t n v E w j else 0), nI (smx w j), eo (-4) (gmx b j), nI j, F', A') ∧ Fr [26] [24] F A F' A') (fun z => v ^ n - ix z.2.2.2.2.2.2.2.1) ⟨0, F, A, by omega, by rw [show mol t n v E w 0 = 0 from rfl, ite_self]; rfl, Fr.rf⟩ ?_
  rintro _ ⟨j, F', A', hj, rfl, hF⟩
  dsimp only
  have hM' := hM.fr hF (by decide)
  unfold st_X7_all_41
  rw [hM'.2.2.2.1]
  simp (disch := omega) only [le_nI]
  refine ⟨fun hge => ?_, fun hlt => ?_⟩
  · have hjS : j = v ^ n := by omega
    subst hjS
    have h := h F' A' hF
    simp (disch := omega) only [i0, i1, i2, i3, i4, i5, eq_nI]
    refine ⟨fun q => ?_, fun q0 => ⟨fun q => ?_, fun q1 => ⟨fun q => ?_, fun q2 => ⟨fun q => ?_, fun q3 => ⟨fun q => ?_, fun q4 => ⟨fun q => ?_, fun q5 => ?_⟩⟩⟩⟩⟩⟩
    · rw [if_pos q] at h; exact h
    · rw [if_neg q0, if_pos q] at h; exact h
    · rw [if_neg q0, if_neg q1, if_pos q] at h; exact h
    · rw [if_neg q0, if_neg q1, if_neg q2, if_pos q] at h; exact h
    · rw [if_neg q0, if_neg q1, if_neg q2, if_neg q3, if_pos q] at h
      rw [if_pos q]; exact h
    · rw [if_neg q0, if_neg q1, if_neg q2, if_neg q3, if_neg q4, if_pos q] at h; exact h
    · rw [if_neg q0, if_neg q1, if_neg q2, if_neg q3, if_neg q4, if_neg q5] at h; exact h
  · have hjS : j < v ^ n := by omega
    have hin : vp_in (nI j) 4096 := in_nI (by omega) (by omega)
    have hWj := hW j hjS
    have hBj := hB j hjS
    have e20 : A' 20 (ix (nI j)) = eo (-5) (w j) := by rw [ix_nI (by omega), hF.2 20 (by decide)]; exact hWj.1
    have e21 : A' 21 (ix (nI j)) = eo (-5) (b j) := by rw [ix_nI (by omega), hF.2 21 (by decide)]; exact hBj.1
    have zer : eo (-5) (w j) = 0 ↔ w j = some 0 := eo_zero hWj.2
    have nn : (0 ≤ eo (-5) (w j)) ↔ isS (w j) = true := by
      have := hW.neg m5_neg hjS
      rw [hWj.1] at this
      rw [this]
    have hge0 := hgw j hj
    -- the count of moves out
    have s181 : ∀ x2 x3 x4 x5 x7 x8 : Int32, x2 = nI (cn (j + 1) (fun c => w c == some 0)) → x3 = nI (cn (j + 1) (fun c => !isS (w c))) → x4 = eo (-4) (gmx w (j + 1)) → x5 = eo (-4) (lwx w (j + 1)) → x7 = nI (smx w (j + 1)) → x8 = eo (-4) (gmx b (j + 1)) → wp_X7_all_181 F' A' (nI k) x2 x3 x4 x5 (nI (if k = 4 then mol t n v E w j else 0)) x7 (nI j) x8 (fun t' => (∃ j F' A', j ≤ v ^ n ∧ t' = (nI (cn j (fun c => w c == some 0)), nI (cn j (fun c => !isS (w c))), eo (-4) (gmx w j), eo (-4) (lwx w j), nI (if k = 4 then mol t n v E w j else 0), nI (smx w j), eo (-4) (gmx b j), nI j, F', A') ∧ Fr [26] [24] F A F' A') ∧ v ^ n - ix t'.2.2.2.2.2.2.2.1 < v ^ n - ix (nI j)) Post := by
      rintro _ _ _ _ _ _ rfl rfl rfl rfl rfl rfl
      unfold wp_X7_all_181 wp_X7_all_209 wp_X7_all_210
      rw [e20, zer]
      refine ⟨hin, fun c => ⟨⟨j + 1, F', A', by omega, ?_, hF⟩, mu_lt hjS (by omega)⟩, fun c => ⟨fun c4 => ⟨⟨j + 1, F', A', by omega, ?_, hF⟩, mu_lt hjS (by omega)⟩, fun c4 => ?_⟩⟩
      · rw [mol, if_neg c, nI_s, Int32.add_zero]; rfl
      · have c4' : ¬ k = 4 := fun q => c4 (by rw [q]; rfl)
        rw [if_neg c4', if_neg c4', nI_s]; rfl
      · have c4' : k = 4 := by rw [i4, eq_nI (by omega) (by omega)] at c4; exact c4
        refine m_leaves hP hG hM' hjS (w := w) (by rw [hF.2 20 (by decide)]; exact hW) (fun F3 A3 hF3 => ⟨⟨j + 1, F3, A3, by omega, ?_, hF.tr hF3⟩, mu_lt hjS (by omega)⟩)
        rw [if_pos c4', if_pos c4', mol, if_pos c, nI_s, nI_add]
    have s147 : ∀ x2 x3 x4 x5 x7 : Int32, x2 = nI (cn (j + 1) (fun c => w c == some 0)) → x3 = nI (cn (j + 1) (fun c => !isS (w c))) → x4 = eo (-4) (gmx w (j + 1)) → x5 = eo (-4) (lwx w (j + 1)) → x7 = nI (smx w (j + 1)) → wp_X7_all_147 F' A' (nI k) x2 x3 x4 x5 (nI (if k = 4 then mol t n v E w j else 0)) x7 (eo (-4) (gmx b j)) (nI j) (fun t' => (∃ j F' A', j ≤ v ^ n ∧ t' = (nI (cn j (fun c => w c == some 0)), nI (cn j (fun c => !isS (w c))), eo (-4) (gmx w j), eo (-4) (lwx w j), nI (if k = 4 then mol t n v E w j else 0), nI (smx w j), eo (-4) (gmx b j), nI j, F', A') ∧ Fr [26] [24] F A F' A') ∧ v ^ n - ix t'.2.2.2.2.2.2.2.1 < v ^ n - ix (nI j)) Post := by
      intro x2 x3 x4 x5 x7 h2 h3 h4 h5 h7
      unfold wp_X7_all_147 wp_X7_all_179
      rw [e21]
      cases eb : b j with
      | none =>
        refine ⟨hin, fun _ => s181 _ _ _ _ _ _ h2 h3 h4 h5 h7 ?_, fun q => absurd (by decide) q⟩
        rw [(gmx_old (fun x hx => by rw [eb] at hx; cases hx)).1]
      | some x =>
        have hx := hBj.2 x eb
        refine ⟨hin, fun q => ?_, fun _ => ⟨hin, fun q => s181 _ _ _ _ _ _ h2 h3 h4 h5 h7 ?_, fun q => ⟨hin, s181 _ _ _ _ _ _ h2 h3 h4 h5 h7 ?_⟩⟩⟩
        · have q : nI x < 0 := q
          rw [i0, lt_nI (by omega) (by omega)] at q; omega
        · cases eg : gmx b j with
          | none => rw [eg] at q; exact absurd q (nle_neg m4_neg (by omega))
          | some m =>
            have hm := hgb j hj m eg
            rw [eg] at q
            have q : nI x ≤ nI m := q
            rw [le_nI (by omega) (by omega)] at q
            rw [(gmx_old (fun y hy => by rw [eb] at hy; cases hy; exact ⟨m, eg, q⟩)).1, eg]
        · rw [(gmx_new eb (fun m hm => ?_)).1]
          · rfl
          · have hm2 := hgb j hj m hm
            rw [hm] at q
            have q : ¬ nI x ≤ nI m := q
            rw [le_nI (by omega) (by omega)] at q
            omega
    have s109 : ∀ x2 x3 t1 : Int32, x2 = nI (cn (j + 1) (fun c => w c == some 0)) → x3 = nI (cn (j + 1) (fun c => !isS (w c))) → nI (smx w j) + t1 = nI (smx w (j + 1)) → wp_X7_all_109 F' A' (nI k) x2 x3 (eo (-4) (gmx w j)) (eo (-4) (lwx w j)) (nI (if k = 4 then mol t n v E w j else 0)) (eo (-4) (gmx b j)) (nI j) (nI (smx w j)) t1 (fun t' => (∃ j F' A', j ≤ v ^ n ∧ t' = (nI (cn j (fun c => w c == some 0)), nI (cn j (fun c => !isS (w c))), eo (-4) (gmx w j), eo (-4) (lwx w j), nI (if k = 4 then mol t n v E w j else 0), nI (smx w j), eo (-4) (gmx b j), nI j, F', A') ∧ Fr [26] [24] F A F' A') ∧ v ^ n - ix t'.2.2.2.2.2.2.2.1 < v ^ n - ix (nI j)) Post := by
      intro x2 x3 t1 h2 h3 h7
      unfold wp_X7_all_109
      rw [e20]
      cases ew : w j with
      | none =>
        have hold := gmx_old (w := w) (j := j) (fun x hx => by rw [ew] at hx; cases hx)
        exact ⟨hin, fun _ => s147 _ _ _ _ _ h2 h3 (by rw [hold.1]) (by rw [hold.2]) h7, fun q => absurd (by decide) q⟩
      | some x =>
        have hx := hWj.2 x ew
        refine ⟨hin, fun q => ?_, fun _ => ⟨hin, fun q => ?_, fun q => ⟨hin, ?_⟩⟩⟩
        · have q : nI x < 0 := q
          rw [i0, lt_nI (by omega) (by omega)] at q; omega
        · cases eg : gmx w j with
          | none => rw [eg] at q; exact absurd q (nle_neg m4_neg (by omega))
          | some m =>
            have hm := hgw j hj m eg
            rw [eg] at q
            have q : nI x ≤ nI m := q
            rw [le_nI (by omega) (by omega)] at q
            have hold := gmx_old (w := w) (j := j) (fun y hy => by rw [ew] at hy; cases hy; exact ⟨m, eg, q⟩)
            exact s147 _ _ _ _ _ h2 h3 (by rw [hold.1, eg]) (by rw [hold.2]) h7
        · have hnew := gmx_new ew (fun m hm => by
            have hm2 := hgw j hj m hm
            rw [hm] at q
            have q : ¬ nI x ≤ nI m := q
            rw [le_nI (by omega) (by omega)] at q
            omega)
          exact s147 _ _ _ _ _ h2 h3 (by rw [hnew.1]; rfl) (by rw [hnew.2]; rfl) h7
    have s84 : ∀ x2 t1 : Int32, x2 = nI (cn (j + 1) (fun c => w c == some 0)) → nI (cn j (fun c => !isS (w c))) + t1 = nI (cn (j + 1) (fun c => !isS (w c))) → wp_X7_all_84 F' A' (nI k) x2 (eo (-4) (gmx w j)) (eo (-4) (lwx w j)) (nI (if k = 4 then mol t n v E w j else 0)) (nI (smx w j)) (eo (-4) (gmx b j)) (nI j) (nI (cn j (fun c => !isS (w c)))) t1 (fun t' => (∃ j F' A', j ≤ v ^ n ∧ t' = (nI (cn j (fun c => w c == some 0)), nI (cn j (fun c => !isS (w c))), eo (-4) (gmx w j), eo (-4) (lwx w j), nI (if k = 4 then mol t n v E w j else 0), nI (smx w j), eo (-4) (gmx b j), nI j, F', A') ∧ Fr [26] [24] F A F' A') ∧ v ^ n - ix t'.2.2.2.2.2.2.2.1 < v ^ n - ix (nI j)) Post := by
      intro x2 t1 h2 h3
      unfold wp_X7_all_84
      rw [e20, nn]
      refine ⟨hin, fun q => ⟨hin, s109 _ _ _ h2 h3 ?_⟩, fun q => s109 _ _ _ h2 h3 ?_⟩
      · obtain ⟨x, hx⟩ := isS_iff.mp q
        rw [smx, hx]
        show nI (smx w j) + nI x = _
        rw [nI_add]; rfl
      · have : w j = none := isS_no.mp (by simpa using q)
        rw [smx, this, Int32.add_zero]; rfl
    have s66 : ∀ t1 : Int32, nI (cn j (fun c => w c == some 0)) + t1 = nI (cn (j + 1) (fun c => w c == some 0)) → wp_X7_all_66 F' A' (nI k) (nI (cn j (fun c => !isS (w c)))) (eo (-4) (gmx w j)) (eo (-4) (lwx w j)) (nI (if k = 4 then mol t n v E w j else 0)) (nI (smx w j)) (eo (-4) (gmx b j)) (nI j) (nI (cn j (fun c => w c == some 0))) t1 (fun t' => (∃ j F' A', j ≤ v ^ n ∧ t' = (nI (cn j (fun c => w c == some 0)), nI (cn j (fun c => !isS (w c))), eo (-4) (gmx w j), eo (-4) (lwx w j), nI (if k = 4 then mol t n v E w j else 0), nI (smx w j), eo (-4) (gmx b j), nI j, F', A') ∧ Fr [26] [24] F A F' A') ∧ v ^ n - ix t'.2.2.2.2.2.2.2.1 < v ^ n - ix (nI j)) Post := by
      intro t1 h2
      unfold wp_X7_all_66
      rw [e20, nn]
      refine ⟨hin, fun q => s84 _ _ h2 ?_, fun q => s84 _ _ h2 ?_⟩
      · rw [cn, if_neg (by simp [q]), Int32.add_zero]; rfl
      · have : w j = none := isS_no.mp (by simpa using q)
        rw [nI_s, cn, if_pos (by rw [this]; rfl)]
    rw [e20, zer]
    refine ⟨hin, fun q => s66 _ ?_, fun q => s66 _ ?_⟩
    · rw [cn, if_neg (by simp [q]), Int32.add_zero]; rfl
    · rw [nI_s, cn, if_pos (by simp [q])]
theorem m_within38 {Post : Int32 → (Nat → Int32) → (Nat → Nat → Int32) → Prop} (hP : Par t n v) (hM : MOk F A t n v E) (hA : MsA A t n v E) {k what : Nat} (hk : k ≤ n) (hw1 : what ≤ 1) (h : Post (wtx t n v E k what) F A) : wp_X7_within_38 F A (nI k) (nI what) (0 : Int32) (0 : Int32) (0 : Int32) (0 : Int32) Post := by
  obtain ⟨p1, p2, p3, p4, p5, p6, p7, p8, p9⟩ := id hP
  obtain ⟨hW, hB, hC⟩ := hA
  unfold wtx at h
  generalize hwt : wth (lv (Cb t n v E)) k = p at *
  generalize lv (Hb t n v E) = w at *
  have hgw : ∀ j, j ≤ v ^ n → gwx w p j ≤ 4096 := fun j hj => gwx_le (fun c hc => (hW c (by omega)).2)
  unfold wp_X7_within_38
  refine Lp_of (fun z => ∃ j, j ≤ v ^ n ∧ z = (nI (cn j p), nI (gwx w p j), nI (if evx w p j then 1 else 0), nI j)) (fun z => v ^ n - ix z.2.2.2) ⟨0, by omega, rfl⟩ ?_
  rintro _ ⟨j, hj, rfl⟩
  dsimp only
  have hcn := cn_le p j
  have hg := hgw j hj
  have hev0 : nI (if evx w p j then 1 else 0) = 0 ↔ evx w p j = false := by
    cases evx w p j <;> decide
  unfold st_X7_within_38
  rw [hM.2.2.2.1]
  simp (disch := omega) only [le_nI]
  refine ⟨fun hge => ?_, fun hlt => ?_⟩
  · have hjS : j = v ^ n := by omega
    subst hjS
    rw [hev0]
    simp (disch := omega) only [i0, i1, eq_nI]
    refine ⟨fun q => ?_, fun q => ?_⟩
    · rw [if_neg q] at h
      refine ⟨fun q1 => ?_, fun q1 => ?_⟩
      · rw [if_neg q1] at h
        refine ⟨fun q2 => ?_, fun q2 => ?_⟩
        · rw [q2] at h; exact h
        · have : evx w p (v ^ n) = true := by simpa using q2
          rw [this] at h; exact h
      · rw [if_pos q1] at h; exact h
    · rw [if_pos q] at h; exact h
  · have hjS : j < v ^ n := by omega
    have hin : vp_in (nI j) 4096 := in_nI (by omega) (by omega)
    have hWj := hW j hjS
    have hCj := hC j hjS
    have e20 : A 20 (ix (nI j)) = eo (-5) (w j) := by rw [ix_nI (by omega)]; exact hWj.1
    have e22 : A 22 (ix (nI j)) = eo (-4) (lv (Cb t n v E) j) := by rw [ix_nI (by omega)]; exact hCj.1
    have nn : (0 ≤ eo (-5) (w j)) ↔ isS (w j) = true := by
      have := hW.neg m5_neg hjS
      rw [hWj.1] at this
      rw [this]
    have skip : p j = false → (∃ j_1, j_1 ≤ v ^ n ∧ (nI (cn j p), nI (gwx w p j), nI (if evx w p j then 1 else 0), nI j + 1) = (nI (cn j_1 p), nI (gwx w p j_1), nI (if evx w p j_1 then 1 else 0), nI j_1)) ∧ v ^ n - ix (nI j + 1) < v ^ n - ix (nI j) := fun hp => by
      refine ⟨⟨j + 1, by omega, ?_⟩, mu_lt hjS (by omega)⟩
      have h1 : cn (j + 1) p = cn j p := by rw [cn, hp]; rfl
      have h2 : gwx w p (j + 1) = gwx w p j := by rw [gwx, hp]; rfl
      have h3 : evx w p (j + 1) = evx w p j := by unfold evx; rw [cn, hp]; rfl
      rw [h1, h2, h3, nI_s]
    rw [e22]
    cases ec : lv (Cb t n v E) j with
    | none =>
      refine ⟨hin, fun _ => skip ?_, fun q => absurd (by decide) q⟩
      rw [← hwt]; unfold wth; rw [ec]
    | some x =>
      have hx := hCj.2 x ec
      have hpj : p j = decide (x ≤ k) := by rw [← hwt]; unfold wth; rw [ec]
      refine ⟨hin, fun q => ?_, fun _ => ⟨hin, fun q => skip ?_, fun q => ?_⟩⟩
      · have q : nI x < 0 := q
        rw [i0, lt_nI (by omega) (by omega)] at q; omega
      · have q : nI k < nI x := q
        rw [lt_nI (by omega) (by omega)] at q
        rw [hpj]; simp; omega
      · have q : ¬ nI k < nI x := q
        rw [lt_nI (by omega) (by omega)] at q
        have hp : p j = true := by rw [hpj]; simp; omega
        have h1 : nI (cn j p) + 1 = nI (cn (j + 1) p) := by rw [nI_s, cn, hp]; rfl
        have s91 : ∀ t0 : Int32, t0 = nI (if evx w p (j + 1) then 1 else 0) → wp_X7_within_91 F A (nI k) (nI what) (nI (cn j p) + 1) (nI (gwx w p j)) (nI j) t0 (fun t' => (∃ j_1, j_1 ≤ v ^ n ∧ t' = (nI (cn j_1 p), nI (gwx w p j_1), nI (if evx w p j_1 then 1 else 0), nI j_1)) ∧ v ^ n - ix t'.2.2.2 < v ^ n - ix (nI j)) Post := by
          rintro _ rfl
          unfold wp_X7_within_91 wp_X7_within_117
          rw [e20, h1]
          cases ew : w j with
          | none =>
            refine ⟨hin, fun _ => ⟨⟨j + 1, by omega, ?_⟩, mu_lt hjS (by omega)⟩, fun q => ?_⟩
            · have h2 : gwx w p (j + 1) = gwx w p j := by rw [gwx, hp, ew]; rfl
              rw [h2, nI_s]
            · exfalso
              apply q
              have := lt_neg (x := -5) m5_neg (a := gwx w p j) (by omega)
              exact Int32.le_of_lt this
          | some y =>
            have hy := hWj.2 y ew
            refine ⟨hin, fun q => ⟨⟨j + 1, by omega, ?_⟩, mu_lt hjS (by omega)⟩, fun q => ⟨hin, ⟨j + 1, by omega, ?_⟩, mu_lt hjS (by omega)⟩⟩
            · have q : nI y ≤ nI (gwx w p j) := q
              rw [le_nI (by omega) (by omega)] at q
              have h2 : gwx w p (j + 1) = gwx w p j := by rw [gwx, hp, ew]; simp only [if_true]; rw [if_neg (by omega)]
              rw [h2, nI_s]
            · have q : ¬ nI y ≤ nI (gwx w p j) := q
              rw [le_nI (by omega) (by omega)] at q
              have h2 : gwx w p (j + 1) = y := by rw [gwx, hp, ew]; simp only [if_true]; rw [if_pos (by omega)]
              rw [h2, nI_s]; rfl
        unfold wp_X7_within_86
        rw [hev0, e20, nn]
        refine ⟨fun q => s91 1 ?_, fun q => ⟨hin, fun q2 => s91 0 ?_, fun q2 => s91 1 ?_⟩⟩
        · have hev : evx w p j = true := by simpa using q
          have : evx w p (j + 1) = true := by
            unfold evx at hev ⊢
            rw [decide_eq_true_eq] at hev ⊢
            rw [cn]; omega
          rw [this]; rfl
        · have : evx w p (j + 1) = false := by
            unfold evx at q ⊢
            rw [decide_eq_false_iff_not] at q ⊢
            rw [cn, hp, q2]
            simp only [Bool.not_true, Bool.and_false]
            simp only [Bool.false_eq_true, if_false]
            omega
          rw [this]; rfl
        · have hno : isS (w j) = false := by simpa using q2
          have : evx w p (j + 1) = true := by
            unfold evx
            rw [decide_eq_true_eq, cn, hp, hno]
            simp
          rw [this]; rfl
end MQ
