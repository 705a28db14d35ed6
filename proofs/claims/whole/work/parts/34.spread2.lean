def ed1 (t n v : Nat) (E : Nat → Nat → Bool) (o i c : Nat) : Prop := mvc t n v E o i = true ∧ c = tg t n v E o i
def ed2 (n v : Nat) (o i c : Nat) : Prop := ∃ y, y < v ∧ y ≠ dg v o i ∧ c = cd v n (uN (dg v o) i y)
theorem ed1_one {t n v : Nat} {E : Nat → Nat → Bool} (hP : Par t n v) (hG : Gr t n v E) : Ed1 n v (ed1 t n v E) := by
  obtain ⟨p1, p2, p3, p4, p5, p6, p7, p8, p9⟩ := id hP
  rintro o i c ho hi ⟨hm, rfl⟩
  exact ⟨_, wt_lt hP hG (Rw_dg (by omega)) hi, by unfold mvc mv at hm; simpa using hm, rfl⟩
theorem ed2_one {n v : Nat} : Ed1 n v (ed2 n v) := fun o i c ho hi h => h
theorem ed1_es {t n v : Nat} {E : Nat → Nat → Bool} (hP : Par t n v) (hG : Gr t n v E) : Es n v (ed1 t n v E) (scB t n v E) := by
  rintro o p ho ⟨i, hi, hm, rfl⟩
  exact ⟨tg_lt hP hG hi, Or.inr ⟨i, hi, hm, rfl⟩⟩
theorem ed2_es {t n v : Nat} (hP : Par t n v) : Es n v (ed2 n v) (scC n v) := by
  obtain ⟨p1, p2, p3, p4, p5, p6, p7, p8, p9⟩ := id hP
  rintro o p ho ⟨i, w, hi, hw, rfl⟩
  refine ⟨cd_lt n (uN_lt (fun j hj => dg_lt (by omega)) hw), ?_⟩
  by_cases e : w = dg v o i
  · left
    rw [e]
    have : cd v n (uN (dg v o) i (dg v o i)) = cd v n (dg v o) := cd_congr n (fun j hj => by
      by_cases q : j = i
      · subst q; rw [uN_same]
      · rw [uN_ne q])
    rw [this, cd_dg ho]
  · exact Or.inr ⟨i, hi, w, hw, e, rfl⟩
/-- the rows, SOME -/
def CS (n v r : Nat) (dd : Int32) (A : Nat → Nat → Int32) (d : Nat → Option Nat) (q : Nat → Nat) (tail : Nat) : Prop :=
  IsA (v ^ n) dd (A r) d ∧ ∀ a, a < tail → A 7 a = nI (q a)
section SPR2
variable {FN : Nat → Int32} {AN : Nat → Nat → Int32} {FS : Nat → Int32} {AS : Nat → Nat → Int32} {t n v : Nat} {E : Nat → Nat → Bool}
theorem x_spreadBy_5 {Post : Int32 → (Nat → Int32) → (Nat → Nat → Int32) → Prop} (hP : Par t n v) (hG : Gr t n v E) (hN : NOk FN AN t n v E) (hw : ∀ c, c < v ^ n → AS 2 c = nI (pkw t n v E c)) {d : Nat → Option Nat} {q : Nat → Nat} {tail head i0 : Nat} (hJ : JQ (v ^ n) (lgc t n v E) (Bb t n v E) d q tail head) (hK : KS n v (ed1 t n v E) d q head i0 0) (hC : CS n v 5 (-5) AS d q tail) (hh : head < tail) (hi : i0 < n)
    (h : ∀ A' d' q' tail', Fr [] [5, 7] FS AS FS A' → JQ (v ^ n) (lgc t n v E) (Bb t n v E) d' q' tail' head → KS n v (ed1 t n v E) d' q' head i0 v → CS n v 5 (-5) A' d' q' tail' → head < tail' → q' head = q head → Post (nI tail') FS A') : wp_X4_spreadBy_5 FN AN FS AS (nI 1) (nI (q head)) (nI i0) (nI tail) Post := by
  obtain ⟨p1, p2, p3, p4, p5, p6, p7, p8, p9⟩ := id hP
  obtain ⟨n0, n1, n2, n3, n4, n5⟩ := id hN
  have hcS := (hJ.2.1 head hh).1
  obtain ⟨k, hk⟩ := isS_iff.mp (hJ.2.1 head hh).2
  have hkb := (hJ.2.2.2.2.2.2.1 _ k hcS hk).2
  have htS := hJ.le
  have hdg : dg v (q head) i0 < v := dg_lt (by omega)
  unfold wp_X4_spreadBy_5
  rintro _ rfl
  rw [rAt_in (by omega) (by omega), (hC.1 _ hcS).1, hk]
  refine x_valueAt hP hN hcS hi ?_
  simp only [eo]
  rw [nI_s]
  unfold wp_X4_spreadBy_5_27
  refine Lp_of (fun z => ∃ x A' d' q' tail', x ≤ v ∧ z = (nI tail', nI x, FS, A') ∧ Fr [] [5, 7] FS AS FS A' ∧ JQ (v ^ n) (lgc t n v E) (Bb t n v E) d' q' tail' head ∧ KS n v (ed1 t n v E) d' q' head i0 x ∧ CS n v 5 (-5) A' d' q' tail' ∧ head < tail' ∧ q' head = q head ∧ d' (q head) = some k) (fun z => v - ix z.2.1) ⟨0, AS, d, q, tail, by omega, rfl, Fr.rf, hJ, hK, hC, hh, rfl, hk⟩ ?_
  rintro _ ⟨x, A', d', q', tail', hx, rfl, hF, hJ', hK', hC', hh', hq', hk'⟩
  dsimp only
  have hw' : ∀ c, c < v ^ n → A' 2 c = nI (pkw t n v E c) := fun c hc => by rw [hF.2 2 (by decide)]; exact hw c hc
  unfold st_X4_spreadBy_5_27
  rw [n2]
  simp (disch := omega) only [le_nI]
  refine ⟨fun hge => ?_, fun hlt => ?_⟩
  · have : x = v := by omega
    subst this
    exact h A' d' q' tail' hF hJ' hK' hC' hh' hq'
  · have hxv : x < v := by omega
    have hr : ∀ j, j < n → uN (dg v (q head)) i0 x j < v := uN_lt (fun j hj => dg_lt (by omega)) hxv
    have hoS : cd v n (uN (dg v (q head)) i0 x) < v ^ n := cd_lt n hr
    have hsk : (x = dg v (q' head) i0 ∨ isS (d' (cd v n (uN (dg v (q' head)) i0 x))) = true ∨ ¬ ed1 t n v E (cd v n (uN (dg v (q' head)) i0 x)) i0 (q' head)) → KS n v (ed1 t n v E) d' q' head i0 (x + 1) := fun hs => hK'.skip (by omega) (ed1_one hP hG) (by rw [hq']; exact hcS) hi hs
    rw [hq'] at hsk
    have hdo : dg v (cd v n (uN (dg v (q head)) i0 x)) i0 = x := by rw [dg_cd n hr i0 hi, uN_same]
    have hback : cd v n (uN (dg v (cd v n (uN (dg v (q head)) i0 x))) i0 (dg v (q head) i0)) = q head := by
      have hx2 := cd_dg hcS
      conv => rhs; rw [← hx2]
      refine cd_congr n (fun j hj => ?_)
      by_cases e : j = i0
      · subst e; rw [uN_same]
      · rw [uN_ne e, dg_cd n hr j hj, uN_ne e]
    generalize ho : cd v n (uN (dg v (q head)) i0 x) = o at *
    refine x_withValue hP hN hcS hi ?_
    rw [ho, eq_nI (by omega) (by omega)]
    refine ⟨fun c1 => ⟨⟨x + 1, A', d', q', tail', by omega, by rw [nI_s], hF, hJ', hsk (Or.inl c1), hC', hh', hq', hk'⟩, mu_lt hxv (by omega)⟩, fun c1 => ?_⟩
    rintro _ rfl
    rw [rAt_in (by omega) (by omega), hC'.1.neg m5_neg hoS]
    refine ⟨fun c2 => ⟨⟨x + 1, A', d', q', tail', by omega, by rw [nI_s], hF, hJ', hsk (Or.inr (Or.inl c2)), hC', hh', hq', hk'⟩, mu_lt hxv (by omega)⟩, fun c2 => ?_⟩
    have hnone : d' o = none := isS_no.mp (by simpa using c2)
    have yes : ed1 t n v E o i0 (q head) → (∀ g_12 : Nat → Int32, g_12 = rPut 4096 (A' 5) (nI o) (nI (k + 1)) → ∀ g_14 : Nat → Int32, g_14 = rPut 4096 (A' 7) (nI tail') (nI o) → (∃ x2 A2 d2 q2 tail2, x2 ≤ v ∧ (nI tail' + 1, nI x + 1, FS, uA (uA A' 5 g_12) 7 g_14) = (nI tail2, nI x2, FS, A2) ∧ Fr [] [5, 7] FS AS FS A2 ∧ JQ (v ^ n) (lgc t n v E) (Bb t n v E) d2 q2 tail2 head ∧ KS n v (ed1 t n v E) d2 q2 head i0 x2 ∧ CS n v 5 (-5) A2 d2 q2 tail2 ∧ head < tail2 ∧ q2 head = q head ∧ d2 (q head) = some k) ∧ v - ix (nI x + 1) < v - ix (nI x)) := fun hed => by
      have hlv : lv (Bb t n v E) o = some (k + 1) := lvS (ed1_es hP hG) hJ' hh' hK' (by rw [hq']; exact hk') hoS hnone (by rw [hq']; exact ⟨i0, hi, hed.1, hed.2⟩)
      have hJn := hJ'.push hh' (by rw [hq']; exact hk') hoS hnone hlv
      have htn := hJn.le
      have hkb' := (hJ'.2.2.2.2.2.2.1 _ k hcS hk').2
      have hne : q head ≠ o := fun e => by rw [← e, hk'] at hnone; cases hnone
      rintro _ rfl _ rfl
      rw [rPut_in (by omega) (by omega), rPut_in (by omega) (by omega)]
      refine ⟨⟨x + 1, _, uO d' o (k + 1), uN q' tail' o, tail' + 1, by omega, by rw [nI_s, nI_s], (hF.tr (Fr.uA (by decide))).tr (Fr.uA (by decide)), hJn, ?_, ⟨?_, fun a ha => ?_⟩, by omega, by rw [uN_ne (by omega)]; exact hq', by rw [uO_ne hne]; exact hk'⟩, mu_lt hxv (by omega)⟩
      · exact (hK'.got (by omega) (ed1_one hP hG) (by rw [hq']; exact hcS) hi (by rw [hq', ho])).push hh'
      · rw [uA_ne (by decide), uA_same]
        exact hC'.1.put (by omega)
      · rw [uA_same, upd_at]
        by_cases e : a = tail'
        · subst e; rw [if_pos rfl, uN_same]
        · rw [if_neg e, uN_ne e]; exact hC'.2 a (by omega)
    unfold wp_X4_reaches
    refine ⟨fun _ => ?_, fun q => absurd q (by decide)⟩
    refine x_wantedBy hP hG hw' hoS hi ?_
    have hwt := wt_lt hP hG (f := dg v o) (Rw_dg (by omega)) hi
    rw [eq_nI (by omega) (by omega)]
    refine ⟨fun c3 => ⟨fun q => absurd rfl q, fun _ => ?_⟩, fun c3 => ?_⟩
    · have hed := (edge_iff hP hG hcS hi hxv c1).mp (by rw [ho]; exact c3)
      rw [ho] at hed
      have y := yes ⟨hed.1, hed.2.symm⟩
      exact ⟨fun q => absurd q (by decide), fun _ => y⟩
    · refine ⟨fun _ => ⟨⟨x + 1, A', d', q', tail', by omega, by rw [nI_s], hF, hJ', hsk (Or.inr (Or.inr (fun hed => c3 ?_))), hC', hh', hq', hk'⟩, mu_lt hxv (by omega)⟩, fun q => absurd rfl q⟩
      exact (wt_tg hP hG hi hed.2).symm
theorem x_spread_5 {Post : (Nat → Int32) → (Nat → Nat → Int32) → Prop} (hP : Par t n v) (hG : Gr t n v E) (hN : NOk FN AN t n v E) (hs : FS 1 = nI (v ^ n)) (hw : ∀ c, c < v ^ n → AS 2 c = nI (pkw t n v E c)) (hI : ∀ c, c < v ^ n → AS 5 c = eo (-5) (l0 t n v E c)) (h : ∀ A', Fr [] [5, 7] FS AS FS A' → IsA (v ^ n) (-5) (A' 5) (lv (Bb t n v E)) → Post FS A') : wp_X4_spread_5 FN AN FS AS (nI 1) Post := by
  obtain ⟨p1, p2, p3, p4, p5, p6, p7, p8, p9⟩ := id hP
  obtain ⟨n0, n1, n2, n3, n4, n5⟩ := id hN
  unfold wp_X4_spread_5 wp_X4_spread_5_6
  refine Lp_of (fun z => ∃ c A' q, c ≤ v ^ n ∧ z = (nI (cn c (lgc t n v E)), nI c, FS, A') ∧ Fr [] [7] FS AS FS A' ∧ (∀ a, a < cn c (lgc t n v E) → A' 7 a = nI (q a) ∧ q a < c ∧ lgc t n v E (q a) = true) ∧ (∀ a b, a < cn c (lgc t n v E) → b < cn c (lgc t n v E) → q a = q b → a = b) ∧ ∀ e, e < c → lgc t n v E e = true → ∃ a, a < cn c (lgc t n v E) ∧ q a = e) (fun z => v ^ n - ix z.2.1) ⟨0, AS, fun _ => 0, by omega, rfl, Fr.rf, fun a ha => absurd ha (Nat.not_lt_zero a), fun a b ha => absurd ha (Nat.not_lt_zero a), fun e he => absurd he (Nat.not_lt_zero e)⟩ ?_
  rintro _ ⟨c, A', q, hc, rfl, hF, hq1, hq2, hq3⟩
  dsimp only
  have hcn := cn_le (lgc t n v E) c
  unfold st_X4_spread_5_6
  rw [hs]
  simp (disch := omega) only [le_nI]
  refine ⟨fun hge => ?_, fun hlt => ?_⟩
  · have hcS : c = v ^ n := by omega
    subst hcS
    have hJ0 : JQ (v ^ n) (lgc t n v E) (Bb t n v E) (l0 t n v E) q (cn (v ^ n) (lgc t n v E)) 0 := JQ_init (fun c hc => rfl) rfl (fun a ha => (hq1 a ha).2) hq2 hq3 (fun c hc hl => (lv_legal hl).2.1)
    have hK0 : KS n v (ed1 t n v E) (l0 t n v E) q 0 0 0 := fun o ho hn i c hi he => hq_0
    have hC0 : CS n v 5 (-5) A' (l0 t n v E) q (cn (v ^ n) (lgc t n v E)) := by
      refine ⟨fun c hc => ⟨by rw [hF.2 5 (by decide)]; exact hI c hc, fun k hk => ?_⟩, fun a ha => (hq1 a ha).1⟩
      unfold l0 at hk
      split at hk
      · cases hk; omega
      · cases hk
    unfold wp_X4_spread_5_47
    refine Lp_of (fun z => ∃ head A2 d2 q2 tail2, head ≤ tail2 ∧ z = (nI tail2, nI head, FS, A2) ∧ Fr [] [5, 7] FS AS FS A2 ∧ JQ (v ^ n) (lgc t n v E) (Bb t n v E) d2 q2 tail2 head ∧ KS n v (ed1 t n v E) d2 q2 head 0 0 ∧ CS n v 5 (-5) A2 d2 q2 tail2) (fun z => 5000 - ix z.2.1) ⟨0, A', _, q, _, by omega, rfl, hF.mo (by decide) (by decide), hJ0, hK0, hC0⟩ ?_
    rintro _ ⟨head, A2, d2, q2, tail2, hht, rfl, hF2, hJ2, hK2, hC2⟩
    dsimp only
    have htS := hJ2.le
    unfold st_X4_spread_5_47
    rw [le_nI (by omega) (by omega), show (4096 : Int32) = nI 4096 from rfl, le_nI (by omega) (by omega)]
    have fin : tail2 ≤ head → Post FS A2 := fun hle => h A2 hF2 (hC2.1.ofEq (endS (ed1_es hP hG) hJ2 hle hK2))
    refine ⟨fun hle => fin hle, fun hnl => ⟨fun hge => absurd hge (by omega), fun _ => ?_⟩⟩
    have hhl : head < tail2 := by omega
    rintro _ rfl
    rw [rAt_in (by omega) (by omega), hC2.2 head hhl]
    unfold wp_X4_spread_5_76
    refine Lp_of (fun z => ∃ i A3 d3 q3 tail3, i ≤ n ∧ z = (nI tail3, nI i, FS, A3) ∧ Fr [] [5, 7] FS AS FS A3 ∧ JQ (v ^ n) (lgc t n v E) (Bb t n v E) d3 q3 tail3 head ∧ KS n v (ed1 t n v E) d3 q3 head i 0 ∧ CS n v 5 (-5) A3 d3 q3 tail3 ∧ head < tail3 ∧ q3 head = q2 head) (fun z => n - ix z.2.1) ⟨0, A2, d2, q2, tail2, by omega, rfl, hF2, hJ2, hK2, hC2, hhl, rfl⟩ ?_
    rintro _ ⟨i, A3, d3, q3, tail3, hi, rfl, hF3, hJ3, hK3, hC3, hh3, hq3'⟩
    dsimp only
    have ht3 := hJ3.le
    unfold st_X4_spread_5_76
    rw [n1]
    simp (disch := omega) only [le_nI]
    refine ⟨fun hge => ?_, fun hlt => ?_⟩
    · have : i = n := by omega
      subst this
      refine ⟨⟨head + 1, A3, d3, q3, tail3, by omega, by rw [nI_s], hF3, hJ3.next hh3, hK3.h, hC3⟩, mu_lt (by omega) (by omega)⟩
    · have hin : i < n := by omega
      have hw3 : ∀ c, c < v ^ n → A3 2 c = nI (pkw t n v E c) := fun c hc => by rw [hF3.2 2 (by decide)]; exact hw c hc
      rw [← hq3']
      refine x_spreadBy_5 hP hG hN hw3 hJ3 hK3 hC3 hh3 hin (fun A4 d4 q4 tail4 hF4 hJ4 hK4 hC4 hh4 hq4 => ?_)
      exact ⟨⟨i + 1, A4, d4, q4, tail4, by omega, by rw [nI_s], hF3.tr hF4, hJ4, hK4.i (by omega), hC4, hh4, by rw [hq4, hq3']⟩, mu_lt hin (by omega)⟩
  · have hcS : c < v ^ n := by omega
    have e4 : A' 5 = AS 5 := hF.2 5 (by decide)
    rintro _ rfl
    rw [rAt_in (by omega) (by omega), e4, hI c hcS]
    refine ⟨fun c1 => ?_, fun c1 => ?_⟩
    · have hl : ¬ lgc t n v E c = true := fun q => by unfold l0 at c1; rw [if_pos q] at c1; exact c1 rfl
      have ecn : cn (c + 1) (lgc t n v E) = cn c (lgc t n v E) := by rw [cn, if_neg hl]; rfl
      refine ⟨⟨c + 1, A', q, by omega, by rw [nI_s, ecn], hF, ?_, ?_, ?_⟩, mu_lt hcS (by omega)⟩
      · rw [ecn]; exact fun a ha => ⟨(hq1 a ha).1, by have := (hq1 a ha).2.1; omega, (hq1 a ha).2.2⟩
      · rw [ecn]; exact hq2
      · rw [ecn]
        intro e he hle
        by_cases q2 : e = c
        · subst q2; exact absurd hle hl
        · exact hq3 e (by omega) hle
    · have hl : lgc t n v E c = true := by
        cases e : lgc t n v E c with
        | true => rfl
        | false => unfold l0 at c1; rw [e] at c1; exact absurd c1 (by decide)
      have ecn : cn (c + 1) (lgc t n v E) = cn c (lgc t n v E) + 1 := by rw [cn, if_pos hl]
      rintro _ rfl
      rw [rPut_in (by omega) (by omega)]
      refine ⟨⟨c + 1, _, uN q (cn c (lgc t n v E)) c, by omega, by rw [nI_s, nI_s, ecn], hF.tr (Fr.uA (by decide)), fun a ha => ?_, fun a b ha hb he => ?_, fun e he hle => ?_⟩, mu_lt hcS (by omega)⟩
      · rw [ecn] at ha
        rw [uA_same, upd_at]
        by_cases q2 : a = cn c (lgc t n v E)
        · subst q2; rw [if_pos rfl, uN_same]; exact ⟨rfl, by omega, hl⟩
        · rw [if_neg q2, uN_ne q2]
          have := hq1 a (by omega)
          exact ⟨this.1, by omega, this.2.2⟩
      · rw [ecn] at ha hb
        by_cases qa : a = cn c (lgc t n v E)
        · by_cases qb : b = cn c (lgc t n v E)
          · omega
          · rw [qa, uN_same, uN_ne qb] at he
            have := (hq1 b (by omega)).2.1; omega
        · by_cases qb : b = cn c (lgc t n v E)
          · rw [qb, uN_same, uN_ne qa] at he
            have := (hq1 a (by omega)).2.1; omega
          · rw [uN_ne qa, uN_ne qb] at he
            exact hq2 a b (by omega) (by omega) he
      · by_cases q2 : e = c
        · exact ⟨cn c (lgc t n v E), by rw [ecn]; omega, by rw [uN_same, q2]⟩
        · obtain ⟨a, h1, h2⟩ := hq3 e (by omega) hle
          exact ⟨a, by rw [ecn]; omega, by rw [uN_ne (by omega)]; exact h2⟩
theorem x_spreadBy_6 {Post : Int32 → (Nat → Int32) → (Nat → Nat → Int32) → Prop} (hP : Par t n v) (hG : Gr t n v E) (hN : NOk FN AN t n v E) (hw : ∀ c, c < v ^ n → AS 2 c = nI (pkw t n v E c)) {d : Nat → Option Nat} {q : Nat → Nat} {tail head i0 : Nat} (hJ : JQ (v ^ n) (lgc t n v E) (Cb t n v E) d q tail head) (hK : KS n v (ed2 n v) d q head i0 0) (hC : CS n v 6 (-4) AS d q tail) (hh : head < tail) (hi : i0 < n)
    (h : ∀ A' d' q' tail', Fr [] [6, 7] FS AS FS A' → JQ (v ^ n) (lgc t n v E) (Cb t n v E) d' q' tail' head → KS n v (ed2 n v) d' q' head i0 v → CS n v 6 (-4) A' d' q' tail' → head < tail' → q' head = q head → Post (nI tail') FS A') : wp_X4_spreadBy_6 FN AN FS AS (nI 2) (nI (q head)) (nI i0) (nI tail) Post := by
  obtain ⟨p1, p2, p3, p4, p5, p6, p7, p8, p9⟩ := id hP
  obtain ⟨n0, n1, n2, n3, n4, n5⟩ := id hN
  have hcS := (hJ.2.1 head hh).1
  obtain ⟨k, hk⟩ := isS_iff.mp (hJ.2.1 head hh).2
  have hkb := (hJ.2.2.2.2.2.2.1 _ k hcS hk).2
  have htS := hJ.le
  have hdg : dg v (q head) i0 < v := dg_lt (by omega)
  unfold wp_X4_spreadBy_6
  rintro _ rfl
  rw [rAt_in (by omega) (by omega), (hC.1 _ hcS).1, hk]
  refine x_valueAt hP hN hcS hi ?_
  simp only [eo]
  rw [nI_s]
  unfold wp_X4_spreadBy_6_27
  refine Lp_of (fun z => ∃ x A' d' q' tail', x ≤ v ∧ z = (nI tail', nI x, FS, A') ∧ Fr [] [6, 7] FS AS FS A' ∧ JQ (v ^ n) (lgc t n v E) (Cb t n v E) d' q' tail' head ∧ KS n v (ed2 n v) d' q' head i0 x ∧ CS n v 6 (-4) A' d' q' tail' ∧ head < tail' ∧ q' head = q head ∧ d' (q head) = some k) (fun z => v - ix z.2.1) ⟨0, AS, d, q, tail, by omega, rfl, Fr.rf, hJ, hK, hC, hh, rfl, hk⟩ ?_
  rintro _ ⟨x, A', d', q', tail', hx, rfl, hF, hJ', hK', hC', hh', hq', hk'⟩
  dsimp only
  have hw' : ∀ c, c < v ^ n → A' 2 c = nI (pkw t n v E c) := fun c hc => by rw [hF.2 2 (by decide)]; exact hw c hc
  unfold st_X4_spreadBy_6_27
  rw [n2]
  simp (disch := omega) only [le_nI]
  refine ⟨fun hge => ?_, fun hlt => ?_⟩
  · have : x = v := by omega
    subst this
    exact h A' d' q' tail' hF hJ' hK' hC' hh' hq'
  · have hxv : x < v := by omega
    have hr : ∀ j, j < n → uN (dg v (q head)) i0 x j < v := uN_lt (fun j hj => dg_lt (by omega)) hxv
    have hoS : cd v n (uN (dg v (q head)) i0 x) < v ^ n := cd_lt n hr
    have hsk : (x = dg v (q' head) i0 ∨ isS (d' (cd v n (uN (dg v (q' head)) i0 x))) = true ∨ ¬ ed2 n v (cd v n (uN (dg v (q' head)) i0 x)) i0 (q' head)) → KS n v (ed2 n v) d' q' head i0 (x + 1) := fun hs => hK'.skip (by omega) (ed2_one) (by rw [hq']; exact hcS) hi hs
    rw [hq'] at hsk
    have hdo : dg v (cd v n (uN (dg v (q head)) i0 x)) i0 = x := by rw [dg_cd n hr i0 hi, uN_same]
    have hback : cd v n (uN (dg v (cd v n (uN (dg v (q head)) i0 x))) i0 (dg v (q head) i0)) = q head := by
      have hx2 := cd_dg hcS
      conv => rhs; rw [← hx2]
      refine cd_congr n (fun j hj => ?_)
      by_cases e : j = i0
      · subst e; rw [uN_same]
      · rw [uN_ne e, dg_cd n hr j hj, uN_ne e]
    generalize ho : cd v n (uN (dg v (q head)) i0 x) = o at *
    refine x_withValue hP hN hcS hi ?_
    rw [ho, eq_nI (by omega) (by omega)]
    refine ⟨fun c1 => ⟨⟨x + 1, A', d', q', tail', by omega, by rw [nI_s], hF, hJ', hsk (Or.inl c1), hC', hh', hq', hk'⟩, mu_lt hxv (by omega)⟩, fun c1 => ?_⟩
    rintro _ rfl
    rw [rAt_in (by omega) (by omega), hC'.1.neg m4_neg hoS]
    refine ⟨fun c2 => ⟨⟨x + 1, A', d', q', tail', by omega, by rw [nI_s], hF, hJ', hsk (Or.inr (Or.inl c2)), hC', hh', hq', hk'⟩, mu_lt hxv (by omega)⟩, fun c2 => ?_⟩
    have hnone : d' o = none := isS_no.mp (by simpa using c2)
    have yes : ed2 n v o i0 (q head) → (∀ g_12 : Nat → Int32, g_12 = rPut 4096 (A' 6) (nI o) (nI (k + 1)) → ∀ g_14 : Nat → Int32, g_14 = rPut 4096 (A' 7) (nI tail') (nI o) → (∃ x2 A2 d2 q2 tail2, x2 ≤ v ∧ (nI tail' + 1, nI x + 1, FS, uA (uA A' 6 g_12) 7 g_14) = (nI tail2, nI x2, FS, A2) ∧ Fr [] [6, 7] FS AS FS A2 ∧ JQ (v ^ n) (lgc t n v E) (Cb t n v E) d2 q2 tail2 head ∧ KS n v (ed2 n v) d2 q2 head i0 x2 ∧ CS n v 6 (-4) A2 d2 q2 tail2 ∧ head < tail2 ∧ q2 head = q head ∧ d2 (q head) = some k) ∧ v - ix (nI x + 1) < v - ix (nI x)) := fun hed => by
      have hlv : lv (Cb t n v E) o = some (k + 1) := lvS (ed2_es hP) hJ' hh' hK' (by rw [hq']; exact hk') hoS hnone (by rw [hq']; obtain ⟨y, hy, hyn, hc⟩ := hed; exact ⟨i0, y, hi, hy, hc⟩)
      have hJn := hJ'.push hh' (by rw [hq']; exact hk') hoS hnone hlv
      have htn := hJn.le
      have hkb' := (hJ'.2.2.2.2.2.2.1 _ k hcS hk').2
      have hne : q head ≠ o := fun e => by rw [← e, hk'] at hnone; cases hnone
      rintro _ rfl _ rfl
      rw [rPut_in (by omega) (by omega), rPut_in (by omega) (by omega)]
      refine ⟨⟨x + 1, _, uO d' o (k + 1), uN q' tail' o, tail' + 1, by omega, by rw [nI_s, nI_s], (hF.tr (Fr.uA (by decide))).tr (Fr.uA (by decide)), hJn, ?_, ⟨?_, fun a ha => ?_⟩, by omega, by rw [uN_ne (by omega)]; exact hq', by rw [uO_ne hne]; exact hk'⟩, mu_lt hxv (by omega)⟩
      · exact (hK'.got (by omega) (ed2_one) (by rw [hq']; exact hcS) hi (by rw [hq', ho])).push hh'
      · rw [uA_ne (by decide), uA_same]
        exact hC'.1.put (by omega)
      · rw [uA_same, upd_at]
        by_cases e : a = tail'
        · subst e; rw [if_pos rfl, uN_same]
        · rw [if_neg e, uN_ne e]; exact hC'.2 a (by omega)
    unfold wp_X4_reaches
    refine ⟨fun q => absurd rfl q, fun _ => ?_⟩
    have y := yes ⟨dg v (q head) i0, hdg, by rw [hdo]; exact Ne.symm c1, hback.symm⟩
    exact ⟨fun q => absurd q (by decide), fun _ => y⟩
theorem x_spread_6 {Post : (Nat → Int32) → (Nat → Nat → Int32) → Prop} (hP : Par t n v) (hG : Gr t n v E) (hN : NOk FN AN t n v E) (hs : FS 1 = nI (v ^ n)) (hw : ∀ c, c < v ^ n → AS 2 c = nI (pkw t n v E c)) (hI : ∀ c, c < v ^ n → AS 6 c = eo (-4) (l0 t n v E c)) (h : ∀ A', Fr [] [6, 7] FS AS FS A' → IsA (v ^ n) (-4) (A' 6) (lv (Cb t n v E)) → Post FS A') : wp_X4_spread_6 FN AN FS AS (nI 2) Post := by
  obtain ⟨p1, p2, p3, p4, p5, p6, p7, p8, p9⟩ := id hP
  obtain ⟨n0, n1, n2, n3, n4, n5⟩ := id hN
  unfold wp_X4_spread_6 wp_X4_spread_6_6
  refine Lp_of (fun z => ∃ c A' q, c ≤ v ^ n ∧ z = (nI (cn c (lgc t n v E)), nI c, FS, A') ∧ Fr [] [7] FS AS FS A' ∧ (∀ a, a < cn c (lgc t n v E) → A' 7 a = nI (q a) ∧ q a < c ∧ lgc t n v E (q a) = true) ∧ (∀ a b, a < cn c (lgc t n v E) → b < cn c (lgc t n v E) → q a = q b → a = b) ∧ ∀ e, e < c → lgc t n v E e = true → ∃ a, a < cn c (lgc t n v E) ∧ q a = e) (fun z => v ^ n - ix z.2.1) ⟨0, AS, fun _ => 0, by omega, rfl, Fr.rf, fun a ha => absurd ha (Nat.not_lt_zero a), fun a b ha => absurd ha (Nat.not_lt_zero a), fun e he => absurd he (Nat.not_lt_zero e)⟩ ?_
  rintro _ ⟨c, A', q, hc, rfl, hF, hq1, hq2, hq3⟩
  dsimp only
  have hcn := cn_le (lgc t n v E) c
  unfold st_X4_spread_6_6
  rw [hs]
  simp (disch := omega) only [le_nI]
  refine ⟨fun hge => ?_, fun hlt => ?_⟩
  · have hcS : c = v ^ n := by omega
    subst hcS
    have hJ0 : JQ (v ^ n) (lgc t n v E) (Cb t n v E) (l0 t n v E) q (cn (v ^ n) (lgc t n v E)) 0 := JQ_init (fun c hc => rfl) rfl (fun a ha => (hq1 a ha).2) hq2 hq3 (fun c hc hl => (lv_legal hl).2.2)
    have hK0 : KS n v (ed2 n v) (l0 t n v E) q 0 0 0 := fun o ho hn i c hi he => hq_0
    have hC0 : CS n v 6 (-4) A' (l0 t n v E) q (cn (v ^ n) (lgc t n v E)) := by
      refine ⟨fun c hc => ⟨by rw [hF.2 6 (by decide)]; exact hI c hc, fun k hk => ?_⟩, fun a ha => (hq1 a ha).1⟩
      unfold l0 at hk
      split at hk
      · cases hk; omega
      · cases hk
    unfold wp_X4_spread_6_47
    refine Lp_of (fun z => ∃ head A2 d2 q2 tail2, head ≤ tail2 ∧ z = (nI tail2, nI head, FS, A2) ∧ Fr [] [6, 7] FS AS FS A2 ∧ JQ (v ^ n) (lgc t n v E) (Cb t n v E) d2 q2 tail2 head ∧ KS n v (ed2 n v) d2 q2 head 0 0 ∧ CS n v 6 (-4) A2 d2 q2 tail2) (fun z => 5000 - ix z.2.1) ⟨0, A', _, q, _, by omega, rfl, hF.mo (by decide) (by decide), hJ0, hK0, hC0⟩ ?_
    rintro _ ⟨head, A2, d2, q2, tail2, hht, rfl, hF2, hJ2, hK2, hC2⟩
    dsimp only
    have htS := hJ2.le
    unfold st_X4_spread_6_47
    rw [le_nI (by omega) (by omega), show (4096 : Int32) = nI 4096 from rfl, le_nI (by omega) (by omega)]
    have fin : tail2 ≤ head → Post FS A2 := fun hle => h A2 hF2 (hC2.1.ofEq (endS (ed2_es hP) hJ2 hle hK2))
    refine ⟨fun hle => fin hle, fun hnl => ⟨fun hge => absurd hge (by omega), fun _ => ?_⟩⟩
    have hhl : head < tail2 := by omega
    rintro _ rfl
    rw [rAt_in (by omega) (by omega), hC2.2 head hhl]
    unfold wp_X4_spread_6_76
    refine Lp_of (fun z => ∃ i A3 d3 q3 tail3, i ≤ n ∧ z = (nI tail3, nI i, FS, A3) ∧ Fr [] [6, 7] FS AS FS A3 ∧ JQ (v ^ n) (lgc t n v E) (Cb t n v E) d3 q3 tail3 head ∧ KS n v (ed2 n v) d3 q3 head i 0 ∧ CS n v 6 (-4) A3 d3 q3 tail3 ∧ head < tail3 ∧ q3 head = q2 head) (fun z => n - ix z.2.1) ⟨0, A2, d2, q2, tail2, by omega, rfl, hF2, hJ2, hK2, hC2, hhl, rfl⟩ ?_
    rintro _ ⟨i, A3, d3, q3, tail3, hi, rfl, hF3, hJ3, hK3, hC3, hh3, hq3'⟩
    dsimp only
    have ht3 := hJ3.le
    unfold st_X4_spread_6_76
    rw [n1]
    simp (disch := omega) only [le_nI]
    refine ⟨fun hge => ?_, fun hlt => ?_⟩
    · have : i = n := by omega
      subst this
      refine ⟨⟨head + 1, A3, d3, q3, tail3, by omega, by rw [nI_s], hF3, hJ3.next hh3, hK3.h, hC3⟩, mu_lt (by omega) (by omega)⟩
    · have hin : i < n := by omega
      have hw3 : ∀ c, c < v ^ n → A3 2 c = nI (pkw t n v E c) := fun c hc => by rw [hF3.2 2 (by decide)]; exact hw c hc
      rw [← hq3']
      refine x_spreadBy_6 hP hG hN hw3 hJ3 hK3 hC3 hh3 hin (fun A4 d4 q4 tail4 hF4 hJ4 hK4 hC4 hh4 hq4 => ?_)
      exact ⟨⟨i + 1, A4, d4, q4, tail4, by omega, by rw [nI_s], hF3.tr hF4, hJ4, hK4.i (by omega), hC4, hh4, by rw [hq4, hq3']⟩, mu_lt hin (by omega)⟩
  · have hcS : c < v ^ n := by omega
    have e4 : A' 6 = AS 6 := hF.2 6 (by decide)
    rintro _ rfl
    rw [rAt_in (by omega) (by omega), e4, hI c hcS]
    refine ⟨fun c1 => ?_, fun c1 => ?_⟩
    · have hl : ¬ lgc t n v E c = true := fun q => by unfold l0 at c1; rw [if_pos q] at c1; exact c1 rfl
      have ecn : cn (c + 1) (lgc t n v E) = cn c (lgc t n v E) := by rw [cn, if_neg hl]; rfl
      refine ⟨⟨c + 1, A', q, by omega, by rw [nI_s, ecn], hF, ?_, ?_, ?_⟩, mu_lt hcS (by omega)⟩
      · rw [ecn]; exact fun a ha => ⟨(hq1 a ha).1, by have := (hq1 a ha).2.1; omega, (hq1 a ha).2.2⟩
      · rw [ecn]; exact hq2
      · rw [ecn]
        intro e he hle
        by_cases q2 : e = c
        · subst q2; exact absurd hle hl
        · exact hq3 e (by omega) hle
    · have hl : lgc t n v E c = true := by
        cases e : lgc t n v E c with
        | true => rfl
        | false => unfold l0 at c1; rw [e] at c1; exact absurd c1 (by decide)
      have ecn : cn (c + 1) (lgc t n v E) = cn c (lgc t n v E) + 1 := by rw [cn, if_pos hl]
      rintro _ rfl
      rw [rPut_in (by omega) (by omega)]
      refine ⟨⟨c + 1, _, uN q (cn c (lgc t n v E)) c, by omega, by rw [nI_s, nI_s, ecn], hF.tr (Fr.uA (by decide)), fun a ha => ?_, fun a b ha hb he => ?_, fun e he hle => ?_⟩, mu_lt hcS (by omega)⟩
      · rw [ecn] at ha
        rw [uA_same, upd_at]
        by_cases q2 : a = cn c (lgc t n v E)
        · subst q2; rw [if_pos rfl, uN_same]; exact ⟨rfl, by omega, hl⟩
        · rw [if_neg q2, uN_ne q2]
          have := hq1 a (by omega)
          exact ⟨this.1, by omega, this.2.2⟩
      · rw [ecn] at ha hb
        by_cases qa : a = cn c (lgc t n v E)
        · by_cases qb : b = cn c (lgc t n v E)
          · omega
          · rw [qa, uN_same, uN_ne qb] at he
            have := (hq1 b (by omega)).2.1; omega
        · by_cases qb : b = cn c (lgc t n v E)
          · rw [qb, uN_same, uN_ne qa] at he
            have := (hq1 a (by omega)).2.1; omega
          · rw [uN_ne qa, uN_ne qb] at he
            exact hq2 a b (by omega) (by omega) he
      · by_cases q2 : e = c
        · exact ⟨cn c (lgc t n v E), by rw [ecn]; omega, by rw [uN_same, q2]⟩
        · obtain ⟨a, h1, h2⟩ := hq3 e (by omega) hle
          exact ⟨a, by rw [ecn]; omega, by rw [uN_ne (by omega)]; exact h2⟩
end SPR2
