theorem hq_0 {q : Nat → Nat} {c i y : Nat} : hq q 0 0 0 c i y = false := by simp [hq, inQ]
theorem JQ_init {S : Nat} {lg : Nat → Bool} {R : Nat → Nat → Prop} {d : Nat → Option Nat} {q : Nat → Nat} {tail : Nat} (hd : ∀ c, c < S → d c = if lg c then some 0 else none) (h1 : tail = cn S lg) (h2 : ∀ a, a < tail → q a < S ∧ lg (q a) = true) (h3 : ∀ a b, a < tail → b < tail → q a = q b → a = b) (h4 : ∀ c, c < S → lg c = true → ∃ a, a < tail ∧ q a = c) (hl : ∀ c, c < S → lg c = true → lv R c = some 0) : JQ S lg R d q tail 0 := by
  have hz : ∀ c k, c < S → d c = some k → k = 0 ∧ lg c = true := fun c k hc h => by
    rw [hd c hc] at h
    split at h
    · cases h; exact ⟨rfl, by assumption⟩
    · cases h
  refine ⟨?_, fun a ha => ⟨(h2 a ha).1, by rw [hd _ (h2 a ha).1, if_pos (h2 a ha).2]; rfl⟩, h3, fun c hc hs => ?_, fun a b k l hab hb hk hl => ?_, fun b k l hb hh hk hl => ?_, fun c k hc h => ?_, fun c hc h => by rw [hd c hc, if_pos h]⟩
  · rw [h1]
    refine cn_congr S (fun c hc => ?_)
    rw [hd c hc]
    cases e : lg c <;> simp [isS]
  · obtain ⟨k, hk⟩ := isS_iff.mp hs
    exact h4 c hc (hz c k hc hk).2
  · have := (hz _ k (h2 a (by omega)).1 hk).1
    omega
  · have := (hz _ l (h2 b hb).1 hl).1
    omega
  · obtain ⟨rfl, h5⟩ := hz c k hc h
    exact ⟨hl c hc h5, Nat.zero_le _⟩
section SPR
variable {FN : Nat → Int32} {AN : Nat → Nat → Int32} {FS : Nat → Int32} {AS : Nat → Nat → Int32} {t n v : Nat} {E : Nat → Nat → Bool}
/-- the rows, ALL -/
def CA (n v : Nat) (A : Nat → Nat → Int32) (d : Nat → Option Nat) (q : Nat → Nat) (tail : Nat) (ml : Nat → Nat) : Prop :=
  IsA (v ^ n) (-5) (A 4) d ∧ (∀ a, a < tail → A 7 a = nI (q a)) ∧ ∀ o, o < v ^ n → A 3 o = nI (ml o) ∧ ml o ≤ 6
theorem x_spreadBy_4 {Post : Int32 → (Nat → Int32) → (Nat → Nat → Int32) → Prop} (hP : Par t n v) (hG : Gr t n v E) (hN : NOk FN AN t n v E) (hw : ∀ c, c < v ^ n → AS 2 c = nI (pkw t n v E c)) {d : Nat → Option Nat} {q : Nat → Nat} {ml : Nat → Nat} {tail head i0 : Nat} (hJ : JQ (v ^ n) (lgc t n v E) (Hb t n v E) d q tail head) (hK : KA t n v E d q ml head i0 0) (hC : CA n v AS d q tail ml) (hh : head < tail) (hi : i0 < n)
    (h : ∀ A' d' q' ml' tail', Fr [] [3, 4, 7] FS AS FS A' → JQ (v ^ n) (lgc t n v E) (Hb t n v E) d' q' tail' head → KA t n v E d' q' ml' head i0 v → CA n v A' d' q' tail' ml' → head < tail' → q' head = q head → Post (nI tail') FS A') : wp_X4_spreadBy_4 FN AN FS AS (nI 0) (nI (q head)) (nI i0) (nI tail) Post := by
  obtain ⟨p1, p2, p3, p4, p5, p6, p7, p8, p9⟩ := id hP
  obtain ⟨n0, n1, n2, n3, n4, n5⟩ := id hN
  have hcS := (hJ.2.1 head hh).1
  obtain ⟨k, hk⟩ := isS_iff.mp (hJ.2.1 head hh).2
  have hkb := (hJ.2.2.2.2.2.2.1 _ k hcS hk).2
  have htS := hJ.le
  have hdg : dg v (q head) i0 < v := dg_lt (by omega)
  unfold wp_X4_spreadBy_4
  rintro _ rfl
  rw [rAt_in (by omega) (by omega), (hC.1 _ hcS).1, hk]
  refine x_valueAt hP hN hcS hi ?_
  simp only [eo]
  rw [nI_s]
  unfold wp_X4_spreadBy_4_27
  refine Lp_of (fun z => ∃ x A' d' q' ml' tail', x ≤ v ∧ z = (nI tail', nI x, FS, A') ∧ Fr [] [3, 4, 7] FS AS FS A' ∧ JQ (v ^ n) (lgc t n v E) (Hb t n v E) d' q' tail' head ∧ KA t n v E d' q' ml' head i0 x ∧ CA n v A' d' q' tail' ml' ∧ head < tail' ∧ q' head = q head ∧ d' (q head) = some k) (fun z => v - ix z.2.1) ⟨0, AS, d, q, ml, tail, by omega, rfl, Fr.rf, hJ, hK, hC, hh, rfl, hk⟩ ?_
  rintro _ ⟨x, A', d', q', ml', tail', hx, rfl, hF, hJ', hK', hC', hh', hq', hk'⟩
  dsimp only
  have hw' : ∀ c, c < v ^ n → A' 2 c = nI (pkw t n v E c) := fun c hc => by rw [hF.2 2 (by decide)]; exact hw c hc
  unfold st_X4_spreadBy_4_27
  rw [n2]
  simp (disch := omega) only [le_nI]
  refine ⟨fun hge => ?_, fun hlt => ?_⟩
  · have : x = v := by omega
    subst this
    exact h A' d' q' ml' tail' hF hJ' hK' hC' hh' hq'
  · have hxv : x < v := by omega
    have hr : ∀ j, j < n → uN (dg v (q head)) i0 x j < v := uN_lt (fun j hj => dg_lt (by omega)) hxv
    have hoS : cd v n (uN (dg v (q head)) i0 x) < v ^ n := cd_lt n hr
    have hsk : (x = dg v (q' head) i0 ∨ isS (d' (cd v n (uN (dg v (q' head)) i0 x))) = true ∨ wt t n v E (dg v (cd v n (uN (dg v (q' head)) i0 x))) i0 ≠ dg v (q' head) i0) → KA t n v E d' q' ml' head i0 (x + 1) := fun hs => hK'.skip hP hG (by rw [hq']; exact hcS) hi hxv hs
    rw [hq'] at hsk
    generalize ho : cd v n (uN (dg v (q head)) i0 x) = o at *
    refine x_withValue hP hN hcS hi ?_
    rw [ho, eq_nI (by omega) (by omega)]
    refine ⟨fun c1 => ⟨⟨x + 1, A', d', q', ml', tail', by omega, by rw [nI_s], hF, hJ', hsk (Or.inl c1), hC', hh', hq', hk'⟩, mu_lt hxv (by omega)⟩, fun c1 => ?_⟩
    rintro _ rfl
    rw [rAt_in (by omega) (by omega), hC'.1.neg m5_neg hoS]
    refine ⟨fun c2 => ⟨⟨x + 1, A', d', q', ml', tail', by omega, by rw [nI_s], hF, hJ', hsk (Or.inr (Or.inl c2)), hC', hh', hq', hk'⟩, mu_lt hxv (by omega)⟩, fun c2 => ?_⟩
    have hnone : d' o = none := isS_no.mp (by simpa using c2)
    unfold wp_X4_reaches
    refine ⟨fun _ => ?_, fun q => absurd q (by decide)⟩
    refine x_wantedBy hP hG hw' hoS hi ?_
    have hwt := wt_lt hP hG (f := dg v o) (Rw_dg (by omega)) hi
    rw [eq_nI (by omega) (by omega)]
    refine ⟨fun c3 => ⟨fun _ => ?_, fun q => absurd q (by decide)⟩, fun c3 => ?_⟩
    · obtain ⟨hpos, hcn⟩ := hK'.strike hP hG (by rw [hq']; exact hcS) (hJ'.fresh hh') hi hxv (by rw [hq']; exact c1) (o := o) (by rw [hq', ho]) hnone (by rw [hq']; exact c3)
      have hml := hC'.2.2 o hoS
      rintro _ rfl _ rfl
      rw [rAt_in (by omega) (by omega), hml.1, rPut_in (by omega) (by omega)]
      have e1 : nI (ml' o) - (1 : Int32) = nI (ml' o - 1) := by rw [i1, sub_nI (by omega)]
      rw [e1]
      have hF3 : Fr [] [3, 4, 7] FS AS FS (uA A' 3 (upd (A' 3) o (nI (ml' o - 1)))) := hF.tr (Fr.uA (by decide))
      have hml3 : ∀ o', o' < v ^ n → upd (A' 3) o (nI (ml' o - 1)) o' = nI (uN ml' o (ml' o - 1) o') ∧ uN ml' o (ml' o - 1) o' ≤ 6 := fun o' ho' => by
        by_cases e : o' = o
        · subst e; rw [uN_same, upd_at, if_pos rfl]; exact ⟨rfl, by omega⟩
        · rw [uN_ne e, upd_at, if_neg e]; exact hC'.2.2 o' ho'
      have hed := (edge_iff hP hG hcS hi hxv c1).mp (by rw [ho]; exact c3)
      rw [ho] at hed
      refine ⟨fun c4 => ?_, fun c4 => ?_⟩
      · rw [show (0 : Int32) = nI 0 from rfl, eq_nI (by omega) (by omega)] at c4
        refine ⟨fun _ => ⟨⟨x + 1, _, d', q', uN ml' o (ml' o - 1), tail', by omega, by rw [nI_s], hF3, hJ', ?_, ?_, hh', hq', hk'⟩, mu_lt hxv (by omega)⟩, fun q => absurd rfl q⟩
        · exact hK'.told hP hG (by rw [hq']; exact hcS) hi hxv (by rw [hq', ho]) hcn.symm (fun _ _ => rfl) (fun _ => by omega)
        · exact ⟨by rw [uA_ne (by decide)]; exact hC'.1, fun a ha => by rw [uA_ne (by decide)]; exact hC'.2.1 a ha, fun o' ho' => by rw [uA_same]; exact hml3 o' ho'⟩
      · rw [show (0 : Int32) = nI 0 from rfl, eq_nI (by omega) (by omega)] at c4
        have hlv : lv (Hb t n v E) o = some (k + 1) := lvA hP hG hJ' hh' (x0 := x + 1) (by rw [hq']; exact hk') hi hoS hnone hed.1 (by rw [hq']; exact hed.2) (by rw [hcn]; exact c4)
        have hJn := hJ'.push hh' (by rw [hq']; exact hk') hoS hnone hlv
        have htn := hJn.le
        have hkb' := (hJ'.2.2.2.2.2.2.1 _ k hcS hk').2
        have hne : q head ≠ o := fun e => by rw [← e, hk'] at hnone; cases hnone
        refine ⟨fun q => absurd q (by decide), fun _ => ?_⟩
        rintro _ rfl _ rfl
        rw [uA_ne (by decide), uA_ne (by decide), rPut_in (by omega) (by omega), rPut_in (by omega) (by omega)]
        refine ⟨⟨x + 1, _, uO d' o (k + 1), uN q' tail' o, uN ml' o (ml' o - 1), tail' + 1, by omega, by rw [nI_s, nI_s], (hF3.tr (Fr.uA (by decide))).tr (Fr.uA (by decide)), hJn, ?_, ?_, by omega, by rw [uN_ne (by omega)]; exact hq', by rw [uO_ne hne]; exact hk'⟩, mu_lt hxv (by omega)⟩
        · exact (hK'.told hP hG (by rw [hq']; exact hcS) hi hxv (by rw [hq', ho]) hcn.symm (fun o' he => uO_ne he) (fun q => by rw [uO_same] at q; cases q)).push hh'
        · refine ⟨?_, fun a ha => ?_, fun o' ho' => ?_⟩
          · rw [uA_ne (by decide), uA_same]
            exact hC'.1.put (by omega)
          · rw [uA_same, upd_at]
            by_cases e : a = tail'
            · subst e; rw [if_pos rfl, uN_same]
            · rw [if_neg e, uN_ne e]; exact hC'.2.1 a (by omega)
          · rw [uA_ne (by decide), uA_ne (by decide), uA_same]; exact hml3 o' ho'
    · refine ⟨fun _ => ⟨⟨x + 1, A', d', q', ml', tail', by omega, by rw [nI_s], hF, hJ', hsk (Or.inr (Or.inr c3)), hC', hh', hq', hk'⟩, mu_lt hxv (by omega)⟩, fun q => absurd rfl q⟩
theorem x_spread_4 {Post : (Nat → Int32) → (Nat → Nat → Int32) → Prop} (hP : Par t n v) (hG : Gr t n v E) (hN : NOk FN AN t n v E) (hs : FS 1 = nI (v ^ n)) (hI : ∀ c, c < v ^ n → In0 AS t n v E c) (h : ∀ A', Fr [] [3, 4, 7] FS AS FS A' → IsA (v ^ n) (-5) (A' 4) (lv (Hb t n v E)) → Post FS A') : wp_X4_spread_4 FN AN FS AS (nI 0) Post := by
  obtain ⟨p1, p2, p3, p4, p5, p6, p7, p8, p9⟩ := id hP
  obtain ⟨n0, n1, n2, n3, n4, n5⟩ := id hN
  have hw : ∀ c, c < v ^ n → AS 2 c = nI (pkw t n v E c) := fun c hc => (hI c hc).1
  unfold wp_X4_spread_4 wp_X4_spread_4_6
  refine Lp_of (fun z => ∃ c A' q, c ≤ v ^ n ∧ z = (nI (cn c (lgc t n v E)), nI c, FS, A') ∧ Fr [] [7] FS AS FS A' ∧ (∀ a, a < cn c (lgc t n v E) → A' 7 a = nI (q a) ∧ q a < c ∧ lgc t n v E (q a) = true) ∧ (∀ a b, a < cn c (lgc t n v E) → b < cn c (lgc t n v E) → q a = q b → a = b) ∧ ∀ e, e < c → lgc t n v E e = true → ∃ a, a < cn c (lgc t n v E) ∧ q a = e) (fun z => v ^ n - ix z.2.1) ⟨0, AS, fun _ => 0, by omega, rfl, Fr.rf, fun a ha => absurd ha (Nat.not_lt_zero a), fun a b ha => absurd ha (Nat.not_lt_zero a), fun e he => absurd he (Nat.not_lt_zero e)⟩ ?_
  rintro _ ⟨c, A', q, hc, rfl, hF, hq1, hq2, hq3⟩
  dsimp only
  have hcn := cn_le (lgc t n v E) c
  unfold st_X4_spread_4_6
  rw [hs]
  simp (disch := omega) only [le_nI]
  refine ⟨fun hge => ?_, fun hlt => ?_⟩
  · have hcS : c = v ^ n := by omega
    subst hcS
    have hJ0 : JQ (v ^ n) (lgc t n v E) (Hb t n v E) (l0 t n v E) q (cn (v ^ n) (lgc t n v E)) 0 := JQ_init (fun c hc => rfl) rfl (fun a ha => (hq1 a ha).2) hq2 hq3 (fun c hc hl => (lv_legal hl).1)
    have hK0 : KA t n v E (l0 t n v E) q (fun o => cn n (mvc t n v E o)) 0 0 0 := fun o ho hn => by
      refine ⟨cn_congr n (fun i hi => ?_), fun h => h⟩
      rw [hq_0]; simp
    have hC0 : CA n v A' (l0 t n v E) q (cn (v ^ n) (lgc t n v E)) (fun o => cn n (mvc t n v E o)) := by
      refine ⟨fun c hc => ⟨by rw [hF.2 4 (by decide)]; exact (hI c hc).2.2.1, fun k hk => ?_⟩, fun a ha => (hq1 a ha).1, fun o ho => ⟨by rw [hF.2 3 (by decide)]; exact (hI o ho).2.1, ?_⟩⟩
      · unfold l0 at hk
        split at hk
        · cases hk; omega
        · cases hk
      · have := cn_le (mvc t n v E o) n
        show cn n (mvc t n v E o) ≤ 6
        omega
    unfold wp_X4_spread_4_47
    refine Lp_of (fun z => ∃ head A2 d2 q2 ml2 tail2, head ≤ tail2 ∧ z = (nI tail2, nI head, FS, A2) ∧ Fr [] [3, 4, 7] FS AS FS A2 ∧ JQ (v ^ n) (lgc t n v E) (Hb t n v E) d2 q2 tail2 head ∧ KA t n v E d2 q2 ml2 head 0 0 ∧ CA n v A2 d2 q2 tail2 ml2) (fun z => 5000 - ix z.2.1) ⟨0, A', _, q, _, _, by omega, rfl, hF.mo (by decide) (by decide), hJ0, hK0, hC0⟩ ?_
    rintro _ ⟨head, A2, d2, q2, ml2, tail2, hht, rfl, hF2, hJ2, hK2, hC2⟩
    dsimp only
    have htS := hJ2.le
    unfold st_X4_spread_4_47
    rw [le_nI (by omega) (by omega), show (4096 : Int32) = nI 4096 from rfl, le_nI (by omega) (by omega)]
    have fin : tail2 ≤ head → Post FS A2 := fun hle => h A2 hF2 (hC2.1.ofEq (endA hP hG hJ2 hle hK2))
    refine ⟨fun hle => fin hle, fun hnl => ⟨fun hge => absurd hge (by omega), fun _ => ?_⟩⟩
    have hhl : head < tail2 := by omega
    rintro _ rfl
    rw [rAt_in (by omega) (by omega), hC2.2.1 head hhl]
    unfold wp_X4_spread_4_76
    refine Lp_of (fun z => ∃ i A3 d3 q3 ml3 tail3, i ≤ n ∧ z = (nI tail3, nI i, FS, A3) ∧ Fr [] [3, 4, 7] FS AS FS A3 ∧ JQ (v ^ n) (lgc t n v E) (Hb t n v E) d3 q3 tail3 head ∧ KA t n v E d3 q3 ml3 head i 0 ∧ CA n v A3 d3 q3 tail3 ml3 ∧ head < tail3 ∧ q3 head = q2 head) (fun z => n - ix z.2.1) ⟨0, A2, d2, q2, ml2, tail2, by omega, rfl, hF2, hJ2, hK2, hC2, hhl, rfl⟩ ?_
    rintro _ ⟨i, A3, d3, q3, ml3, tail3, hi, rfl, hF3, hJ3, hK3, hC3, hh3, hq3'⟩
    dsimp only
    have ht3 := hJ3.le
    unfold st_X4_spread_4_76
    rw [n1]
    simp (disch := omega) only [le_nI]
    refine ⟨fun hge => ?_, fun hlt => ?_⟩
    · have : i = n := by omega
      subst this
      refine ⟨⟨head + 1, A3, d3, q3, ml3, tail3, by omega, by rw [nI_s], hF3, hJ3.next hh3, hK3.h, hC3⟩, mu_lt (by omega) (by omega)⟩
    · have hin : i < n := by omega
      have hw3 : ∀ c, c < v ^ n → A3 2 c = nI (pkw t n v E c) := fun c hc => by rw [hF3.2 2 (by decide)]; exact hw c hc
      rw [← hq3']
      refine x_spreadBy_4 hP hG hN hw3 hJ3 hK3 hC3 hh3 hin (fun A4 d4 q4 ml4 tail4 hF4 hJ4 hK4 hC4 hh4 hq4 => ?_)
      exact ⟨⟨i + 1, A4, d4, q4, ml4, tail4, by omega, by rw [nI_s], hF3.tr hF4, hJ4, hK4.i (by omega), hC4, hh4, by rw [hq4, hq3']⟩, mu_lt hin (by omega)⟩
  · have hcS : c < v ^ n := by omega
    have e4 : A' 4 = AS 4 := hF.2 4 (by decide)
    rintro _ rfl
    rw [rAt_in (by omega) (by omega), e4, (hI c hcS).2.2.1]
    refine ⟨fun c1 => ?_, fun c1 => ?_⟩
    · have hl : ¬ lgc t n v E c = true := fun q => by unfold l0 at c1; rw [if_pos q] at c1; exact c1 rfl
      have ecn : cn (c + 1) (lgc t n v E) = cn c (lgc t n v E) := by rw [cn, if_neg hl]; rfl
      refine ⟨⟨c + 1, A', q, by omega, by rw [nI_s, ecn], hF, ?_, ?_, ?_⟩, mu_lt hcS (by omega)⟩
      · rw [ecn]; exact fun a ha => ⟨(hq1 a ha).1, by have := (hq1 a ha).2.1; omega, (hq1 a ha).2.2⟩
      · rw [ecn]; exact hq2
      · rw [ecn]
        intro e he hle
        by_cases q2 : e = c
        · subst q2; exact absurd hle hl
        · exact hq3 e (by omega) hle
    · have hl : lgc t n v E c = true := by
        cases e : lgc t n v E c with
        | true => rfl
        | false => unfold l0 at c1; rw [e] at c1; exact absurd c1 (by decide)
      have ecn : cn (c + 1) (lgc t n v E) = cn c (lgc t n v E) + 1 := by rw [cn, if_pos hl]
      rintro _ rfl
      rw [rPut_in (by omega) (by omega)]
      refine ⟨⟨c + 1, _, uN q (cn c (lgc t n v E)) c, by omega, by rw [nI_s, nI_s, ecn], hF.tr (Fr.uA (by decide)), fun a ha => ?_, fun a b ha hb he => ?_, fun e he hle => ?_⟩, mu_lt hcS (by omega)⟩
      · rw [ecn] at ha
        rw [uA_same, upd_at]
        by_cases q2 : a = cn c (lgc t n v E)
        · subst q2; rw [if_pos rfl, uN_same]; exact ⟨rfl, by omega, hl⟩
        · rw [if_neg q2, uN_ne q2]
          have := hq1 a (by omega)
          exact ⟨this.1, by omega, this.2.2⟩
      · rw [ecn] at ha hb
        by_cases qa : a = cn c (lgc t n v E)
        · by_cases qb : b = cn c (lgc t n v E)
          · omega
          · rw [qa, uN_same, uN_ne qb] at he
            have := (hq1 b (by omega)).2.1; omega
        · by_cases qb : b = cn c (lgc t n v E)
          · rw [qb, uN_same, uN_ne qa] at he
            have := (hq1 a (by omega)).2.1; omega
          · rw [uN_ne qa, uN_ne qb] at he
            exact hq2 a b (by omega) (by omega) he
      · by_cases q2 : e = c
        · exact ⟨cn c (lgc t n v E), by rw [ecn]; omega, by rw [uN_same, q2]⟩
        · obtain ⟨a, h1, h2⟩ := hq3 e (by omega) hle
          exact ⟨a, by rw [ecn]; omega, by rw [uN_ne (by omega)]; exact h2⟩
end SPR
