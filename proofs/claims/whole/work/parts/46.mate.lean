section MATE
variable {FX FT : Nat → Int32} {AT : Nat → Nat → Int32} {FD : Nat → Int32} {AD : Nat → Nat → Int32} {FN : Nat → Int32} {AN : Nat → Nat → Int32} {FS : Nat → Int32} {AS : Nat → Nat → Int32} {FP : Nat → Int32} {AP : Nat → Nat → Int32} {F : Nat → Int32} {A : Nat → Nat → Int32} {t n v : Nat} {E : Nat → Nat → Bool} {c : Nat} {last : Option Nat} {k : Nat} {pc : Nat → Nat} {pl : Nat → Option Nat}
def see (t n : Nat) (E : Nat → Nat → Bool) (a b : Nat) : Bool := if t = 1 then decide ((if a = 0 then n - 1 else a - 1) = b) else E a b
theorem x_sees {Post : Int32 → Prop} (hP : Par t n v) (hG : Gr t n v E) (hN : NOk FN AN t n v E) {a b : Nat} (ha : a < n) (hb : b < n) (h : Post (nI (if see t n E a b then 1 else 0))) : wp_X1_sees FN AN (nI a) (nI b) Post := by
  obtain ⟨p1, p2, p3, p4, p5, p6, p7, p8, p9⟩ := id hP
  unfold wp_X1_sees
  unfold see at h
  rw [hN.1, show (nI t = (1 : Int32)) = (t = 1) from eq_nI (b := 1) (by omega) (by omega)]
  refine ⟨fun q => ?_, fun q => ?_⟩
  · rw [if_neg q] at h
    refine x_isLinked hP hG hN ha (by omega) (bool_ok ?_ h)
    split
    · exact Or.inr rfl
    · exact Or.inl rfl
  · rw [if_pos q] at h
    refine x_aheadOf hP hN ha ?_
    rw [eq_nI (by split <;> omega) (by omega)]
    refine ⟨fun q2 => ?_, fun q2 => ?_⟩
    · rw [decide_eq_false q2] at h; exact h
    · rw [decide_eq_true q2] at h; exact h
theorem succ_mod {n a : Nat} (ha : a < n) : (a + 1) % n = if a + 1 = n then 0 else a + 1 := by
  by_cases h : a + 1 = n
  · rw [if_pos h, h, Nat.mod_self]
  · rw [if_neg h, Nat.mod_eq_of_lt (by omega)]
theorem e_wired (x1 x2 : Int32) (h : Rel FX FT AT FN AN FS AS FP AP F A) : wp_X6_wired FX FT AT FD AD FN AN FS AS FP AP x1 x2 (fun r => wp_X7_wired F A x1 x2 (fun r' => r = r')) := by
  obtain ⟨⟨t, n, v, E, c, last, k, pc, pl, ⟨hP, hG, hN, hM, hw⟩, ⟨hc, h5, h9⟩, ⟨hl, hx6, h10⟩, ⟨hPa, hMp, hpc, hpl⟩, hS, hMs⟩, hT⟩ := h
  obtain ⟨p1, p2, p3, p4, p5, p6, p7, p8, p9⟩ := id hP
  unfold wp_X6_wired
  refine x_hasMachine hP hN (fun q => ⟨fun _ => by unfold wp_X7_wired; exact m_mach_out hP hM q ⟨fun _ => rfl, fun q => absurd rfl q⟩, fun q => absurd rfl q⟩) (fun a ha e => ⟨fun q => absurd q (by decide), fun _ => ?_⟩)
  subst e
  refine x_hasMachine hP hN (fun q => ⟨fun _ => by unfold wp_X7_wired; exact m_mach_in hP hM ha ⟨fun q => absurd q (by decide), fun _ => m_mach_out hP hM q ⟨fun _ => rfl, fun q => absurd rfl q⟩⟩, fun q => absurd rfl q⟩) (fun b hb e => ⟨fun q => absurd q (by decide), fun _ => ?_⟩)
  subst e
  refine ⟨fun q => ?_, fun q => by unfold wp_X7_wired; exact m_mach_in hP hM ha ⟨fun q => absurd q (by decide), fun _ => m_mach_in hP hM hb ⟨fun q => absurd q (by decide), fun _ => ⟨fun q2 => absurd q q2, fun _ => rfl⟩⟩⟩⟩
  have hab : a ≠ b := fun e => q (by rw [e])
  have ref : ∀ r : Int32, r = nI (if (see t n E a b || see t n E b a) then 1 else 0) → wp_X7_wired F A (nI a) (nI b) (fun r' => r = r') := fun r hr => by
    unfold wp_X7_wired
    refine m_mach_in hP hM ha ⟨fun q => absurd q (by decide), fun _ => m_mach_in hP hM hb ⟨fun q => absurd q (by decide), fun _ => ⟨fun _ => ?_, fun q2 => absurd q2 q⟩⟩⟩
    have hn0 : ¬ F 3 = 0 := by rw [hM.2.1, i0, eq_nI (by omega) (by omega)]; omega
    have ema : (a + 1) % n < n := Nat.mod_lt _ (by omega)
    have emb : (b + 1) % n < n := Nat.mod_lt _ (by omega)
    rw [show (F 2 = (1 : Int32)) = (t = 1) by rw [hM.1]; exact eq_nI (b := 1) (by omega) (by omega)]
    refine ⟨fun ht => ?_, fun ht => ⟨hn0, ?_⟩⟩
    · rw [i6, pk_mul, nI_add, ix_nI (by omega), hM.2.2.2.2.1 a b ha hb]
      refine ⟨in_nI (by omega) (by omega), ?_⟩
      rw [hr]
      unfold see
      rw [if_neg ht, if_neg ht]
      by_cases e1 : E a b = true
      · rw [e1]; rfl
      · by_cases e2 : E b a = true
        · exact absurd (hG.1 b a e2).2.2.2 e1
        · rw [if_neg e1, if_neg (by simp [e1, e2])]
    · rw [hM.2.1, nI_s, nI_s, rem_nI (by omega) (by omega) (by omega), rem_nI (by omega) (by omega) (by omega), eq_nI (by omega) (by omega), eq_nI (by omega) (by omega), ← hM.2.1]
      have sa := succ_mod ha
      have sb := succ_mod hb
      have s1 : see t n E a b = decide ((b + 1) % n = a) := by
        unfold see; rw [if_pos ht]
        apply decide_eq_decide.mpr
        rw [sb]; split <;> split <;> omega
      have s2 : see t n E b a = decide ((a + 1) % n = b) := by
        unfold see; rw [if_pos ht]
        apply decide_eq_decide.mpr
        rw [sa]; split <;> split <;> omega
      rw [s1, s2] at hr
      refine ⟨fun q1 => ?_, fun q1 => ⟨hn0, fun q2 => ?_, fun q2 => ?_⟩⟩
      · rw [hr, decide_eq_true q1, Bool.or_true]; rfl
      · rw [hr, decide_eq_false q1, decide_eq_false q2]; rfl
      · rw [hr, decide_eq_true q2, Bool.true_or]; rfl
  refine x_sees hP hG hN ha hb ⟨fun q2 => ref _ ?_, fun q2 => x_sees hP hG hN hb ha ⟨fun q3 => ref _ ?_, fun q3 => ref _ ?_⟩⟩
  · cases e : see t n E a b with
    | true => rfl
    | false => rw [e] at q2; exact absurd rfl q2
  · cases e : see t n E a b with
    | true => rw [e] at q2; exact absurd q2 (by decide)
    | false => cases e2 : see t n E b a with
      | true => rw [e2] at q3; exact absurd q3 (by decide)
      | false => rfl
  · cases e2 : see t n E b a with
    | true => rw [Bool.or_true]; rfl
    | false => rw [e2] at q3; exact absurd rfl q3
theorem e_mate (x1 : Int32) (h : Rel FX FT AT FN AN FS AS FP AP F A) : wp_X6_mate FX FT AT FD AD FN AN FS AS FP AP x1 (fun r => wp_X7_mate F A x1 (fun r' F' A' => r = r' ∧ Rel FX FT AT FN AN FS AS FP AP F' A')) := by
  have h0 := h
  obtain ⟨⟨t, n, v, E, c, last, k, pc, pl, hR⟩, hT⟩ := h
  obtain ⟨⟨hP, hG, hN, hM, hw⟩, ⟨hc, h5, h9⟩, ⟨hl, hx6, h10⟩, ⟨hPa, hMp, hpc, hpl⟩, hS, hMs⟩ := id hR
  obtain ⟨p1, p2, p3, p4, p5, p6, p7, p8, p9⟩ := id hP
  unfold wp_X6_mate
  rw [hN.1, show (nI t = (2 : Int32)) = (t = 2) from eq_nI (b := 2) (by omega) (by omega), show (nI t = (3 : Int32)) = (t = 3) from eq_nI (b := 3) (by omega) (by omega)]
  have t2 : (F 2 = (2 : Int32)) = (t = 2) := by rw [hM.1]; exact eq_nI (b := 2) (by omega) (by omega)
  have t3 : (F 2 = (3 : Int32)) = (t = 3) := by rw [hM.1]; exact eq_nI (b := 3) (by omega) (by omega)
  refine x_hasMachine hP hN (fun q => ⟨fun q => absurd rfl q, fun _ => by unfold wp_X7_mate; exact m_mach_out hP hM q ⟨fun q => absurd rfl q, fun _ => ⟨rfl, h0⟩⟩⟩) (fun i hi e => ⟨fun _ => ?_, fun q => absurd q (by decide)⟩)
  subst e
  rw [h5]
  have e9 : A 9 (ix (nI i)) = nI (dg v c i) := by rw [ix_nI (by omega)]; exact h9 i hi
  have hd := dg_lt (v := v) (s := c) (i := i) (by omega)
  refine ⟨fun q2 => ⟨fun q3 => by unfold wp_X7_mate; rw [t2, t3]; exact m_mach_in hP hM hi ⟨fun _ => ⟨fun _ => ⟨fun q4 => absurd q4 q3, fun _ => ⟨rfl, h0⟩⟩, fun q4 => absurd q4 q2⟩, fun q => absurd q (by decide)⟩, fun q3 => ?_⟩, fun q2 => ?_⟩
  · unfold wp_X1_parentOf
    refine x_valueAt hP hN hc hi ?_
    have hq : ∀ j, j < n → (nI (dg v c j) = nI (dg v c i) - (1 : Int32) ↔ decide (dg v c j + 1 = dg v c i) = true) := fun j hj => by
      have hdj := dg_lt (v := v) (s := c) (i := j) (by omega)
      rw [decide_eq_true_iff]
      by_cases z : dg v c i = 0
      · rw [z]
        exact ⟨fun q => absurd q (neg_ne (by decide) (by omega)), fun q => by omega⟩
      · rw [show (1 : Int32) = nI 1 from rfl, sub_nI (by omega), eq_nI (by omega) (by omega)]
        omega
    refine x_lowestLinkedWith hP hG hN hc hi hq ?_
    unfold wp_X7_mate
    rw [t2, t3]
    refine m_mach_in hP hM hi ⟨fun _ => ⟨fun _ => ⟨fun _ => ?_, fun q4 => absurd q3 q4⟩, fun q4 => absurd q4 q2⟩, fun q => absurd q (by decide)⟩
    refine m_rowNow hP hM h9 (fun A1 hF1 hr1 => ⟨in_nI (by omega) (by omega), ?_⟩)
    rw [hF1.2 9 (by decide), e9]
    have hR2 : Rel FX FT AT FN AN FS AS FP AP F A1 := Rel.of26 hR hT (hF1.mo (by decide) (by decide))
    refine m_lowest hP hG (hM.fr hF1 (by decide)) hr1 hi hq ?_
    have hfd := fd_le (fun j => E i j && decide (dg v c j + 1 = dg v c i)) n
    rw [ge_m1 (by omega)]
    refine ⟨fun q4 => ⟨?_, hR2⟩, fun q4 => ⟨?_, hR2⟩⟩
    · rw [if_pos q4, if_pos q4]
    · rw [if_neg q4]
  · unfold wp_X1_matchOf wp_X1_matchOf_42 wp_X1_matchOf_43
    have hvn := p8 q2
    refine x_valueAt hP hN hc hi ?_
    by_cases z : dg v c i = 0
    · have em : nI (dg v c i) - (1 : Int32) < 0 := by rw [z]; decide
      have ref : wp_X7_mate F A (nI i) (fun r' F' A' => (-4 : Int32) = r' ∧ Rel FX FT AT FN AN FS AS FP AP F' A') := by
        unfold wp_X7_mate
        rw [t2, t3, e9]
        exact m_mach_in hP hM hi ⟨fun _ => ⟨fun q4 => absurd q2 q4, fun _ => ⟨in_nI (by omega) (by omega), fun _ => ⟨rfl, h0⟩, fun q4 => absurd em q4⟩⟩, fun q => absurd q (by decide)⟩
      refine x_hasMachine hP hN (fun q => ⟨fun _ => ⟨fun _ => ref, fun q4 => absurd rfl q4⟩, fun q4 => absurd rfl q4⟩) (fun j hj e => ?_)
      rw [e, i0, lt_nI (by omega) (by omega)] at em
      omega
    · have e1 : nI (dg v c i) - (1 : Int32) = nI (dg v c i - 1) := by rw [show (1 : Int32) = nI 1 from rfl, sub_nI (by omega)]
      rw [e1]
      have hj : dg v c i - 1 < n := by omega
      generalize hjj : dg v c i - 1 = j at hj e1 ⊢
      have hdj := dg_lt (v := v) (s := c) (i := j) (by omega)
      have e9j : A 9 (ix (nI j)) = nI (dg v c j) := by rw [ix_nI (by omega)]; exact h9 j hj
      rw [nI_s]
      have ref : ∀ r : Int32, r = (if E i j then (if dg v c j = i + 1 then nI j else -4) else -4) → wp_X7_mate F A (nI i) (fun r' F' A' => r = r' ∧ Rel FX FT AT FN AN FS AS FP AP F' A') := fun r hr => by
        unfold wp_X7_mate
        rw [t2, t3, e9, e1, e9j, nI_s]
        refine m_mach_in hP hM hi ⟨fun _ => ⟨fun q4 => absurd q2 q4, fun _ => ⟨in_nI (by omega) (by omega), fun q4 => absurd q4 (by rw [i0, lt_nI (by omega) (by omega)]; omega), fun _ => m_isWired hP hM hi hj ?_⟩⟩, fun q => absurd q (by decide)⟩
        rw [eq_nI (by omega) (by omega)]
        by_cases e2 : E i j = true
        · rw [if_pos e2] at hr ⊢
          refine ⟨fun q => absurd q (by decide), fun _ => ⟨in_nI (by omega) (by omega), fun q => ⟨?_, h0⟩, fun q => ⟨?_, h0⟩⟩⟩
          · rw [hr, if_neg q]
          · rw [hr, if_pos q]
        · rw [if_neg e2] at hr ⊢
          exact ⟨fun _ => ⟨hr, h0⟩, fun q => absurd rfl q⟩
      refine x_hasMachine hP hN (fun q => (out_in (by omega) hj rfl q).elim) (fun j' hj' e => ⟨fun q => absurd q (by decide), fun _ => x_isLinked hP hG hN hi (by omega) ?_⟩)
      by_cases e2 : E i j = true
      · rw [if_pos e2]
        refine ⟨fun q => absurd q (by decide), fun _ => x_valueAt hP hN hc hj ?_⟩
        rw [eq_nI (by omega) (by omega)]
        refine ⟨fun q => ⟨fun _ => ref _ (by rw [if_pos e2, if_neg q]), fun q4 => absurd rfl q4⟩, fun q => ⟨fun q4 => absurd q4 (by decide), fun _ => ref _ (by rw [if_pos e2, if_pos q])⟩⟩
      · rw [if_neg e2]
        exact ⟨fun _ => ⟨fun _ => ref _ (by rw [if_neg e2]), fun q4 => absurd rfl q4⟩, fun q => absurd rfl q⟩
end MATE
