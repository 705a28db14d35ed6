/-! the text that the class begins with -/
def tq : Nat → Nat := fun i => [103, 49, 52, 53, 59, 120, 48, 51, 59, 120, 49, 49, 59, 120, 50, 52, 59, 120, 51, 50, 59].getD i 0
theorem tq_le : ∀ i, i < 21 → tq i ≤ 126 := by decide
theorem par0 : Par 1 4 5 := ⟨by omega, by omega, by omega, by omega, by omega, by omega, by decide, fun e => absurd e (by decide), fun e => absurd e (by decide)⟩
section FIRST
variable {FX FT : Nat → Int32} {AT : Nat → Nat → Int32} {FD : Nat → Int32} {AD : Nat → Nat → Int32} {FN : Nat → Int32} {AN : Nat → Nat → Int32} {FS : Nat → Int32} {AS : Nat → Nat → Int32} {FP : Nat → Int32} {AP : Nat → Nat → Int32} {F : Nat → Int32} {A : Nat → Nat → Int32}
theorem x_app {k : Nat} (hk : k < 21) (hT : TxC k tq FT AT) : wp_X5_append FT AT (nI (tq k)) (fun _ FT' AT' => TxC (k + 1) tq FT' AT') := by
  obtain ⟨t1, t2, t3⟩ := hT
  unfold wp_X5_append
  rw [t1, show (200 : Int32) = nI 200 from rfl, lt_nI (by omega) (by omega)]
  refine ⟨fun _ => ?_, fun c => absurd (show k < 200 by omega) c⟩
  rintro _ rfl
  rw [rPut_in (by omega) (by omega)]
  refine ⟨by rw [uF_same, nI_s], by omega, fun i hi => ?_⟩
  rw [uA_same, upd_at]
  by_cases e : i = k
  · rw [if_pos e, e]; exact ⟨rfl, tq_le k hk⟩
  · rw [if_neg e]; exact t3 i (by omega)
theorem stg0 : StG 21 tq 0 1 4 5 := ⟨rfl, rfl, rfl, rfl, rfl, par0⟩
theorem dsq1 : dsq 21 tq 1 4 5 1 = some (0, (fun _ _ => false), 3) := dsq_next (d := (0, (fun _ _ => false), 0)) rfl ⟨rfl, Or.inr ⟨rfl, 0, 3, ⟨rfl, rfl, by decide, by decide⟩, rfl, rfl, rfl⟩⟩
theorem dsq2 : dsq 21 tq 1 4 5 2 = some (0, (fun _ _ => false), 8) := dsq_next dsq1 ⟨rfl, Or.inr ⟨rfl, 1, 1, ⟨rfl, rfl, by decide, by decide⟩, rfl, rfl, rfl⟩⟩
theorem dsq3 : dsq 21 tq 1 4 5 3 = some (0, (fun _ _ => false), 108) := dsq_next dsq2 ⟨rfl, Or.inr ⟨rfl, 2, 4, ⟨rfl, rfl, by decide, by decide⟩, rfl, rfl, rfl⟩⟩
theorem dsq4 : dsq 21 tq 1 4 5 4 = some (0, (fun _ _ => false), 358) := dsq_next dsq3 ⟨rfl, Or.inr ⟨rfl, 3, 2, ⟨rfl, rfl, by decide, by decide⟩, rfl, rfl, rfl⟩⟩
theorem stg_is {t n v : Nat} (h : StG 21 tq 0 t n v) : t = 1 ∧ n = 4 ∧ v = 5 :=
  ⟨Option.some.inj (h.2.1.symm.trans stg0.2.1), Option.some.inj (h.2.2.1.symm.trans stg0.2.2.1), Option.some.inj (h.2.2.2.1.symm.trans stg0.2.2.2.1)⟩
theorem x_first (hT : TxC 21 tq FT AT) : wp_X5_readInto FT AT FD AD (fun _ F' A' => DC F' A' 1 4 5 0 (fun _ _ => false) 358) := by
  refine x_reads hT (fun hz => absurd hz (by decide)) (fun _ hh _ _ => absurd stg0 (hh 1 4 5)) (fun t n v m d F' A' hl hG hd hk hle hDC => ?_) (fun t n v m d F' A' hl hG hd hk hlt hno => ?_)
  · obtain ⟨rfl, rfl, rfl⟩ := stg_is hG
    have hm : m = 4 := by
      rcases Nat.lt_or_ge 4 m with c | c
      · have := hk 4 c; omega
      · omega
    subst hm
    have e := Option.some.inj (dsq4.symm.trans hd)
    subst e
    exact hDC
  · obtain ⟨rfl, rfl, rfl⟩ := stg_is hG
    obtain ⟨d', hd'⟩ := dsq_le dsq4 (m + 1) (by omega)
    rw [hno] at hd'
    cases hd'
/-- the class as it begins, but for its text -/
def Xi (FX FN : Nat → Int32) (AN : Nat → Nat → Int32) (FS FP : Nat → Int32) : Prop := NOk FN AN 1 4 5 (fun _ _ => false) ∧ FN 4 = nI 0 ∧ FX 5 = nI 358 ∧ FX 6 = -4 ∧ FS 0 = 0 ∧ FP 2 = nI 0
theorem x_take (hD : DC FD AD 1 4 5 0 (fun _ _ => false) 358) : wp_X6_takeDraft FX FT AT FD AD FN AN FS AS FP AP (fun FX' FN' AN' FS' _ FP' _ => Xi FX' FN' AN' FS' FP') := by
  unfold wp_X6_takeDraft wp_X2_clear wp_X4_forget
  exact x_copyFrom par0 hD (fun FN' AN' hN' hw' hs' => ⟨hN', hw', by rw [uF_ne (by decide), uF_same, hs'], uF_same, uF_same, uF_same⟩)
theorem rel0 (hX : Xi FX FN AN FS FP) (hT : FT 1 = nI 0) (hM : Mi F A) : Rel FX FT AT FN AN FS AS FP AP F A := by
  obtain ⟨x1, x2, x3, x4, x5, x6⟩ := hX
  obtain ⟨m1, m2, m3, m4, m5, m6, m7⟩ := hM
  exact ⟨⟨1, 4, 5, fun _ _ => false, 358, none, 0, fun _ => 0, fun _ => none, ⟨par0, ⟨fun a b e => absurd e Bool.false_ne_true, fun _ _ _ => rfl, fun e => absurd e (by decide)⟩, x1, m1, by rw [x2, m2]⟩, ⟨by decide, x3, m3⟩, ⟨fun l e => (by cases e), x4, m4⟩, ⟨⟨x6, by omega, fun i hi => absurd hi (Nat.not_lt_zero i)⟩, ⟨m5, by omega, fun i hi => absurd hi (Nat.not_lt_zero i)⟩, fun i hi => absurd hi (Nat.not_lt_zero i), fun i hi => absurd hi (Nat.not_lt_zero i)⟩, Or.inl x5, Or.inl m6⟩, 0, by omega, hT, m7, fun i hi => absurd hi (Nat.not_lt_zero i)⟩
end FIRST
