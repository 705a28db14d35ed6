/-! the worlds: an object's cells, by the numbers of its fields: F its numbers, A its rows -/
def nW (o : Nat) (g : Nat → Nat) (cA : ClassId) (F : Nat → Int32) (A : Nat → Nat → Int32) : va_W := [(o, .inr (0, [.int (F 0), .int (F 1), .int (F 2), .int (F 3), .int (F 4), .int (F 5), .ref (g 6), .ref (g 7)])), (g 6, .inl (cA, 6, .inl (A 6))), (g 7, .inl (cA, 6, .inl (A 7)))]
def pW (o : Nat) (g : Nat → Nat) (cA : ClassId) (F : Nat → Int32) (A : Nat → Nat → Int32) : va_W := [(o, .inr (1, [.ref (g 0), .ref (g 1), .int (F 2)])), (g 0, .inl (cA, 6, .inl (A 0))), (g 1, .inl (cA, 6, .inl (A 1)))]
def sW (o : Nat) (g : Nat → Nat) (cA : ClassId) (F : Nat → Int32) (A : Nat → Nat → Int32) : va_W := [(o, .inr (2, [.int (F 0), .int (F 1), .ref (g 2), .ref (g 3), .ref (g 4), .ref (g 5), .ref (g 6), .ref (g 7)])), (g 2, .inl (cA, 4096, .inl (A 2))), (g 3, .inl (cA, 4096, .inl (A 3))), (g 4, .inl (cA, 4096, .inl (A 4))), (g 5, .inl (cA, 4096, .inl (A 5))), (g 6, .inl (cA, 4096, .inl (A 6))), (g 7, .inl (cA, 4096, .inl (A 7)))]
def tW (o : Nat) (g : Nat → Nat) (cA : ClassId) (F : Nat → Int32) (A : Nat → Nat → Int32) : va_W := [(o, .inr (3, [.ref (g 0), .int (F 1)])), (g 0, .inl (cA, 200, .inl (A 0)))]
def xW (o oT oN oD oS oP : Nat) (F : Nat → Int32) : va_W := [(o, .inr (4, [.ref oT, .ref oN, .ref oD, .ref oS, .ref oP, .int (F 5), .int (F 6)]))]
def mW (o : Nat) (g : Nat → Nat) (cA : ClassId) (F : Nat → Int32) (A : Nat → Nat → Int32) : va_W := [(o, .inr (5, [.int (F 0), .ref (g 1), .int (F 2), .int (F 3), .int (F 4), .int (F 5), .int (F 6), .ref (g 7), .ref (g 8), .ref (g 9), .int (F 10), .int (F 11), .int (F 12), .int (F 13), .int (F 14), .ref (g 15), .ref (g 16), .int (F 17), .ref (g 18), .ref (g 19), .ref (g 20), .ref (g 21), .ref (g 22), .int (F 23), .ref (g 24), .ref (g 25), .int (F 26)])), (g 1, .inl (cA, 200, .inl (A 1))), (g 7, .inl (cA, 36, .inl (A 7))), (g 8, .inl (cA, 6, .inl (A 8))), (g 9, .inl (cA, 6, .inl (A 9))), (g 15, .inl (cA, 36, .inl (A 15))), (g 16, .inl (cA, 6, .inl (A 16))), (g 18, .inl (cA, 6, .inl (A 18))), (g 19, .inl (cA, 6, .inl (A 19))), (g 20, .inl (cA, 4096, .inl (A 20))), (g 21, .inl (cA, 4096, .inl (A 21))), (g 22, .inl (cA, 4096, .inl (A 22))), (g 24, .inl (cA, 6, .inl (A 24))), (g 25, .inl (cA, 6, .inl (A 25)))]
/-! rows that are read and written only where they have a place -/
def rAt (n : Nat) (f : Nat → Int32) (i : Int32) : Int32 := if i < 0 then 0 else if nI n ≤ i then 0 else f (ix i)
def rPut (n : Nat) (f : Nat → Int32) (i x : Int32) : Nat → Int32 := if i < 0 then f else if nI n ≤ i then f else upd f (ix i) x
def rFill (n : Nat) (f : Nat → Int32) (x : Int32) : Nat → Int32 := fun j => if j < n then x else f j
/-- stands in uF and uA for nothing but this: that they are opened ahead of what they hold -/
def hg0 (x : Int32) : Int32 := rAt 0 (rPut 0 (rFill 0 (fun _ => x / x) x) (x % x) (x <<< x)) (x >>> x)
def uF (F : Nat → Int32) (k : Nat) (x : Int32) : Nat → Int32 := (fun (_ : Int32) (j : Nat) => if j = k then x else F j) (hg0 0)
def uA (A : Nat → Nat → Int32) (k : Nat) (g : Nat → Int32) : Nat → Nat → Int32 := (fun (_ : Int32) (j : Nat) => if j = k then g else A j) (hg0 0)
theorem uF_same {F : Nat → Int32} {k : Nat} {x : Int32} : uF F k x k = x := if_pos rfl
theorem uF_ne {F : Nat → Int32} {k j : Nat} {x : Int32} (h : j ≠ k) : uF F k x j = F j := if_neg h
theorem uA_same {A : Nat → Nat → Int32} {k : Nat} {g : Nat → Int32} : uA A k g k = g := if_pos rfl
theorem uA_ne {A : Nat → Nat → Int32} {k j : Nat} {g : Nat → Int32} (h : j ≠ k) : uA A k g j = A j := if_neg h
theorem in_of {i : Int32} {n : Nat} (hn : n < 2 ^ 31) (h0 : ¬ i < 0) (h1 : ¬ nI n ≤ i) : vp_in i n := by
  rcases pk_ix i hn with h | h | ⟨j, hj, rfl⟩
  · exact absurd h h0
  · exact absurd h h1
  · exact vp_in_nI hj hn
set_option maxHeartbeats 4000000 in
theorem c_at (l : Launch) (D : va_G) (cA : ClassId) (a n : Nat) (f : Nat → Int32) (i : Int32) (hn : n < 2 ^ 31) : RoI D cA l yX3_at cX3_at 2 .int 0 0 [.ref a, .int i] [(a, .inl (cA, n, .inl f))] (fun r => r = rAt n f i) := by
  refine enRo (by decide) (Nat.le_of_ble_eq_true rfl) ?_
  intro p e s m args below meth c Q ls fx hK hP hret hl
  obtain ⟨hx, hb, hml, hown, hts⟩ := id fx
  have hl : lv_has ls 2 [(0, .ref a), (1, .int i)] := hl
  refine lv_iload_n hx hb dX3_at_0 rfl (lv_at hl 1 rfl) ?_
  refine lv_if_lt (tgt := 16) hx hb dX3_at_1 (by decide) (fun c1 => ?_) (fun c1 => ?_)
  · refine lv_iconst (v := (0 : Int32)) hx hb dX3_at_16 (by decide) ?_
    exact hret _ _ _ dX3_at_17 rfl (by rw [rAt, if_pos c1])
  · refine lv_iload_n hx hb dX3_at_4 rfl (lv_at hl 1 rfl) ?_
    refine lv_aload_n hx hb dX3_at_5 rfl (lv_at hl 0 rfl) ?_
    refine va_alen (v := nI n) hx hb hK hP 0 0 rfl rfl rfl dX3_at_6 ?_
    refine lv_icmp_ge (tgt := 16) hx hb dX3_at_7 (by decide) (fun c2 => ?_) (fun c2 => ?_)
    · refine lv_iconst (v := (0 : Int32)) hx hb dX3_at_16 (by decide) ?_
      exact hret _ _ _ dX3_at_17 rfl (by rw [rAt, if_neg c1, if_pos c2])
    · refine lv_aload_n hx hb dX3_at_10 rfl (lv_at hl 0 rfl) ?_
      refine lv_iload_n hx hb dX3_at_11 rfl (lv_at hl 1 rfl) ?_
      refine va_iald hx hb hK hP 0 0 rfl rfl (in_of hn c1 c2) dX3_at_12 ?_
      refine lv_goto (tgt := 17) hx hb dX3_at_13 (by decide) ?_
      exact hret _ _ _ dX3_at_17 rfl (by rw [rAt, if_neg c1, if_neg c2])
set_option maxHeartbeats 4000000 in
theorem c_put (l : Launch) (D : va_G) (cA : ClassId) (a n : Nat) (f : Nat → Int32) (i x : Int32) (hn : n < 2 ^ 31) : MuV D cA l yX3_put cX3_put 3 0 0 [.ref a, .int i, .int x] [(a, .inl (cA, n, .inl f))] (fun u : Nat → Int32 => u = rPut n f i x) (fun u => [(a, .inl (cA, n, .inl u))]) := by
  refine enMv (by decide) (Nat.le_of_ble_eq_true rfl) ?_
  intro p e s m args below meth c Q ls A fx hK hP hD hS hA hret hl
  obtain ⟨hx, hb, hml, hown, hts⟩ := id fx
  have hl : lv_has ls 3 [(0, .ref a), (1, .int i), (2, .int x)] := hl
  refine lv_iload_n hx hb dX3_put_0 rfl (lv_at hl 1 rfl) ?_
  refine lv_if_lt (tgt := 14) hx hb dX3_put_1 (by decide) (fun c1 => ?_) (fun c1 => ?_)
  · exact hret f _ _ _ _ dX3_put_14 (by rw [rPut, if_pos c1]) hP hD hS
  · refine lv_iload_n hx hb dX3_put_4 rfl (lv_at hl 1 rfl) ?_
    refine lv_aload_n hx hb dX3_put_5 rfl (lv_at hl 0 rfl) ?_
    refine va_alen (v := nI n) hx hb hK hP 0 0 rfl rfl rfl dX3_put_6 ?_
    refine lv_icmp_ge (tgt := 14) hx hb dX3_put_7 (by decide) (fun c2 => ?_) (fun c2 => ?_)
    · exact hret f _ _ _ _ dX3_put_14 (by rw [rPut, if_neg c1, if_pos c2]) hP hD hS
    · refine lv_aload_n hx hb dX3_put_10 rfl (lv_at hl 0 rfl) ?_
      refine lv_iload_n hx hb dX3_put_11 rfl (lv_at hl 1 rfl) ?_
      refine lv_iload_n hx hb dX3_put_12 rfl (lv_at hl 2 rfl) ?_
      refine va_iast hx hb hK hP hD hS 0 0 rfl rfl (in_of hn c1 c2) dX3_put_13 (fun H locs hP hD hS => ?_)
      exact hret (upd f (ix i) x) _ _ _ _ dX3_put_14 (by rw [rPut, if_neg c1, if_neg c2]) hP hD hS
set_option maxHeartbeats 4000000 in
theorem c_fill (l : Launch) (D : va_G) (cA : ClassId) (a n : Nat) (f : Nat → Int32) (x : Int32) (hn : n < 2 ^ 31) : MuV D cA l yJ7_fill_53178 cJ7_fill_53178 4 0 0 [.ref a, .int x] [(a, .inl (cA, n, .inl f))] (fun u : Nat → Int32 => u = rFill n f x) (fun u => [(a, .inl (cA, n, .inl u))]) := by
  refine enMv (by decide) (Nat.le_of_ble_eq_true rfl) ?_
  intro p e s m args below meth c Q ls A fx hK hP hD hS hA hret hl
  obtain ⟨hx, hb, hml, hown, hts⟩ := id fx
  have hl : lv_has ls 4 [(0, .ref a), (1, .int x)] := hl
  have lp : ∀ (k i : Nat), i + k = n → ∀ (g : Nat → Int32) (H : Heap) (locs : List Loc) (ls : Array Slot), (∀ j, j < i → g j = x) → (∀ j, i ≤ j → g j = f j) → va_P D vwCl [(a, .inl (cA, n, .inl g))] H → va_D A [(a, .inl (cA, n, .inl g))] → va_S A s.heap H locs → lv_has ls 4 [(0, .ref a), (1, .int x), (2, .int (nI i)), (3, .int (nI n))] → W p l e ({ frames := 0, cells := 0, slots := 0, locals := 0 } : Room) s m args below meth c H locs 0 0 Q (F0 m 5 ls []) := by
    intro k
    induction k with
    | zero =>
      intro i hi g H locs ls h1 h2 hP hD hS hl
      refine lv_iload_n hx hb dJ7_fill_53178_5 rfl (lv_at hl 2 rfl) ?_
      refine lv_iload_n hx hb dJ7_fill_53178_6 rfl (lv_at hl 3 rfl) ?_
      refine lv_icmp_ge (tgt := 20) hx hb dJ7_fill_53178_7 (by decide) (fun c2 => ?_) (fun c2 => ?_)
      · refine hret g _ _ _ _ dJ7_fill_53178_20 ?_ hP hD hS
        funext j
        rw [rFill]
        split
        · exact h1 j (by omega)
        · exact h2 j (by omega)
      · exact absurd (nI_le (by omega) (by omega)) c2
    | succ k ih =>
      intro i hi g H locs ls h1 h2 hP hD hS hl
      refine lv_iload_n hx hb dJ7_fill_53178_5 rfl (lv_at hl 2 rfl) ?_
      refine lv_iload_n hx hb dJ7_fill_53178_6 rfl (lv_at hl 3 rfl) ?_
      refine lv_icmp_ge (tgt := 20) hx hb dJ7_fill_53178_7 (by decide) (fun c2 => ?_) (fun c2 => ?_)
      · exact absurd c2 (nI_ge (by omega) (by omega))
      · refine lv_aload_n hx hb dJ7_fill_53178_10 rfl (lv_at hl 0 rfl) ?_
        refine lv_iload_n hx hb dJ7_fill_53178_11 rfl (lv_at hl 2 rfl) ?_
        refine lv_iload_n hx hb dJ7_fill_53178_12 rfl (lv_at hl 1 rfl) ?_
        refine va_iast hx hb hK hP hD hS 0 0 rfl rfl (vp_in_nI (by omega) hn) dJ7_fill_53178_13 (fun H locs hP hD hS => ?_)
        refine lv_iinc (v := nI (i + 1)) (lv' := [(2, .int (nI (i + 1))), (0, .ref a), (1, .int x), (3, .int (nI n))]) hx hb dJ7_fill_53178_14 hl (k := 2) rfl (nI_1 i) (by decide) rfl (fun ls hl => ?_)
        refine lv_goto (tgt := 5) hx hb dJ7_fill_53178_17 (by decide) ?_
        have hc : (nI i).toNatClampNeg = i := nI_clamp (by omega)
        refine ih (i + 1) (by omega) (upd g (nI i).toNatClampNeg x) _ _ _ (fun j hj => ?_) (fun j hj => ?_) hP hD hS (lv_sub hl [1, 2, 0, 3] rfl)
        · rw [hc, upd]
          split
          · rfl
          · exact h1 j (by omega)
        · rw [hc, upd, if_neg (by omega)]
          exact h2 j (by omega)
  refine lv_iconst (v := nI 0) hx hb dJ7_fill_53178_0 (by decide) ?_
  refine lv_istore_n (lv' := [(2, .int (nI 0)), (0, .ref a), (1, .int x)]) hx hb dJ7_fill_53178_1 rfl hl (by decide) rfl (fun ls hl => ?_)
  refine lv_aload_n hx hb dJ7_fill_53178_2 rfl (lv_at hl 1 rfl) ?_
  refine va_alen (v := nI n) hx hb hK hP 0 0 rfl rfl rfl dJ7_fill_53178_3 ?_
  refine lv_istore_n (lv' := [(3, .int (nI n)), (2, .int (nI 0)), (0, .ref a), (1, .int x)]) hx hb dJ7_fill_53178_4 rfl hl (by decide) rfl (fun ls hl => ?_)
  exact lp n 0 (by omega) f _ _ _ (fun j hj => absurd hj (Nat.not_lt_zero j)) (fun _ _ => rfl) hP hD hS (lv_sub hl [2, 3, 1, 0] rfl)
