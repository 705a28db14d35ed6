set_option maxHeartbeats 4000000 in
set_option maxRecDepth 100000 in
theorem c_X4_forget (l : Launch) (dC : Nat → ClassId) (dI : Nat → Nat → Nat) (cA : ClassId) (oS : Nat) (gS : Nat → Nat) (FS : Nat → Int32) (AS : Nat → Nat → Int32) (Post : (Nat → Int32) → (Nat → Nat → Int32) → Prop) (hw : wp_X4_forget FS AS Post) : MuV (dC, dI) cA l yX4_forget cX4_forget 1 0 0 [.ref oS] (sW oS gS cA FS AS) (fun (u : (Nat → Int32) × (Nat → Nat → Int32)) => Post (u.1) (u.2)) (fun u => (sW oS gS cA (u.1) (u.2))) := by
  refine enMv (by decide) (Nat.le_of_ble_eq_true rfl) ?_
  intro p e s m args below meth c Q ls A fx hK hP hD hS hA hret hl
  obtain ⟨hx, hb, hml, hown, hts⟩ := id fx
  have hl : lv_has ls 1 [(0, .ref oS)] := hl
  have hP : va_P (dC, dI) vwCl (sW oS gS cA FS AS) s.heap := hP
  refine lv_aload_n hx hb dX4_forget_0 rfl (lv_at hl 0 rfl) ?_
  refine lv_iconst (v := (0 : Int32)) hx hb dX4_forget_1 (by decide) ?_
  refine pz (q0 := 0) (v := .int (0 : Int32)) fx hK hP hD hS fp_X4_30 rfl rfl rfl (Nat.le_of_ble_eq_true rfl) dX4_forget_2 (fun H locs hP hD hS => ?_)
  have hP : va_P (dC, dI) vwCl (sW oS gS cA (uF FS 0 (0 : Int32)) AS) H := hP
  have hD : va_D A (sW oS gS cA (uF FS 0 (0 : Int32)) AS) := hD
  exact hret ((uF FS 0 (0 : Int32)), AS) _ _ _ _ dX4_forget_5 hw hP hD hS
set_option maxHeartbeats 4000000 in
set_option maxRecDepth 100000 in
theorem c_X4_noteMoves (l : Launch) (dC : Nat → ClassId) (dI : Nat → Nat → Nat) (cA : ClassId) (oN : Nat) (gN : Nat → Nat) (oS : Nat) (gS : Nat → Nat) (FN : Nat → Int32) (AN : Nat → Nat → Int32) (FS : Nat → Int32) (AS : Nat → Nat → Int32) (x2 : Int32) (Post : (Nat → Int32) → (Nat → Nat → Int32) → Prop) (hw : wp_X4_noteMoves FN AN FS AS x2 Post) : MuV (dC, dI) cA l yX4_noteMoves cX4_noteMoves 7 4 93 [.ref oS, .ref oN, .int x2] ((nW oN gN cA FN AN) ++ (sW oS gS cA FS AS)) (fun (u : (Nat → Int32) × (Nat → Nat → Int32)) => Post (u.1) (u.2)) (fun u => ((nW oN gN cA FN AN) ++ (sW oS gS cA (u.1) (u.2)))) := by
  refine enMv (by decide) (Nat.le_of_ble_eq_true rfl) ?_
  intro p e s m args below meth c Q ls A fx hK hP hD hS hA hret hl
  obtain ⟨hx, hb, hml, hown, hts⟩ := id fx
  have hl : lv_has ls 7 [(0, .ref oS), (1, .ref oN), (2, .int x2)] := hl
  have hP : va_P (dC, dI) vwCl ((nW oN gN cA FN AN) ++ (sW oS gS cA FS AS)) s.heap := hP
  have b_162 : ∀ (FS : Nat → Int32) (AS : Nat → Nat → Int32) (t1 : Int32) (t2 : Int32) (H : Heap) (locs : List Loc) (ls : Array Slot), va_P (dC, dI) vwCl ((nW oN gN cA FN AN) ++ (sW oS gS cA FS AS)) H → va_D A ((nW oN gN cA FN AN) ++ (sW oS gS cA FS AS)) → va_S A s.heap H locs → lv_has ls 7 [] → wp_X4_noteMoves_162 FN AN FS AS t1 t2 Post → W p l e ({ frames := 4, cells := 0, slots := 0, locals := 93 } : Room) s m args below meth c H locs 0 0 Q (F0 m 162 ls [.int t2, .int t1, .ref (gS 6)]) := by
    intro FS AS t1 t2 H locs ls hP hD hS hl hw
    refine caCell (rest := []) (As := [.ref (gS 6), .int t1, .int t2]) fx hK lk_X4_64 (c_put l (dC, dI) cA (gS 6) 4096 (AS 6) t1 t2 (by decide)) hP hD hS hA 8 rfl ⟨(Nat.le_of_ble_eq_true rfl), (Nat.le_of_ble_eq_true rfl)⟩ rfl hl.1 rfl (Nat.le_of_ble_eq_true rfl) dX4_noteMoves_162 ?_
    intro g_1 H locs e_2 hP hD hS
    have hw := hw g_1 e_2
    have hP : va_P (dC, dI) vwCl ((nW oN gN cA FN AN) ++ (sW oS gS cA FS (uA AS 6 g_1))) H := hP
    have hD : va_D A ((nW oN gN cA FN AN) ++ (sW oS gS cA FS (uA AS 6 g_1))) := hD
    exact hret (FS, (uA AS 6 g_1)) _ _ _ _ dX4_noteMoves_165 hw hP hD hS
  have b_143 : ∀ (FS : Nat → Int32) (AS : Nat → Nat → Int32) (x5 : Int32) (t1 : Int32) (t2 : Int32) (H : Heap) (locs : List Loc) (ls : Array Slot), va_P (dC, dI) vwCl ((nW oN gN cA FN AN) ++ (sW oS gS cA FS AS)) H → va_D A ((nW oN gN cA FN AN) ++ (sW oS gS cA FS AS)) → va_S A s.heap H locs → lv_has ls 7 [(0, .ref oS), (2, .int x2), (5, .int x5)] → wp_X4_noteMoves_143 FN AN FS AS x2 x5 t1 t2 Post → W p l e ({ frames := 4, cells := 0, slots := 0, locals := 93 } : Room) s m args below meth c H locs 0 0 Q (F0 m 143 ls [.int t2, .int t1, .ref (gS 5)]) := by
    intro FS AS x5 t1 t2 H locs ls hP hD hS hl hw
    refine caCell (rest := []) (As := [.ref (gS 5), .int t1, .int t2]) fx hK lk_X4_64 (c_put l (dC, dI) cA (gS 5) 4096 (AS 5) t1 t2 (by decide)) hP hD hS hA 7 rfl ⟨(Nat.le_of_ble_eq_true rfl), (Nat.le_of_ble_eq_true rfl)⟩ rfl hl.1 rfl (Nat.le_of_ble_eq_true rfl) dX4_noteMoves_143 ?_
    intro g_3 H locs e_4 hP hD hS
    have hw := hw g_3 e_4
    have hP : va_P (dC, dI) vwCl ((nW oN gN cA FN AN) ++ (sW oS gS cA FS (uA AS 5 g_3))) H := hP
    have hD : va_D A ((nW oN gN cA FN AN) ++ (sW oS gS cA FS (uA AS 5 g_3))) := hD
    refine lv_aload_n hx hb dX4_noteMoves_146 rfl (lv_at hl 0 rfl) ?_
    refine gz (q0 := 3) (v := .ref (gS 6)) fx hK hP fl_X4_24 rfl rfl dX4_noteMoves_147 ?_
    refine lv_iload_n hx hb dX4_noteMoves_150 rfl (lv_at hl 1 rfl) ?_
    refine lv_iload hx hb dX4_noteMoves_151 (lv_at hl 2 rfl) ?_
    refine lv_if_eq (tgt := 160) hx hb dX4_noteMoves_153 (by decide) (fun c_5 => ?_) (fun c_5 => ?_)
    · have hw := hw.1 c_5
      refine lv_bipush (v := (-4 : Int32)) hx hb dX4_noteMoves_160 (by decide) ?_
      exact b_162 FS (uA AS 5 g_3) x2 (-4 : Int32) _ _ _ hP hD hS (lv_sub hl [] rfl) hw
    · have hw := hw.2 c_5
      refine lv_iconst (v := (0 : Int32)) hx hb dX4_noteMoves_156 (by decide) ?_
      refine lv_goto (tgt := 162) hx hb dX4_noteMoves_157 (by decide) ?_
      exact b_162 FS (uA AS 5 g_3) x2 (0 : Int32) _ _ _ hP hD hS (lv_sub hl [] rfl) hw
  have b_124 : ∀ (FS : Nat → Int32) (AS : Nat → Nat → Int32) (x5 : Int32) (t1 : Int32) (t2 : Int32) (H : Heap) (locs : List Loc) (ls : Array Slot), va_P (dC, dI) vwCl ((nW oN gN cA FN AN) ++ (sW oS gS cA FS AS)) H → va_D A ((nW oN gN cA FN AN) ++ (sW oS gS cA FS AS)) → va_S A s.heap H locs → lv_has ls 7 [(0, .ref oS), (2, .int x2), (5, .int x5)] → wp_X4_noteMoves_124 FN AN FS AS x2 x5 t1 t2 Post → W p l e ({ frames := 4, cells := 0, slots := 0, locals := 93 } : Room) s m args below meth c H locs 0 0 Q (F0 m 124 ls [.int t2, .int t1, .ref (gS 4)]) := by
    intro FS AS x5 t1 t2 H locs ls hP hD hS hl hw
    refine caCell (rest := []) (As := [.ref (gS 4), .int t1, .int t2]) fx hK lk_X4_64 (c_put l (dC, dI) cA (gS 4) 4096 (AS 4) t1 t2 (by decide)) hP hD hS hA 6 rfl ⟨(Nat.le_of_ble_eq_true rfl), (Nat.le_of_ble_eq_true rfl)⟩ rfl hl.1 rfl (Nat.le_of_ble_eq_true rfl) dX4_noteMoves_124 ?_
    intro g_6 H locs e_7 hP hD hS
    have hw := hw g_6 e_7
    have hP : va_P (dC, dI) vwCl ((nW oN gN cA FN AN) ++ (sW oS gS cA FS (uA AS 4 g_6))) H := hP
    have hD : va_D A ((nW oN gN cA FN AN) ++ (sW oS gS cA FS (uA AS 4 g_6))) := hD
    refine lv_aload_n hx hb dX4_noteMoves_127 rfl (lv_at hl 0 rfl) ?_
    refine gz (q0 := 3) (v := .ref (gS 5)) fx hK hP fl_X4_21 rfl rfl dX4_noteMoves_128 ?_
    refine lv_iload_n hx hb dX4_noteMoves_131 rfl (lv_at hl 1 rfl) ?_
    refine lv_iload hx hb dX4_noteMoves_132 (lv_at hl 2 rfl) ?_
    refine lv_if_eq (tgt := 141) hx hb dX4_noteMoves_134 (by decide) (fun c_8 => ?_) (fun c_8 => ?_)
    · have hw := hw.1 c_8
      refine lv_bipush (v := (-5 : Int32)) hx hb dX4_noteMoves_141 (by decide) ?_
      exact b_143 FS (uA AS 4 g_6) x5 x2 (-5 : Int32) _ _ _ hP hD hS (lv_sub hl [0, 1, 2] rfl) hw
    · have hw := hw.2 c_8
      refine lv_iconst (v := (0 : Int32)) hx hb dX4_noteMoves_137 (by decide) ?_
      refine lv_goto (tgt := 143) hx hb dX4_noteMoves_138 (by decide) ?_
      exact b_143 FS (uA AS 4 g_6) x5 x2 (0 : Int32) _ _ _ hP hD hS (lv_sub hl [0, 1, 2] rfl) hw
  have b_106 : ∀ (FS : Nat → Int32) (AS : Nat → Nat → Int32) (t0 : Int32) (H : Heap) (locs : List Loc) (ls : Array Slot), va_P (dC, dI) vwCl ((nW oN gN cA FN AN) ++ (sW oS gS cA FS AS)) H → va_D A ((nW oN gN cA FN AN) ++ (sW oS gS cA FS AS)) → va_S A s.heap H locs → lv_has ls 7 [(0, .ref oS), (2, .int x2)] → wp_X4_noteMoves_106 FN AN FS AS x2 t0 Post → W p l e ({ frames := 4, cells := 0, slots := 0, locals := 93 } : Room) s m args below meth c H locs 0 0 Q (F0 m 106 ls [.int t0]) := by
    intro FS AS t0 H locs ls hP hD hS hl hw
    refine lv_istore (lv' := [(5, .int t0), (0, .ref oS), (2, .int x2)]) hx hb dX4_noteMoves_106 hl (by decide) rfl (fun ls hl => ?_)
    refine lv_aload_n hx hb dX4_noteMoves_108 rfl (lv_at hl 1 rfl) ?_
    refine gz (q0 := 3) (v := .ref (gS 4)) fx hK hP fl_X4_18 rfl rfl dX4_noteMoves_109 ?_
    refine lv_iload_n hx hb dX4_noteMoves_112 rfl (lv_at hl 2 rfl) ?_
    refine lv_iload hx hb dX4_noteMoves_113 (lv_at hl 0 rfl) ?_
    refine lv_if_eq (tgt := 122) hx hb dX4_noteMoves_115 (by decide) (fun c_9 => ?_) (fun c_9 => ?_)
    · have hw := hw.1 c_9
      refine lv_bipush (v := (-5 : Int32)) hx hb dX4_noteMoves_122 (by decide) ?_
      exact b_124 FS AS t0 x2 (-5 : Int32) _ _ _ hP hD hS (lv_sub hl [1, 2, 0] rfl) hw
    · have hw := hw.2 c_9
      refine lv_iconst (v := (0 : Int32)) hx hb dX4_noteMoves_118 (by decide) ?_
      refine lv_goto (tgt := 124) hx hb dX4_noteMoves_119 (by decide) ?_
      exact b_124 FS AS t0 x2 (0 : Int32) _ _ _ hP hD hS (lv_sub hl [1, 2, 0] rfl) hw
  have b_98 : ∀ (FS : Nat → Int32) (AS : Nat → Nat → Int32) (t0 : Int32) (t1 : Int32) (H : Heap) (locs : List Loc) (ls : Array Slot), va_P (dC, dI) vwCl ((nW oN gN cA FN AN) ++ (sW oS gS cA FS AS)) H → va_D A ((nW oN gN cA FN AN) ++ (sW oS gS cA FS AS)) → va_S A s.heap H locs → lv_has ls 7 [(0, .ref oS), (2, .int x2)] → wp_X4_noteMoves_98 FN AN FS AS x2 t0 t1 Post → W p l e ({ frames := 4, cells := 0, slots := 0, locals := 93 } : Room) s m args below meth c H locs 0 0 Q (F0 m 98 ls [.int t1, .int t0]) := by
    intro FS AS t0 t1 H locs ls hP hD hS hl hw
    refine lv_icmp_ne (tgt := 105) hx hb dX4_noteMoves_98 (by decide) (fun c_10 => ?_) (fun c_10 => ?_)
    · have hw := hw.1 c_10
      refine lv_iconst (v := (0 : Int32)) hx hb dX4_noteMoves_105 (by decide) ?_
      exact b_106 FS AS (0 : Int32) _ _ _ hP hD hS (lv_sub hl [0, 1] rfl) hw
    · have hw := hw.2 c_10
      refine lv_iconst (v := (1 : Int32)) hx hb dX4_noteMoves_101 (by decide) ?_
      refine lv_goto (tgt := 106) hx hb dX4_noteMoves_102 (by decide) ?_
      exact b_106 FS AS (1 : Int32) _ _ _ hP hD hS (lv_sub hl [0, 1] rfl) hw
  have b_8 : ∀ (FS : Nat → Int32) (AS : Nat → Nat → Int32) (x3 : Int32) (x4 : Int32) (x5 : Int32) (H : Heap) (locs : List Loc) (ls : Array Slot), va_P (dC, dI) vwCl ((nW oN gN cA FN AN) ++ (sW oS gS cA FS AS)) H → va_D A ((nW oN gN cA FN AN) ++ (sW oS gS cA FS AS)) → va_S A s.heap H locs → lv_has ls 7 [(0, .ref oS), (1, .ref oN), (2, .int x2), (3, .int x3), (4, .int x4), (5, .int x5)] → wp_X4_noteMoves_8 FN AN FS AS x2 x3 x4 x5 Post → W p l e ({ frames := 4, cells := 0, slots := 0, locals := 93 } : Room) s m args below meth c H locs 0 0 Q (F0 m 8 ls []) := by
    intro FS AS x3 x4 x5 H locs ls hP hD hS hl hw
    refine Lp_go (C := fun (t : Int32 × Int32 × Int32) => ∀ (H : Heap) (locs : List Loc) (ls : Array Slot), va_P (dC, dI) vwCl ((nW oN gN cA FN AN) ++ (sW oS gS cA FS AS)) H → va_D A ((nW oN gN cA FN AN) ++ (sW oS gS cA FS AS)) → va_S A s.heap H locs → lv_has ls 7 [(0, .ref oS), (1, .ref oN), (2, .int x2), (3, .int (t.1)), (4, .int (t.2.1)), (5, .int (t.2.2))] → W p l e ({ frames := 4, cells := 0, slots := 0, locals := 93 } : Room) s m args below meth c H locs 0 0 Q (F0 m 8 ls [])) ?_ hw H locs ls hP hD hS hl
    intro k_8 hk_8 t
    obtain ⟨x3, x4, x5⟩ := t
    intro hw H locs ls hP hD hS hl
    have hP : va_P (dC, dI) vwCl ((nW oN gN cA FN AN) ++ (sW oS gS cA FS AS)) H := hP
    have hD : va_D A ((nW oN gN cA FN AN) ++ (sW oS gS cA FS AS)) := hD
    have hl : lv_has ls 7 [(0, .ref oS), (1, .ref oN), (2, .int x2), (3, .int x3), (4, .int x4), (5, .int x5)] := hl
    have hw : st_X4_noteMoves_8 FN AN FS AS x2 Post k_8 x3 x4 x5 := hw
    have b_55 : ∀ (x3 : Int32) (x5 : Int32) (t0 : Int32) (t1 : Int32) (H : Heap) (locs : List Loc) (ls : Array Slot), va_P (dC, dI) vwCl ((nW oN gN cA FN AN) ++ (sW oS gS cA FS AS)) H → va_D A ((nW oN gN cA FN AN) ++ (sW oS gS cA FS AS)) → va_S A s.heap H locs → lv_has ls 7 [(0, .ref oS), (1, .ref oN), (2, .int x2), (3, .int x3), (5, .int x5)] → wp_X4_noteMoves_55 FN AN FS AS x2 x3 x5 t0 t1 k_8 Post → W p l e ({ frames := 4, cells := 0, slots := 0, locals := 93 } : Room) s m args below meth c H locs 0 0 Q (F0 m 55 ls [.int t1, .int t0]) := by
      intro x3 x5 t0 t1 H locs ls hP hD hS hl hw
      refine lv_iadd hx hb dX4_noteMoves_55 ?_
      refine lv_istore (lv' := [(4, .int (t0 + t1)), (0, .ref oS), (1, .ref oN), (2, .int x2), (3, .int x3), (5, .int x5)]) hx hb dX4_noteMoves_56 hl (by decide) rfl (fun ls hl => ?_)
      refine lv_iinc (v := (x5 + 1)) (lv' := [(5, .int (x5 + 1)), (4, .int (t0 + t1)), (0, .ref oS), (1, .ref oN), (2, .int x2), (3, .int x3)]) hx hb dX4_noteMoves_58 hl (k := 5) rfl rfl (by decide) rfl (fun ls hl => ?_)
      refine lv_goto (tgt := 8) hx hb dX4_noteMoves_61 (by decide) ?_
      exact hk_8 (x3, (t0 + t1), (x5 + 1)) hw _ _ _ hP hD hS (lv_sub hl [2, 3, 4, 5, 1, 0] rfl)
    refine lv_iload hx hb dX4_noteMoves_8 (lv_at hl 5 rfl) ?_
    refine lv_aload_n hx hb dX4_noteMoves_10 rfl (lv_at hl 1 rfl) ?_
    refine gz (q0 := 0) (v := .int (FN 1)) fx hK hP fl_X4_55 rfl rfl dX4_noteMoves_11 ?_
    refine lv_icmp_ge (tgt := 64) hx hb dX4_noteMoves_14 (by decide) (fun c_11 => ?_) (fun c_11 => ?_)
    · have hw := hw.1 c_11
      refine lv_aload_n hx hb dX4_noteMoves_64 rfl (lv_at hl 0 rfl) ?_
      refine gz (q0 := 3) (v := .ref (gS 2)) fx hK hP fl_X4_9 rfl rfl dX4_noteMoves_65 ?_
      refine lv_iload_n hx hb dX4_noteMoves_68 rfl (lv_at hl 2 rfl) ?_
      refine lv_iload_n hx hb dX4_noteMoves_69 rfl (lv_at hl 3 rfl) ?_
      refine caCell (rest := []) (As := [.ref (gS 2), .int x2, .int x3]) fx hK lk_X4_64 (c_put l (dC, dI) cA (gS 2) 4096 (AS 2) x2 x3 (by decide)) hP hD hS hA 4 rfl ⟨(Nat.le_of_ble_eq_true rfl), (Nat.le_of_ble_eq_true rfl)⟩ rfl hl.1 rfl (Nat.le_of_ble_eq_true rfl) dX4_noteMoves_70 ?_
      intro g_12 H locs e_13 hP hD hS
      have hw := hw g_12 e_13
      have hP : va_P (dC, dI) vwCl ((nW oN gN cA FN AN) ++ (sW oS gS cA FS (uA AS 2 g_12))) H := hP
      have hD : va_D A ((nW oN gN cA FN AN) ++ (sW oS gS cA FS (uA AS 2 g_12))) := hD
      refine lv_aload_n hx hb dX4_noteMoves_73 rfl (lv_at hl 0 rfl) ?_
      refine gz (q0 := 3) (v := .ref (gS 3)) fx hK hP fl_X4_15 rfl rfl dX4_noteMoves_74 ?_
      refine lv_iload_n hx hb dX4_noteMoves_77 rfl (lv_at hl 2 rfl) ?_
      refine lv_iload hx hb dX4_noteMoves_78 (lv_at hl 4 rfl) ?_
      refine caCell (rest := []) (As := [.ref (gS 3), .int x2, .int x4]) fx hK lk_X4_64 (c_put l (dC, dI) cA (gS 3) 4096 (AS 3) x2 x4 (by decide)) hP hD hS hA 5 rfl ⟨(Nat.le_of_ble_eq_true rfl), (Nat.le_of_ble_eq_true rfl)⟩ rfl hl.1 rfl (Nat.le_of_ble_eq_true rfl) dX4_noteMoves_80 ?_
      intro g_14 H locs e_15 hP hD hS
      have hw := hw g_14 e_15
      have hP : va_P (dC, dI) vwCl ((nW oN gN cA FN AN) ++ (sW oS gS cA FS (uA (uA AS 2 g_12) 3 g_14))) H := hP
      have hD : va_D A ((nW oN gN cA FN AN) ++ (sW oS gS cA FS (uA (uA AS 2 g_12) 3 g_14))) := hD
      refine lv_iload hx hb dX4_noteMoves_83 (lv_at hl 4 rfl) ?_
      refine lv_aload_n hx hb dX4_noteMoves_85 rfl (lv_at hl 1 rfl) ?_
      refine gz (q0 := 0) (v := .int (FN 0)) fx hK hP fl_X4_70 rfl rfl dX4_noteMoves_86 ?_
      refine lv_iconst (v := (1 : Int32)) hx hb dX4_noteMoves_89 (by decide) ?_
      refine lv_icmp_ne (tgt := 97) hx hb dX4_noteMoves_90 (by decide) (fun c_16 => ?_) (fun c_16 => ?_)
      · have hw := hw.1 c_16
        refine lv_iconst (v := (0 : Int32)) hx hb dX4_noteMoves_97 (by decide) ?_
        exact b_98 FS (uA (uA AS 2 g_12) 3 g_14) x4 (0 : Int32) _ _ _ hP hD hS (lv_sub hl [0, 2] rfl) hw
      · have hw := hw.2 c_16
        refine lv_iconst (v := (1 : Int32)) hx hb dX4_noteMoves_93 (by decide) ?_
        refine lv_goto (tgt := 98) hx hb dX4_noteMoves_94 (by decide) ?_
        exact b_98 FS (uA (uA AS 2 g_12) 3 g_14) x4 (1 : Int32) _ _ _ hP hD hS (lv_sub hl [0, 2] rfl) hw
    · have hw := hw.2 c_11
      refine lv_aload_n hx hb dX4_noteMoves_17 rfl (lv_at hl 1 rfl) ?_
      refine lv_iload_n hx hb dX4_noteMoves_18 rfl (lv_at hl 2 rfl) ?_
      refine lv_iload hx hb dX4_noteMoves_19 (lv_at hl 5 rfl) ?_
      refine caRoV (rest := []) (As := [.int x2, .int x5]) fx hK lk_X4_58 (c_X1_wants l dC dI cA oN gN FN AN x2 x5 _ hw) (hP.sub [0, 1, 2] rfl) 0 rfl rfl ⟨(Nat.le_of_ble_eq_true rfl), (Nat.le_of_ble_eq_true rfl)⟩ rfl hl.1 rfl (Nat.le_of_ble_eq_true rfl) dX4_noteMoves_21 ?_
      intro r_17 hw
      refine lv_istore (lv' := [(6, .int r_17), (0, .ref oS), (1, .ref oN), (2, .int x2), (3, .int x3), (4, .int x4), (5, .int x5)]) hx hb dX4_noteMoves_24 hl (by decide) rfl (fun ls hl => ?_)
      refine lv_iload_n hx hb dX4_noteMoves_26 rfl (lv_at hl 4 rfl) ?_
      refine lv_iload hx hb dX4_noteMoves_27 (lv_at hl 0 rfl) ?_
      refine lv_iconst (v := (3 : Int32)) hx hb dX4_noteMoves_29 (by decide) ?_
      refine lv_iload hx hb dX4_noteMoves_30 (lv_at hl 6 rfl) ?_
      refine lv_imul hx hb dX4_noteMoves_32 ?_
      refine lv_ishl hx hb dX4_noteMoves_33 ?_
      refine lv_ior hx hb dX4_noteMoves_34 ?_
      refine lv_istore_n (lv' := [(3, .int (x3 ||| (r_17 <<< (((3 : Int32) * x5) &&& 31)))), (6, .int r_17), (0, .ref oS), (1, .ref oN), (2, .int x2), (4, .int x4), (5, .int x5)]) hx hb dX4_noteMoves_35 rfl hl (by decide) rfl (fun ls hl => ?_)
      refine lv_iload hx hb dX4_noteMoves_36 (lv_at hl 5 rfl) ?_
      refine lv_iload hx hb dX4_noteMoves_38 (lv_at hl 1 rfl) ?_
      refine lv_aload_n hx hb dX4_noteMoves_40 rfl (lv_at hl 3 rfl) ?_
      refine lv_iload_n hx hb dX4_noteMoves_41 rfl (lv_at hl 4 rfl) ?_
      refine lv_iload hx hb dX4_noteMoves_42 (lv_at hl 6 rfl) ?_
      refine caRoV (rest := [.int r_17, .int x4]) (As := [.int x2, .int x5]) fx hK lk_X4_61 (c_X1_valueAt l dC dI cA oN gN FN AN x2 x5 _ hw) (hP.sub [0, 1, 2] rfl) 0 rfl rfl ⟨(Nat.le_of_ble_eq_true rfl), (Nat.le_of_ble_eq_true rfl)⟩ rfl hl.1 rfl (Nat.le_of_ble_eq_true rfl) dX4_noteMoves_44 ?_
      intro r_18 hw
      refine lv_icmp_eq (tgt := 54) hx hb dX4_noteMoves_47 (by decide) (fun c_19 => ?_) (fun c_19 => ?_)
      · have hw := hw.1 c_19
        refine lv_iconst (v := (0 : Int32)) hx hb dX4_noteMoves_54 (by decide) ?_
        exact b_55 (x3 ||| (r_17 <<< (((3 : Int32) * x5) &&& 31))) x5 x4 (0 : Int32) _ _ _ hP hD hS (lv_sub hl [2, 3, 4, 0, 6] rfl) hw
      · have hw := hw.2 c_19
        refine lv_iconst (v := (1 : Int32)) hx hb dX4_noteMoves_50 (by decide) ?_
        refine lv_goto (tgt := 55) hx hb dX4_noteMoves_51 (by decide) ?_
        exact b_55 (x3 ||| (r_17 <<< (((3 : Int32) * x5) &&& 31))) x5 x4 (1 : Int32) _ _ _ hP hD hS (lv_sub hl [2, 3, 4, 0, 6] rfl) hw
  refine lv_iconst (v := (0 : Int32)) hx hb dX4_noteMoves_0 (by decide) ?_
  refine lv_istore_n (lv' := [(3, .int (0 : Int32)), (0, .ref oS), (1, .ref oN), (2, .int x2)]) hx hb dX4_noteMoves_1 rfl hl (by decide) rfl (fun ls hl => ?_)
  refine lv_iconst (v := (0 : Int32)) hx hb dX4_noteMoves_2 (by decide) ?_
  refine lv_istore (lv' := [(4, .int (0 : Int32)), (3, .int (0 : Int32)), (0, .ref oS), (1, .ref oN), (2, .int x2)]) hx hb dX4_noteMoves_3 hl (by decide) rfl (fun ls hl => ?_)
  refine lv_iconst (v := (0 : Int32)) hx hb dX4_noteMoves_5 (by decide) ?_
  refine lv_istore (lv' := [(5, .int (0 : Int32)), (4, .int (0 : Int32)), (3, .int (0 : Int32)), (0, .ref oS), (1, .ref oN), (2, .int x2)]) hx hb dX4_noteMoves_6 hl (by decide) rfl (fun ls hl => ?_)
  exact b_8 FS AS (0 : Int32) (0 : Int32) (0 : Int32) _ _ _ hP hD hS (lv_sub hl [3, 4, 5, 2, 1, 0] rfl) hw
set_option maxHeartbeats 4000000 in
set_option maxRecDepth 100000 in
theorem c_X4_wantedBy (l : Launch) (dC : Nat → ClassId) (dI : Nat → Nat → Nat) (cA : ClassId) (oS : Nat) (gS : Nat → Nat) (FS : Nat → Int32) (AS : Nat → Nat → Int32) (x1 : Int32) (x2 : Int32) (Post : Int32 → Prop) (hw : wp_X4_wantedBy FS AS x1 x2 Post) : RoI (dC, dI) cA l yX4_wantedBy cX4_wantedBy 3 .int 1 21 [.ref oS, .int x1, .int x2] (sW oS gS cA FS AS) Post := by
  refine enRo (by decide) (Nat.le_of_ble_eq_true rfl) ?_
  intro p e s m args below meth c Q ls fx hK hP hret hl
  obtain ⟨hx, hb, hml, hown, hts⟩ := id fx
  have hl : lv_has ls 3 [(0, .ref oS), (1, .int x1), (2, .int x2)] := hl
  refine lv_aload_n hx hb dX4_wantedBy_0 rfl (lv_at hl 0 rfl) ?_
  refine gz (q0 := 0) (v := .ref (gS 2)) fx hK hP fl_X4_9 rfl rfl dX4_wantedBy_1 ?_
  refine lv_iload_n hx hb dX4_wantedBy_4 rfl (lv_at hl 1 rfl) ?_
  refine caRoS (rest := []) (As := [.ref (gS 2), .int x1]) fx hK lk_X4_73 (c_at l (dC, dI) cA (gS 2) 4096 (AS 2) x1 (by decide)) (hP.sub [1] rfl) ⟨(Nat.le_of_ble_eq_true rfl), (Nat.le_of_ble_eq_true rfl)⟩ rfl hl.1 rfl (Nat.le_of_ble_eq_true rfl) dX4_wantedBy_5 ?_
  intro r_3 e_4
  have hw := hw r_3 e_4
  refine lv_iconst (v := (3 : Int32)) hx hb dX4_wantedBy_8 (by decide) ?_
  refine lv_iload_n hx hb dX4_wantedBy_9 rfl (lv_at hl 2 rfl) ?_
  refine lv_imul hx hb dX4_wantedBy_10 ?_
  refine lv_ishr hx hb dX4_wantedBy_11 ?_
  refine lv_bipush (v := (7 : Int32)) hx hb dX4_wantedBy_12 (by decide) ?_
  refine lv_iand hx hb dX4_wantedBy_14 ?_
  exact hret _ _ _ dX4_wantedBy_15 rfl hw
set_option maxHeartbeats 4000000 in
set_option maxRecDepth 100000 in
theorem c_X4_reaches (l : Launch) (dC : Nat → ClassId) (dI : Nat → Nat → Nat) (cA : ClassId) (oS : Nat) (gS : Nat → Nat) (FS : Nat → Int32) (AS : Nat → Nat → Int32) (x1 : Int32) (x2 : Int32) (x3 : Int32) (x4 : Int32) (Post : Int32 → (Nat → Int32) → (Nat → Nat → Int32) → Prop) (hw : wp_X4_reaches FS AS x1 x2 x3 x4 Post) : MuI (dC, dI) cA l yX4_reaches cX4_reaches 6 .boolean 2 43 [.ref oS, .int x1, .int x2, .int x3, .int x4] (sW oS gS cA FS AS) (fun r (u : (Nat → Int32) × (Nat → Nat → Int32)) => Post r (u.1) (u.2)) (fun u => (sW oS gS cA (u.1) (u.2))) := by
  refine enMu (by decide) (Nat.le_of_ble_eq_true rfl) ?_
  intro p e s m args below meth c Q ls A fx hK hP hD hS hA hret hl
  obtain ⟨hx, hb, hml, hown, hts⟩ := id fx
  have hl : lv_has ls 6 [(0, .ref oS), (1, .int x1), (2, .int x2), (3, .int x3), (4, .int x4)] := hl
  have hP : va_P (dC, dI) vwCl (sW oS gS cA FS AS) s.heap := hP
  refine lv_iload_n hx hb dX4_reaches_0 rfl (lv_at hl 1 rfl) ?_
  refine lv_iconst (v := (2 : Int32)) hx hb dX4_reaches_1 (by decide) ?_
  refine lv_icmp_ne (tgt := 7) hx hb dX4_reaches_2 (by decide) (fun c_10 => ?_) (fun c_10 => ?_)
  · have hw := hw.1 c_10
    refine lv_aload_n hx hb dX4_reaches_7 rfl (lv_at hl 0 rfl) ?_
    refine lv_iload_n hx hb dX4_reaches_8 rfl (lv_at hl 2 rfl) ?_
    refine lv_iload_n hx hb dX4_reaches_9 rfl (lv_at hl 3 rfl) ?_
    refine caRoV (rest := []) (As := [.int x2, .int x3]) fx hK lk_X4_92 (c_X4_wantedBy l dC dI cA oS gS FS AS x2 x3 _ hw) (hP.sub [0, 1, 2, 3, 4, 5, 6] rfl) 0 rfl rfl ⟨(Nat.le_of_ble_eq_true rfl), (Nat.le_of_ble_eq_true rfl)⟩ rfl hl.1 rfl (Nat.le_of_ble_eq_true rfl) dX4_reaches_10 ?_
    intro r_11 hw
    refine lv_iload hx hb dX4_reaches_13 (lv_at hl 4 rfl) ?_
    refine lv_icmp_eq (tgt := 20) hx hb dX4_reaches_15 (by decide) (fun c_12 => ?_) (fun c_12 => ?_)
    · have hw := hw.1 c_12
      refine lv_iload_n hx hb dX4_reaches_20 rfl (lv_at hl 1 rfl) ?_
      refine lv_iconst (v := (1 : Int32)) hx hb dX4_reaches_21 (by decide) ?_
      refine lv_icmp_ne (tgt := 27) hx hb dX4_reaches_22 (by decide) (fun c_13 => ?_) (fun c_13 => ?_)
      · have hw := hw.1 c_13
        refine lv_aload_n hx hb dX4_reaches_27 rfl (lv_at hl 0 rfl) ?_
        refine gz (q0 := 0) (v := .ref (gS 3)) fx hK hP fl_X4_15 rfl rfl dX4_reaches_28 ?_
        refine lv_iload_n hx hb dX4_reaches_31 rfl (lv_at hl 2 rfl) ?_
        refine caRoS (rest := []) (As := [.ref (gS 3), .int x2]) fx hK lk_X4_73 (c_at l (dC, dI) cA (gS 3) 4096 (AS 3) x2 (by decide)) (hP.sub [2] rfl) ⟨(Nat.le_of_ble_eq_true rfl), (Nat.le_of_ble_eq_true rfl)⟩ rfl hl.1 rfl (Nat.le_of_ble_eq_true rfl) dX4_reaches_32 ?_
        intro r_14 e_15
        have hw := hw r_14 e_15
        refine lv_iconst (v := (1 : Int32)) hx hb dX4_reaches_35 (by decide) ?_
        refine lv_isub hx hb dX4_reaches_36 ?_
        refine lv_istore (lv' := [(5, .int (r_14 - (1 : Int32))), (0, .ref oS), (1, .int x1), (2, .int x2), (3, .int x3), (4, .int x4)]) hx hb dX4_reaches_37 hl (by decide) rfl (fun ls hl => ?_)
        refine lv_aload_n hx hb dX4_reaches_39 rfl (lv_at hl 1 rfl) ?_
        refine gz (q0 := 0) (v := .ref (gS 3)) fx hK hP fl_X4_15 rfl rfl dX4_reaches_40 ?_
        refine lv_iload_n hx hb dX4_reaches_43 rfl (lv_at hl 3 rfl) ?_
        refine lv_iload hx hb dX4_reaches_44 (lv_at hl 0 rfl) ?_
        refine caCell (rest := []) (As := [.ref (gS 3), .int x2, .int (r_14 - (1 : Int32))]) fx hK lk_X4_64 (c_put l (dC, dI) cA (gS 3) 4096 (AS 3) x2 (r_14 - (1 : Int32)) (by decide)) hP hD hS hA 2 rfl ⟨(Nat.le_of_ble_eq_true rfl), (Nat.le_of_ble_eq_true rfl)⟩ rfl hl.1 rfl (Nat.le_of_ble_eq_true rfl) dX4_reaches_46 ?_
        intro g_16 H locs e_17 hP hD hS
        have hw := hw g_16 e_17
        have hP : va_P (dC, dI) vwCl (sW oS gS cA FS (uA AS 3 g_16)) H := hP
        have hD : va_D A (sW oS gS cA FS (uA AS 3 g_16)) := hD
        refine lv_iload hx hb dX4_reaches_49 (lv_at hl 0 rfl) ?_
        refine lv_if_ne (tgt := 58) hx hb dX4_reaches_51 (by decide) (fun c_18 => ?_) (fun c_18 => ?_)
        · have hw := hw.1 c_18
          refine lv_iconst (v := (0 : Int32)) hx hb dX4_reaches_58 (by decide) ?_
          exact hret _ (FS, (uA AS 3 g_16)) _ _ _ _ dX4_reaches_59 rfl hw hP hD hS
        · have hw := hw.2 c_18
          refine lv_iconst (v := (1 : Int32)) hx hb dX4_reaches_54 (by decide) ?_
          refine lv_goto (tgt := 59) hx hb dX4_reaches_55 (by decide) ?_
          exact hret _ (FS, (uA AS 3 g_16)) _ _ _ _ dX4_reaches_59 rfl hw hP hD hS
      · have hw := hw.2 c_13
        refine lv_iconst (v := (1 : Int32)) hx hb dX4_reaches_25 (by decide) ?_
        exact hret _ (FS, AS) _ _ _ _ dX4_reaches_26 rfl hw hP hD hS
    · have hw := hw.2 c_12
      refine lv_iconst (v := (0 : Int32)) hx hb dX4_reaches_18 (by decide) ?_
      exact hret _ (FS, AS) _ _ _ _ dX4_reaches_19 rfl hw hP hD hS
  · have hw := hw.2 c_10
    refine lv_iconst (v := (1 : Int32)) hx hb dX4_reaches_5 (by decide) ?_
    exact hret _ (FS, AS) _ _ _ _ dX4_reaches_6 rfl hw hP hD hS
set_option maxHeartbeats 4000000 in
set_option maxRecDepth 100000 in
theorem c_X4_spreadBy_4 (l : Launch) (dC : Nat → ClassId) (dI : Nat → Nat → Nat) (cA : ClassId) (oN : Nat) (gN : Nat → Nat) (oS : Nat) (gS : Nat → Nat) (FN : Nat → Int32) (AN : Nat → Nat → Int32) (FS : Nat → Int32) (AS : Nat → Nat → Int32) (x3 : Int32) (x4 : Int32) (x5 : Int32) (x6 : Int32) (Post : Int32 → (Nat → Int32) → (Nat → Nat → Int32) → Prop) (hw : wp_X4_spreadBy_4 FN AN FS AS x3 x4 x5 x6 Post) : MuI (dC, dI) cA l yX4_spreadBy cX4_spreadBy 12 .int 3 68 [.ref oS, .ref oN, .ref (gS 4), .int x3, .int x4, .int x5, .int x6] ((nW oN gN cA FN AN) ++ (sW oS gS cA FS AS)) (fun r (u : (Nat → Int32) × (Nat → Nat → Int32)) => Post r (u.1) (u.2)) (fun u => ((nW oN gN cA FN AN) ++ (sW oS gS cA (u.1) (u.2)))) := by
  refine enMu (by decide) (Nat.le_of_ble_eq_true rfl) ?_
  intro p e s m args below meth c Q ls A fx hK hP hD hS hA hret hl
  obtain ⟨hx, hb, hml, hown, hts⟩ := id fx
  have hl : lv_has ls 12 [(0, .ref oS), (1, .ref oN), (2, .ref (gS 4)), (3, .int x3), (4, .int x4), (5, .int x5), (6, .int x6)] := hl
  have hP : va_P (dC, dI) vwCl ((nW oN gN cA FN AN) ++ (sW oS gS cA FS AS)) s.heap := hP
  have b_27 : ∀ (FS : Nat → Int32) (AS : Nat → Nat → Int32) (x7 : Int32) (x8 : Int32) (x9 : Int32) (x10 : Int32) (H : Heap) (locs : List Loc) (ls : Array Slot), va_P (dC, dI) vwCl ((nW oN gN cA FN AN) ++ (sW oS gS cA FS AS)) H → va_D A ((nW oN gN cA FN AN) ++ (sW oS gS cA FS AS)) → va_S A s.heap H locs → lv_has ls 12 [(0, .ref oS), (1, .ref oN), (2, .ref (gS 4)), (3, .int x3), (4, .int x4), (5, .int x5), (7, .int x7), (8, .int x8), (9, .int x9), (10, .int x10)] → wp_X4_spreadBy_4_27 FN AN FS AS x3 x4 x5 x7 x8 x9 x10 Post → W p l e ({ frames := 3, cells := 0, slots := 0, locals := 68 } : Room) s m args below meth c H locs 0 0 Q (F0 m 27 ls []) := by
    intro FS AS x7 x8 x9 x10 H locs ls hP hD hS hl hw
    refine Lp_go (C := fun (t : Int32 × Int32 × (Nat → Int32) × (Nat → Nat → Int32)) => ∀ (H : Heap) (locs : List Loc) (ls : Array Slot), va_P (dC, dI) vwCl ((nW oN gN cA FN AN) ++ (sW oS gS cA (t.2.2.1) (t.2.2.2))) H → va_D A ((nW oN gN cA FN AN) ++ (sW oS gS cA (t.2.2.1) (t.2.2.2))) → va_S A s.heap H locs → lv_has ls 12 [(0, .ref oS), (1, .ref oN), (2, .ref (gS 4)), (3, .int x3), (4, .int x4), (5, .int x5), (7, .int (t.1)), (8, .int x8), (9, .int x9), (10, .int (t.2.1))] → W p l e ({ frames := 3, cells := 0, slots := 0, locals := 68 } : Room) s m args below meth c H locs 0 0 Q (F0 m 27 ls [])) ?_ hw H locs ls hP hD hS hl
    intro k_27 hk_27 t
    obtain ⟨x7, x10, FS, AS⟩ := t
    intro hw H locs ls hP hD hS hl
    have hP : va_P (dC, dI) vwCl ((nW oN gN cA FN AN) ++ (sW oS gS cA FS AS)) H := hP
    have hD : va_D A ((nW oN gN cA FN AN) ++ (sW oS gS cA FS AS)) := hD
    have hl : lv_has ls 12 [(0, .ref oS), (1, .ref oN), (2, .ref (gS 4)), (3, .int x3), (4, .int x4), (5, .int x5), (7, .int x7), (8, .int x8), (9, .int x9), (10, .int x10)] := hl
    have hw : st_X4_spreadBy_4_27 FN AN x3 x4 x5 x8 x9 Post k_27 x7 x10 FS AS := hw
    refine lv_iload hx hb dX4_spreadBy_27 (lv_at hl 9 rfl) ?_
    refine lv_aload_n hx hb dX4_spreadBy_29 rfl (lv_at hl 1 rfl) ?_
    refine gz (q0 := 0) (v := .int (FN 2)) fx hK hP fl_X4_81 rfl rfl dX4_spreadBy_30 ?_
    refine lv_icmp_ge (tgt := 106) hx hb dX4_spreadBy_33 (by decide) (fun c_4 => ?_) (fun c_4 => ?_)
    · have hw := hw.1 c_4
      refine lv_iload hx hb dX4_spreadBy_106 (lv_at hl 6 rfl) ?_
      exact hret _ (FS, AS) _ _ _ _ dX4_spreadBy_108 rfl hw hP hD hS
    · have hw := hw.2 c_4
      refine lv_aload_n hx hb dX4_spreadBy_36 rfl (lv_at hl 1 rfl) ?_
      refine lv_iload hx hb dX4_spreadBy_37 (lv_at hl 4 rfl) ?_
      refine lv_iload hx hb dX4_spreadBy_39 (lv_at hl 5 rfl) ?_
      refine lv_iload hx hb dX4_spreadBy_41 (lv_at hl 9 rfl) ?_
      refine caRoV (rest := []) (As := [.int x4, .int x5, .int x10]) fx hK lk_X4_84 (c_X1_withValue l dC dI cA oN gN FN AN x4 x5 x10 _ hw) (hP.sub [0, 1, 2] rfl) 0 rfl rfl ⟨(Nat.le_of_ble_eq_true rfl), (Nat.le_of_ble_eq_true rfl)⟩ rfl hl.1 rfl (Nat.le_of_ble_eq_true rfl) dX4_spreadBy_43 ?_
      intro r_5 hw
      refine lv_istore (lv' := [(11, .int r_5), (0, .ref oS), (1, .ref oN), (2, .ref (gS 4)), (3, .int x3), (4, .int x4), (5, .int x5), (7, .int x7), (8, .int x8), (9, .int x9), (10, .int x10)]) hx hb dX4_spreadBy_46 hl (by decide) rfl (fun ls hl => ?_)
      refine lv_iload hx hb dX4_spreadBy_48 (lv_at hl 10 rfl) ?_
      refine lv_iload hx hb dX4_spreadBy_50 (lv_at hl 9 rfl) ?_
      refine lv_icmp_eq (tgt := 100) hx hb dX4_spreadBy_52 (by decide) (fun c_6 => ?_) (fun c_6 => ?_)
      · have hw := hw.1 c_6
        refine lv_iinc (v := (x10 + 1)) (lv' := [(10, .int (x10 + 1)), (11, .int r_5), (0, .ref oS), (1, .ref oN), (2, .ref (gS 4)), (3, .int x3), (4, .int x4), (5, .int x5), (7, .int x7), (8, .int x8), (9, .int x9)]) hx hb dX4_spreadBy_100 hl (k := 10) rfl rfl (by decide) rfl (fun ls hl => ?_)
        refine lv_goto (tgt := 27) hx hb dX4_spreadBy_103 (by decide) ?_
        exact hk_27 (x7, (x10 + 1), FS, AS) hw _ _ _ hP hD hS (lv_sub hl [2, 3, 4, 5, 6, 7, 8, 9, 10, 0] rfl)
      · have hw := hw.2 c_6
        refine lv_aload_n hx hb dX4_spreadBy_55 rfl (lv_at hl 3 rfl) ?_
        refine lv_iload hx hb dX4_spreadBy_56 (lv_at hl 0 rfl) ?_
        refine caRoS (rest := []) (As := [.ref (gS 4), .int r_5]) fx hK lk_X4_73 (c_at l (dC, dI) cA (gS 4) 4096 (AS 4) r_5 (by decide)) (hP.sub [6] rfl) ⟨(Nat.le_of_ble_eq_true rfl), (Nat.le_of_ble_eq_true rfl)⟩ rfl hl.1 rfl (Nat.le_of_ble_eq_true rfl) dX4_spreadBy_58 ?_
        intro r_7 e_8
        have hw := hw r_7 e_8
        refine lv_if_ge (tgt := 100) hx hb dX4_spreadBy_61 (by decide) (fun c_9 => ?_) (fun c_9 => ?_)
        · have hw := hw.1 c_9
          refine lv_iinc (v := (x10 + 1)) (lv' := [(10, .int (x10 + 1)), (11, .int r_5), (0, .ref oS), (1, .ref oN), (2, .ref (gS 4)), (3, .int x3), (4, .int x4), (5, .int x5), (7, .int x7), (8, .int x8), (9, .int x9)]) hx hb dX4_spreadBy_100 hl (k := 10) rfl rfl (by decide) rfl (fun ls hl => ?_)
          refine lv_goto (tgt := 27) hx hb dX4_spreadBy_103 (by decide) ?_
          exact hk_27 (x7, (x10 + 1), FS, AS) hw _ _ _ hP hD hS (lv_sub hl [2, 3, 4, 5, 6, 7, 8, 9, 10, 0] rfl)
        · have hw := hw.2 c_9
          refine lv_aload_n hx hb dX4_spreadBy_64 rfl (lv_at hl 1 rfl) ?_
          refine lv_iload_n hx hb dX4_spreadBy_65 rfl (lv_at hl 4 rfl) ?_
          refine lv_iload hx hb dX4_spreadBy_66 (lv_at hl 0 rfl) ?_
          refine lv_iload hx hb dX4_spreadBy_68 (lv_at hl 6 rfl) ?_
          refine lv_iload hx hb dX4_spreadBy_70 (lv_at hl 9 rfl) ?_
          refine caMuV (rest := []) (As := [.int x3, .int r_5, .int x5, .int x9]) (w1 := (nW oN gN cA FN AN)) (w2 := ([] : va_W)) fx hK lk_X4_88 (c_X4_reaches l dC dI cA oS gS FS AS x3 r_5 x5 x9 _ hw) hP hD hS hA 0 rfl rfl ⟨(Nat.le_of_ble_eq_true rfl), (Nat.le_of_ble_eq_true rfl)⟩ rfl hl.1 rfl (Nat.le_of_ble_eq_true rfl) dX4_spreadBy_72 ?_
          intro r_13 u_12 H locs hw hP hD hS
          obtain ⟨FS_10, AS_11⟩ := u_12
          have hP : va_P (dC, dI) vwCl ((nW oN gN cA FN AN) ++ (sW oS gS cA FS_10 AS_11)) H := hP
          have hD : va_D A ((nW oN gN cA FN AN) ++ (sW oS gS cA FS_10 AS_11)) := hD
          try dsimp only at hw
          refine lv_if_eq (tgt := 100) hx hb dX4_spreadBy_75 (by decide) (fun c_14 => ?_) (fun c_14 => ?_)
          · have hw := hw.1 c_14
            refine lv_iinc (v := (x10 + 1)) (lv' := [(10, .int (x10 + 1)), (11, .int r_5), (0, .ref oS), (1, .ref oN), (2, .ref (gS 4)), (3, .int x3), (4, .int x4), (5, .int x5), (7, .int x7), (8, .int x8), (9, .int x9)]) hx hb dX4_spreadBy_100 hl (k := 10) rfl rfl (by decide) rfl (fun ls hl => ?_)
            refine lv_goto (tgt := 27) hx hb dX4_spreadBy_103 (by decide) ?_
            exact hk_27 (x7, (x10 + 1), FS_10, AS_11) hw _ _ _ hP hD hS (lv_sub hl [2, 3, 4, 5, 6, 7, 8, 9, 10, 0] rfl)
          · have hw := hw.2 c_14
            refine lv_aload_n hx hb dX4_spreadBy_78 rfl (lv_at hl 3 rfl) ?_
            refine lv_iload hx hb dX4_spreadBy_79 (lv_at hl 0 rfl) ?_
            refine lv_iload hx hb dX4_spreadBy_81 (lv_at hl 8 rfl) ?_
            refine caCell (rest := []) (As := [.ref (gS 4), .int r_5, .int x8]) fx hK lk_X4_64 (c_put l (dC, dI) cA (gS 4) 4096 (AS_11 4) r_5 x8 (by decide)) hP hD hS hA 6 rfl ⟨(Nat.le_of_ble_eq_true rfl), (Nat.le_of_ble_eq_true rfl)⟩ rfl hl.1 rfl (Nat.le_of_ble_eq_true rfl) dX4_spreadBy_83 ?_
            intro g_15 H locs e_16 hP hD hS
            have hw := hw g_15 e_16
            have hP : va_P (dC, dI) vwCl ((nW oN gN cA FN AN) ++ (sW oS gS cA FS_10 (uA AS_11 4 g_15))) H := hP
            have hD : va_D A ((nW oN gN cA FN AN) ++ (sW oS gS cA FS_10 (uA AS_11 4 g_15))) := hD
            refine lv_aload_n hx hb dX4_spreadBy_86 rfl (lv_at hl 1 rfl) ?_
            refine gz (q0 := 3) (v := .ref (gS 7)) fx hK hP fl_X4_27 rfl rfl dX4_spreadBy_87 ?_
            refine lv_iload hx hb dX4_spreadBy_90 (lv_at hl 7 rfl) ?_
            refine lv_iload hx hb dX4_spreadBy_92 (lv_at hl 0 rfl) ?_
            refine caCell (rest := []) (As := [.ref (gS 7), .int x7, .int r_5]) fx hK lk_X4_64 (c_put l (dC, dI) cA (gS 7) 4096 (AS_11 7) x7 r_5 (by decide)) hP hD hS hA 9 rfl ⟨(Nat.le_of_ble_eq_true rfl), (Nat.le_of_ble_eq_true rfl)⟩ rfl hl.1 rfl (Nat.le_of_ble_eq_true rfl) dX4_spreadBy_94 ?_
            intro g_17 H locs e_18 hP hD hS
            have hw := hw g_17 e_18
            have hP : va_P (dC, dI) vwCl ((nW oN gN cA FN AN) ++ (sW oS gS cA FS_10 (uA (uA AS_11 4 g_15) 7 g_17))) H := hP
            have hD : va_D A ((nW oN gN cA FN AN) ++ (sW oS gS cA FS_10 (uA (uA AS_11 4 g_15) 7 g_17))) := hD
            refine lv_iinc (v := (x7 + 1)) (lv' := [(7, .int (x7 + 1)), (11, .int r_5), (0, .ref oS), (1, .ref oN), (2, .ref (gS 4)), (3, .int x3), (4, .int x4), (5, .int x5), (8, .int x8), (9, .int x9), (10, .int x10)]) hx hb dX4_spreadBy_97 hl (k := 7) rfl rfl (by decide) rfl (fun ls hl => ?_)
            refine lv_iinc (v := (x10 + 1)) (lv' := [(10, .int (x10 + 1)), (7, .int (x7 + 1)), (11, .int r_5), (0, .ref oS), (1, .ref oN), (2, .ref (gS 4)), (3, .int x3), (4, .int x4), (5, .int x5), (8, .int x8), (9, .int x9)]) hx hb dX4_spreadBy_100 hl (k := 10) rfl rfl (by decide) rfl (fun ls hl => ?_)
            refine lv_goto (tgt := 27) hx hb dX4_spreadBy_103 (by decide) ?_
            exact hk_27 ((x7 + 1), (x10 + 1), FS_10, (uA (uA AS_11 4 g_15) 7 g_17)) hw _ _ _ hP hD hS (lv_sub hl [3, 4, 5, 6, 7, 8, 1, 9, 10, 0] rfl)
  refine lv_iload hx hb dX4_spreadBy_0 (lv_at hl 6 rfl) ?_
  refine lv_istore (lv' := [(7, .int x6), (0, .ref oS), (1, .ref oN), (2, .ref (gS 4)), (3, .int x3), (4, .int x4), (5, .int x5), (6, .int x6)]) hx hb dX4_spreadBy_2 hl (by decide) rfl (fun ls hl => ?_)
  refine lv_aload_n hx hb dX4_spreadBy_4 rfl (lv_at hl 3 rfl) ?_
  refine lv_iload hx hb dX4_spreadBy_5 (lv_at hl 5 rfl) ?_
  refine caRoS (rest := []) (As := [.ref (gS 4), .int x4]) fx hK lk_X4_73 (c_at l (dC, dI) cA (gS 4) 4096 (AS 4) x4 (by decide)) (hP.sub [6] rfl) ⟨(Nat.le_of_ble_eq_true rfl), (Nat.le_of_ble_eq_true rfl)⟩ rfl hl.1 rfl (Nat.le_of_ble_eq_true rfl) dX4_spreadBy_7 ?_
  intro r_19 e_20
  have hw := hw r_19 e_20
  refine lv_iconst (v := (1 : Int32)) hx hb dX4_spreadBy_10 (by decide) ?_
  refine lv_iadd hx hb dX4_spreadBy_11 ?_
  refine lv_istore (lv' := [(8, .int (r_19 + (1 : Int32))), (7, .int x6), (0, .ref oS), (1, .ref oN), (2, .ref (gS 4)), (3, .int x3), (4, .int x4), (5, .int x5), (6, .int x6)]) hx hb dX4_spreadBy_12 hl (by decide) rfl (fun ls hl => ?_)
  refine lv_aload_n hx hb dX4_spreadBy_14 rfl (lv_at hl 3 rfl) ?_
  refine lv_iload hx hb dX4_spreadBy_15 (lv_at hl 6 rfl) ?_
  refine lv_iload hx hb dX4_spreadBy_17 (lv_at hl 7 rfl) ?_
  refine caRoV (rest := []) (As := [.int x4, .int x5]) fx hK lk_X4_61 (c_X1_valueAt l dC dI cA oN gN FN AN x4 x5 _ hw) (hP.sub [0, 1, 2] rfl) 0 rfl rfl ⟨(Nat.le_of_ble_eq_true rfl), (Nat.le_of_ble_eq_true rfl)⟩ rfl hl.1 rfl (Nat.le_of_ble_eq_true rfl) dX4_spreadBy_19 ?_
  intro r_21 hw
  refine lv_istore (lv' := [(9, .int r_21), (8, .int (r_19 + (1 : Int32))), (7, .int x6), (0, .ref oS), (1, .ref oN), (2, .ref (gS 4)), (3, .int x3), (4, .int x4), (5, .int x5), (6, .int x6)]) hx hb dX4_spreadBy_22 hl (by decide) rfl (fun ls hl => ?_)
  refine lv_iconst (v := (0 : Int32)) hx hb dX4_spreadBy_24 (by decide) ?_
  refine lv_istore (lv' := [(10, .int (0 : Int32)), (9, .int r_21), (8, .int (r_19 + (1 : Int32))), (7, .int x6), (0, .ref oS), (1, .ref oN), (2, .ref (gS 4)), (3, .int x3), (4, .int x4), (5, .int x5), (6, .int x6)]) hx hb dX4_spreadBy_25 hl (by decide) rfl (fun ls hl => ?_)
  exact b_27 FS AS x6 (r_19 + (1 : Int32)) r_21 (0 : Int32) _ _ _ hP hD hS (lv_sub hl [4, 5, 6, 7, 8, 9, 3, 2, 1, 0] rfl) hw
set_option maxHeartbeats 4000000 in
set_option maxRecDepth 100000 in
theorem c_X4_spread_4 (l : Launch) (dC : Nat → ClassId) (dI : Nat → Nat → Nat) (cA : ClassId) (oN : Nat) (gN : Nat → Nat) (oS : Nat) (gS : Nat → Nat) (FN : Nat → Int32) (AN : Nat → Nat → Int32) (FS : Nat → Int32) (AS : Nat → Nat → Int32) (x3 : Int32) (Post : (Nat → Int32) → (Nat → Nat → Int32) → Prop) (hw : wp_X4_spread_4 FN AN FS AS x3 Post) : MuV (dC, dI) cA l yX4_spread cX4_spread 8 4 99 [.ref oS, .ref oN, .ref (gS 4), .int x3] ((nW oN gN cA FN AN) ++ (sW oS gS cA FS AS)) (fun (u : (Nat → Int32) × (Nat → Nat → Int32)) => Post (u.1) (u.2)) (fun u => ((nW oN gN cA FN AN) ++ (sW oS gS cA (u.1) (u.2)))) := by
  refine enMv (by decide) (Nat.le_of_ble_eq_true rfl) ?_
  intro p e s m args below meth c Q ls A fx hK hP hD hS hA hret hl
  obtain ⟨hx, hb, hml, hown, hts⟩ := id fx
  have hl : lv_has ls 8 [(0, .ref oS), (1, .ref oN), (2, .ref (gS 4)), (3, .int x3)] := hl
  have hP : va_P (dC, dI) vwCl ((nW oN gN cA FN AN) ++ (sW oS gS cA FS AS)) s.heap := hP
  have b_47 : ∀ (FS : Nat → Int32) (AS : Nat → Nat → Int32) (x4 : Int32) (x5 : Int32) (H : Heap) (locs : List Loc) (ls : Array Slot), va_P (dC, dI) vwCl ((nW oN gN cA FN AN) ++ (sW oS gS cA FS AS)) H → va_D A ((nW oN gN cA FN AN) ++ (sW oS gS cA FS AS)) → va_S A s.heap H locs → lv_has ls 8 [(0, .ref oS), (1, .ref oN), (2, .ref (gS 4)), (3, .int x3), (4, .int x4), (5, .int x5)] → wp_X4_spread_4_47 FN AN FS AS x3 x4 x5 Post → W p l e ({ frames := 4, cells := 0, slots := 0, locals := 99 } : Room) s m args below meth c H locs 0 0 Q (F0 m 47 ls []) := by
    intro FS AS x4 x5 H locs ls hP hD hS hl hw
    refine Lp_go (C := fun (t : Int32 × Int32 × (Nat → Int32) × (Nat → Nat → Int32)) => ∀ (H : Heap) (locs : List Loc) (ls : Array Slot), va_P (dC, dI) vwCl ((nW oN gN cA FN AN) ++ (sW oS gS cA (t.2.2.1) (t.2.2.2))) H → va_D A ((nW oN gN cA FN AN) ++ (sW oS gS cA (t.2.2.1) (t.2.2.2))) → va_S A s.heap H locs → lv_has ls 8 [(0, .ref oS), (1, .ref oN), (2, .ref (gS 4)), (3, .int x3), (4, .int (t.1)), (5, .int (t.2.1))] → W p l e ({ frames := 4, cells := 0, slots := 0, locals := 99 } : Room) s m args below meth c H locs 0 0 Q (F0 m 47 ls [])) ?_ hw H locs ls hP hD hS hl
    intro k_47 hk_47 t
    obtain ⟨x4, x5, FS, AS⟩ := t
    intro hw H locs ls hP hD hS hl
    have hP : va_P (dC, dI) vwCl ((nW oN gN cA FN AN) ++ (sW oS gS cA FS AS)) H := hP
    have hD : va_D A ((nW oN gN cA FN AN) ++ (sW oS gS cA FS AS)) := hD
    have hl : lv_has ls 8 [(0, .ref oS), (1, .ref oN), (2, .ref (gS 4)), (3, .int x3), (4, .int x4), (5, .int x5)] := hl
    have hw : st_X4_spread_4_47 FN AN x3 Post k_47 x4 x5 FS AS := hw
    have b_76 : ∀ (FS : Nat → Int32) (AS : Nat → Nat → Int32) (x4 : Int32) (x5 : Int32) (x6 : Int32) (x7 : Int32) (H : Heap) (locs : List Loc) (ls : Array Slot), va_P (dC, dI) vwCl ((nW oN gN cA FN AN) ++ (sW oS gS cA FS AS)) H → va_D A ((nW oN gN cA FN AN) ++ (sW oS gS cA FS AS)) → va_S A s.heap H locs → lv_has ls 8 [(0, .ref oS), (1, .ref oN), (2, .ref (gS 4)), (3, .int x3), (4, .int x4), (5, .int x5), (6, .int x6), (7, .int x7)] → wp_X4_spread_4_76 FN AN FS AS x3 x4 x5 x6 x7 k_47 Post → W p l e ({ frames := 4, cells := 0, slots := 0, locals := 99 } : Room) s m args below meth c H locs 0 0 Q (F0 m 76 ls []) := by
      intro FS AS x4 x5 x6 x7 H locs ls hP hD hS hl hw
      refine Lp_go (C := fun (t : Int32 × Int32 × (Nat → Int32) × (Nat → Nat → Int32)) => ∀ (H : Heap) (locs : List Loc) (ls : Array Slot), va_P (dC, dI) vwCl ((nW oN gN cA FN AN) ++ (sW oS gS cA (t.2.2.1) (t.2.2.2))) H → va_D A ((nW oN gN cA FN AN) ++ (sW oS gS cA (t.2.2.1) (t.2.2.2))) → va_S A s.heap H locs → lv_has ls 8 [(0, .ref oS), (1, .ref oN), (2, .ref (gS 4)), (3, .int x3), (4, .int (t.1)), (5, .int x5), (6, .int x6), (7, .int (t.2.1))] → W p l e ({ frames := 4, cells := 0, slots := 0, locals := 99 } : Room) s m args below meth c H locs 0 0 Q (F0 m 76 ls [])) ?_ hw H locs ls hP hD hS hl
      intro k_76 hk_76 t
      obtain ⟨x4, x7, FS, AS⟩ := t
      intro hw H locs ls hP hD hS hl
      have hP : va_P (dC, dI) vwCl ((nW oN gN cA FN AN) ++ (sW oS gS cA FS AS)) H := hP
      have hD : va_D A ((nW oN gN cA FN AN) ++ (sW oS gS cA FS AS)) := hD
      have hl : lv_has ls 8 [(0, .ref oS), (1, .ref oN), (2, .ref (gS 4)), (3, .int x3), (4, .int x4), (5, .int x5), (6, .int x6), (7, .int x7)] := hl
      have hw : st_X4_spread_4_76 FN AN x3 x5 x6 k_47 Post k_76 x4 x7 FS AS := hw
      refine lv_iload hx hb dX4_spread_76 (lv_at hl 7 rfl) ?_
      refine lv_aload_n hx hb dX4_spread_78 rfl (lv_at hl 1 rfl) ?_
      refine gz (q0 := 0) (v := .int (FN 1)) fx hK hP fl_X4_55 rfl rfl dX4_spread_79 ?_
      refine lv_icmp_ge (tgt := 106) hx hb dX4_spread_82 (by decide) (fun c_1 => ?_) (fun c_1 => ?_)
      · have hw := hw.1 c_1
        refine lv_iinc (v := (x5 + 1)) (lv' := [(5, .int (x5 + 1)), (0, .ref oS), (1, .ref oN), (2, .ref (gS 4)), (3, .int x3), (4, .int x4), (6, .int x6), (7, .int x7)]) hx hb dX4_spread_106 hl (k := 5) rfl rfl (by decide) rfl (fun ls hl => ?_)
        refine lv_goto (tgt := 47) hx hb dX4_spread_109 (by decide) ?_
        exact hk_47 (x4, (x5 + 1), FS, AS) hw _ _ _ hP hD hS (lv_sub hl [1, 2, 3, 4, 5, 0] rfl)
      · have hw := hw.2 c_1
        refine lv_aload_n hx hb dX4_spread_85 rfl (lv_at hl 0 rfl) ?_
        refine lv_aload_n hx hb dX4_spread_86 rfl (lv_at hl 1 rfl) ?_
        refine lv_aload_n hx hb dX4_spread_87 rfl (lv_at hl 2 rfl) ?_
        refine lv_iload_n hx hb dX4_spread_88 rfl (lv_at hl 3 rfl) ?_
        refine lv_iload hx hb dX4_spread_89 (lv_at hl 6 rfl) ?_
        refine lv_iload hx hb dX4_spread_91 (lv_at hl 7 rfl) ?_
        refine lv_iload hx hb dX4_spread_93 (lv_at hl 4 rfl) ?_
        refine caMuV (rest := []) (As := [.ref oN, .ref (gS 4), .int x3, .int x6, .int x7, .int x4]) (w1 := ([] : va_W)) (w2 := ([] : va_W)) fx hK lk_X4_77 (c_X4_spreadBy_4 l dC dI cA oN gN oS gS FN AN FS AS x3 x6 x7 x4 _ hw) hP hD hS hA 3 rfl rfl ⟨(Nat.le_of_ble_eq_true rfl), (Nat.le_of_ble_eq_true rfl)⟩ rfl hl.1 rfl (Nat.le_of_ble_eq_true rfl) dX4_spread_95 ?_
        intro r_5 u_4 H locs hw hP hD hS
        obtain ⟨FS_2, AS_3⟩ := u_4
        have hP : va_P (dC, dI) vwCl ((nW oN gN cA FN AN) ++ (sW oS gS cA FS_2 AS_3)) H := hP
        have hD : va_D A ((nW oN gN cA FN AN) ++ (sW oS gS cA FS_2 AS_3)) := hD
        try dsimp only at hw
        refine lv_istore (lv' := [(4, .int r_5), (0, .ref oS), (1, .ref oN), (2, .ref (gS 4)), (3, .int x3), (5, .int x5), (6, .int x6), (7, .int x7)]) hx hb dX4_spread_98 hl (by decide) rfl (fun ls hl => ?_)
        refine lv_iinc (v := (x7 + 1)) (lv' := [(7, .int (x7 + 1)), (4, .int r_5), (0, .ref oS), (1, .ref oN), (2, .ref (gS 4)), (3, .int x3), (5, .int x5), (6, .int x6)]) hx hb dX4_spread_100 hl (k := 7) rfl rfl (by decide) rfl (fun ls hl => ?_)
        refine lv_goto (tgt := 76) hx hb dX4_spread_103 (by decide) ?_
        exact hk_76 (r_5, (x7 + 1), FS_2, AS_3) hw _ _ _ hP hD hS (lv_sub hl [2, 3, 4, 5, 1, 6, 7, 0] rfl)
    refine lv_iload hx hb dX4_spread_47 (lv_at hl 5 rfl) ?_
    refine lv_iload hx hb dX4_spread_49 (lv_at hl 4 rfl) ?_
    refine lv_icmp_ge (tgt := 112) hx hb dX4_spread_51 (by decide) (fun c_6 => ?_) (fun c_6 => ?_)
    · have hw := hw.1 c_6
      exact hret (FS, AS) _ _ _ _ dX4_spread_112 hw hP hD hS
    · have hw := hw.2 c_6
      refine lv_iload hx hb dX4_spread_54 (lv_at hl 5 rfl) ?_
      refine lv_sipush (v := (4096 : Int32)) hx hb dX4_spread_56 (by decide) ?_
      refine lv_icmp_ge (tgt := 112) hx hb dX4_spread_59 (by decide) (fun c_7 => ?_) (fun c_7 => ?_)
      · have hw := hw.1 c_7
        exact hret (FS, AS) _ _ _ _ dX4_spread_112 hw hP hD hS
      · have hw := hw.2 c_7
        refine lv_aload_n hx hb dX4_spread_62 rfl (lv_at hl 0 rfl) ?_
        refine gz (q0 := 3) (v := .ref (gS 7)) fx hK hP fl_X4_27 rfl rfl dX4_spread_63 ?_
        refine lv_iload hx hb dX4_spread_66 (lv_at hl 5 rfl) ?_
        refine caRoS (rest := []) (As := [.ref (gS 7), .int x5]) fx hK lk_X4_73 (c_at l (dC, dI) cA (gS 7) 4096 (AS 7) x5 (by decide)) (hP.sub [9] rfl) ⟨(Nat.le_of_ble_eq_true rfl), (Nat.le_of_ble_eq_true rfl)⟩ rfl hl.1 rfl (Nat.le_of_ble_eq_true rfl) dX4_spread_68 ?_
        intro r_8 e_9
        have hw := hw r_8 e_9
        refine lv_istore (lv' := [(6, .int r_8), (0, .ref oS), (1, .ref oN), (2, .ref (gS 4)), (3, .int x3), (4, .int x4), (5, .int x5)]) hx hb dX4_spread_71 hl (by decide) rfl (fun ls hl => ?_)
        refine lv_iconst (v := (0 : Int32)) hx hb dX4_spread_73 (by decide) ?_
        refine lv_istore (lv' := [(7, .int (0 : Int32)), (6, .int r_8), (0, .ref oS), (1, .ref oN), (2, .ref (gS 4)), (3, .int x3), (4, .int x4), (5, .int x5)]) hx hb dX4_spread_74 hl (by decide) rfl (fun ls hl => ?_)
        exact b_76 FS AS x4 x5 r_8 (0 : Int32) _ _ _ hP hD hS (lv_sub hl [2, 3, 4, 5, 6, 7, 1, 0] rfl) hw
  have b_6 : ∀ (FS : Nat → Int32) (AS : Nat → Nat → Int32) (x4 : Int32) (x5 : Int32) (H : Heap) (locs : List Loc) (ls : Array Slot), va_P (dC, dI) vwCl ((nW oN gN cA FN AN) ++ (sW oS gS cA FS AS)) H → va_D A ((nW oN gN cA FN AN) ++ (sW oS gS cA FS AS)) → va_S A s.heap H locs → lv_has ls 8 [(0, .ref oS), (1, .ref oN), (2, .ref (gS 4)), (3, .int x3), (4, .int x4), (5, .int x5)] → wp_X4_spread_4_6 FN AN FS AS x3 x4 x5 Post → W p l e ({ frames := 4, cells := 0, slots := 0, locals := 99 } : Room) s m args below meth c H locs 0 0 Q (F0 m 6 ls []) := by
    intro FS AS x4 x5 H locs ls hP hD hS hl hw
    refine Lp_go (C := fun (t : Int32 × Int32 × (Nat → Int32) × (Nat → Nat → Int32)) => ∀ (H : Heap) (locs : List Loc) (ls : Array Slot), va_P (dC, dI) vwCl ((nW oN gN cA FN AN) ++ (sW oS gS cA (t.2.2.1) (t.2.2.2))) H → va_D A ((nW oN gN cA FN AN) ++ (sW oS gS cA (t.2.2.1) (t.2.2.2))) → va_S A s.heap H locs → lv_has ls 8 [(0, .ref oS), (1, .ref oN), (2, .ref (gS 4)), (3, .int x3), (4, .int (t.1)), (5, .int (t.2.1))] → W p l e ({ frames := 4, cells := 0, slots := 0, locals := 99 } : Room) s m args below meth c H locs 0 0 Q (F0 m 6 ls [])) ?_ hw H locs ls hP hD hS hl
    intro k_6 hk_6 t
    obtain ⟨x4, x5, FS, AS⟩ := t
    intro hw H locs ls hP hD hS hl
    have hP : va_P (dC, dI) vwCl ((nW oN gN cA FN AN) ++ (sW oS gS cA FS AS)) H := hP
    have hD : va_D A ((nW oN gN cA FN AN) ++ (sW oS gS cA FS AS)) := hD
    have hl : lv_has ls 8 [(0, .ref oS), (1, .ref oN), (2, .ref (gS 4)), (3, .int x3), (4, .int x4), (5, .int x5)] := hl
    have hw : st_X4_spread_4_6 FN AN x3 Post k_6 x4 x5 FS AS := hw
    refine lv_iload hx hb dX4_spread_6 (lv_at hl 5 rfl) ?_
    refine lv_aload_n hx hb dX4_spread_8 rfl (lv_at hl 0 rfl) ?_
    refine gz (q0 := 3) (v := .int (FS 1)) fx hK hP fl_X4_46 rfl rfl dX4_spread_9 ?_
    refine lv_icmp_ge (tgt := 44) hx hb dX4_spread_12 (by decide) (fun c_10 => ?_) (fun c_10 => ?_)
    · have hw := hw.1 c_10
      refine lv_iconst (v := (0 : Int32)) hx hb dX4_spread_44 (by decide) ?_
      refine lv_istore (lv' := [(5, .int (0 : Int32)), (0, .ref oS), (1, .ref oN), (2, .ref (gS 4)), (3, .int x3), (4, .int x4)]) hx hb dX4_spread_45 hl (by decide) rfl (fun ls hl => ?_)
      exact b_47 FS AS x4 (0 : Int32) _ _ _ hP hD hS (lv_sub hl [1, 2, 3, 4, 5, 0] rfl) hw
    · have hw := hw.2 c_10
      refine lv_aload_n hx hb dX4_spread_15 rfl (lv_at hl 2 rfl) ?_
      refine lv_iload hx hb dX4_spread_16 (lv_at hl 5 rfl) ?_
      refine caRoS (rest := []) (As := [.ref (gS 4), .int x5]) fx hK lk_X4_73 (c_at l (dC, dI) cA (gS 4) 4096 (AS 4) x5 (by decide)) (hP.sub [6] rfl) ⟨(Nat.le_of_ble_eq_true rfl), (Nat.le_of_ble_eq_true rfl)⟩ rfl hl.1 rfl (Nat.le_of_ble_eq_true rfl) dX4_spread_18 ?_
      intro r_11 e_12
      have hw := hw r_11 e_12
      refine lv_if_ne (tgt := 38) hx hb dX4_spread_21 (by decide) (fun c_13 => ?_) (fun c_13 => ?_)
      · have hw := hw.1 c_13
        refine lv_iinc (v := (x5 + 1)) (lv' := [(5, .int (x5 + 1)), (0, .ref oS), (1, .ref oN), (2, .ref (gS 4)), (3, .int x3), (4, .int x4)]) hx hb dX4_spread_38 hl (k := 5) rfl rfl (by decide) rfl (fun ls hl => ?_)
        refine lv_goto (tgt := 6) hx hb dX4_spread_41 (by decide) ?_
        exact hk_6 (x4, (x5 + 1), FS, AS) hw _ _ _ hP hD hS (lv_sub hl [1, 2, 3, 4, 5, 0] rfl)
      · have hw := hw.2 c_13
        refine lv_aload_n hx hb dX4_spread_24 rfl (lv_at hl 0 rfl) ?_
        refine gz (q0 := 3) (v := .ref (gS 7)) fx hK hP fl_X4_27 rfl rfl dX4_spread_25 ?_
        refine lv_iload hx hb dX4_spread_28 (lv_at hl 4 rfl) ?_
        refine lv_iload hx hb dX4_spread_30 (lv_at hl 5 rfl) ?_
        refine caCell (rest := []) (As := [.ref (gS 7), .int x4, .int x5]) fx hK lk_X4_64 (c_put l (dC, dI) cA (gS 7) 4096 (AS 7) x4 x5 (by decide)) hP hD hS hA 9 rfl ⟨(Nat.le_of_ble_eq_true rfl), (Nat.le_of_ble_eq_true rfl)⟩ rfl hl.1 rfl (Nat.le_of_ble_eq_true rfl) dX4_spread_32 ?_
        intro g_14 H locs e_15 hP hD hS
        have hw := hw g_14 e_15
        have hP : va_P (dC, dI) vwCl ((nW oN gN cA FN AN) ++ (sW oS gS cA FS (uA AS 7 g_14))) H := hP
        have hD : va_D A ((nW oN gN cA FN AN) ++ (sW oS gS cA FS (uA AS 7 g_14))) := hD
        refine lv_iinc (v := (x4 + 1)) (lv' := [(4, .int (x4 + 1)), (0, .ref oS), (1, .ref oN), (2, .ref (gS 4)), (3, .int x3), (5, .int x5)]) hx hb dX4_spread_35 hl (k := 4) rfl rfl (by decide) rfl (fun ls hl => ?_)
        refine lv_iinc (v := (x5 + 1)) (lv' := [(5, .int (x5 + 1)), (4, .int (x4 + 1)), (0, .ref oS), (1, .ref oN), (2, .ref (gS 4)), (3, .int x3)]) hx hb dX4_spread_38 hl (k := 5) rfl rfl (by decide) rfl (fun ls hl => ?_)
        refine lv_goto (tgt := 6) hx hb dX4_spread_41 (by decide) ?_
        exact hk_6 ((x4 + 1), (x5 + 1), FS, (uA AS 7 g_14)) hw _ _ _ hP hD hS (lv_sub hl [2, 3, 4, 5, 1, 0] rfl)
  refine lv_iconst (v := (0 : Int32)) hx hb dX4_spread_0 (by decide) ?_
  refine lv_istore (lv' := [(4, .int (0 : Int32)), (0, .ref oS), (1, .ref oN), (2, .ref (gS 4)), (3, .int x3)]) hx hb dX4_spread_1 hl (by decide) rfl (fun ls hl => ?_)
  refine lv_iconst (v := (0 : Int32)) hx hb dX4_spread_3 (by decide) ?_
  refine lv_istore (lv' := [(5, .int (0 : Int32)), (4, .int (0 : Int32)), (0, .ref oS), (1, .ref oN), (2, .ref (gS 4)), (3, .int x3)]) hx hb dX4_spread_4 hl (by decide) rfl (fun ls hl => ?_)
  exact b_6 FS AS (0 : Int32) (0 : Int32) _ _ _ hP hD hS (lv_sub hl [2, 3, 4, 5, 1, 0] rfl) hw
set_option maxHeartbeats 4000000 in
set_option maxRecDepth 100000 in
theorem c_X4_spreadBy_5 (l : Launch) (dC : Nat → ClassId) (dI : Nat → Nat → Nat) (cA : ClassId) (oN : Nat) (gN : Nat → Nat) (oS : Nat) (gS : Nat → Nat) (FN : Nat → Int32) (AN : Nat → Nat → Int32) (FS : Nat → Int32) (AS : Nat → Nat → Int32) (x3 : Int32) (x4 : Int32) (x5 : Int32) (x6 : Int32) (Post : Int32 → (Nat → Int32) → (Nat → Nat → Int32) → Prop) (hw : wp_X4_spreadBy_5 FN AN FS AS x3 x4 x5 x6 Post) : MuI (dC, dI) cA l yX4_spreadBy cX4_spreadBy 12 .int 3 68 [.ref oS, .ref oN, .ref (gS 5), .int x3, .int x4, .int x5, .int x6] ((nW oN gN cA FN AN) ++ (sW oS gS cA FS AS)) (fun r (u : (Nat → Int32) × (Nat → Nat → Int32)) => Post r (u.1) (u.2)) (fun u => ((nW oN gN cA FN AN) ++ (sW oS gS cA (u.1) (u.2)))) := by
  refine enMu (by decide) (Nat.le_of_ble_eq_true rfl) ?_
  intro p e s m args below meth c Q ls A fx hK hP hD hS hA hret hl
  obtain ⟨hx, hb, hml, hown, hts⟩ := id fx
  have hl : lv_has ls 12 [(0, .ref oS), (1, .ref oN), (2, .ref (gS 5)), (3, .int x3), (4, .int x4), (5, .int x5), (6, .int x6)] := hl
  have hP : va_P (dC, dI) vwCl ((nW oN gN cA FN AN) ++ (sW oS gS cA FS AS)) s.heap := hP
  have b_27 : ∀ (FS : Nat → Int32) (AS : Nat → Nat → Int32) (x7 : Int32) (x8 : Int32) (x9 : Int32) (x10 : Int32) (H : Heap) (locs : List Loc) (ls : Array Slot), va_P (dC, dI) vwCl ((nW oN gN cA FN AN) ++ (sW oS gS cA FS AS)) H → va_D A ((nW oN gN cA FN AN) ++ (sW oS gS cA FS AS)) → va_S A s.heap H locs → lv_has ls 12 [(0, .ref oS), (1, .ref oN), (2, .ref (gS 5)), (3, .int x3), (4, .int x4), (5, .int x5), (7, .int x7), (8, .int x8), (9, .int x9), (10, .int x10)] → wp_X4_spreadBy_5_27 FN AN FS AS x3 x4 x5 x7 x8 x9 x10 Post → W p l e ({ frames := 3, cells := 0, slots := 0, locals := 68 } : Room) s m args below meth c H locs 0 0 Q (F0 m 27 ls []) := by
    intro FS AS x7 x8 x9 x10 H locs ls hP hD hS hl hw
    refine Lp_go (C := fun (t : Int32 × Int32 × (Nat → Int32) × (Nat → Nat → Int32)) => ∀ (H : Heap) (locs : List Loc) (ls : Array Slot), va_P (dC, dI) vwCl ((nW oN gN cA FN AN) ++ (sW oS gS cA (t.2.2.1) (t.2.2.2))) H → va_D A ((nW oN gN cA FN AN) ++ (sW oS gS cA (t.2.2.1) (t.2.2.2))) → va_S A s.heap H locs → lv_has ls 12 [(0, .ref oS), (1, .ref oN), (2, .ref (gS 5)), (3, .int x3), (4, .int x4), (5, .int x5), (7, .int (t.1)), (8, .int x8), (9, .int x9), (10, .int (t.2.1))] → W p l e ({ frames := 3, cells := 0, slots := 0, locals := 68 } : Room) s m args below meth c H locs 0 0 Q (F0 m 27 ls [])) ?_ hw H locs ls hP hD hS hl
    intro k_27 hk_27 t
    obtain ⟨x7, x10, FS, AS⟩ := t
    intro hw H locs ls hP hD hS hl
    have hP : va_P (dC, dI) vwCl ((nW oN gN cA FN AN) ++ (sW oS gS cA FS AS)) H := hP
    have hD : va_D A ((nW oN gN cA FN AN) ++ (sW oS gS cA FS AS)) := hD
    have hl : lv_has ls 12 [(0, .ref oS), (1, .ref oN), (2, .ref (gS 5)), (3, .int x3), (4, .int x4), (5, .int x5), (7, .int x7), (8, .int x8), (9, .int x9), (10, .int x10)] := hl
    have hw : st_X4_spreadBy_5_27 FN AN x3 x4 x5 x8 x9 Post k_27 x7 x10 FS AS := hw
    refine lv_iload hx hb dX4_spreadBy_27 (lv_at hl 9 rfl) ?_
    refine lv_aload_n hx hb dX4_spreadBy_29 rfl (lv_at hl 1 rfl) ?_
    refine gz (q0 := 0) (v := .int (FN 2)) fx hK hP fl_X4_81 rfl rfl dX4_spreadBy_30 ?_
    refine lv_icmp_ge (tgt := 106) hx hb dX4_spreadBy_33 (by decide) (fun c_4 => ?_) (fun c_4 => ?_)
    · have hw := hw.1 c_4
      refine lv_iload hx hb dX4_spreadBy_106 (lv_at hl 6 rfl) ?_
      exact hret _ (FS, AS) _ _ _ _ dX4_spreadBy_108 rfl hw hP hD hS
    · have hw := hw.2 c_4
      refine lv_aload_n hx hb dX4_spreadBy_36 rfl (lv_at hl 1 rfl) ?_
      refine lv_iload hx hb dX4_spreadBy_37 (lv_at hl 4 rfl) ?_
      refine lv_iload hx hb dX4_spreadBy_39 (lv_at hl 5 rfl) ?_
      refine lv_iload hx hb dX4_spreadBy_41 (lv_at hl 9 rfl) ?_
      refine caRoV (rest := []) (As := [.int x4, .int x5, .int x10]) fx hK lk_X4_84 (c_X1_withValue l dC dI cA oN gN FN AN x4 x5 x10 _ hw) (hP.sub [0, 1, 2] rfl) 0 rfl rfl ⟨(Nat.le_of_ble_eq_true rfl), (Nat.le_of_ble_eq_true rfl)⟩ rfl hl.1 rfl (Nat.le_of_ble_eq_true rfl) dX4_spreadBy_43 ?_
      intro r_5 hw
      refine lv_istore (lv' := [(11, .int r_5), (0, .ref oS), (1, .ref oN), (2, .ref (gS 5)), (3, .int x3), (4, .int x4), (5, .int x5), (7, .int x7), (8, .int x8), (9, .int x9), (10, .int x10)]) hx hb dX4_spreadBy_46 hl (by decide) rfl (fun ls hl => ?_)
      refine lv_iload hx hb dX4_spreadBy_48 (lv_at hl 10 rfl) ?_
      refine lv_iload hx hb dX4_spreadBy_50 (lv_at hl 9 rfl) ?_
      refine lv_icmp_eq (tgt := 100) hx hb dX4_spreadBy_52 (by decide) (fun c_6 => ?_) (fun c_6 => ?_)
      · have hw := hw.1 c_6
        refine lv_iinc (v := (x10 + 1)) (lv' := [(10, .int (x10 + 1)), (11, .int r_5), (0, .ref oS), (1, .ref oN), (2, .ref (gS 5)), (3, .int x3), (4, .int x4), (5, .int x5), (7, .int x7), (8, .int x8), (9, .int x9)]) hx hb dX4_spreadBy_100 hl (k := 10) rfl rfl (by decide) rfl (fun ls hl => ?_)
        refine lv_goto (tgt := 27) hx hb dX4_spreadBy_103 (by decide) ?_
        exact hk_27 (x7, (x10 + 1), FS, AS) hw _ _ _ hP hD hS (lv_sub hl [2, 3, 4, 5, 6, 7, 8, 9, 10, 0] rfl)
      · have hw := hw.2 c_6
        refine lv_aload_n hx hb dX4_spreadBy_55 rfl (lv_at hl 3 rfl) ?_
        refine lv_iload hx hb dX4_spreadBy_56 (lv_at hl 0 rfl) ?_
        refine caRoS (rest := []) (As := [.ref (gS 5), .int r_5]) fx hK lk_X4_73 (c_at l (dC, dI) cA (gS 5) 4096 (AS 5) r_5 (by decide)) (hP.sub [7] rfl) ⟨(Nat.le_of_ble_eq_true rfl), (Nat.le_of_ble_eq_true rfl)⟩ rfl hl.1 rfl (Nat.le_of_ble_eq_true rfl) dX4_spreadBy_58 ?_
        intro r_7 e_8
        have hw := hw r_7 e_8
        refine lv_if_ge (tgt := 100) hx hb dX4_spreadBy_61 (by decide) (fun c_9 => ?_) (fun c_9 => ?_)
        · have hw := hw.1 c_9
          refine lv_iinc (v := (x10 + 1)) (lv' := [(10, .int (x10 + 1)), (11, .int r_5), (0, .ref oS), (1, .ref oN), (2, .ref (gS 5)), (3, .int x3), (4, .int x4), (5, .int x5), (7, .int x7), (8, .int x8), (9, .int x9)]) hx hb dX4_spreadBy_100 hl (k := 10) rfl rfl (by decide) rfl (fun ls hl => ?_)
          refine lv_goto (tgt := 27) hx hb dX4_spreadBy_103 (by decide) ?_
          exact hk_27 (x7, (x10 + 1), FS, AS) hw _ _ _ hP hD hS (lv_sub hl [2, 3, 4, 5, 6, 7, 8, 9, 10, 0] rfl)
        · have hw := hw.2 c_9
          refine lv_aload_n hx hb dX4_spreadBy_64 rfl (lv_at hl 1 rfl) ?_
          refine lv_iload_n hx hb dX4_spreadBy_65 rfl (lv_at hl 4 rfl) ?_
          refine lv_iload hx hb dX4_spreadBy_66 (lv_at hl 0 rfl) ?_
          refine lv_iload hx hb dX4_spreadBy_68 (lv_at hl 6 rfl) ?_
          refine lv_iload hx hb dX4_spreadBy_70 (lv_at hl 9 rfl) ?_
          refine caMuV (rest := []) (As := [.int x3, .int r_5, .int x5, .int x9]) (w1 := (nW oN gN cA FN AN)) (w2 := ([] : va_W)) fx hK lk_X4_88 (c_X4_reaches l dC dI cA oS gS FS AS x3 r_5 x5 x9 _ hw) hP hD hS hA 0 rfl rfl ⟨(Nat.le_of_ble_eq_true rfl), (Nat.le_of_ble_eq_true rfl)⟩ rfl hl.1 rfl (Nat.le_of_ble_eq_true rfl) dX4_spreadBy_72 ?_
          intro r_13 u_12 H locs hw hP hD hS
          obtain ⟨FS_10, AS_11⟩ := u_12
          have hP : va_P (dC, dI) vwCl ((nW oN gN cA FN AN) ++ (sW oS gS cA FS_10 AS_11)) H := hP
          have hD : va_D A ((nW oN gN cA FN AN) ++ (sW oS gS cA FS_10 AS_11)) := hD
          try dsimp only at hw
          refine lv_if_eq (tgt := 100) hx hb dX4_spreadBy_75 (by decide) (fun c_14 => ?_) (fun c_14 => ?_)
          · have hw := hw.1 c_14
            refine lv_iinc (v := (x10 + 1)) (lv' := [(10, .int (x10 + 1)), (11, .int r_5), (0, .ref oS), (1, .ref oN), (2, .ref (gS 5)), (3, .int x3), (4, .int x4), (5, .int x5), (7, .int x7), (8, .int x8), (9, .int x9)]) hx hb dX4_spreadBy_100 hl (k := 10) rfl rfl (by decide) rfl (fun ls hl => ?_)
            refine lv_goto (tgt := 27) hx hb dX4_spreadBy_103 (by decide) ?_
            exact hk_27 (x7, (x10 + 1), FS_10, AS_11) hw _ _ _ hP hD hS (lv_sub hl [2, 3, 4, 5, 6, 7, 8, 9, 10, 0] rfl)
          · have hw := hw.2 c_14
            refine lv_aload_n hx hb dX4_spreadBy_78 rfl (lv_at hl 3 rfl) ?_
            refine lv_iload hx hb dX4_spreadBy_79 (lv_at hl 0 rfl) ?_
            refine lv_iload hx hb dX4_spreadBy_81 (lv_at hl 8 rfl) ?_
            refine caCell (rest := []) (As := [.ref (gS 5), .int r_5, .int x8]) fx hK lk_X4_64 (c_put l (dC, dI) cA (gS 5) 4096 (AS_11 5) r_5 x8 (by decide)) hP hD hS hA 7 rfl ⟨(Nat.le_of_ble_eq_true rfl), (Nat.le_of_ble_eq_true rfl)⟩ rfl hl.1 rfl (Nat.le_of_ble_eq_true rfl) dX4_spreadBy_83 ?_
            intro g_15 H locs e_16 hP hD hS
            have hw := hw g_15 e_16
            have hP : va_P (dC, dI) vwCl ((nW oN gN cA FN AN) ++ (sW oS gS cA FS_10 (uA AS_11 5 g_15))) H := hP
            have hD : va_D A ((nW oN gN cA FN AN) ++ (sW oS gS cA FS_10 (uA AS_11 5 g_15))) := hD
            refine lv_aload_n hx hb dX4_spreadBy_86 rfl (lv_at hl 1 rfl) ?_
            refine gz (q0 := 3) (v := .ref (gS 7)) fx hK hP fl_X4_27 rfl rfl dX4_spreadBy_87 ?_
            refine lv_iload hx hb dX4_spreadBy_90 (lv_at hl 7 rfl) ?_
            refine lv_iload hx hb dX4_spreadBy_92 (lv_at hl 0 rfl) ?_
            refine caCell (rest := []) (As := [.ref (gS 7), .int x7, .int r_5]) fx hK lk_X4_64 (c_put l (dC, dI) cA (gS 7) 4096 (AS_11 7) x7 r_5 (by decide)) hP hD hS hA 9 rfl ⟨(Nat.le_of_ble_eq_true rfl), (Nat.le_of_ble_eq_true rfl)⟩ rfl hl.1 rfl (Nat.le_of_ble_eq_true rfl) dX4_spreadBy_94 ?_
            intro g_17 H locs e_18 hP hD hS
            have hw := hw g_17 e_18
            have hP : va_P (dC, dI) vwCl ((nW oN gN cA FN AN) ++ (sW oS gS cA FS_10 (uA (uA AS_11 5 g_15) 7 g_17))) H := hP
            have hD : va_D A ((nW oN gN cA FN AN) ++ (sW oS gS cA FS_10 (uA (uA AS_11 5 g_15) 7 g_17))) := hD
            refine lv_iinc (v := (x7 + 1)) (lv' := [(7, .int (x7 + 1)), (11, .int r_5), (0, .ref oS), (1, .ref oN), (2, .ref (gS 5)), (3, .int x3), (4, .int x4), (5, .int x5), (8, .int x8), (9, .int x9), (10, .int x10)]) hx hb dX4_spreadBy_97 hl (k := 7) rfl rfl (by decide) rfl (fun ls hl => ?_)
            refine lv_iinc (v := (x10 + 1)) (lv' := [(10, .int (x10 + 1)), (7, .int (x7 + 1)), (11, .int r_5), (0, .ref oS), (1, .ref oN), (2, .ref (gS 5)), (3, .int x3), (4, .int x4), (5, .int x5), (8, .int x8), (9, .int x9)]) hx hb dX4_spreadBy_100 hl (k := 10) rfl rfl (by decide) rfl (fun ls hl => ?_)
            refine lv_goto (tgt := 27) hx hb dX4_spreadBy_103 (by decide) ?_
            exact hk_27 ((x7 + 1), (x10 + 1), FS_10, (uA (uA AS_11 5 g_15) 7 g_17)) hw _ _ _ hP hD hS (lv_sub hl [3, 4, 5, 6, 7, 8, 1, 9, 10, 0] rfl)
  refine lv_iload hx hb dX4_spreadBy_0 (lv_at hl 6 rfl) ?_
  refine lv_istore (lv' := [(7, .int x6), (0, .ref oS), (1, .ref oN), (2, .ref (gS 5)), (3, .int x3), (4, .int x4), (5, .int x5), (6, .int x6)]) hx hb dX4_spreadBy_2 hl (by decide) rfl (fun ls hl => ?_)
  refine lv_aload_n hx hb dX4_spreadBy_4 rfl (lv_at hl 3 rfl) ?_
  refine lv_iload hx hb dX4_spreadBy_5 (lv_at hl 5 rfl) ?_
  refine caRoS (rest := []) (As := [.ref (gS 5), .int x4]) fx hK lk_X4_73 (c_at l (dC, dI) cA (gS 5) 4096 (AS 5) x4 (by decide)) (hP.sub [7] rfl) ⟨(Nat.le_of_ble_eq_true rfl), (Nat.le_of_ble_eq_true rfl)⟩ rfl hl.1 rfl (Nat.le_of_ble_eq_true rfl) dX4_spreadBy_7 ?_
  intro r_19 e_20
  have hw := hw r_19 e_20
  refine lv_iconst (v := (1 : Int32)) hx hb dX4_spreadBy_10 (by decide) ?_
  refine lv_iadd hx hb dX4_spreadBy_11 ?_
  refine lv_istore (lv' := [(8, .int (r_19 + (1 : Int32))), (7, .int x6), (0, .ref oS), (1, .ref oN), (2, .ref (gS 5)), (3, .int x3), (4, .int x4), (5, .int x5), (6, .int x6)]) hx hb dX4_spreadBy_12 hl (by decide) rfl (fun ls hl => ?_)
  refine lv_aload_n hx hb dX4_spreadBy_14 rfl (lv_at hl 3 rfl) ?_
  refine lv_iload hx hb dX4_spreadBy_15 (lv_at hl 6 rfl) ?_
  refine lv_iload hx hb dX4_spreadBy_17 (lv_at hl 7 rfl) ?_
  refine caRoV (rest := []) (As := [.int x4, .int x5]) fx hK lk_X4_61 (c_X1_valueAt l dC dI cA oN gN FN AN x4 x5 _ hw) (hP.sub [0, 1, 2] rfl) 0 rfl rfl ⟨(Nat.le_of_ble_eq_true rfl), (Nat.le_of_ble_eq_true rfl)⟩ rfl hl.1 rfl (Nat.le_of_ble_eq_true rfl) dX4_spreadBy_19 ?_
  intro r_21 hw
  refine lv_istore (lv' := [(9, .int r_21), (8, .int (r_19 + (1 : Int32))), (7, .int x6), (0, .ref oS), (1, .ref oN), (2, .ref (gS 5)), (3, .int x3), (4, .int x4), (5, .int x5), (6, .int x6)]) hx hb dX4_spreadBy_22 hl (by decide) rfl (fun ls hl => ?_)
  refine lv_iconst (v := (0 : Int32)) hx hb dX4_spreadBy_24 (by decide) ?_
  refine lv_istore (lv' := [(10, .int (0 : Int32)), (9, .int r_21), (8, .int (r_19 + (1 : Int32))), (7, .int x6), (0, .ref oS), (1, .ref oN), (2, .ref (gS 5)), (3, .int x3), (4, .int x4), (5, .int x5), (6, .int x6)]) hx hb dX4_spreadBy_25 hl (by decide) rfl (fun ls hl => ?_)
  exact b_27 FS AS x6 (r_19 + (1 : Int32)) r_21 (0 : Int32) _ _ _ hP hD hS (lv_sub hl [4, 5, 6, 7, 8, 9, 3, 2, 1, 0] rfl) hw
set_option maxHeartbeats 4000000 in
set_option maxRecDepth 100000 in
theorem c_X4_spread_5 (l : Launch) (dC : Nat → ClassId) (dI : Nat → Nat → Nat) (cA : ClassId) (oN : Nat) (gN : Nat → Nat) (oS : Nat) (gS : Nat → Nat) (FN : Nat → Int32) (AN : Nat → Nat → Int32) (FS : Nat → Int32) (AS : Nat → Nat → Int32) (x3 : Int32) (Post : (Nat → Int32) → (Nat → Nat → Int32) → Prop) (hw : wp_X4_spread_5 FN AN FS AS x3 Post) : MuV (dC, dI) cA l yX4_spread cX4_spread 8 4 99 [.ref oS, .ref oN, .ref (gS 5), .int x3] ((nW oN gN cA FN AN) ++ (sW oS gS cA FS AS)) (fun (u : (Nat → Int32) × (Nat → Nat → Int32)) => Post (u.1) (u.2)) (fun u => ((nW oN gN cA FN AN) ++ (sW oS gS cA (u.1) (u.2)))) := by
  refine enMv (by decide) (Nat.le_of_ble_eq_true rfl) ?_
  intro p e s m args below meth c Q ls A fx hK hP hD hS hA hret hl
  obtain ⟨hx, hb, hml, hown, hts⟩ := id fx
  have hl : lv_has ls 8 [(0, .ref oS), (1, .ref oN), (2, .ref (gS 5)), (3, .int x3)] := hl
  have hP : va_P (dC, dI) vwCl ((nW oN gN cA FN AN) ++ (sW oS gS cA FS AS)) s.heap := hP
  have b_47 : ∀ (FS : Nat → Int32) (AS : Nat → Nat → Int32) (x4 : Int32) (x5 : Int32) (H : Heap) (locs : List Loc) (ls : Array Slot), va_P (dC, dI) vwCl ((nW oN gN cA FN AN) ++ (sW oS gS cA FS AS)) H → va_D A ((nW oN gN cA FN AN) ++ (sW oS gS cA FS AS)) → va_S A s.heap H locs → lv_has ls 8 [(0, .ref oS), (1, .ref oN), (2, .ref (gS 5)), (3, .int x3), (4, .int x4), (5, .int x5)] → wp_X4_spread_5_47 FN AN FS AS x3 x4 x5 Post → W p l e ({ frames := 4, cells := 0, slots := 0, locals := 99 } : Room) s m args below meth c H locs 0 0 Q (F0 m 47 ls []) := by
    intro FS AS x4 x5 H locs ls hP hD hS hl hw
    refine Lp_go (C := fun (t : Int32 × Int32 × (Nat → Int32) × (Nat → Nat → Int32)) => ∀ (H : Heap) (locs : List Loc) (ls : Array Slot), va_P (dC, dI) vwCl ((nW oN gN cA FN AN) ++ (sW oS gS cA (t.2.2.1) (t.2.2.2))) H → va_D A ((nW oN gN cA FN AN) ++ (sW oS gS cA (t.2.2.1) (t.2.2.2))) → va_S A s.heap H locs → lv_has ls 8 [(0, .ref oS), (1, .ref oN), (2, .ref (gS 5)), (3, .int x3), (4, .int (t.1)), (5, .int (t.2.1))] → W p l e ({ frames := 4, cells := 0, slots := 0, locals := 99 } : Room) s m args below meth c H locs 0 0 Q (F0 m 47 ls [])) ?_ hw H locs ls hP hD hS hl
    intro k_47 hk_47 t
    obtain ⟨x4, x5, FS, AS⟩ := t
    intro hw H locs ls hP hD hS hl
    have hP : va_P (dC, dI) vwCl ((nW oN gN cA FN AN) ++ (sW oS gS cA FS AS)) H := hP
    have hD : va_D A ((nW oN gN cA FN AN) ++ (sW oS gS cA FS AS)) := hD
    have hl : lv_has ls 8 [(0, .ref oS), (1, .ref oN), (2, .ref (gS 5)), (3, .int x3), (4, .int x4), (5, .int x5)] := hl
    have hw : st_X4_spread_5_47 FN AN x3 Post k_47 x4 x5 FS AS := hw
    have b_76 : ∀ (FS : Nat → Int32) (AS : Nat → Nat → Int32) (x4 : Int32) (x5 : Int32) (x6 : Int32) (x7 : Int32) (H : Heap) (locs : List Loc) (ls : Array Slot), va_P (dC, dI) vwCl ((nW oN gN cA FN AN) ++ (sW oS gS cA FS AS)) H → va_D A ((nW oN gN cA FN AN) ++ (sW oS gS cA FS AS)) → va_S A s.heap H locs → lv_has ls 8 [(0, .ref oS), (1, .ref oN), (2, .ref (gS 5)), (3, .int x3), (4, .int x4), (5, .int x5), (6, .int x6), (7, .int x7)] → wp_X4_spread_5_76 FN AN FS AS x3 x4 x5 x6 x7 k_47 Post → W p l e ({ frames := 4, cells := 0, slots := 0, locals := 99 } : Room) s m args below meth c H locs 0 0 Q (F0 m 76 ls []) := by
      intro FS AS x4 x5 x6 x7 H locs ls hP hD hS hl hw
      refine Lp_go (C := fun (t : Int32 × Int32 × (Nat → Int32) × (Nat → Nat → Int32)) => ∀ (H : Heap) (locs : List Loc) (ls : Array Slot), va_P (dC, dI) vwCl ((nW oN gN cA FN AN) ++ (sW oS gS cA (t.2.2.1) (t.2.2.2))) H → va_D A ((nW oN gN cA FN AN) ++ (sW oS gS cA (t.2.2.1) (t.2.2.2))) → va_S A s.heap H locs → lv_has ls 8 [(0, .ref oS), (1, .ref oN), (2, .ref (gS 5)), (3, .int x3), (4, .int (t.1)), (5, .int x5), (6, .int x6), (7, .int (t.2.1))] → W p l e ({ frames := 4, cells := 0, slots := 0, locals := 99 } : Room) s m args below meth c H locs 0 0 Q (F0 m 76 ls [])) ?_ hw H locs ls hP hD hS hl
      intro k_76 hk_76 t
      obtain ⟨x4, x7, FS, AS⟩ := t
      intro hw H locs ls hP hD hS hl
      have hP : va_P (dC, dI) vwCl ((nW oN gN cA FN AN) ++ (sW oS gS cA FS AS)) H := hP
      have hD : va_D A ((nW oN gN cA FN AN) ++ (sW oS gS cA FS AS)) := hD
      have hl : lv_has ls 8 [(0, .ref oS), (1, .ref oN), (2, .ref (gS 5)), (3, .int x3), (4, .int x4), (5, .int x5), (6, .int x6), (7, .int x7)] := hl
      have hw : st_X4_spread_5_76 FN AN x3 x5 x6 k_47 Post k_76 x4 x7 FS AS := hw
      refine lv_iload hx hb dX4_spread_76 (lv_at hl 7 rfl) ?_
      refine lv_aload_n hx hb dX4_spread_78 rfl (lv_at hl 1 rfl) ?_
      refine gz (q0 := 0) (v := .int (FN 1)) fx hK hP fl_X4_55 rfl rfl dX4_spread_79 ?_
      refine lv_icmp_ge (tgt := 106) hx hb dX4_spread_82 (by decide) (fun c_1 => ?_) (fun c_1 => ?_)
      · have hw := hw.1 c_1
        refine lv_iinc (v := (x5 + 1)) (lv' := [(5, .int (x5 + 1)), (0, .ref oS), (1, .ref oN), (2, .ref (gS 5)), (3, .int x3), (4, .int x4), (6, .int x6), (7, .int x7)]) hx hb dX4_spread_106 hl (k := 5) rfl rfl (by decide) rfl (fun ls hl => ?_)
        refine lv_goto (tgt := 47) hx hb dX4_spread_109 (by decide) ?_
        exact hk_47 (x4, (x5 + 1), FS, AS) hw _ _ _ hP hD hS (lv_sub hl [1, 2, 3, 4, 5, 0] rfl)
      · have hw := hw.2 c_1
        refine lv_aload_n hx hb dX4_spread_85 rfl (lv_at hl 0 rfl) ?_
        refine lv_aload_n hx hb dX4_spread_86 rfl (lv_at hl 1 rfl) ?_
        refine lv_aload_n hx hb dX4_spread_87 rfl (lv_at hl 2 rfl) ?_
        refine lv_iload_n hx hb dX4_spread_88 rfl (lv_at hl 3 rfl) ?_
        refine lv_iload hx hb dX4_spread_89 (lv_at hl 6 rfl) ?_
        refine lv_iload hx hb dX4_spread_91 (lv_at hl 7 rfl) ?_
        refine lv_iload hx hb dX4_spread_93 (lv_at hl 4 rfl) ?_
        refine caMuV (rest := []) (As := [.ref oN, .ref (gS 5), .int x3, .int x6, .int x7, .int x4]) (w1 := ([] : va_W)) (w2 := ([] : va_W)) fx hK lk_X4_77 (c_X4_spreadBy_5 l dC dI cA oN gN oS gS FN AN FS AS x3 x6 x7 x4 _ hw) hP hD hS hA 3 rfl rfl ⟨(Nat.le_of_ble_eq_true rfl), (Nat.le_of_ble_eq_true rfl)⟩ rfl hl.1 rfl (Nat.le_of_ble_eq_true rfl) dX4_spread_95 ?_
        intro r_5 u_4 H locs hw hP hD hS
        obtain ⟨FS_2, AS_3⟩ := u_4
        have hP : va_P (dC, dI) vwCl ((nW oN gN cA FN AN) ++ (sW oS gS cA FS_2 AS_3)) H := hP
        have hD : va_D A ((nW oN gN cA FN AN) ++ (sW oS gS cA FS_2 AS_3)) := hD
        try dsimp only at hw
        refine lv_istore (lv' := [(4, .int r_5), (0, .ref oS), (1, .ref oN), (2, .ref (gS 5)), (3, .int x3), (5, .int x5), (6, .int x6), (7, .int x7)]) hx hb dX4_spread_98 hl (by decide) rfl (fun ls hl => ?_)
        refine lv_iinc (v := (x7 + 1)) (lv' := [(7, .int (x7 + 1)), (4, .int r_5), (0, .ref oS), (1, .ref oN), (2, .ref (gS 5)), (3, .int x3), (5, .int x5), (6, .int x6)]) hx hb dX4_spread_100 hl (k := 7) rfl rfl (by decide) rfl (fun ls hl => ?_)
        refine lv_goto (tgt := 76) hx hb dX4_spread_103 (by decide) ?_
        exact hk_76 (r_5, (x7 + 1), FS_2, AS_3) hw _ _ _ hP hD hS (lv_sub hl [2, 3, 4, 5, 1, 6, 7, 0] rfl)
    refine lv_iload hx hb dX4_spread_47 (lv_at hl 5 rfl) ?_
    refine lv_iload hx hb dX4_spread_49 (lv_at hl 4 rfl) ?_
    refine lv_icmp_ge (tgt := 112) hx hb dX4_spread_51 (by decide) (fun c_6 => ?_) (fun c_6 => ?_)
    · have hw := hw.1 c_6
      exact hret (FS, AS) _ _ _ _ dX4_spread_112 hw hP hD hS
    · have hw := hw.2 c_6
      refine lv_iload hx hb dX4_spread_54 (lv_at hl 5 rfl) ?_
      refine lv_sipush (v := (4096 : Int32)) hx hb dX4_spread_56 (by decide) ?_
      refine lv_icmp_ge (tgt := 112) hx hb dX4_spread_59 (by decide) (fun c_7 => ?_) (fun c_7 => ?_)
      · have hw := hw.1 c_7
        exact hret (FS, AS) _ _ _ _ dX4_spread_112 hw hP hD hS
      · have hw := hw.2 c_7
        refine lv_aload_n hx hb dX4_spread_62 rfl (lv_at hl 0 rfl) ?_
        refine gz (q0 := 3) (v := .ref (gS 7)) fx hK hP fl_X4_27 rfl rfl dX4_spread_63 ?_
        refine lv_iload hx hb dX4_spread_66 (lv_at hl 5 rfl) ?_
        refine caRoS (rest := []) (As := [.ref (gS 7), .int x5]) fx hK lk_X4_73 (c_at l (dC, dI) cA (gS 7) 4096 (AS 7) x5 (by decide)) (hP.sub [9] rfl) ⟨(Nat.le_of_ble_eq_true rfl), (Nat.le_of_ble_eq_true rfl)⟩ rfl hl.1 rfl (Nat.le_of_ble_eq_true rfl) dX4_spread_68 ?_
        intro r_8 e_9
        have hw := hw r_8 e_9
        refine lv_istore (lv' := [(6, .int r_8), (0, .ref oS), (1, .ref oN), (2, .ref (gS 5)), (3, .int x3), (4, .int x4), (5, .int x5)]) hx hb dX4_spread_71 hl (by decide) rfl (fun ls hl => ?_)
        refine lv_iconst (v := (0 : Int32)) hx hb dX4_spread_73 (by decide) ?_
        refine lv_istore (lv' := [(7, .int (0 : Int32)), (6, .int r_8), (0, .ref oS), (1, .ref oN), (2, .ref (gS 5)), (3, .int x3), (4, .int x4), (5, .int x5)]) hx hb dX4_spread_74 hl (by decide) rfl (fun ls hl => ?_)
        exact b_76 FS AS x4 x5 r_8 (0 : Int32) _ _ _ hP hD hS (lv_sub hl [2, 3, 4, 5, 6, 7, 1, 0] rfl) hw
  have b_6 : ∀ (FS : Nat → Int32) (AS : Nat → Nat → Int32) (x4 : Int32) (x5 : Int32) (H : Heap) (locs : List Loc) (ls : Array Slot), va_P (dC, dI) vwCl ((nW oN gN cA FN AN) ++ (sW oS gS cA FS AS)) H → va_D A ((nW oN gN cA FN AN) ++ (sW oS gS cA FS AS)) → va_S A s.heap H locs → lv_has ls 8 [(0, .ref oS), (1, .ref oN), (2, .ref (gS 5)), (3, .int x3), (4, .int x4), (5, .int x5)] → wp_X4_spread_5_6 FN AN FS AS x3 x4 x5 Post → W p l e ({ frames := 4, cells := 0, slots := 0, locals := 99 } : Room) s m args below meth c H locs 0 0 Q (F0 m 6 ls []) := by
    intro FS AS x4 x5 H locs ls hP hD hS hl hw
    refine Lp_go (C := fun (t : Int32 × Int32 × (Nat → Int32) × (Nat → Nat → Int32)) => ∀ (H : Heap) (locs : List Loc) (ls : Array Slot), va_P (dC, dI) vwCl ((nW oN gN cA FN AN) ++ (sW oS gS cA (t.2.2.1) (t.2.2.2))) H → va_D A ((nW oN gN cA FN AN) ++ (sW oS gS cA (t.2.2.1) (t.2.2.2))) → va_S A s.heap H locs → lv_has ls 8 [(0, .ref oS), (1, .ref oN), (2, .ref (gS 5)), (3, .int x3), (4, .int (t.1)), (5, .int (t.2.1))] → W p l e ({ frames := 4, cells := 0, slots := 0, locals := 99 } : Room) s m args below meth c H locs 0 0 Q (F0 m 6 ls [])) ?_ hw H locs ls hP hD hS hl
    intro k_6 hk_6 t
    obtain ⟨x4, x5, FS, AS⟩ := t
    intro hw H locs ls hP hD hS hl
    have hP : va_P (dC, dI) vwCl ((nW oN gN cA FN AN) ++ (sW oS gS cA FS AS)) H := hP
    have hD : va_D A ((nW oN gN cA FN AN) ++ (sW oS gS cA FS AS)) := hD
    have hl : lv_has ls 8 [(0, .ref oS), (1, .ref oN), (2, .ref (gS 5)), (3, .int x3), (4, .int x4), (5, .int x5)] := hl
    have hw : st_X4_spread_5_6 FN AN x3 Post k_6 x4 x5 FS AS := hw
    refine lv_iload hx hb dX4_spread_6 (lv_at hl 5 rfl) ?_
    refine lv_aload_n hx hb dX4_spread_8 rfl (lv_at hl 0 rfl) ?_
    refine gz (q0 := 3) (v := .int (FS 1)) fx hK hP fl_X4_46 rfl rfl dX4_spread_9 ?_
    refine lv_icmp_ge (tgt := 44) hx hb dX4_spread_12 (by decide) (fun c_10 => ?_) (fun c_10 => ?_)
    · have hw := hw.1 c_10
      refine lv_iconst (v := (0 : Int32)) hx hb dX4_spread_44 (by decide) ?_
      refine lv_istore (lv' := [(5, .int (0 : Int32)), (0, .ref oS), (1, .ref oN), (2, .ref (gS 5)), (3, .int x3), (4, .int x4)]) hx hb dX4_spread_45 hl (by decide) rfl (fun ls hl => ?_)
      exact b_47 FS AS x4 (0 : Int32) _ _ _ hP hD hS (lv_sub hl [1, 2, 3, 4, 5, 0] rfl) hw
    · have hw := hw.2 c_10
      refine lv_aload_n hx hb dX4_spread_15 rfl (lv_at hl 2 rfl) ?_
      refine lv_iload hx hb dX4_spread_16 (lv_at hl 5 rfl) ?_
      refine caRoS (rest := []) (As := [.ref (gS 5), .int x5]) fx hK lk_X4_73 (c_at l (dC, dI) cA (gS 5) 4096 (AS 5) x5 (by decide)) (hP.sub [7] rfl) ⟨(Nat.le_of_ble_eq_true rfl), (Nat.le_of_ble_eq_true rfl)⟩ rfl hl.1 rfl (Nat.le_of_ble_eq_true rfl) dX4_spread_18 ?_
      intro r_11 e_12
      have hw := hw r_11 e_12
      refine lv_if_ne (tgt := 38) hx hb dX4_spread_21 (by decide) (fun c_13 => ?_) (fun c_13 => ?_)
      · have hw := hw.1 c_13
        refine lv_iinc (v := (x5 + 1)) (lv' := [(5, .int (x5 + 1)), (0, .ref oS), (1, .ref oN), (2, .ref (gS 5)), (3, .int x3), (4, .int x4)]) hx hb dX4_spread_38 hl (k := 5) rfl rfl (by decide) rfl (fun ls hl => ?_)
        refine lv_goto (tgt := 6) hx hb dX4_spread_41 (by decide) ?_
        exact hk_6 (x4, (x5 + 1), FS, AS) hw _ _ _ hP hD hS (lv_sub hl [1, 2, 3, 4, 5, 0] rfl)
      · have hw := hw.2 c_13
        refine lv_aload_n hx hb dX4_spread_24 rfl (lv_at hl 0 rfl) ?_
        refine gz (q0 := 3) (v := .ref (gS 7)) fx hK hP fl_X4_27 rfl rfl dX4_spread_25 ?_
        refine lv_iload hx hb dX4_spread_28 (lv_at hl 4 rfl) ?_
        refine lv_iload hx hb dX4_spread_30 (lv_at hl 5 rfl) ?_
        refine caCell (rest := []) (As := [.ref (gS 7), .int x4, .int x5]) fx hK lk_X4_64 (c_put l (dC, dI) cA (gS 7) 4096 (AS 7) x4 x5 (by decide)) hP hD hS hA 9 rfl ⟨(Nat.le_of_ble_eq_true rfl), (Nat.le_of_ble_eq_true rfl)⟩ rfl hl.1 rfl (Nat.le_of_ble_eq_true rfl) dX4_spread_32 ?_
        intro g_14 H locs e_15 hP hD hS
        have hw := hw g_14 e_15
        have hP : va_P (dC, dI) vwCl ((nW oN gN cA FN AN) ++ (sW oS gS cA FS (uA AS 7 g_14))) H := hP
        have hD : va_D A ((nW oN gN cA FN AN) ++ (sW oS gS cA FS (uA AS 7 g_14))) := hD
        refine lv_iinc (v := (x4 + 1)) (lv' := [(4, .int (x4 + 1)), (0, .ref oS), (1, .ref oN), (2, .ref (gS 5)), (3, .int x3), (5, .int x5)]) hx hb dX4_spread_35 hl (k := 4) rfl rfl (by decide) rfl (fun ls hl => ?_)
        refine lv_iinc (v := (x5 + 1)) (lv' := [(5, .int (x5 + 1)), (4, .int (x4 + 1)), (0, .ref oS), (1, .ref oN), (2, .ref (gS 5)), (3, .int x3)]) hx hb dX4_spread_38 hl (k := 5) rfl rfl (by decide) rfl (fun ls hl => ?_)
        refine lv_goto (tgt := 6) hx hb dX4_spread_41 (by decide) ?_
        exact hk_6 ((x4 + 1), (x5 + 1), FS, (uA AS 7 g_14)) hw _ _ _ hP hD hS (lv_sub hl [2, 3, 4, 5, 1, 0] rfl)
  refine lv_iconst (v := (0 : Int32)) hx hb dX4_spread_0 (by decide) ?_
  refine lv_istore (lv' := [(4, .int (0 : Int32)), (0, .ref oS), (1, .ref oN), (2, .ref (gS 5)), (3, .int x3)]) hx hb dX4_spread_1 hl (by decide) rfl (fun ls hl => ?_)
  refine lv_iconst (v := (0 : Int32)) hx hb dX4_spread_3 (by decide) ?_
  refine lv_istore (lv' := [(5, .int (0 : Int32)), (4, .int (0 : Int32)), (0, .ref oS), (1, .ref oN), (2, .ref (gS 5)), (3, .int x3)]) hx hb dX4_spread_4 hl (by decide) rfl (fun ls hl => ?_)
  exact b_6 FS AS (0 : Int32) (0 : Int32) _ _ _ hP hD hS (lv_sub hl [2, 3, 4, 5, 1, 0] rfl) hw
set_option maxHeartbeats 4000000 in
set_option maxRecDepth 100000 in
theorem c_X4_spreadBy_6 (l : Launch) (dC : Nat → ClassId) (dI : Nat → Nat → Nat) (cA : ClassId) (oN : Nat) (gN : Nat → Nat) (oS : Nat) (gS : Nat → Nat) (FN : Nat → Int32) (AN : Nat → Nat → Int32) (FS : Nat → Int32) (AS : Nat → Nat → Int32) (x3 : Int32) (x4 : Int32) (x5 : Int32) (x6 : Int32) (Post : Int32 → (Nat → Int32) → (Nat → Nat → Int32) → Prop) (hw : wp_X4_spreadBy_6 FN AN FS AS x3 x4 x5 x6 Post) : MuI (dC, dI) cA l yX4_spreadBy cX4_spreadBy 12 .int 3 68 [.ref oS, .ref oN, .ref (gS 6), .int x3, .int x4, .int x5, .int x6] ((nW oN gN cA FN AN) ++ (sW oS gS cA FS AS)) (fun r (u : (Nat → Int32) × (Nat → Nat → Int32)) => Post r (u.1) (u.2)) (fun u => ((nW oN gN cA FN AN) ++ (sW oS gS cA (u.1) (u.2)))) := by
  refine enMu (by decide) (Nat.le_of_ble_eq_true rfl) ?_
  intro p e s m args below meth c Q ls A fx hK hP hD hS hA hret hl
  obtain ⟨hx, hb, hml, hown, hts⟩ := id fx
  have hl : lv_has ls 12 [(0, .ref oS), (1, .ref oN), (2, .ref (gS 6)), (3, .int x3), (4, .int x4), (5, .int x5), (6, .int x6)] := hl
  have hP : va_P (dC, dI) vwCl ((nW oN gN cA FN AN) ++ (sW oS gS cA FS AS)) s.heap := hP
  have b_27 : ∀ (FS : Nat → Int32) (AS : Nat → Nat → Int32) (x7 : Int32) (x8 : Int32) (x9 : Int32) (x10 : Int32) (H : Heap) (locs : List Loc) (ls : Array Slot), va_P (dC, dI) vwCl ((nW oN gN cA FN AN) ++ (sW oS gS cA FS AS)) H → va_D A ((nW oN gN cA FN AN) ++ (sW oS gS cA FS AS)) → va_S A s.heap H locs → lv_has ls 12 [(0, .ref oS), (1, .ref oN), (2, .ref (gS 6)), (3, .int x3), (4, .int x4), (5, .int x5), (7, .int x7), (8, .int x8), (9, .int x9), (10, .int x10)] → wp_X4_spreadBy_6_27 FN AN FS AS x3 x4 x5 x7 x8 x9 x10 Post → W p l e ({ frames := 3, cells := 0, slots := 0, locals := 68 } : Room) s m args below meth c H locs 0 0 Q (F0 m 27 ls []) := by
    intro FS AS x7 x8 x9 x10 H locs ls hP hD hS hl hw
    refine Lp_go (C := fun (t : Int32 × Int32 × (Nat → Int32) × (Nat → Nat → Int32)) => ∀ (H : Heap) (locs : List Loc) (ls : Array Slot), va_P (dC, dI) vwCl ((nW oN gN cA FN AN) ++ (sW oS gS cA (t.2.2.1) (t.2.2.2))) H → va_D A ((nW oN gN cA FN AN) ++ (sW oS gS cA (t.2.2.1) (t.2.2.2))) → va_S A s.heap H locs → lv_has ls 12 [(0, .ref oS), (1, .ref oN), (2, .ref (gS 6)), (3, .int x3), (4, .int x4), (5, .int x5), (7, .int (t.1)), (8, .int x8), (9, .int x9), (10, .int (t.2.1))] → W p l e ({ frames := 3, cells := 0, slots := 0, locals := 68 } : Room) s m args below meth c H locs 0 0 Q (F0 m 27 ls [])) ?_ hw H locs ls hP hD hS hl
    intro k_27 hk_27 t
    obtain ⟨x7, x10, FS, AS⟩ := t
    intro hw H locs ls hP hD hS hl
    have hP : va_P (dC, dI) vwCl ((nW oN gN cA FN AN) ++ (sW oS gS cA FS AS)) H := hP
    have hD : va_D A ((nW oN gN cA FN AN) ++ (sW oS gS cA FS AS)) := hD
    have hl : lv_has ls 12 [(0, .ref oS), (1, .ref oN), (2, .ref (gS 6)), (3, .int x3), (4, .int x4), (5, .int x5), (7, .int x7), (8, .int x8), (9, .int x9), (10, .int x10)] := hl
    have hw : st_X4_spreadBy_6_27 FN AN x3 x4 x5 x8 x9 Post k_27 x7 x10 FS AS := hw
    refine lv_iload hx hb dX4_spreadBy_27 (lv_at hl 9 rfl) ?_
    refine lv_aload_n hx hb dX4_spreadBy_29 rfl (lv_at hl 1 rfl) ?_
    refine gz (q0 := 0) (v := .int (FN 2)) fx hK hP fl_X4_81 rfl rfl dX4_spreadBy_30 ?_
    refine lv_icmp_ge (tgt := 106) hx hb dX4_spreadBy_33 (by decide) (fun c_4 => ?_) (fun c_4 => ?_)
    · have hw := hw.1 c_4
      refine lv_iload hx hb dX4_spreadBy_106 (lv_at hl 6 rfl) ?_
      exact hret _ (FS, AS) _ _ _ _ dX4_spreadBy_108 rfl hw hP hD hS
    · have hw := hw.2 c_4
      refine lv_aload_n hx hb dX4_spreadBy_36 rfl (lv_at hl 1 rfl) ?_
      refine lv_iload hx hb dX4_spreadBy_37 (lv_at hl 4 rfl) ?_
      refine lv_iload hx hb dX4_spreadBy_39 (lv_at hl 5 rfl) ?_
      refine lv_iload hx hb dX4_spreadBy_41 (lv_at hl 9 rfl) ?_
      refine caRoV (rest := []) (As := [.int x4, .int x5, .int x10]) fx hK lk_X4_84 (c_X1_withValue l dC dI cA oN gN FN AN x4 x5 x10 _ hw) (hP.sub [0, 1, 2] rfl) 0 rfl rfl ⟨(Nat.le_of_ble_eq_true rfl), (Nat.le_of_ble_eq_true rfl)⟩ rfl hl.1 rfl (Nat.le_of_ble_eq_true rfl) dX4_spreadBy_43 ?_
      intro r_5 hw
      refine lv_istore (lv' := [(11, .int r_5), (0, .ref oS), (1, .ref oN), (2, .ref (gS 6)), (3, .int x3), (4, .int x4), (5, .int x5), (7, .int x7), (8, .int x8), (9, .int x9), (10, .int x10)]) hx hb dX4_spreadBy_46 hl (by decide) rfl (fun ls hl => ?_)
      refine lv_iload hx hb dX4_spreadBy_48 (lv_at hl 10 rfl) ?_
      refine lv_iload hx hb dX4_spreadBy_50 (lv_at hl 9 rfl) ?_
      refine lv_icmp_eq (tgt := 100) hx hb dX4_spreadBy_52 (by decide) (fun c_6 => ?_) (fun c_6 => ?_)
      · have hw := hw.1 c_6
        refine lv_iinc (v := (x10 + 1)) (lv' := [(10, .int (x10 + 1)), (11, .int r_5), (0, .ref oS), (1, .ref oN), (2, .ref (gS 6)), (3, .int x3), (4, .int x4), (5, .int x5), (7, .int x7), (8, .int x8), (9, .int x9)]) hx hb dX4_spreadBy_100 hl (k := 10) rfl rfl (by decide) rfl (fun ls hl => ?_)
        refine lv_goto (tgt := 27) hx hb dX4_spreadBy_103 (by decide) ?_
        exact hk_27 (x7, (x10 + 1), FS, AS) hw _ _ _ hP hD hS (lv_sub hl [2, 3, 4, 5, 6, 7, 8, 9, 10, 0] rfl)
      · have hw := hw.2 c_6
        refine lv_aload_n hx hb dX4_spreadBy_55 rfl (lv_at hl 3 rfl) ?_
        refine lv_iload hx hb dX4_spreadBy_56 (lv_at hl 0 rfl) ?_
        refine caRoS (rest := []) (As := [.ref (gS 6), .int r_5]) fx hK lk_X4_73 (c_at l (dC, dI) cA (gS 6) 4096 (AS 6) r_5 (by decide)) (hP.sub [8] rfl) ⟨(Nat.le_of_ble_eq_true rfl), (Nat.le_of_ble_eq_true rfl)⟩ rfl hl.1 rfl (Nat.le_of_ble_eq_true rfl) dX4_spreadBy_58 ?_
        intro r_7 e_8
        have hw := hw r_7 e_8
        refine lv_if_ge (tgt := 100) hx hb dX4_spreadBy_61 (by decide) (fun c_9 => ?_) (fun c_9 => ?_)
        · have hw := hw.1 c_9
          refine lv_iinc (v := (x10 + 1)) (lv' := [(10, .int (x10 + 1)), (11, .int r_5), (0, .ref oS), (1, .ref oN), (2, .ref (gS 6)), (3, .int x3), (4, .int x4), (5, .int x5), (7, .int x7), (8, .int x8), (9, .int x9)]) hx hb dX4_spreadBy_100 hl (k := 10) rfl rfl (by decide) rfl (fun ls hl => ?_)
          refine lv_goto (tgt := 27) hx hb dX4_spreadBy_103 (by decide) ?_
          exact hk_27 (x7, (x10 + 1), FS, AS) hw _ _ _ hP hD hS (lv_sub hl [2, 3, 4, 5, 6, 7, 8, 9, 10, 0] rfl)
        · have hw := hw.2 c_9
          refine lv_aload_n hx hb dX4_spreadBy_64 rfl (lv_at hl 1 rfl) ?_
          refine lv_iload_n hx hb dX4_spreadBy_65 rfl (lv_at hl 4 rfl) ?_
          refine lv_iload hx hb dX4_spreadBy_66 (lv_at hl 0 rfl) ?_
          refine lv_iload hx hb dX4_spreadBy_68 (lv_at hl 6 rfl) ?_
          refine lv_iload hx hb dX4_spreadBy_70 (lv_at hl 9 rfl) ?_
          refine caMuV (rest := []) (As := [.int x3, .int r_5, .int x5, .int x9]) (w1 := (nW oN gN cA FN AN)) (w2 := ([] : va_W)) fx hK lk_X4_88 (c_X4_reaches l dC dI cA oS gS FS AS x3 r_5 x5 x9 _ hw) hP hD hS hA 0 rfl rfl ⟨(Nat.le_of_ble_eq_true rfl), (Nat.le_of_ble_eq_true rfl)⟩ rfl hl.1 rfl (Nat.le_of_ble_eq_true rfl) dX4_spreadBy_72 ?_
          intro r_13 u_12 H locs hw hP hD hS
          obtain ⟨FS_10, AS_11⟩ := u_12
          have hP : va_P (dC, dI) vwCl ((nW oN gN cA FN AN) ++ (sW oS gS cA FS_10 AS_11)) H := hP
          have hD : va_D A ((nW oN gN cA FN AN) ++ (sW oS gS cA FS_10 AS_11)) := hD
          try dsimp only at hw
          refine lv_if_eq (tgt := 100) hx hb dX4_spreadBy_75 (by decide) (fun c_14 => ?_) (fun c_14 => ?_)
          · have hw := hw.1 c_14
            refine lv_iinc (v := (x10 + 1)) (lv' := [(10, .int (x10 + 1)), (11, .int r_5), (0, .ref oS), (1, .ref oN), (2, .ref (gS 6)), (3, .int x3), (4, .int x4), (5, .int x5), (7, .int x7), (8, .int x8), (9, .int x9)]) hx hb dX4_spreadBy_100 hl (k := 10) rfl rfl (by decide) rfl (fun ls hl => ?_)
            refine lv_goto (tgt := 27) hx hb dX4_spreadBy_103 (by decide) ?_
            exact hk_27 (x7, (x10 + 1), FS_10, AS_11) hw _ _ _ hP hD hS (lv_sub hl [2, 3, 4, 5, 6, 7, 8, 9, 10, 0] rfl)
          · have hw := hw.2 c_14
            refine lv_aload_n hx hb dX4_spreadBy_78 rfl (lv_at hl 3 rfl) ?_
            refine lv_iload hx hb dX4_spreadBy_79 (lv_at hl 0 rfl) ?_
            refine lv_iload hx hb dX4_spreadBy_81 (lv_at hl 8 rfl) ?_
            refine caCell (rest := []) (As := [.ref (gS 6), .int r_5, .int x8]) fx hK lk_X4_64 (c_put l (dC, dI) cA (gS 6) 4096 (AS_11 6) r_5 x8 (by decide)) hP hD hS hA 8 rfl ⟨(Nat.le_of_ble_eq_true rfl), (Nat.le_of_ble_eq_true rfl)⟩ rfl hl.1 rfl (Nat.le_of_ble_eq_true rfl) dX4_spreadBy_83 ?_
            intro g_15 H locs e_16 hP hD hS
            have hw := hw g_15 e_16
            have hP : va_P (dC, dI) vwCl ((nW oN gN cA FN AN) ++ (sW oS gS cA FS_10 (uA AS_11 6 g_15))) H := hP
            have hD : va_D A ((nW oN gN cA FN AN) ++ (sW oS gS cA FS_10 (uA AS_11 6 g_15))) := hD
            refine lv_aload_n hx hb dX4_spreadBy_86 rfl (lv_at hl 1 rfl) ?_
            refine gz (q0 := 3) (v := .ref (gS 7)) fx hK hP fl_X4_27 rfl rfl dX4_spreadBy_87 ?_
            refine lv_iload hx hb dX4_spreadBy_90 (lv_at hl 7 rfl) ?_
            refine lv_iload hx hb dX4_spreadBy_92 (lv_at hl 0 rfl) ?_
            refine caCell (rest := []) (As := [.ref (gS 7), .int x7, .int r_5]) fx hK lk_X4_64 (c_put l (dC, dI) cA (gS 7) 4096 (AS_11 7) x7 r_5 (by decide)) hP hD hS hA 9 rfl ⟨(Nat.le_of_ble_eq_true rfl), (Nat.le_of_ble_eq_true rfl)⟩ rfl hl.1 rfl (Nat.le_of_ble_eq_true rfl) dX4_spreadBy_94 ?_
            intro g_17 H locs e_18 hP hD hS
            have hw := hw g_17 e_18
            have hP : va_P (dC, dI) vwCl ((nW oN gN cA FN AN) ++ (sW oS gS cA FS_10 (uA (uA AS_11 6 g_15) 7 g_17))) H := hP
            have hD : va_D A ((nW oN gN cA FN AN) ++ (sW oS gS cA FS_10 (uA (uA AS_11 6 g_15) 7 g_17))) := hD
            refine lv_iinc (v := (x7 + 1)) (lv' := [(7, .int (x7 + 1)), (11, .int r_5), (0, .ref oS), (1, .ref oN), (2, .ref (gS 6)), (3, .int x3), (4, .int x4), (5, .int x5), (8, .int x8), (9, .int x9), (10, .int x10)]) hx hb dX4_spreadBy_97 hl (k := 7) rfl rfl (by decide) rfl (fun ls hl => ?_)
            refine lv_iinc (v := (x10 + 1)) (lv' := [(10, .int (x10 + 1)), (7, .int (x7 + 1)), (11, .int r_5), (0, .ref oS), (1, .ref oN), (2, .ref (gS 6)), (3, .int x3), (4, .int x4), (5, .int x5), (8, .int x8), (9, .int x9)]) hx hb dX4_spreadBy_100 hl (k := 10) rfl rfl (by decide) rfl (fun ls hl => ?_)
            refine lv_goto (tgt := 27) hx hb dX4_spreadBy_103 (by decide) ?_
            exact hk_27 ((x7 + 1), (x10 + 1), FS_10, (uA (uA AS_11 6 g_15) 7 g_17)) hw _ _ _ hP hD hS (lv_sub hl [3, 4, 5, 6, 7, 8, 1, 9, 10, 0] rfl)
  refine lv_iload hx hb dX4_spreadBy_0 (lv_at hl 6 rfl) ?_
  refine lv_istore (lv' := [(7, .int x6), (0, .ref oS), (1, .ref oN), (2, .ref (gS 6)), (3, .int x3), (4, .int x4), (5, .int x5), (6, .int x6)]) hx hb dX4_spreadBy_2 hl (by decide) rfl (fun ls hl => ?_)
  refine lv_aload_n hx hb dX4_spreadBy_4 rfl (lv_at hl 3 rfl) ?_
  refine lv_iload hx hb dX4_spreadBy_5 (lv_at hl 5 rfl) ?_
  refine caRoS (rest := []) (As := [.ref (gS 6), .int x4]) fx hK lk_X4_73 (c_at l (dC, dI) cA (gS 6) 4096 (AS 6) x4 (by decide)) (hP.sub [8] rfl) ⟨(Nat.le_of_ble_eq_true rfl), (Nat.le_of_ble_eq_true rfl)⟩ rfl hl.1 rfl (Nat.le_of_ble_eq_true rfl) dX4_spreadBy_7 ?_
  intro r_19 e_20
  have hw := hw r_19 e_20
  refine lv_iconst (v := (1 : Int32)) hx hb dX4_spreadBy_10 (by decide) ?_
  refine lv_iadd hx hb dX4_spreadBy_11 ?_
  refine lv_istore (lv' := [(8, .int (r_19 + (1 : Int32))), (7, .int x6), (0, .ref oS), (1, .ref oN), (2, .ref (gS 6)), (3, .int x3), (4, .int x4), (5, .int x5), (6, .int x6)]) hx hb dX4_spreadBy_12 hl (by decide) rfl (fun ls hl => ?_)
  refine lv_aload_n hx hb dX4_spreadBy_14 rfl (lv_at hl 3 rfl) ?_
  refine lv_iload hx hb dX4_spreadBy_15 (lv_at hl 6 rfl) ?_
  refine lv_iload hx hb dX4_spreadBy_17 (lv_at hl 7 rfl) ?_
  refine caRoV (rest := []) (As := [.int x4, .int x5]) fx hK lk_X4_61 (c_X1_valueAt l dC dI cA oN gN FN AN x4 x5 _ hw) (hP.sub [0, 1, 2] rfl) 0 rfl rfl ⟨(Nat.le_of_ble_eq_true rfl), (Nat.le_of_ble_eq_true rfl)⟩ rfl hl.1 rfl (Nat.le_of_ble_eq_true rfl) dX4_spreadBy_19 ?_
  intro r_21 hw
  refine lv_istore (lv' := [(9, .int r_21), (8, .int (r_19 + (1 : Int32))), (7, .int x6), (0, .ref oS), (1, .ref oN), (2, .ref (gS 6)), (3, .int x3), (4, .int x4), (5, .int x5), (6, .int x6)]) hx hb dX4_spreadBy_22 hl (by decide) rfl (fun ls hl => ?_)
  refine lv_iconst (v := (0 : Int32)) hx hb dX4_spreadBy_24 (by decide) ?_
  refine lv_istore (lv' := [(10, .int (0 : Int32)), (9, .int r_21), (8, .int (r_19 + (1 : Int32))), (7, .int x6), (0, .ref oS), (1, .ref oN), (2, .ref (gS 6)), (3, .int x3), (4, .int x4), (5, .int x5), (6, .int x6)]) hx hb dX4_spreadBy_25 hl (by decide) rfl (fun ls hl => ?_)
  exact b_27 FS AS x6 (r_19 + (1 : Int32)) r_21 (0 : Int32) _ _ _ hP hD hS (lv_sub hl [4, 5, 6, 7, 8, 9, 3, 2, 1, 0] rfl) hw
set_option maxHeartbeats 4000000 in
set_option maxRecDepth 100000 in
theorem c_X4_spread_6 (l : Launch) (dC : Nat → ClassId) (dI : Nat → Nat → Nat) (cA : ClassId) (oN : Nat) (gN : Nat → Nat) (oS : Nat) (gS : Nat → Nat) (FN : Nat → Int32) (AN : Nat → Nat → Int32) (FS : Nat → Int32) (AS : Nat → Nat → Int32) (x3 : Int32) (Post : (Nat → Int32) → (Nat → Nat → Int32) → Prop) (hw : wp_X4_spread_6 FN AN FS AS x3 Post) : MuV (dC, dI) cA l yX4_spread cX4_spread 8 4 99 [.ref oS, .ref oN, .ref (gS 6), .int x3] ((nW oN gN cA FN AN) ++ (sW oS gS cA FS AS)) (fun (u : (Nat → Int32) × (Nat → Nat → Int32)) => Post (u.1) (u.2)) (fun u => ((nW oN gN cA FN AN) ++ (sW oS gS cA (u.1) (u.2)))) := by
  refine enMv (by decide) (Nat.le_of_ble_eq_true rfl) ?_
  intro p e s m args below meth c Q ls A fx hK hP hD hS hA hret hl
  obtain ⟨hx, hb, hml, hown, hts⟩ := id fx
  have hl : lv_has ls 8 [(0, .ref oS), (1, .ref oN), (2, .ref (gS 6)), (3, .int x3)] := hl
  have hP : va_P (dC, dI) vwCl ((nW oN gN cA FN AN) ++ (sW oS gS cA FS AS)) s.heap := hP
  have b_47 : ∀ (FS : Nat → Int32) (AS : Nat → Nat → Int32) (x4 : Int32) (x5 : Int32) (H : Heap) (locs : List Loc) (ls : Array Slot), va_P (dC, dI) vwCl ((nW oN gN cA FN AN) ++ (sW oS gS cA FS AS)) H → va_D A ((nW oN gN cA FN AN) ++ (sW oS gS cA FS AS)) → va_S A s.heap H locs → lv_has ls 8 [(0, .ref oS), (1, .ref oN), (2, .ref (gS 6)), (3, .int x3), (4, .int x4), (5, .int x5)] → wp_X4_spread_6_47 FN AN FS AS x3 x4 x5 Post → W p l e ({ frames := 4, cells := 0, slots := 0, locals := 99 } : Room) s m args below meth c H locs 0 0 Q (F0 m 47 ls []) := by
    intro FS AS x4 x5 H locs ls hP hD hS hl hw
    refine Lp_go (C := fun (t : Int32 × Int32 × (Nat → Int32) × (Nat → Nat → Int32)) => ∀ (H : Heap) (locs : List Loc) (ls : Array Slot), va_P (dC, dI) vwCl ((nW oN gN cA FN AN) ++ (sW oS gS cA (t.2.2.1) (t.2.2.2))) H → va_D A ((nW oN gN cA FN AN) ++ (sW oS gS cA (t.2.2.1) (t.2.2.2))) → va_S A s.heap H locs → lv_has ls 8 [(0, .ref oS), (1, .ref oN), (2, .ref (gS 6)), (3, .int x3), (4, .int (t.1)), (5, .int (t.2.1))] → W p l e ({ frames := 4, cells := 0, slots := 0, locals := 99 } : Room) s m args below meth c H locs 0 0 Q (F0 m 47 ls [])) ?_ hw H locs ls hP hD hS hl
    intro k_47 hk_47 t
    obtain ⟨x4, x5, FS, AS⟩ := t
    intro hw H locs ls hP hD hS hl
    have hP : va_P (dC, dI) vwCl ((nW oN gN cA FN AN) ++ (sW oS gS cA FS AS)) H := hP
    have hD : va_D A ((nW oN gN cA FN AN) ++ (sW oS gS cA FS AS)) := hD
    have hl : lv_has ls 8 [(0, .ref oS), (1, .ref oN), (2, .ref (gS 6)), (3, .int x3), (4, .int x4), (5, .int x5)] := hl
    have hw : st_X4_spread_6_47 FN AN x3 Post k_47 x4 x5 FS AS := hw
    have b_76 : ∀ (FS : Nat → Int32) (AS : Nat → Nat → Int32) (x4 : Int32) (x5 : Int32) (x6 : Int32) (x7 : Int32) (H : Heap) (locs : List Loc) (ls : Array Slot), va_P (dC, dI) vwCl ((nW oN gN cA FN AN) ++ (sW oS gS cA FS AS)) H → va_D A ((nW oN gN cA FN AN) ++ (sW oS gS cA FS AS)) → va_S A s.heap H locs → lv_has ls 8 [(0, .ref oS), (1, .ref oN), (2, .ref (gS 6)), (3, .int x3), (4, .int x4), (5, .int x5), (6, .int x6), (7, .int x7)] → wp_X4_spread_6_76 FN AN FS AS x3 x4 x5 x6 x7 k_47 Post → W p l e ({ frames := 4, cells := 0, slots := 0, locals := 99 } : Room) s m args below meth c H locs 0 0 Q (F0 m 76 ls []) := by
      intro FS AS x4 x5 x6 x7 H locs ls hP hD hS hl hw
      refine Lp_go (C := fun (t : Int32 × Int32 × (Nat → Int32) × (Nat → Nat → Int32)) => ∀ (H : Heap) (locs : List Loc) (ls : Array Slot), va_P (dC, dI) vwCl ((nW oN gN cA FN AN) ++ (sW oS gS cA (t.2.2.1) (t.2.2.2))) H → va_D A ((nW oN gN cA FN AN) ++ (sW oS gS cA (t.2.2.1) (t.2.2.2))) → va_S A s.heap H locs → lv_has ls 8 [(0, .ref oS), (1, .ref oN), (2, .ref (gS 6)), (3, .int x3), (4, .int (t.1)), (5, .int x5), (6, .int x6), (7, .int (t.2.1))] → W p l e ({ frames := 4, cells := 0, slots := 0, locals := 99 } : Room) s m args below meth c H locs 0 0 Q (F0 m 76 ls [])) ?_ hw H locs ls hP hD hS hl
      intro k_76 hk_76 t
      obtain ⟨x4, x7, FS, AS⟩ := t
      intro hw H locs ls hP hD hS hl
      have hP : va_P (dC, dI) vwCl ((nW oN gN cA FN AN) ++ (sW oS gS cA FS AS)) H := hP
      have hD : va_D A ((nW oN gN cA FN AN) ++ (sW oS gS cA FS AS)) := hD
      have hl : lv_has ls 8 [(0, .ref oS), (1, .ref oN), (2, .ref (gS 6)), (3, .int x3), (4, .int x4), (5, .int x5), (6, .int x6), (7, .int x7)] := hl
      have hw : st_X4_spread_6_76 FN AN x3 x5 x6 k_47 Post k_76 x4 x7 FS AS := hw
      refine lv_iload hx hb dX4_spread_76 (lv_at hl 7 rfl) ?_
      refine lv_aload_n hx hb dX4_spread_78 rfl (lv_at hl 1 rfl) ?_
      refine gz (q0 := 0) (v := .int (FN 1)) fx hK hP fl_X4_55 rfl rfl dX4_spread_79 ?_
      refine lv_icmp_ge (tgt := 106) hx hb dX4_spread_82 (by decide) (fun c_1 => ?_) (fun c_1 => ?_)
      · have hw := hw.1 c_1
        refine lv_iinc (v := (x5 + 1)) (lv' := [(5, .int (x5 + 1)), (0, .ref oS), (1, .ref oN), (2, .ref (gS 6)), (3, .int x3), (4, .int x4), (6, .int x6), (7, .int x7)]) hx hb dX4_spread_106 hl (k := 5) rfl rfl (by decide) rfl (fun ls hl => ?_)
        refine lv_goto (tgt := 47) hx hb dX4_spread_109 (by decide) ?_
        exact hk_47 (x4, (x5 + 1), FS, AS) hw _ _ _ hP hD hS (lv_sub hl [1, 2, 3, 4, 5, 0] rfl)
      · have hw := hw.2 c_1
        refine lv_aload_n hx hb dX4_spread_85 rfl (lv_at hl 0 rfl) ?_
        refine lv_aload_n hx hb dX4_spread_86 rfl (lv_at hl 1 rfl) ?_
        refine lv_aload_n hx hb dX4_spread_87 rfl (lv_at hl 2 rfl) ?_
        refine lv_iload_n hx hb dX4_spread_88 rfl (lv_at hl 3 rfl) ?_
        refine lv_iload hx hb dX4_spread_89 (lv_at hl 6 rfl) ?_
        refine lv_iload hx hb dX4_spread_91 (lv_at hl 7 rfl) ?_
        refine lv_iload hx hb dX4_spread_93 (lv_at hl 4 rfl) ?_
        refine caMuV (rest := []) (As := [.ref oN, .ref (gS 6), .int x3, .int x6, .int x7, .int x4]) (w1 := ([] : va_W)) (w2 := ([] : va_W)) fx hK lk_X4_77 (c_X4_spreadBy_6 l dC dI cA oN gN oS gS FN AN FS AS x3 x6 x7 x4 _ hw) hP hD hS hA 3 rfl rfl ⟨(Nat.le_of_ble_eq_true rfl), (Nat.le_of_ble_eq_true rfl)⟩ rfl hl.1 rfl (Nat.le_of_ble_eq_true rfl) dX4_spread_95 ?_
        intro r_5 u_4 H locs hw hP hD hS
        obtain ⟨FS_2, AS_3⟩ := u_4
        have hP : va_P (dC, dI) vwCl ((nW oN gN cA FN AN) ++ (sW oS gS cA FS_2 AS_3)) H := hP
        have hD : va_D A ((nW oN gN cA FN AN) ++ (sW oS gS cA FS_2 AS_3)) := hD
        try dsimp only at hw
        refine lv_istore (lv' := [(4, .int r_5), (0, .ref oS), (1, .ref oN), (2, .ref (gS 6)), (3, .int x3), (5, .int x5), (6, .int x6), (7, .int x7)]) hx hb dX4_spread_98 hl (by decide) rfl (fun ls hl => ?_)
        refine lv_iinc (v := (x7 + 1)) (lv' := [(7, .int (x7 + 1)), (4, .int r_5), (0, .ref oS), (1, .ref oN), (2, .ref (gS 6)), (3, .int x3), (5, .int x5), (6, .int x6)]) hx hb dX4_spread_100 hl (k := 7) rfl rfl (by decide) rfl (fun ls hl => ?_)
        refine lv_goto (tgt := 76) hx hb dX4_spread_103 (by decide) ?_
        exact hk_76 (r_5, (x7 + 1), FS_2, AS_3) hw _ _ _ hP hD hS (lv_sub hl [2, 3, 4, 5, 1, 6, 7, 0] rfl)
    refine lv_iload hx hb dX4_spread_47 (lv_at hl 5 rfl) ?_
    refine lv_iload hx hb dX4_spread_49 (lv_at hl 4 rfl) ?_
    refine lv_icmp_ge (tgt := 112) hx hb dX4_spread_51 (by decide) (fun c_6 => ?_) (fun c_6 => ?_)
    · have hw := hw.1 c_6
      exact hret (FS, AS) _ _ _ _ dX4_spread_112 hw hP hD hS
    · have hw := hw.2 c_6
      refine lv_iload hx hb dX4_spread_54 (lv_at hl 5 rfl) ?_
      refine lv_sipush (v := (4096 : Int32)) hx hb dX4_spread_56 (by decide) ?_
      refine lv_icmp_ge (tgt := 112) hx hb dX4_spread_59 (by decide) (fun c_7 => ?_) (fun c_7 => ?_)
      · have hw := hw.1 c_7
        exact hret (FS, AS) _ _ _ _ dX4_spread_112 hw hP hD hS
      · have hw := hw.2 c_7
        refine lv_aload_n hx hb dX4_spread_62 rfl (lv_at hl 0 rfl) ?_
        refine gz (q0 := 3) (v := .ref (gS 7)) fx hK hP fl_X4_27 rfl rfl dX4_spread_63 ?_
        refine lv_iload hx hb dX4_spread_66 (lv_at hl 5 rfl) ?_
        refine caRoS (rest := []) (As := [.ref (gS 7), .int x5]) fx hK lk_X4_73 (c_at l (dC, dI) cA (gS 7) 4096 (AS 7) x5 (by decide)) (hP.sub [9] rfl) ⟨(Nat.le_of_ble_eq_true rfl), (Nat.le_of_ble_eq_true rfl)⟩ rfl hl.1 rfl (Nat.le_of_ble_eq_true rfl) dX4_spread_68 ?_
        intro r_8 e_9
        have hw := hw r_8 e_9
        refine lv_istore (lv' := [(6, .int r_8), (0, .ref oS), (1, .ref oN), (2, .ref (gS 6)), (3, .int x3), (4, .int x4), (5, .int x5)]) hx hb dX4_spread_71 hl (by decide) rfl (fun ls hl => ?_)
        refine lv_iconst (v := (0 : Int32)) hx hb dX4_spread_73 (by decide) ?_
        refine lv_istore (lv' := [(7, .int (0 : Int32)), (6, .int r_8), (0, .ref oS), (1, .ref oN), (2, .ref (gS 6)), (3, .int x3), (4, .int x4), (5, .int x5)]) hx hb dX4_spread_74 hl (by decide) rfl (fun ls hl => ?_)
        exact b_76 FS AS x4 x5 r_8 (0 : Int32) _ _ _ hP hD hS (lv_sub hl [2, 3, 4, 5, 6, 7, 1, 0] rfl) hw
  have b_6 : ∀ (FS : Nat → Int32) (AS : Nat → Nat → Int32) (x4 : Int32) (x5 : Int32) (H : Heap) (locs : List Loc) (ls : Array Slot), va_P (dC, dI) vwCl ((nW oN gN cA FN AN) ++ (sW oS gS cA FS AS)) H → va_D A ((nW oN gN cA FN AN) ++ (sW oS gS cA FS AS)) → va_S A s.heap H locs → lv_has ls 8 [(0, .ref oS), (1, .ref oN), (2, .ref (gS 6)), (3, .int x3), (4, .int x4), (5, .int x5)] → wp_X4_spread_6_6 FN AN FS AS x3 x4 x5 Post → W p l e ({ frames := 4, cells := 0, slots := 0, locals := 99 } : Room) s m args below meth c H locs 0 0 Q (F0 m 6 ls []) := by
    intro FS AS x4 x5 H locs ls hP hD hS hl hw
    refine Lp_go (C := fun (t : Int32 × Int32 × (Nat → Int32) × (Nat → Nat → Int32)) => ∀ (H : Heap) (locs : List Loc) (ls : Array Slot), va_P (dC, dI) vwCl ((nW oN gN cA FN AN) ++ (sW oS gS cA (t.2.2.1) (t.2.2.2))) H → va_D A ((nW oN gN cA FN AN) ++ (sW oS gS cA (t.2.2.1) (t.2.2.2))) → va_S A s.heap H locs → lv_has ls 8 [(0, .ref oS), (1, .ref oN), (2, .ref (gS 6)), (3, .int x3), (4, .int (t.1)), (5, .int (t.2.1))] → W p l e ({ frames := 4, cells := 0, slots := 0, locals := 99 } : Room) s m args below meth c H locs 0 0 Q (F0 m 6 ls [])) ?_ hw H locs ls hP hD hS hl
    intro k_6 hk_6 t
    obtain ⟨x4, x5, FS, AS⟩ := t
    intro hw H locs ls hP hD hS hl
    have hP : va_P (dC, dI) vwCl ((nW oN gN cA FN AN) ++ (sW oS gS cA FS AS)) H := hP
    have hD : va_D A ((nW oN gN cA FN AN) ++ (sW oS gS cA FS AS)) := hD
    have hl : lv_has ls 8 [(0, .ref oS), (1, .ref oN), (2, .ref (gS 6)), (3, .int x3), (4, .int x4), (5, .int x5)] := hl
    have hw : st_X4_spread_6_6 FN AN x3 Post k_6 x4 x5 FS AS := hw
    refine lv_iload hx hb dX4_spread_6 (lv_at hl 5 rfl) ?_
    refine lv_aload_n hx hb dX4_spread_8 rfl (lv_at hl 0 rfl) ?_
    refine gz (q0 := 3) (v := .int (FS 1)) fx hK hP fl_X4_46 rfl rfl dX4_spread_9 ?_
    refine lv_icmp_ge (tgt := 44) hx hb dX4_spread_12 (by decide) (fun c_10 => ?_) (fun c_10 => ?_)
    · have hw := hw.1 c_10
      refine lv_iconst (v := (0 : Int32)) hx hb dX4_spread_44 (by decide) ?_
      refine lv_istore (lv' := [(5, .int (0 : Int32)), (0, .ref oS), (1, .ref oN), (2, .ref (gS 6)), (3, .int x3), (4, .int x4)]) hx hb dX4_spread_45 hl (by decide) rfl (fun ls hl => ?_)
      exact b_47 FS AS x4 (0 : Int32) _ _ _ hP hD hS (lv_sub hl [1, 2, 3, 4, 5, 0] rfl) hw
    · have hw := hw.2 c_10
      refine lv_aload_n hx hb dX4_spread_15 rfl (lv_at hl 2 rfl) ?_
      refine lv_iload hx hb dX4_spread_16 (lv_at hl 5 rfl) ?_
      refine caRoS (rest := []) (As := [.ref (gS 6), .int x5]) fx hK lk_X4_73 (c_at l (dC, dI) cA (gS 6) 4096 (AS 6) x5 (by decide)) (hP.sub [8] rfl) ⟨(Nat.le_of_ble_eq_true rfl), (Nat.le_of_ble_eq_true rfl)⟩ rfl hl.1 rfl (Nat.le_of_ble_eq_true rfl) dX4_spread_18 ?_
      intro r_11 e_12
      have hw := hw r_11 e_12
      refine lv_if_ne (tgt := 38) hx hb dX4_spread_21 (by decide) (fun c_13 => ?_) (fun c_13 => ?_)
      · have hw := hw.1 c_13
        refine lv_iinc (v := (x5 + 1)) (lv' := [(5, .int (x5 + 1)), (0, .ref oS), (1, .ref oN), (2, .ref (gS 6)), (3, .int x3), (4, .int x4)]) hx hb dX4_spread_38 hl (k := 5) rfl rfl (by decide) rfl (fun ls hl => ?_)
        refine lv_goto (tgt := 6) hx hb dX4_spread_41 (by decide) ?_
        exact hk_6 (x4, (x5 + 1), FS, AS) hw _ _ _ hP hD hS (lv_sub hl [1, 2, 3, 4, 5, 0] rfl)
      · have hw := hw.2 c_13
        refine lv_aload_n hx hb dX4_spread_24 rfl (lv_at hl 0 rfl) ?_
        refine gz (q0 := 3) (v := .ref (gS 7)) fx hK hP fl_X4_27 rfl rfl dX4_spread_25 ?_
        refine lv_iload hx hb dX4_spread_28 (lv_at hl 4 rfl) ?_
        refine lv_iload hx hb dX4_spread_30 (lv_at hl 5 rfl) ?_
        refine caCell (rest := []) (As := [.ref (gS 7), .int x4, .int x5]) fx hK lk_X4_64 (c_put l (dC, dI) cA (gS 7) 4096 (AS 7) x4 x5 (by decide)) hP hD hS hA 9 rfl ⟨(Nat.le_of_ble_eq_true rfl), (Nat.le_of_ble_eq_true rfl)⟩ rfl hl.1 rfl (Nat.le_of_ble_eq_true rfl) dX4_spread_32 ?_
        intro g_14 H locs e_15 hP hD hS
        have hw := hw g_14 e_15
        have hP : va_P (dC, dI) vwCl ((nW oN gN cA FN AN) ++ (sW oS gS cA FS (uA AS 7 g_14))) H := hP
        have hD : va_D A ((nW oN gN cA FN AN) ++ (sW oS gS cA FS (uA AS 7 g_14))) := hD
        refine lv_iinc (v := (x4 + 1)) (lv' := [(4, .int (x4 + 1)), (0, .ref oS), (1, .ref oN), (2, .ref (gS 6)), (3, .int x3), (5, .int x5)]) hx hb dX4_spread_35 hl (k := 4) rfl rfl (by decide) rfl (fun ls hl => ?_)
        refine lv_iinc (v := (x5 + 1)) (lv' := [(5, .int (x5 + 1)), (4, .int (x4 + 1)), (0, .ref oS), (1, .ref oN), (2, .ref (gS 6)), (3, .int x3)]) hx hb dX4_spread_38 hl (k := 5) rfl rfl (by decide) rfl (fun ls hl => ?_)
        refine lv_goto (tgt := 6) hx hb dX4_spread_41 (by decide) ?_
        exact hk_6 ((x4 + 1), (x5 + 1), FS, (uA AS 7 g_14)) hw _ _ _ hP hD hS (lv_sub hl [2, 3, 4, 5, 1, 0] rfl)
  refine lv_iconst (v := (0 : Int32)) hx hb dX4_spread_0 (by decide) ?_
  refine lv_istore (lv' := [(4, .int (0 : Int32)), (0, .ref oS), (1, .ref oN), (2, .ref (gS 6)), (3, .int x3)]) hx hb dX4_spread_1 hl (by decide) rfl (fun ls hl => ?_)
  refine lv_iconst (v := (0 : Int32)) hx hb dX4_spread_3 (by decide) ?_
  refine lv_istore (lv' := [(5, .int (0 : Int32)), (4, .int (0 : Int32)), (0, .ref oS), (1, .ref oN), (2, .ref (gS 6)), (3, .int x3)]) hx hb dX4_spread_4 hl (by decide) rfl (fun ls hl => ?_)
  exact b_6 FS AS (0 : Int32) (0 : Int32) _ _ _ hP hD hS (lv_sub hl [2, 3, 4, 5, 1, 0] rfl) hw
set_option maxHeartbeats 4000000 in
set_option maxRecDepth 100000 in
theorem c_X4_make (l : Launch) (dC : Nat → ClassId) (dI : Nat → Nat → Nat) (cA : ClassId) (oN : Nat) (gN : Nat → Nat) (oS : Nat) (gS : Nat → Nat) (FN : Nat → Int32) (AN : Nat → Nat → Int32) (FS : Nat → Int32) (AS : Nat → Nat → Int32) (Post : (Nat → Int32) → (Nat → Nat → Int32) → Prop) (hw : wp_X4_make FN AN FS AS Post) : MuV (dC, dI) cA l yX4_make cX4_make 3 5 126 [.ref oS, .ref oN] ((nW oN gN cA FN AN) ++ (sW oS gS cA FS AS)) (fun (u : (Nat → Int32) × (Nat → Nat → Int32)) => Post (u.1) (u.2)) (fun u => ((nW oN gN cA FN AN) ++ (sW oS gS cA (u.1) (u.2)))) := by
  refine enMv (by decide) (Nat.le_of_ble_eq_true rfl) ?_
  intro p e s m args below meth c Q ls A fx hK hP hD hS hA hret hl
  obtain ⟨hx, hb, hml, hown, hts⟩ := id fx
  have hl : lv_has ls 3 [(0, .ref oS), (1, .ref oN)] := hl
  have hP : va_P (dC, dI) vwCl ((nW oN gN cA FN AN) ++ (sW oS gS cA FS AS)) s.heap := hP
  have b_29 : ∀ (FS : Nat → Int32) (AS : Nat → Nat → Int32) (x2 : Int32) (H : Heap) (locs : List Loc) (ls : Array Slot), va_P (dC, dI) vwCl ((nW oN gN cA FN AN) ++ (sW oS gS cA FS AS)) H → va_D A ((nW oN gN cA FN AN) ++ (sW oS gS cA FS AS)) → va_S A s.heap H locs → lv_has ls 3 [(0, .ref oS), (1, .ref oN), (2, .int x2)] → wp_X4_make_29 FN AN FS AS x2 Post → W p l e ({ frames := 5, cells := 0, slots := 0, locals := 126 } : Room) s m args below meth c H locs 0 0 Q (F0 m 29 ls []) := by
    intro FS AS x2 H locs ls hP hD hS hl hw
    refine Lp_go (C := fun (t : Int32 × (Nat → Int32) × (Nat → Nat → Int32)) => ∀ (H : Heap) (locs : List Loc) (ls : Array Slot), va_P (dC, dI) vwCl ((nW oN gN cA FN AN) ++ (sW oS gS cA (t.2.1) (t.2.2))) H → va_D A ((nW oN gN cA FN AN) ++ (sW oS gS cA (t.2.1) (t.2.2))) → va_S A s.heap H locs → lv_has ls 3 [(0, .ref oS), (1, .ref oN), (2, .int (t.1))] → W p l e ({ frames := 5, cells := 0, slots := 0, locals := 126 } : Room) s m args below meth c H locs 0 0 Q (F0 m 29 ls [])) ?_ hw H locs ls hP hD hS hl
    intro k_29 hk_29 t
    obtain ⟨x2, FS, AS⟩ := t
    intro hw H locs ls hP hD hS hl
    have hP : va_P (dC, dI) vwCl ((nW oN gN cA FN AN) ++ (sW oS gS cA FS AS)) H := hP
    have hD : va_D A ((nW oN gN cA FN AN) ++ (sW oS gS cA FS AS)) := hD
    have hl : lv_has ls 3 [(0, .ref oS), (1, .ref oN), (2, .int x2)] := hl
    have hw : st_X4_make_29 FN AN Post k_29 x2 FS AS := hw
    refine lv_iload_n hx hb dX4_make_29 rfl (lv_at hl 2 rfl) ?_
    refine lv_aload_n hx hb dX4_make_30 rfl (lv_at hl 0 rfl) ?_
    refine gz (q0 := 3) (v := .int (FS 1)) fx hK hP fl_X4_46 rfl rfl dX4_make_31 ?_
    refine lv_icmp_ge (tgt := 49) hx hb dX4_make_34 (by decide) (fun c_2 => ?_) (fun c_2 => ?_)
    · have hw := hw.1 c_2
      refine lv_aload_n hx hb dX4_make_49 rfl (lv_at hl 0 rfl) ?_
      refine lv_aload_n hx hb dX4_make_50 rfl (lv_at hl 1 rfl) ?_
      refine lv_aload_n hx hb dX4_make_51 rfl (lv_at hl 0 rfl) ?_
      refine gz (q0 := 3) (v := .ref (gS 4)) fx hK hP fl_X4_18 rfl rfl dX4_make_52 ?_
      refine lv_iconst (v := (0 : Int32)) hx hb dX4_make_55 (by decide) ?_
      refine caMuVv (rest := []) (As := [.ref oN, .ref (gS 4), .int (0 : Int32)]) (w1 := ([] : va_W)) (w2 := ([] : va_W)) fx hK lk_X4_51 (c_X4_spread_4 l dC dI cA oN gN oS gS FN AN FS AS (0 : Int32) _ hw) hP hD hS hA 3 rfl rfl ⟨(Nat.le_of_ble_eq_true rfl), (Nat.le_of_ble_eq_true rfl)⟩ rfl hl.1 rfl (Nat.le_of_ble_eq_true rfl) dX4_make_56 ?_
      intro u_5 H locs hw hP hD hS
      obtain ⟨FS_3, AS_4⟩ := u_5
      have hP : va_P (dC, dI) vwCl ((nW oN gN cA FN AN) ++ (sW oS gS cA FS_3 AS_4)) H := hP
      have hD : va_D A ((nW oN gN cA FN AN) ++ (sW oS gS cA FS_3 AS_4)) := hD
      try dsimp only at hw
      refine lv_aload_n hx hb dX4_make_59 rfl (lv_at hl 0 rfl) ?_
      refine lv_aload_n hx hb dX4_make_60 rfl (lv_at hl 1 rfl) ?_
      refine lv_aload_n hx hb dX4_make_61 rfl (lv_at hl 0 rfl) ?_
      refine gz (q0 := 3) (v := .ref (gS 5)) fx hK hP fl_X4_21 rfl rfl dX4_make_62 ?_
      refine lv_iconst (v := (1 : Int32)) hx hb dX4_make_65 (by decide) ?_
      refine caMuVv (rest := []) (As := [.ref oN, .ref (gS 5), .int (1 : Int32)]) (w1 := ([] : va_W)) (w2 := ([] : va_W)) fx hK lk_X4_51 (c_X4_spread_5 l dC dI cA oN gN oS gS FN AN FS_3 AS_4 (1 : Int32) _ hw) hP hD hS hA 3 rfl rfl ⟨(Nat.le_of_ble_eq_true rfl), (Nat.le_of_ble_eq_true rfl)⟩ rfl hl.1 rfl (Nat.le_of_ble_eq_true rfl) dX4_make_66 ?_
      intro u_8 H locs hw hP hD hS
      obtain ⟨FS_6, AS_7⟩ := u_8
      have hP : va_P (dC, dI) vwCl ((nW oN gN cA FN AN) ++ (sW oS gS cA FS_6 AS_7)) H := hP
      have hD : va_D A ((nW oN gN cA FN AN) ++ (sW oS gS cA FS_6 AS_7)) := hD
      try dsimp only at hw
      refine lv_aload_n hx hb dX4_make_69 rfl (lv_at hl 0 rfl) ?_
      refine lv_aload_n hx hb dX4_make_70 rfl (lv_at hl 1 rfl) ?_
      refine lv_aload_n hx hb dX4_make_71 rfl (lv_at hl 0 rfl) ?_
      refine gz (q0 := 3) (v := .ref (gS 6)) fx hK hP fl_X4_24 rfl rfl dX4_make_72 ?_
      refine lv_iconst (v := (2 : Int32)) hx hb dX4_make_75 (by decide) ?_
      refine caMuVv (rest := []) (As := [.ref oN, .ref (gS 6), .int (2 : Int32)]) (w1 := ([] : va_W)) (w2 := ([] : va_W)) fx hK lk_X4_51 (c_X4_spread_6 l dC dI cA oN gN oS gS FN AN FS_6 AS_7 (2 : Int32) _ hw) hP hD hS hA 3 rfl rfl ⟨(Nat.le_of_ble_eq_true rfl), (Nat.le_of_ble_eq_true rfl)⟩ rfl hl.1 rfl (Nat.le_of_ble_eq_true rfl) dX4_make_76 ?_
      intro u_11 H locs hw hP hD hS
      obtain ⟨FS_9, AS_10⟩ := u_11
      have hP : va_P (dC, dI) vwCl ((nW oN gN cA FN AN) ++ (sW oS gS cA FS_9 AS_10)) H := hP
      have hD : va_D A ((nW oN gN cA FN AN) ++ (sW oS gS cA FS_9 AS_10)) := hD
      try dsimp only at hw
      exact hret (FS_9, AS_10) _ _ _ _ dX4_make_79 hw hP hD hS
    · have hw := hw.2 c_2
      refine lv_aload_n hx hb dX4_make_37 rfl (lv_at hl 0 rfl) ?_
      refine lv_aload_n hx hb dX4_make_38 rfl (lv_at hl 1 rfl) ?_
      refine lv_iload_n hx hb dX4_make_39 rfl (lv_at hl 2 rfl) ?_
      refine caMuVv (rest := []) (As := [.ref oN, .int x2]) (w1 := ([] : va_W)) (w2 := ([] : va_W)) fx hK lk_X4_47 (c_X4_noteMoves l dC dI cA oN gN oS gS FN AN FS AS x2 _ hw) hP hD hS hA 3 rfl rfl ⟨(Nat.le_of_ble_eq_true rfl), (Nat.le_of_ble_eq_true rfl)⟩ rfl hl.1 rfl (Nat.le_of_ble_eq_true rfl) dX4_make_40 ?_
      intro u_14 H locs hw hP hD hS
      obtain ⟨FS_12, AS_13⟩ := u_14
      have hP : va_P (dC, dI) vwCl ((nW oN gN cA FN AN) ++ (sW oS gS cA FS_12 AS_13)) H := hP
      have hD : va_D A ((nW oN gN cA FN AN) ++ (sW oS gS cA FS_12 AS_13)) := hD
      try dsimp only at hw
      refine lv_iinc (v := (x2 + 1)) (lv' := [(2, .int (x2 + 1)), (0, .ref oS), (1, .ref oN)]) hx hb dX4_make_43 hl (k := 2) rfl rfl (by decide) rfl (fun ls hl => ?_)
      refine lv_goto (tgt := 29) hx hb dX4_make_46 (by decide) ?_
      exact hk_29 ((x2 + 1), FS_12, AS_13) hw _ _ _ hP hD hS (lv_sub hl [1, 2, 0] rfl)
  refine lv_aload_n hx hb dX4_make_0 rfl (lv_at hl 0 rfl) ?_
  refine gz (q0 := 3) (v := .int (FS 0)) fx hK hP fl_X4_30 rfl rfl dX4_make_1 ?_
  refine lv_if_eq (tgt := 8) hx hb dX4_make_4 (by decide) (fun c_15 => ?_) (fun c_15 => ?_)
  · have hw := hw.1 c_15
    refine lv_aload_n hx hb dX4_make_8 rfl (lv_at hl 0 rfl) ?_
    refine lv_iconst (v := (1 : Int32)) hx hb dX4_make_9 (by decide) ?_
    refine pz (q0 := 3) (v := .int (1 : Int32)) fx hK hP hD hS fp_X4_30 rfl rfl rfl (Nat.le_of_ble_eq_true rfl) dX4_make_10 (fun H locs hP hD hS => ?_)
    have hP : va_P (dC, dI) vwCl ((nW oN gN cA FN AN) ++ (sW oS gS cA (uF FS 0 (1 : Int32)) AS)) H := hP
    have hD : va_D A ((nW oN gN cA FN AN) ++ (sW oS gS cA (uF FS 0 (1 : Int32)) AS)) := hD
    refine lv_aload_n hx hb dX4_make_13 rfl (lv_at hl 0 rfl) ?_
    refine lv_aload_n hx hb dX4_make_14 rfl (lv_at hl 1 rfl) ?_
    refine gz (q0 := 0) (v := .int (FN 3)) fx hK hP fl_X4_34 rfl rfl dX4_make_15 ?_
    refine lv_sipush (v := (4096 : Int32)) hx hb dX4_make_18 (by decide) ?_
    refine va_mmin hx hb (hml.trans hl.1.symm) hown (hts _ (List.mem_cons_of_mem _ q_25_3)) (hts _ (List.mem_cons_of_mem _ q_18_20)) (hts _ (List.mem_cons_of_mem _ q_18_21)) (hts _ (List.mem_cons_of_mem _ q_18_22)) (Nat.le_of_ble_eq_true rfl) (Nat.le_of_ble_eq_true rfl) (Nat.zero_le _) (Nat.zero_le _) dX4_make_21 ?_
    refine pz (q0 := 3) (v := .int (if (4096 : Int32) < (FN 3) then (4096 : Int32) else (FN 3))) fx hK hP hD hS fp_X4_46 rfl rfl rfl (Nat.le_of_ble_eq_true rfl) dX4_make_24 (fun H locs hP hD hS => ?_)
    have hP : va_P (dC, dI) vwCl ((nW oN gN cA FN AN) ++ (sW oS gS cA (uF (uF FS 0 (1 : Int32)) 1 (if (4096 : Int32) < (FN 3) then (4096 : Int32) else (FN 3))) AS)) H := hP
    have hD : va_D A ((nW oN gN cA FN AN) ++ (sW oS gS cA (uF (uF FS 0 (1 : Int32)) 1 (if (4096 : Int32) < (FN 3) then (4096 : Int32) else (FN 3))) AS)) := hD
    refine lv_iconst (v := (0 : Int32)) hx hb dX4_make_27 (by decide) ?_
    refine lv_istore_n (lv' := [(2, .int (0 : Int32)), (0, .ref oS), (1, .ref oN)]) hx hb dX4_make_28 rfl hl (by decide) rfl (fun ls hl => ?_)
    exact b_29 (uF (uF FS 0 (1 : Int32)) 1 (if (4096 : Int32) < (FN 3) then (4096 : Int32) else (FN 3))) AS (0 : Int32) _ _ _ hP hD hS (lv_sub hl [1, 2, 0] rfl) hw
  · have hw := hw.2 c_15
    exact hret (FS, AS) _ _ _ _ dX4_make_7 hw hP hD hS
set_option maxHeartbeats 4000000 in
set_option maxRecDepth 100000 in
theorem c_X4_behind (l : Launch) (dC : Nat → ClassId) (dI : Nat → Nat → Nat) (cA : ClassId) (oN : Nat) (gN : Nat → Nat) (oS : Nat) (gS : Nat → Nat) (FN : Nat → Int32) (AN : Nat → Nat → Int32) (FS : Nat → Int32) (AS : Nat → Nat → Int32) (x2 : Int32) (x3 : Int32) (Post : Int32 → Prop) (hw : wp_X4_behind FN AN FS AS x2 x3 Post) : RoI (dC, dI) cA l yX4_behind cX4_behind 4 .int 2 45 [.ref oS, .ref oN, .int x2, .int x3] ((nW oN gN cA FN AN) ++ (sW oS gS cA FS AS)) Post := by
  refine enRo (by decide) (Nat.le_of_ble_eq_true rfl) ?_
  intro p e s m args below meth c Q ls fx hK hP hret hl
  obtain ⟨hx, hb, hml, hown, hts⟩ := id fx
  have hl : lv_has ls 4 [(0, .ref oS), (1, .ref oN), (2, .int x2), (3, .int x3)] := hl
  refine lv_aload_n hx hb dX4_behind_0 rfl (lv_at hl 1 rfl) ?_
  refine lv_iload_n hx hb dX4_behind_1 rfl (lv_at hl 2 rfl) ?_
  refine lv_iload_n hx hb dX4_behind_2 rfl (lv_at hl 3 rfl) ?_
  refine lv_aload_n hx hb dX4_behind_3 rfl (lv_at hl 0 rfl) ?_
  refine lv_iload_n hx hb dX4_behind_4 rfl (lv_at hl 2 rfl) ?_
  refine lv_iload_n hx hb dX4_behind_5 rfl (lv_at hl 3 rfl) ?_
  refine caRoV (rest := [.int x3, .int x2, .ref oN]) (As := [.int x2, .int x3]) fx hK lk_X4_92 (c_X4_wantedBy l dC dI cA oS gS FS AS x2 x3 _ hw) (hP.sub [3, 4, 5, 6, 7, 8, 9] rfl) 0 rfl rfl ⟨(Nat.le_of_ble_eq_true rfl), (Nat.le_of_ble_eq_true rfl)⟩ rfl hl.1 rfl (Nat.le_of_ble_eq_true rfl) dX4_behind_6 ?_
  intro r_3 hw
  refine caRoV (rest := []) (As := [.int x2, .int x3, .int r_3]) fx hK lk_X4_84 (c_X1_withValue l dC dI cA oN gN FN AN x2 x3 r_3 _ hw) (hP.sub [0, 1, 2] rfl) 0 rfl rfl ⟨(Nat.le_of_ble_eq_true rfl), (Nat.le_of_ble_eq_true rfl)⟩ rfl hl.1 rfl (Nat.le_of_ble_eq_true rfl) dX4_behind_9 ?_
  intro r_4 hw
  exact hret _ _ _ dX4_behind_12 rfl hw
set_option maxHeartbeats 4000000 in
set_option maxRecDepth 100000 in
theorem c_X4_worstOf (l : Launch) (dC : Nat → ClassId) (dI : Nat → Nat → Nat) (cA : ClassId) (oS : Nat) (gS : Nat → Nat) (FS : Nat → Int32) (AS : Nat → Nat → Int32) (x1 : Int32) (Post : Int32 → Prop) (hw : wp_X4_worstOf FS AS x1 Post) : RoI (dC, dI) cA l yX4_worstOf cX4_worstOf 2 .int 1 21 [.ref oS, .int x1] (sW oS gS cA FS AS) Post := by
  refine enRo (by decide) (Nat.le_of_ble_eq_true rfl) ?_
  intro p e s m args below meth c Q ls fx hK hP hret hl
  obtain ⟨hx, hb, hml, hown, hts⟩ := id fx
  have hl : lv_has ls 2 [(0, .ref oS), (1, .int x1)] := hl
  refine lv_aload_n hx hb dX4_worstOf_0 rfl (lv_at hl 0 rfl) ?_
  refine gz (q0 := 0) (v := .ref (gS 4)) fx hK hP fl_X4_18 rfl rfl dX4_worstOf_1 ?_
  refine lv_iload_n hx hb dX4_worstOf_4 rfl (lv_at hl 1 rfl) ?_
  refine caRoS (rest := []) (As := [.ref (gS 4), .int x1]) fx hK lk_X4_73 (c_at l (dC, dI) cA (gS 4) 4096 (AS 4) x1 (by decide)) (hP.sub [3] rfl) ⟨(Nat.le_of_ble_eq_true rfl), (Nat.le_of_ble_eq_true rfl)⟩ rfl hl.1 rfl (Nat.le_of_ble_eq_true rfl) dX4_worstOf_5 ?_
  intro r_3 e_4
  have hw := hw r_3 e_4
  exact hret _ _ _ dX4_worstOf_8 rfl hw
set_option maxHeartbeats 4000000 in
set_option maxRecDepth 100000 in
theorem c_X4_rankOf (l : Launch) (dC : Nat → ClassId) (dI : Nat → Nat → Nat) (cA : ClassId) (x0 : Int32) (Post : Int32 → Prop) (hw : wp_X4_rankOf x0 Post) : RoI (dC, dI) cA l yX4_rankOf cX4_rankOf 1 .int 0 0 [.int x0] ([] : va_W) Post := by
  refine enRo (by decide) (Nat.le_of_ble_eq_true rfl) ?_
  intro p e s m args below meth c Q ls fx hK hP hret hl
  obtain ⟨hx, hb, hml, hown, hts⟩ := id fx
  have hl : lv_has ls 1 [(0, .int x0)] := hl
  refine lv_iload_n hx hb dX4_rankOf_0 rfl (lv_at hl 0 rfl) ?_
  refine lv_bipush (v := (-5 : Int32)) hx hb dX4_rankOf_1 (by decide) ?_
  refine lv_icmp_ne (tgt := 11) hx hb dX4_rankOf_3 (by decide) (fun c_2 => ?_) (fun c_2 => ?_)
  · have hw := hw.1 c_2
    refine lv_iload_n hx hb dX4_rankOf_11 rfl (lv_at hl 0 rfl) ?_
    exact hret _ _ _ dX4_rankOf_12 rfl hw
  · have hw := hw.2 c_2
    refine lv_ldc (v := (2147483647 : Int32)) hx hb hown (hts _ (List.mem_cons_of_mem _ q_27_19)) dX4_rankOf_6 ?_
    refine lv_goto (tgt := 12) hx hb dX4_rankOf_8 (by decide) ?_
    exact hret _ _ _ dX4_rankOf_12 rfl hw
set_option maxHeartbeats 4000000 in
set_option maxRecDepth 100000 in
theorem c_X4_clearedSpare (l : Launch) (dC : Nat → ClassId) (dI : Nat → Nat → Nat) (cA : ClassId) (oS : Nat) (gS : Nat → Nat) (FS : Nat → Int32) (AS : Nat → Nat → Int32) (Post : (Nat → Int32) → (Nat → Nat → Int32) → Prop) (hw : wp_X4_clearedSpare FS AS Post) : MuR (dC, dI) cA l yX4_clearedSpare cX4_clearedSpare 1 (.array .int) 1 23 [.ref oS] (sW oS gS cA FS AS) (gS 7) (fun (u : (Nat → Int32) × (Nat → Nat → Int32)) => Post (u.1) (u.2)) (fun u => (sW oS gS cA (u.1) (u.2))) := by
  refine enMr (Or.inr ⟨_, rfl⟩) (by decide) (Nat.le_of_ble_eq_true rfl) ?_
  intro p e s m args below meth c Q ls A fx hK hP hD hS hA hret hl
  obtain ⟨hx, hb, hml, hown, hts⟩ := id fx
  have hl : lv_has ls 1 [(0, .ref oS)] := hl
  have hP : va_P (dC, dI) vwCl (sW oS gS cA FS AS) s.heap := hP
  refine lv_aload_n hx hb dX4_clearedSpare_0 rfl (lv_at hl 0 rfl) ?_
  refine gz (q0 := 0) (v := .ref (gS 7)) fx hK hP fl_X4_27 rfl rfl dX4_clearedSpare_1 ?_
  refine lv_iconst (v := (-1 : Int32)) hx hb dX4_clearedSpare_4 (by decide) ?_
  refine caCell (rest := []) (As := [.ref (gS 7), .int (-1 : Int32)]) fx hK lk_X4_95 (c_fill l (dC, dI) cA (gS 7) 4096 (AS 7) (-1 : Int32) (by decide)) hP hD hS hA 6 rfl ⟨(Nat.le_of_ble_eq_true rfl), (Nat.le_of_ble_eq_true rfl)⟩ rfl hl.1 rfl (Nat.le_of_ble_eq_true rfl) dX4_clearedSpare_5 ?_
  intro g_3 H locs e_4 hP hD hS
  have hw := hw g_3 e_4
  have hP : va_P (dC, dI) vwCl (sW oS gS cA FS (uA AS 7 g_3)) H := hP
  have hD : va_D A (sW oS gS cA FS (uA AS 7 g_3)) := hD
  refine lv_aload_n hx hb dX4_clearedSpare_8 rfl (lv_at hl 0 rfl) ?_
  refine gz (q0 := 0) (v := .ref (gS 7)) fx hK hP fl_X4_27 rfl rfl dX4_clearedSpare_9 ?_
  exact hret (FS, (uA AS 7 g_3)) _ _ _ _ dX4_clearedSpare_12 hw hP hD hS
set_option maxHeartbeats 4000000 in
set_option maxRecDepth 100000 in
theorem c_X4_hitsOf (l : Launch) (dC : Nat → ClassId) (dI : Nat → Nat → Nat) (cA : ClassId) (oS : Nat) (gS : Nat → Nat) (FS : Nat → Int32) (AS : Nat → Nat → Int32) (x1 : Int32) (Post : Int32 → Prop) (hw : wp_X4_hitsOf FS AS x1 Post) : RoI (dC, dI) cA l yX4_hitsOf cX4_hitsOf 2 .int 1 21 [.ref oS, .int x1] (sW oS gS cA FS AS) Post := by
  refine enRo (by decide) (Nat.le_of_ble_eq_true rfl) ?_
  intro p e s m args below meth c Q ls fx hK hP hret hl
  obtain ⟨hx, hb, hml, hown, hts⟩ := id fx
  have hl : lv_has ls 2 [(0, .ref oS), (1, .int x1)] := hl
  refine lv_aload_n hx hb dX4_hitsOf_0 rfl (lv_at hl 0 rfl) ?_
  refine gz (q0 := 0) (v := .ref (gS 6)) fx hK hP fl_X4_24 rfl rfl dX4_hitsOf_1 ?_
  refine lv_iload_n hx hb dX4_hitsOf_4 rfl (lv_at hl 1 rfl) ?_
  refine caRoS (rest := []) (As := [.ref (gS 6), .int x1]) fx hK lk_X4_73 (c_at l (dC, dI) cA (gS 6) 4096 (AS 6) x1 (by decide)) (hP.sub [5] rfl) ⟨(Nat.le_of_ble_eq_true rfl), (Nat.le_of_ble_eq_true rfl)⟩ rfl hl.1 rfl (Nat.le_of_ble_eq_true rfl) dX4_hitsOf_5 ?_
  intro r_3 e_4
  have hw := hw r_3 e_4
  exact hret _ _ _ dX4_hitsOf_8 rfl hw
set_option maxHeartbeats 4000000 in
set_option maxRecDepth 100000 in
theorem c_X4_bestOf (l : Launch) (dC : Nat → ClassId) (dI : Nat → Nat → Nat) (cA : ClassId) (oS : Nat) (gS : Nat → Nat) (FS : Nat → Int32) (AS : Nat → Nat → Int32) (x1 : Int32) (Post : Int32 → Prop) (hw : wp_X4_bestOf FS AS x1 Post) : RoI (dC, dI) cA l yX4_bestOf cX4_bestOf 2 .int 1 21 [.ref oS, .int x1] (sW oS gS cA FS AS) Post := by
  refine enRo (by decide) (Nat.le_of_ble_eq_true rfl) ?_
  intro p e s m args below meth c Q ls fx hK hP hret hl
  obtain ⟨hx, hb, hml, hown, hts⟩ := id fx
  have hl : lv_has ls 2 [(0, .ref oS), (1, .int x1)] := hl
  refine lv_aload_n hx hb dX4_bestOf_0 rfl (lv_at hl 0 rfl) ?_
  refine gz (q0 := 0) (v := .ref (gS 5)) fx hK hP fl_X4_21 rfl rfl dX4_bestOf_1 ?_
  refine lv_iload_n hx hb dX4_bestOf_4 rfl (lv_at hl 1 rfl) ?_
  refine caRoS (rest := []) (As := [.ref (gS 5), .int x1]) fx hK lk_X4_73 (c_at l (dC, dI) cA (gS 5) 4096 (AS 5) x1 (by decide)) (hP.sub [4] rfl) ⟨(Nat.le_of_ble_eq_true rfl), (Nat.le_of_ble_eq_true rfl)⟩ rfl hl.1 rfl (Nat.le_of_ble_eq_true rfl) dX4_bestOf_5 ?_
  intro r_3 e_4
  have hw := hw r_3 e_4
  exact hret _ _ _ dX4_bestOf_8 rfl hw
set_option maxHeartbeats 4000000 in
set_option maxRecDepth 100000 in
theorem c_X4_greatestOf_5 (l : Launch) (dC : Nat → ClassId) (dI : Nat → Nat → Nat) (cA : ClassId) (oS : Nat) (gS : Nat → Nat) (FS : Nat → Int32) (AS : Nat → Nat → Int32) (Post : Int32 → Prop) (hw : wp_X4_greatestOf_5 FS AS Post) : RoI (dC, dI) cA l yX4_greatestOf cX4_greatestOf 4 .int 1 21 [.ref oS, .ref (gS 5)] (sW oS gS cA FS AS) Post := by
  refine enRo (by decide) (Nat.le_of_ble_eq_true rfl) ?_
  intro p e s m args below meth c Q ls fx hK hP hret hl
  obtain ⟨hx, hb, hml, hown, hts⟩ := id fx
  have hl : lv_has ls 4 [(0, .ref oS), (1, .ref (gS 5))] := hl
  have b_4 : ∀ (x2 : Int32) (x3 : Int32) (ls : Array Slot), lv_has ls 4 [(0, .ref oS), (1, .ref (gS 5)), (2, .int x2), (3, .int x3)] → wp_X4_greatestOf_5_4 FS AS x2 x3 Post → W p l e ({ frames := 1, cells := 0, slots := 0, locals := 21 } : Room) s m args below meth c s.heap [] 0 0 Q (F0 m 4 ls []) := by
    intro x2 x3 ls hl hw
    refine Lp_go (C := fun (t : Int32 × Int32) => ∀ (ls : Array Slot), lv_has ls 4 [(0, .ref oS), (1, .ref (gS 5)), (2, .int (t.1)), (3, .int (t.2))] → W p l e ({ frames := 1, cells := 0, slots := 0, locals := 21 } : Room) s m args below meth c s.heap [] 0 0 Q (F0 m 4 ls [])) ?_ hw ls hl
    intro k_4 hk_4 t
    obtain ⟨x2, x3⟩ := t
    intro hw ls hl
    have hl : lv_has ls 4 [(0, .ref oS), (1, .ref (gS 5)), (2, .int x2), (3, .int x3)] := hl
    have hw : st_X4_greatestOf_5_4 FS AS Post k_4 x2 x3 := hw
    refine lv_iload_n hx hb dX4_greatestOf_4 rfl (lv_at hl 3 rfl) ?_
    refine lv_aload_n hx hb dX4_greatestOf_5 rfl (lv_at hl 0 rfl) ?_
    refine gz (q0 := 0) (v := .int (FS 1)) fx hK hP fl_X4_46 rfl rfl dX4_greatestOf_6 ?_
    refine lv_icmp_ge (tgt := 28) hx hb dX4_greatestOf_9 (by decide) (fun c_1 => ?_) (fun c_1 => ?_)
    · have hw := hw.1 c_1
      refine lv_iload_n hx hb dX4_greatestOf_28 rfl (lv_at hl 2 rfl) ?_
      refine lv_if_ge (tgt := 37) hx hb dX4_greatestOf_29 (by decide) (fun c_2 => ?_) (fun c_2 => ?_)
      · have hw := hw.1 c_2
        refine lv_iload_n hx hb dX4_greatestOf_37 rfl (lv_at hl 2 rfl) ?_
        exact hret _ _ _ dX4_greatestOf_38 rfl hw
      · have hw := hw.2 c_2
        refine lv_bipush (v := (-4 : Int32)) hx hb dX4_greatestOf_32 (by decide) ?_
        refine lv_goto (tgt := 38) hx hb dX4_greatestOf_34 (by decide) ?_
        exact hret _ _ _ dX4_greatestOf_38 rfl hw
    · have hw := hw.2 c_1
      refine lv_iload_n hx hb dX4_greatestOf_12 rfl (lv_at hl 2 rfl) ?_
      refine lv_aload_n hx hb dX4_greatestOf_13 rfl (lv_at hl 1 rfl) ?_
      refine lv_iload_n hx hb dX4_greatestOf_14 rfl (lv_at hl 3 rfl) ?_
      refine caRoS (rest := [.int x2]) (As := [.ref (gS 5), .int x3]) fx hK lk_X4_73 (c_at l (dC, dI) cA (gS 5) 4096 (AS 5) x3 (by decide)) (hP.sub [4] rfl) ⟨(Nat.le_of_ble_eq_true rfl), (Nat.le_of_ble_eq_true rfl)⟩ rfl hl.1 rfl (Nat.le_of_ble_eq_true rfl) dX4_greatestOf_15 ?_
      intro r_3 e_4
      have hw := hw r_3 e_4
      refine va_mmax hx hb (hml.trans hl.1.symm) hown (hts _ (List.mem_cons_of_mem _ q_33_19)) (hts _ (List.mem_cons_of_mem _ q_31_17)) (hts _ (List.mem_cons_of_mem _ q_18_21)) (hts _ (List.mem_cons_of_mem _ q_31_18)) (Nat.le_of_ble_eq_true rfl) (Nat.le_of_ble_eq_true rfl) (Nat.zero_le _) (Nat.zero_le _) dX4_greatestOf_18 ?_
      refine lv_istore_n (lv' := [(2, .int (if x2 < r_3 then r_3 else x2)), (0, .ref oS), (1, .ref (gS 5)), (3, .int x3)]) hx hb dX4_greatestOf_21 rfl hl (by decide) rfl (fun ls hl => ?_)
      refine lv_iinc (v := (x3 + 1)) (lv' := [(3, .int (x3 + 1)), (2, .int (if x2 < r_3 then r_3 else x2)), (0, .ref oS), (1, .ref (gS 5))]) hx hb dX4_greatestOf_22 hl (k := 3) rfl rfl (by decide) rfl (fun ls hl => ?_)
      refine lv_goto (tgt := 4) hx hb dX4_greatestOf_25 (by decide) ?_
      exact hk_4 ((if x2 < r_3 then r_3 else x2), (x3 + 1)) hw _ (lv_sub hl [2, 3, 1, 0] rfl)
  refine lv_iconst (v := (-1 : Int32)) hx hb dX4_greatestOf_0 (by decide) ?_
  refine lv_istore_n (lv' := [(2, .int (-1 : Int32)), (0, .ref oS), (1, .ref (gS 5))]) hx hb dX4_greatestOf_1 rfl hl (by decide) rfl (fun ls hl => ?_)
  refine lv_iconst (v := (0 : Int32)) hx hb dX4_greatestOf_2 (by decide) ?_
  refine lv_istore_n (lv' := [(3, .int (0 : Int32)), (2, .int (-1 : Int32)), (0, .ref oS), (1, .ref (gS 5))]) hx hb dX4_greatestOf_3 rfl hl (by decide) rfl (fun ls hl => ?_)
  exact b_4 (-1 : Int32) (0 : Int32) _ (lv_sub hl [2, 3, 1, 0] rfl) hw
set_option maxHeartbeats 4000000 in
set_option maxRecDepth 100000 in
theorem c_X4_greatestBest (l : Launch) (dC : Nat → ClassId) (dI : Nat → Nat → Nat) (cA : ClassId) (oS : Nat) (gS : Nat → Nat) (FS : Nat → Int32) (AS : Nat → Nat → Int32) (Post : Int32 → Prop) (hw : wp_X4_greatestBest FS AS Post) : RoI (dC, dI) cA l yX4_greatestBest cX4_greatestBest 1 .int 2 44 [.ref oS] (sW oS gS cA FS AS) Post := by
  refine enRo (by decide) (Nat.le_of_ble_eq_true rfl) ?_
  intro p e s m args below meth c Q ls fx hK hP hret hl
  obtain ⟨hx, hb, hml, hown, hts⟩ := id fx
  have hl : lv_has ls 1 [(0, .ref oS)] := hl
  refine lv_aload_n hx hb dX4_greatestBest_0 rfl (lv_at hl 0 rfl) ?_
  refine lv_aload_n hx hb dX4_greatestBest_1 rfl (lv_at hl 0 rfl) ?_
  refine gz (q0 := 0) (v := .ref (gS 5)) fx hK hP fl_X4_21 rfl rfl dX4_greatestBest_2 ?_
  refine caRoV (rest := []) (As := [.ref (gS 5)]) fx hK lk_X4_107 (c_X4_greatestOf_5 l dC dI cA oS gS FS AS _ hw) (hP.sub [0, 1, 2, 3, 4, 5, 6] rfl) 0 rfl rfl ⟨(Nat.le_of_ble_eq_true rfl), (Nat.le_of_ble_eq_true rfl)⟩ rfl hl.1 rfl (Nat.le_of_ble_eq_true rfl) dX4_greatestBest_5 ?_
  intro r_2 hw
  exact hret _ _ _ dX4_greatestBest_8 rfl hw
set_option maxHeartbeats 4000000 in
set_option maxRecDepth 100000 in
theorem c_X4_sumOfWorsts (l : Launch) (dC : Nat → ClassId) (dI : Nat → Nat → Nat) (cA : ClassId) (oS : Nat) (gS : Nat → Nat) (FS : Nat → Int32) (AS : Nat → Nat → Int32) (Post : Int32 → Prop) (hw : wp_X4_sumOfWorsts FS AS Post) : RoI (dC, dI) cA l yX4_sumOfWorsts cX4_sumOfWorsts 3 .int 2 42 [.ref oS] (sW oS gS cA FS AS) Post := by
  refine enRo (by decide) (Nat.le_of_ble_eq_true rfl) ?_
  intro p e s m args below meth c Q ls fx hK hP hret hl
  obtain ⟨hx, hb, hml, hown, hts⟩ := id fx
  have hl : lv_has ls 3 [(0, .ref oS)] := hl
  have b_4 : ∀ (x1 : Int32) (x2 : Int32) (ls : Array Slot), lv_has ls 3 [(0, .ref oS), (1, .int x1), (2, .int x2)] → wp_X4_sumOfWorsts_4 FS AS x1 x2 Post → W p l e ({ frames := 2, cells := 0, slots := 0, locals := 42 } : Room) s m args below meth c s.heap [] 0 0 Q (F0 m 4 ls []) := by
    intro x1 x2 ls hl hw
    refine Lp_go (C := fun (t : Int32 × Int32) => ∀ (ls : Array Slot), lv_has ls 3 [(0, .ref oS), (1, .int (t.1)), (2, .int (t.2))] → W p l e ({ frames := 2, cells := 0, slots := 0, locals := 42 } : Room) s m args below meth c s.heap [] 0 0 Q (F0 m 4 ls [])) ?_ hw ls hl
    intro k_4 hk_4 t
    obtain ⟨x1, x2⟩ := t
    intro hw ls hl
    have hl : lv_has ls 3 [(0, .ref oS), (1, .int x1), (2, .int x2)] := hl
    have hw : st_X4_sumOfWorsts_4 FS AS Post k_4 x1 x2 := hw
    refine lv_iload_n hx hb dX4_sumOfWorsts_4 rfl (lv_at hl 2 rfl) ?_
    refine lv_aload_n hx hb dX4_sumOfWorsts_5 rfl (lv_at hl 0 rfl) ?_
    refine gz (q0 := 0) (v := .int (FS 1)) fx hK hP fl_X4_46 rfl rfl dX4_sumOfWorsts_6 ?_
    refine lv_icmp_ge (tgt := 30) hx hb dX4_sumOfWorsts_9 (by decide) (fun c_1 => ?_) (fun c_1 => ?_)
    · have hw := hw.1 c_1
      refine lv_iload_n hx hb dX4_sumOfWorsts_30 rfl (lv_at hl 1 rfl) ?_
      exact hret _ _ _ dX4_sumOfWorsts_31 rfl hw
    · have hw := hw.2 c_1
      refine lv_iload_n hx hb dX4_sumOfWorsts_12 rfl (lv_at hl 1 rfl) ?_
      refine lv_iconst (v := (0 : Int32)) hx hb dX4_sumOfWorsts_13 (by decide) ?_
      refine lv_aload_n hx hb dX4_sumOfWorsts_14 rfl (lv_at hl 0 rfl) ?_
      refine lv_iload_n hx hb dX4_sumOfWorsts_15 rfl (lv_at hl 2 rfl) ?_
      refine caRoV (rest := [.int (0 : Int32), .int x1]) (As := [.int x2]) fx hK lk_X4_118 (c_X4_worstOf l dC dI cA oS gS FS AS x2 _ hw) (hP.sub [0, 1, 2, 3, 4, 5, 6] rfl) 0 rfl rfl ⟨(Nat.le_of_ble_eq_true rfl), (Nat.le_of_ble_eq_true rfl)⟩ rfl hl.1 rfl (Nat.le_of_ble_eq_true rfl) dX4_sumOfWorsts_16 ?_
      intro r_2 hw
      refine va_mmax hx hb (hml.trans hl.1.symm) hown (hts _ (List.mem_cons_of_mem _ q_33_19)) (hts _ (List.mem_cons_of_mem _ q_31_17)) (hts _ (List.mem_cons_of_mem _ q_18_21)) (hts _ (List.mem_cons_of_mem _ q_31_18)) (Nat.le_of_ble_eq_true rfl) (Nat.le_of_ble_eq_true rfl) (Nat.zero_le _) (Nat.zero_le _) dX4_sumOfWorsts_19 ?_
      refine lv_iadd hx hb dX4_sumOfWorsts_22 ?_
      refine lv_istore_n (lv' := [(1, .int (x1 + (if (0 : Int32) < r_2 then r_2 else (0 : Int32)))), (0, .ref oS), (2, .int x2)]) hx hb dX4_sumOfWorsts_23 rfl hl (by decide) rfl (fun ls hl => ?_)
      refine lv_iinc (v := (x2 + 1)) (lv' := [(2, .int (x2 + 1)), (1, .int (x1 + (if (0 : Int32) < r_2 then r_2 else (0 : Int32)))), (0, .ref oS)]) hx hb dX4_sumOfWorsts_24 hl (k := 2) rfl rfl (by decide) rfl (fun ls hl => ?_)
      refine lv_goto (tgt := 4) hx hb dX4_sumOfWorsts_27 (by decide) ?_
      exact hk_4 ((x1 + (if (0 : Int32) < r_2 then r_2 else (0 : Int32))), (x2 + 1)) hw _ (lv_sub hl [2, 1, 0] rfl)
  refine lv_iconst (v := (0 : Int32)) hx hb dX4_sumOfWorsts_0 (by decide) ?_
  refine lv_istore_n (lv' := [(1, .int (0 : Int32)), (0, .ref oS)]) hx hb dX4_sumOfWorsts_1 rfl hl (by decide) rfl (fun ls hl => ?_)
  refine lv_iconst (v := (0 : Int32)) hx hb dX4_sumOfWorsts_2 (by decide) ?_
  refine lv_istore_n (lv' := [(2, .int (0 : Int32)), (1, .int (0 : Int32)), (0, .ref oS)]) hx hb dX4_sumOfWorsts_3 rfl hl (by decide) rfl (fun ls hl => ?_)
  exact b_4 (0 : Int32) (0 : Int32) _ (lv_sub hl [2, 1, 0] rfl) hw
set_option maxHeartbeats 4000000 in
set_option maxRecDepth 100000 in
theorem c_X4_movesOutOf (l : Launch) (dC : Nat → ClassId) (dI : Nat → Nat → Nat) (cA : ClassId) (oN : Nat) (gN : Nat → Nat) (oS : Nat) (gS : Nat → Nat) (FN : Nat → Int32) (AN : Nat → Nat → Int32) (FS : Nat → Int32) (AS : Nat → Nat → Int32) (x2 : Int32) (Post : Int32 → Prop) (hw : wp_X4_movesOutOf FN AN FS AS x2 Post) : RoI (dC, dI) cA l yX4_movesOutOf cX4_movesOutOf 5 .int 3 68 [.ref oS, .ref oN, .int x2] ((nW oN gN cA FN AN) ++ (sW oS gS cA FS AS)) Post := by
  refine enRo (by decide) (Nat.le_of_ble_eq_true rfl) ?_
  intro p e s m args below meth c Q ls fx hK hP hret hl
  obtain ⟨hx, hb, hml, hown, hts⟩ := id fx
  have hl : lv_has ls 5 [(0, .ref oS), (1, .ref oN), (2, .int x2)] := hl
  have b_5 : ∀ (x3 : Int32) (x4 : Int32) (ls : Array Slot), lv_has ls 5 [(0, .ref oS), (1, .ref oN), (2, .int x2), (3, .int x3), (4, .int x4)] → wp_X4_movesOutOf_5 FN AN FS AS x2 x3 x4 Post → W p l e ({ frames := 3, cells := 0, slots := 0, locals := 68 } : Room) s m args below meth c s.heap [] 0 0 Q (F0 m 5 ls []) := by
    intro x3 x4 ls hl hw
    refine Lp_go (C := fun (t : Int32 × Int32) => ∀ (ls : Array Slot), lv_has ls 5 [(0, .ref oS), (1, .ref oN), (2, .int x2), (3, .int (t.1)), (4, .int (t.2))] → W p l e ({ frames := 3, cells := 0, slots := 0, locals := 68 } : Room) s m args below meth c s.heap [] 0 0 Q (F0 m 5 ls [])) ?_ hw ls hl
    intro k_5 hk_5 t
    obtain ⟨x3, x4⟩ := t
    intro hw ls hl
    have hl : lv_has ls 5 [(0, .ref oS), (1, .ref oN), (2, .int x2), (3, .int x3), (4, .int x4)] := hl
    have hw : st_X4_movesOutOf_5 FN AN FS AS x2 Post k_5 x3 x4 := hw
    have b_35 : ∀ (x4 : Int32) (t0 : Int32) (t1 : Int32) (ls : Array Slot), lv_has ls 5 [(0, .ref oS), (1, .ref oN), (2, .int x2), (4, .int x4)] → wp_X4_movesOutOf_35 FN AN FS AS x2 x4 t0 t1 k_5 Post → W p l e ({ frames := 3, cells := 0, slots := 0, locals := 68 } : Room) s m args below meth c s.heap [] 0 0 Q (F0 m 35 ls [.int t1, .int t0]) := by
      intro x4 t0 t1 ls hl hw
      refine lv_iadd hx hb dX4_movesOutOf_35 ?_
      refine lv_istore_n (lv' := [(3, .int (t0 + t1)), (0, .ref oS), (1, .ref oN), (2, .int x2), (4, .int x4)]) hx hb dX4_movesOutOf_36 rfl hl (by decide) rfl (fun ls hl => ?_)
      refine lv_iinc (v := (x4 + 1)) (lv' := [(4, .int (x4 + 1)), (3, .int (t0 + t1)), (0, .ref oS), (1, .ref oN), (2, .int x2)]) hx hb dX4_movesOutOf_37 hl (k := 4) rfl rfl (by decide) rfl (fun ls hl => ?_)
      refine lv_goto (tgt := 5) hx hb dX4_movesOutOf_40 (by decide) ?_
      exact hk_5 ((t0 + t1), (x4 + 1)) hw _ (lv_sub hl [2, 3, 4, 1, 0] rfl)
    refine lv_iload hx hb dX4_movesOutOf_5 (lv_at hl 4 rfl) ?_
    refine lv_aload_n hx hb dX4_movesOutOf_7 rfl (lv_at hl 1 rfl) ?_
    refine gz (q0 := 0) (v := .int (FN 1)) fx hK hP fl_X4_55 rfl rfl dX4_movesOutOf_8 ?_
    refine lv_icmp_ge (tgt := 43) hx hb dX4_movesOutOf_11 (by decide) (fun c_1 => ?_) (fun c_1 => ?_)
    · have hw := hw.1 c_1
      refine lv_iload_n hx hb dX4_movesOutOf_43 rfl (lv_at hl 3 rfl) ?_
      exact hret _ _ _ dX4_movesOutOf_44 rfl hw
    · have hw := hw.2 c_1
      refine lv_iload_n hx hb dX4_movesOutOf_14 rfl (lv_at hl 3 rfl) ?_
      refine lv_aload_n hx hb dX4_movesOutOf_15 rfl (lv_at hl 0 rfl) ?_
      refine lv_aload_n hx hb dX4_movesOutOf_16 rfl (lv_at hl 0 rfl) ?_
      refine lv_aload_n hx hb dX4_movesOutOf_17 rfl (lv_at hl 1 rfl) ?_
      refine lv_iload_n hx hb dX4_movesOutOf_18 rfl (lv_at hl 2 rfl) ?_
      refine lv_iload hx hb dX4_movesOutOf_19 (lv_at hl 4 rfl) ?_
      refine caRoV (rest := [.ref oS, .int x3]) (As := [.ref oN, .int x2, .int x4]) fx hK lk_X4_126 (c_X4_behind l dC dI cA oN gN oS gS FN AN FS AS x2 x4 _ hw) (hP.sub [0, 1, 2, 3, 4, 5, 6, 7, 8, 9] rfl) 3 rfl rfl ⟨(Nat.le_of_ble_eq_true rfl), (Nat.le_of_ble_eq_true rfl)⟩ rfl hl.1 rfl (Nat.le_of_ble_eq_true rfl) dX4_movesOutOf_21 ?_
      intro r_2 hw
      refine caRoV (rest := [.int x3]) (As := [.int r_2]) fx hK lk_X4_118 (c_X4_worstOf l dC dI cA oS gS FS AS r_2 _ hw) (hP.sub [3, 4, 5, 6, 7, 8, 9] rfl) 0 rfl rfl ⟨(Nat.le_of_ble_eq_true rfl), (Nat.le_of_ble_eq_true rfl)⟩ rfl hl.1 rfl (Nat.le_of_ble_eq_true rfl) dX4_movesOutOf_24 ?_
      intro r_3 hw
      refine lv_if_eq (tgt := 34) hx hb dX4_movesOutOf_27 (by decide) (fun c_4 => ?_) (fun c_4 => ?_)
      · have hw := hw.1 c_4
        refine lv_iconst (v := (0 : Int32)) hx hb dX4_movesOutOf_34 (by decide) ?_
        exact b_35 x4 x3 (0 : Int32) _ (lv_sub hl [0, 1, 2, 4] rfl) hw
      · have hw := hw.2 c_4
        refine lv_iconst (v := (1 : Int32)) hx hb dX4_movesOutOf_30 (by decide) ?_
        refine lv_goto (tgt := 35) hx hb dX4_movesOutOf_31 (by decide) ?_
        exact b_35 x4 x3 (1 : Int32) _ (lv_sub hl [0, 1, 2, 4] rfl) hw
  refine lv_iconst (v := (0 : Int32)) hx hb dX4_movesOutOf_0 (by decide) ?_
  refine lv_istore_n (lv' := [(3, .int (0 : Int32)), (0, .ref oS), (1, .ref oN), (2, .int x2)]) hx hb dX4_movesOutOf_1 rfl hl (by decide) rfl (fun ls hl => ?_)
  refine lv_iconst (v := (0 : Int32)) hx hb dX4_movesOutOf_2 (by decide) ?_
  refine lv_istore (lv' := [(4, .int (0 : Int32)), (3, .int (0 : Int32)), (0, .ref oS), (1, .ref oN), (2, .int x2)]) hx hb dX4_movesOutOf_3 hl (by decide) rfl (fun ls hl => ?_)
  exact b_5 (0 : Int32) (0 : Int32) _ (lv_sub hl [2, 3, 4, 1, 0] rfl) hw
set_option maxHeartbeats 4000000 in
set_option maxRecDepth 100000 in
theorem c_X4_movesOutOfLegal (l : Launch) (dC : Nat → ClassId) (dI : Nat → Nat → Nat) (cA : ClassId) (oN : Nat) (gN : Nat → Nat) (oS : Nat) (gS : Nat → Nat) (FN : Nat → Int32) (AN : Nat → Nat → Int32) (FS : Nat → Int32) (AS : Nat → Nat → Int32) (Post : Int32 → Prop) (hw : wp_X4_movesOutOfLegal FN AN FS AS Post) : RoI (dC, dI) cA l yX4_movesOutOfLegal cX4_movesOutOfLegal 4 .int 4 92 [.ref oS, .ref oN] ((nW oN gN cA FN AN) ++ (sW oS gS cA FS AS)) Post := by
  refine enRo (by decide) (Nat.le_of_ble_eq_true rfl) ?_
  intro p e s m args below meth c Q ls fx hK hP hret hl
  obtain ⟨hx, hb, hml, hown, hts⟩ := id fx
  have hl : lv_has ls 4 [(0, .ref oS), (1, .ref oN)] := hl
  have b_4 : ∀ (x2 : Int32) (x3 : Int32) (ls : Array Slot), lv_has ls 4 [(0, .ref oS), (1, .ref oN), (2, .int x2), (3, .int x3)] → wp_X4_movesOutOfLegal_4 FN AN FS AS x2 x3 Post → W p l e ({ frames := 4, cells := 0, slots := 0, locals := 92 } : Room) s m args below meth c s.heap [] 0 0 Q (F0 m 4 ls []) := by
    intro x2 x3 ls hl hw
    refine Lp_go (C := fun (t : Int32 × Int32) => ∀ (ls : Array Slot), lv_has ls 4 [(0, .ref oS), (1, .ref oN), (2, .int (t.1)), (3, .int (t.2))] → W p l e ({ frames := 4, cells := 0, slots := 0, locals := 92 } : Room) s m args below meth c s.heap [] 0 0 Q (F0 m 4 ls [])) ?_ hw ls hl
    intro k_4 hk_4 t
    obtain ⟨x2, x3⟩ := t
    intro hw ls hl
    have hl : lv_has ls 4 [(0, .ref oS), (1, .ref oN), (2, .int x2), (3, .int x3)] := hl
    have hw : st_X4_movesOutOfLegal_4 FN AN FS AS Post k_4 x2 x3 := hw
    refine lv_iload_n hx hb dX4_movesOutOfLegal_4 rfl (lv_at hl 3 rfl) ?_
    refine lv_aload_n hx hb dX4_movesOutOfLegal_5 rfl (lv_at hl 0 rfl) ?_
    refine gz (q0 := 3) (v := .int (FS 1)) fx hK hP fl_X4_46 rfl rfl dX4_movesOutOfLegal_6 ?_
    refine lv_icmp_ge (tgt := 35) hx hb dX4_movesOutOfLegal_9 (by decide) (fun c_1 => ?_) (fun c_1 => ?_)
    · have hw := hw.1 c_1
      refine lv_iload_n hx hb dX4_movesOutOfLegal_35 rfl (lv_at hl 2 rfl) ?_
      exact hret _ _ _ dX4_movesOutOfLegal_36 rfl hw
    · have hw := hw.2 c_1
      refine lv_aload_n hx hb dX4_movesOutOfLegal_12 rfl (lv_at hl 0 rfl) ?_
      refine lv_iload_n hx hb dX4_movesOutOfLegal_13 rfl (lv_at hl 3 rfl) ?_
      refine caRoV (rest := []) (As := [.int x3]) fx hK lk_X4_118 (c_X4_worstOf l dC dI cA oS gS FS AS x3 _ hw) (hP.sub [3, 4, 5, 6, 7, 8, 9] rfl) 0 rfl rfl ⟨(Nat.le_of_ble_eq_true rfl), (Nat.le_of_ble_eq_true rfl)⟩ rfl hl.1 rfl (Nat.le_of_ble_eq_true rfl) dX4_movesOutOfLegal_14 ?_
      intro r_2 hw
      refine lv_if_ne (tgt := 29) hx hb dX4_movesOutOfLegal_17 (by decide) (fun c_3 => ?_) (fun c_3 => ?_)
      · have hw := hw.1 c_3
        refine lv_iinc (v := (x3 + 1)) (lv' := [(3, .int (x3 + 1)), (0, .ref oS), (1, .ref oN), (2, .int x2)]) hx hb dX4_movesOutOfLegal_29 hl (k := 3) rfl rfl (by decide) rfl (fun ls hl => ?_)
        refine lv_goto (tgt := 4) hx hb dX4_movesOutOfLegal_32 (by decide) ?_
        exact hk_4 (x2, (x3 + 1)) hw _ (lv_sub hl [1, 2, 3, 0] rfl)
      · have hw := hw.2 c_3
        refine lv_iload_n hx hb dX4_movesOutOfLegal_20 rfl (lv_at hl 2 rfl) ?_
        refine lv_aload_n hx hb dX4_movesOutOfLegal_21 rfl (lv_at hl 0 rfl) ?_
        refine lv_aload_n hx hb dX4_movesOutOfLegal_22 rfl (lv_at hl 1 rfl) ?_
        refine lv_iload_n hx hb dX4_movesOutOfLegal_23 rfl (lv_at hl 3 rfl) ?_
        refine caRoV (rest := [.int x2]) (As := [.ref oN, .int x3]) fx hK lk_X4_122 (c_X4_movesOutOf l dC dI cA oN gN oS gS FN AN FS AS x3 _ hw) (hP.sub [0, 1, 2, 3, 4, 5, 6, 7, 8, 9] rfl) 3 rfl rfl ⟨(Nat.le_of_ble_eq_true rfl), (Nat.le_of_ble_eq_true rfl)⟩ rfl hl.1 rfl (Nat.le_of_ble_eq_true rfl) dX4_movesOutOfLegal_24 ?_
        intro r_4 hw
        refine lv_iadd hx hb dX4_movesOutOfLegal_27 ?_
        refine lv_istore_n (lv' := [(2, .int (x2 + r_4)), (0, .ref oS), (1, .ref oN), (3, .int x3)]) hx hb dX4_movesOutOfLegal_28 rfl hl (by decide) rfl (fun ls hl => ?_)
        refine lv_iinc (v := (x3 + 1)) (lv' := [(3, .int (x3 + 1)), (2, .int (x2 + r_4)), (0, .ref oS), (1, .ref oN)]) hx hb dX4_movesOutOfLegal_29 hl (k := 3) rfl rfl (by decide) rfl (fun ls hl => ?_)
        refine lv_goto (tgt := 4) hx hb dX4_movesOutOfLegal_32 (by decide) ?_
        exact hk_4 ((x2 + r_4), (x3 + 1)) hw _ (lv_sub hl [2, 3, 1, 0] rfl)
  refine lv_iconst (v := (0 : Int32)) hx hb dX4_movesOutOfLegal_0 (by decide) ?_
  refine lv_istore_n (lv' := [(2, .int (0 : Int32)), (0, .ref oS), (1, .ref oN)]) hx hb dX4_movesOutOfLegal_1 rfl hl (by decide) rfl (fun ls hl => ?_)
  refine lv_iconst (v := (0 : Int32)) hx hb dX4_movesOutOfLegal_2 (by decide) ?_
  refine lv_istore_n (lv' := [(3, .int (0 : Int32)), (2, .int (0 : Int32)), (0, .ref oS), (1, .ref oN)]) hx hb dX4_movesOutOfLegal_3 rfl hl (by decide) rfl (fun ls hl => ?_)
  exact b_4 (0 : Int32) (0 : Int32) _ (lv_sub hl [2, 3, 1, 0] rfl) hw
set_option maxHeartbeats 4000000 in
set_option maxRecDepth 100000 in
theorem c_X4_greatestOf_4 (l : Launch) (dC : Nat → ClassId) (dI : Nat → Nat → Nat) (cA : ClassId) (oS : Nat) (gS : Nat → Nat) (FS : Nat → Int32) (AS : Nat → Nat → Int32) (Post : Int32 → Prop) (hw : wp_X4_greatestOf_4 FS AS Post) : RoI (dC, dI) cA l yX4_greatestOf cX4_greatestOf 4 .int 1 21 [.ref oS, .ref (gS 4)] (sW oS gS cA FS AS) Post := by
  refine enRo (by decide) (Nat.le_of_ble_eq_true rfl) ?_
  intro p e s m args below meth c Q ls fx hK hP hret hl
  obtain ⟨hx, hb, hml, hown, hts⟩ := id fx
  have hl : lv_has ls 4 [(0, .ref oS), (1, .ref (gS 4))] := hl
  have b_4 : ∀ (x2 : Int32) (x3 : Int32) (ls : Array Slot), lv_has ls 4 [(0, .ref oS), (1, .ref (gS 4)), (2, .int x2), (3, .int x3)] → wp_X4_greatestOf_4_4 FS AS x2 x3 Post → W p l e ({ frames := 1, cells := 0, slots := 0, locals := 21 } : Room) s m args below meth c s.heap [] 0 0 Q (F0 m 4 ls []) := by
    intro x2 x3 ls hl hw
    refine Lp_go (C := fun (t : Int32 × Int32) => ∀ (ls : Array Slot), lv_has ls 4 [(0, .ref oS), (1, .ref (gS 4)), (2, .int (t.1)), (3, .int (t.2))] → W p l e ({ frames := 1, cells := 0, slots := 0, locals := 21 } : Room) s m args below meth c s.heap [] 0 0 Q (F0 m 4 ls [])) ?_ hw ls hl
    intro k_4 hk_4 t
    obtain ⟨x2, x3⟩ := t
    intro hw ls hl
    have hl : lv_has ls 4 [(0, .ref oS), (1, .ref (gS 4)), (2, .int x2), (3, .int x3)] := hl
    have hw : st_X4_greatestOf_4_4 FS AS Post k_4 x2 x3 := hw
    refine lv_iload_n hx hb dX4_greatestOf_4 rfl (lv_at hl 3 rfl) ?_
    refine lv_aload_n hx hb dX4_greatestOf_5 rfl (lv_at hl 0 rfl) ?_
    refine gz (q0 := 0) (v := .int (FS 1)) fx hK hP fl_X4_46 rfl rfl dX4_greatestOf_6 ?_
    refine lv_icmp_ge (tgt := 28) hx hb dX4_greatestOf_9 (by decide) (fun c_1 => ?_) (fun c_1 => ?_)
    · have hw := hw.1 c_1
      refine lv_iload_n hx hb dX4_greatestOf_28 rfl (lv_at hl 2 rfl) ?_
      refine lv_if_ge (tgt := 37) hx hb dX4_greatestOf_29 (by decide) (fun c_2 => ?_) (fun c_2 => ?_)
      · have hw := hw.1 c_2
        refine lv_iload_n hx hb dX4_greatestOf_37 rfl (lv_at hl 2 rfl) ?_
        exact hret _ _ _ dX4_greatestOf_38 rfl hw
      · have hw := hw.2 c_2
        refine lv_bipush (v := (-4 : Int32)) hx hb dX4_greatestOf_32 (by decide) ?_
        refine lv_goto (tgt := 38) hx hb dX4_greatestOf_34 (by decide) ?_
        exact hret _ _ _ dX4_greatestOf_38 rfl hw
    · have hw := hw.2 c_1
      refine lv_iload_n hx hb dX4_greatestOf_12 rfl (lv_at hl 2 rfl) ?_
      refine lv_aload_n hx hb dX4_greatestOf_13 rfl (lv_at hl 1 rfl) ?_
      refine lv_iload_n hx hb dX4_greatestOf_14 rfl (lv_at hl 3 rfl) ?_
      refine caRoS (rest := [.int x2]) (As := [.ref (gS 4), .int x3]) fx hK lk_X4_73 (c_at l (dC, dI) cA (gS 4) 4096 (AS 4) x3 (by decide)) (hP.sub [3] rfl) ⟨(Nat.le_of_ble_eq_true rfl), (Nat.le_of_ble_eq_true rfl)⟩ rfl hl.1 rfl (Nat.le_of_ble_eq_true rfl) dX4_greatestOf_15 ?_
      intro r_3 e_4
      have hw := hw r_3 e_4
      refine va_mmax hx hb (hml.trans hl.1.symm) hown (hts _ (List.mem_cons_of_mem _ q_33_19)) (hts _ (List.mem_cons_of_mem _ q_31_17)) (hts _ (List.mem_cons_of_mem _ q_18_21)) (hts _ (List.mem_cons_of_mem _ q_31_18)) (Nat.le_of_ble_eq_true rfl) (Nat.le_of_ble_eq_true rfl) (Nat.zero_le _) (Nat.zero_le _) dX4_greatestOf_18 ?_
      refine lv_istore_n (lv' := [(2, .int (if x2 < r_3 then r_3 else x2)), (0, .ref oS), (1, .ref (gS 4)), (3, .int x3)]) hx hb dX4_greatestOf_21 rfl hl (by decide) rfl (fun ls hl => ?_)
      refine lv_iinc (v := (x3 + 1)) (lv' := [(3, .int (x3 + 1)), (2, .int (if x2 < r_3 then r_3 else x2)), (0, .ref oS), (1, .ref (gS 4))]) hx hb dX4_greatestOf_22 hl (k := 3) rfl rfl (by decide) rfl (fun ls hl => ?_)
      refine lv_goto (tgt := 4) hx hb dX4_greatestOf_25 (by decide) ?_
      exact hk_4 ((if x2 < r_3 then r_3 else x2), (x3 + 1)) hw _ (lv_sub hl [2, 3, 1, 0] rfl)
  refine lv_iconst (v := (-1 : Int32)) hx hb dX4_greatestOf_0 (by decide) ?_
  refine lv_istore_n (lv' := [(2, .int (-1 : Int32)), (0, .ref oS), (1, .ref (gS 4))]) hx hb dX4_greatestOf_1 rfl hl (by decide) rfl (fun ls hl => ?_)
  refine lv_iconst (v := (0 : Int32)) hx hb dX4_greatestOf_2 (by decide) ?_
  refine lv_istore_n (lv' := [(3, .int (0 : Int32)), (2, .int (-1 : Int32)), (0, .ref oS), (1, .ref (gS 4))]) hx hb dX4_greatestOf_3 rfl hl (by decide) rfl (fun ls hl => ?_)
  exact b_4 (-1 : Int32) (0 : Int32) _ (lv_sub hl [2, 3, 1, 0] rfl) hw
set_option maxHeartbeats 4000000 in
set_option maxRecDepth 100000 in
theorem c_X4_greatestWorst (l : Launch) (dC : Nat → ClassId) (dI : Nat → Nat → Nat) (cA : ClassId) (oS : Nat) (gS : Nat → Nat) (FS : Nat → Int32) (AS : Nat → Nat → Int32) (Post : Int32 → Prop) (hw : wp_X4_greatestWorst FS AS Post) : RoI (dC, dI) cA l yX4_greatestWorst cX4_greatestWorst 1 .int 2 44 [.ref oS] (sW oS gS cA FS AS) Post := by
  refine enRo (by decide) (Nat.le_of_ble_eq_true rfl) ?_
  intro p e s m args below meth c Q ls fx hK hP hret hl
  obtain ⟨hx, hb, hml, hown, hts⟩ := id fx
  have hl : lv_has ls 1 [(0, .ref oS)] := hl
  refine lv_aload_n hx hb dX4_greatestWorst_0 rfl (lv_at hl 0 rfl) ?_
  refine lv_aload_n hx hb dX4_greatestWorst_1 rfl (lv_at hl 0 rfl) ?_
  refine gz (q0 := 0) (v := .ref (gS 4)) fx hK hP fl_X4_18 rfl rfl dX4_greatestWorst_2 ?_
  refine caRoV (rest := []) (As := [.ref (gS 4)]) fx hK lk_X4_107 (c_X4_greatestOf_4 l dC dI cA oS gS FS AS _ hw) (hP.sub [0, 1, 2, 3, 4, 5, 6] rfl) 0 rfl rfl ⟨(Nat.le_of_ble_eq_true rfl), (Nat.le_of_ble_eq_true rfl)⟩ rfl hl.1 rfl (Nat.le_of_ble_eq_true rfl) dX4_greatestWorst_5 ?_
  intro r_2 hw
  exact hret _ _ _ dX4_greatestWorst_8 rfl hw
set_option maxHeartbeats 4000000 in
set_option maxRecDepth 100000 in
theorem c_X4_lowestOfGreatestWorst (l : Launch) (dC : Nat → ClassId) (dI : Nat → Nat → Nat) (cA : ClassId) (oS : Nat) (gS : Nat → Nat) (FS : Nat → Int32) (AS : Nat → Nat → Int32) (Post : Int32 → Prop) (hw : wp_X4_lowestOfGreatestWorst FS AS Post) : RoI (dC, dI) cA l yX4_lowestOfGreatestWorst cX4_lowestOfGreatestWorst 3 .int 3 64 [.ref oS] (sW oS gS cA FS AS) Post := by
  refine enRo (by decide) (Nat.le_of_ble_eq_true rfl) ?_
  intro p e s m args below meth c Q ls fx hK hP hret hl
  obtain ⟨hx, hb, hml, hown, hts⟩ := id fx
  have hl : lv_has ls 3 [(0, .ref oS)] := hl
  have b_7 : ∀ (x1 : Int32) (x2 : Int32) (ls : Array Slot), lv_has ls 3 [(0, .ref oS), (1, .int x1), (2, .int x2)] → wp_X4_lowestOfGreatestWorst_7 FS AS x1 x2 Post → W p l e ({ frames := 3, cells := 0, slots := 0, locals := 64 } : Room) s m args below meth c s.heap [] 0 0 Q (F0 m 7 ls []) := by
    intro x1 x2 ls hl hw
    refine Lp_go (C := fun (t : Int32) => ∀ (ls : Array Slot), lv_has ls 3 [(0, .ref oS), (1, .int x1), (2, .int t)] → W p l e ({ frames := 3, cells := 0, slots := 0, locals := 64 } : Room) s m args below meth c s.heap [] 0 0 Q (F0 m 7 ls [])) ?_ hw ls hl
    intro k_7 hk_7 t
    obtain ⟨x2, ht⟩ : ∃ z, z = t := ⟨_, rfl⟩
    subst ht
    intro hw ls hl
    have hl : lv_has ls 3 [(0, .ref oS), (1, .int x1), (2, .int x2)] := hl
    have hw : st_X4_lowestOfGreatestWorst_7 FS AS x1 Post k_7 x2 := hw
    refine lv_iload_n hx hb dX4_lowestOfGreatestWorst_7 rfl (lv_at hl 1 rfl) ?_
    refine lv_bipush (v := (-4 : Int32)) hx hb dX4_lowestOfGreatestWorst_8 (by decide) ?_
    refine lv_icmp_eq (tgt := 38) hx hb dX4_lowestOfGreatestWorst_10 (by decide) (fun c_2 => ?_) (fun c_2 => ?_)
    · have hw := hw.1 c_2
      refine lv_bipush (v := (-4 : Int32)) hx hb dX4_lowestOfGreatestWorst_38 (by decide) ?_
      exact hret _ _ _ dX4_lowestOfGreatestWorst_40 rfl hw
    · have hw := hw.2 c_2
      refine lv_iload_n hx hb dX4_lowestOfGreatestWorst_13 rfl (lv_at hl 2 rfl) ?_
      refine lv_aload_n hx hb dX4_lowestOfGreatestWorst_14 rfl (lv_at hl 0 rfl) ?_
      refine gz (q0 := 0) (v := .int (FS 1)) fx hK hP fl_X4_46 rfl rfl dX4_lowestOfGreatestWorst_15 ?_
      refine lv_icmp_ge (tgt := 38) hx hb dX4_lowestOfGreatestWorst_18 (by decide) (fun c_3 => ?_) (fun c_3 => ?_)
      · have hw := hw.1 c_3
        refine lv_bipush (v := (-4 : Int32)) hx hb dX4_lowestOfGreatestWorst_38 (by decide) ?_
        exact hret _ _ _ dX4_lowestOfGreatestWorst_40 rfl hw
      · have hw := hw.2 c_3
        refine lv_aload_n hx hb dX4_lowestOfGreatestWorst_21 rfl (lv_at hl 0 rfl) ?_
        refine lv_iload_n hx hb dX4_lowestOfGreatestWorst_22 rfl (lv_at hl 2 rfl) ?_
        refine caRoV (rest := []) (As := [.int x2]) fx hK lk_X4_118 (c_X4_worstOf l dC dI cA oS gS FS AS x2 _ hw) (hP.sub [0, 1, 2, 3, 4, 5, 6] rfl) 0 rfl rfl ⟨(Nat.le_of_ble_eq_true rfl), (Nat.le_of_ble_eq_true rfl)⟩ rfl hl.1 rfl (Nat.le_of_ble_eq_true rfl) dX4_lowestOfGreatestWorst_23 ?_
        intro r_4 hw
        refine lv_iload_n hx hb dX4_lowestOfGreatestWorst_26 rfl (lv_at hl 1 rfl) ?_
        refine lv_icmp_ne (tgt := 32) hx hb dX4_lowestOfGreatestWorst_27 (by decide) (fun c_5 => ?_) (fun c_5 => ?_)
        · have hw := hw.1 c_5
          refine lv_iinc (v := (x2 + 1)) (lv' := [(2, .int (x2 + 1)), (0, .ref oS), (1, .int x1)]) hx hb dX4_lowestOfGreatestWorst_32 hl (k := 2) rfl rfl (by decide) rfl (fun ls hl => ?_)
          refine lv_goto (tgt := 7) hx hb dX4_lowestOfGreatestWorst_35 (by decide) ?_
          exact hk_7 ((x2 + 1)) hw _ (lv_sub hl [1, 2, 0] rfl)
        · have hw := hw.2 c_5
          refine lv_iload_n hx hb dX4_lowestOfGreatestWorst_30 rfl (lv_at hl 2 rfl) ?_
          exact hret _ _ _ dX4_lowestOfGreatestWorst_31 rfl hw
  refine lv_aload_n hx hb dX4_lowestOfGreatestWorst_0 rfl (lv_at hl 0 rfl) ?_
  refine caRoV (rest := []) (As := []) fx hK lk_X4_114 (c_X4_greatestWorst l dC dI cA oS gS FS AS _ hw) (hP.sub [0, 1, 2, 3, 4, 5, 6] rfl) 0 rfl rfl ⟨(Nat.le_of_ble_eq_true rfl), (Nat.le_of_ble_eq_true rfl)⟩ rfl hl.1 rfl (Nat.le_of_ble_eq_true rfl) dX4_lowestOfGreatestWorst_1 ?_
  intro r_6 hw
  refine lv_istore_n (lv' := [(1, .int r_6), (0, .ref oS)]) hx hb dX4_lowestOfGreatestWorst_4 rfl hl (by decide) rfl (fun ls hl => ?_)
  refine lv_iconst (v := (0 : Int32)) hx hb dX4_lowestOfGreatestWorst_5 (by decide) ?_
  refine lv_istore_n (lv' := [(2, .int (0 : Int32)), (1, .int r_6), (0, .ref oS)]) hx hb dX4_lowestOfGreatestWorst_6 rfl hl (by decide) rfl (fun ls hl => ?_)
  exact b_7 r_6 (0 : Int32) _ (lv_sub hl [2, 1, 0] rfl) hw
set_option maxHeartbeats 4000000 in
set_option maxRecDepth 100000 in
theorem c_X4_countOf_4 (l : Launch) (dC : Nat → ClassId) (dI : Nat → Nat → Nat) (cA : ClassId) (oS : Nat) (gS : Nat → Nat) (FS : Nat → Int32) (AS : Nat → Nat → Int32) (x2 : Int32) (Post : Int32 → Prop) (hw : wp_X4_countOf_4 FS AS x2 Post) : RoI (dC, dI) cA l yX4_countOf cX4_countOf 5 .int 1 21 [.ref oS, .ref (gS 4), .int x2] (sW oS gS cA FS AS) Post := by
  refine enRo (by decide) (Nat.le_of_ble_eq_true rfl) ?_
  intro p e s m args below meth c Q ls fx hK hP hret hl
  obtain ⟨hx, hb, hml, hown, hts⟩ := id fx
  have hl : lv_has ls 5 [(0, .ref oS), (1, .ref (gS 4)), (2, .int x2)] := hl
  have b_5 : ∀ (x3 : Int32) (x4 : Int32) (ls : Array Slot), lv_has ls 5 [(0, .ref oS), (1, .ref (gS 4)), (2, .int x2), (3, .int x3), (4, .int x4)] → wp_X4_countOf_4_5 FS AS x2 x3 x4 Post → W p l e ({ frames := 1, cells := 0, slots := 0, locals := 21 } : Room) s m args below meth c s.heap [] 0 0 Q (F0 m 5 ls []) := by
    intro x3 x4 ls hl hw
    refine Lp_go (C := fun (t : Int32 × Int32) => ∀ (ls : Array Slot), lv_has ls 5 [(0, .ref oS), (1, .ref (gS 4)), (2, .int x2), (3, .int (t.1)), (4, .int (t.2))] → W p l e ({ frames := 1, cells := 0, slots := 0, locals := 21 } : Room) s m args below meth c s.heap [] 0 0 Q (F0 m 5 ls [])) ?_ hw ls hl
    intro k_5 hk_5 t
    obtain ⟨x3, x4⟩ := t
    intro hw ls hl
    have hl : lv_has ls 5 [(0, .ref oS), (1, .ref (gS 4)), (2, .int x2), (3, .int x3), (4, .int x4)] := hl
    have hw : st_X4_countOf_4_5 FS AS x2 Post k_5 x3 x4 := hw
    have b_30 : ∀ (x4 : Int32) (t0 : Int32) (t1 : Int32) (ls : Array Slot), lv_has ls 5 [(0, .ref oS), (1, .ref (gS 4)), (2, .int x2), (4, .int x4)] → wp_X4_countOf_4_30 FS AS x2 x4 t0 t1 k_5 Post → W p l e ({ frames := 1, cells := 0, slots := 0, locals := 21 } : Room) s m args below meth c s.heap [] 0 0 Q (F0 m 30 ls [.int t1, .int t0]) := by
      intro x4 t0 t1 ls hl hw
      refine lv_iadd hx hb dX4_countOf_30 ?_
      refine lv_istore_n (lv' := [(3, .int (t0 + t1)), (0, .ref oS), (1, .ref (gS 4)), (2, .int x2), (4, .int x4)]) hx hb dX4_countOf_31 rfl hl (by decide) rfl (fun ls hl => ?_)
      refine lv_iinc (v := (x4 + 1)) (lv' := [(4, .int (x4 + 1)), (3, .int (t0 + t1)), (0, .ref oS), (1, .ref (gS 4)), (2, .int x2)]) hx hb dX4_countOf_32 hl (k := 4) rfl rfl (by decide) rfl (fun ls hl => ?_)
      refine lv_goto (tgt := 5) hx hb dX4_countOf_35 (by decide) ?_
      exact hk_5 ((t0 + t1), (x4 + 1)) hw _ (lv_sub hl [2, 3, 4, 1, 0] rfl)
    refine lv_iload hx hb dX4_countOf_5 (lv_at hl 4 rfl) ?_
    refine lv_aload_n hx hb dX4_countOf_7 rfl (lv_at hl 0 rfl) ?_
    refine gz (q0 := 0) (v := .int (FS 1)) fx hK hP fl_X4_46 rfl rfl dX4_countOf_8 ?_
    refine lv_icmp_ge (tgt := 38) hx hb dX4_countOf_11 (by decide) (fun c_1 => ?_) (fun c_1 => ?_)
    · have hw := hw.1 c_1
      refine lv_iload_n hx hb dX4_countOf_38 rfl (lv_at hl 3 rfl) ?_
      exact hret _ _ _ dX4_countOf_39 rfl hw
    · have hw := hw.2 c_1
      refine lv_iload_n hx hb dX4_countOf_14 rfl (lv_at hl 3 rfl) ?_
      refine lv_aload_n hx hb dX4_countOf_15 rfl (lv_at hl 1 rfl) ?_
      refine lv_iload hx hb dX4_countOf_16 (lv_at hl 4 rfl) ?_
      refine caRoS (rest := [.int x3]) (As := [.ref (gS 4), .int x4]) fx hK lk_X4_73 (c_at l (dC, dI) cA (gS 4) 4096 (AS 4) x4 (by decide)) (hP.sub [3] rfl) ⟨(Nat.le_of_ble_eq_true rfl), (Nat.le_of_ble_eq_true rfl)⟩ rfl hl.1 rfl (Nat.le_of_ble_eq_true rfl) dX4_countOf_18 ?_
      intro r_2 e_3
      have hw := hw r_2 e_3
      refine lv_iload_n hx hb dX4_countOf_21 rfl (lv_at hl 2 rfl) ?_
      refine lv_icmp_ne (tgt := 29) hx hb dX4_countOf_22 (by decide) (fun c_4 => ?_) (fun c_4 => ?_)
      · have hw := hw.1 c_4
        refine lv_iconst (v := (0 : Int32)) hx hb dX4_countOf_29 (by decide) ?_
        exact b_30 x4 x3 (0 : Int32) _ (lv_sub hl [0, 1, 2, 4] rfl) hw
      · have hw := hw.2 c_4
        refine lv_iconst (v := (1 : Int32)) hx hb dX4_countOf_25 (by decide) ?_
        refine lv_goto (tgt := 30) hx hb dX4_countOf_26 (by decide) ?_
        exact b_30 x4 x3 (1 : Int32) _ (lv_sub hl [0, 1, 2, 4] rfl) hw
  refine lv_iconst (v := (0 : Int32)) hx hb dX4_countOf_0 (by decide) ?_
  refine lv_istore_n (lv' := [(3, .int (0 : Int32)), (0, .ref oS), (1, .ref (gS 4)), (2, .int x2)]) hx hb dX4_countOf_1 rfl hl (by decide) rfl (fun ls hl => ?_)
  refine lv_iconst (v := (0 : Int32)) hx hb dX4_countOf_2 (by decide) ?_
  refine lv_istore (lv' := [(4, .int (0 : Int32)), (3, .int (0 : Int32)), (0, .ref oS), (1, .ref (gS 4)), (2, .int x2)]) hx hb dX4_countOf_3 hl (by decide) rfl (fun ls hl => ?_)
  exact b_5 (0 : Int32) (0 : Int32) _ (lv_sub hl [2, 3, 4, 1, 0] rfl) hw
set_option maxHeartbeats 4000000 in
set_option maxRecDepth 100000 in
theorem c_X4_endlessStates (l : Launch) (dC : Nat → ClassId) (dI : Nat → Nat → Nat) (cA : ClassId) (oS : Nat) (gS : Nat → Nat) (FS : Nat → Int32) (AS : Nat → Nat → Int32) (Post : Int32 → Prop) (hw : wp_X4_endlessStates FS AS Post) : RoI (dC, dI) cA l yX4_endlessStates cX4_endlessStates 1 .int 2 45 [.ref oS] (sW oS gS cA FS AS) Post := by
  refine enRo (by decide) (Nat.le_of_ble_eq_true rfl) ?_
  intro p e s m args below meth c Q ls fx hK hP hret hl
  obtain ⟨hx, hb, hml, hown, hts⟩ := id fx
  have hl : lv_has ls 1 [(0, .ref oS)] := hl
  refine lv_aload_n hx hb dX4_endlessStates_0 rfl (lv_at hl 0 rfl) ?_
  refine lv_aload_n hx hb dX4_endlessStates_1 rfl (lv_at hl 0 rfl) ?_
  refine gz (q0 := 0) (v := .ref (gS 4)) fx hK hP fl_X4_18 rfl rfl dX4_endlessStates_2 ?_
  refine lv_bipush (v := (-5 : Int32)) hx hb dX4_endlessStates_5 (by decide) ?_
  refine caRoV (rest := []) (As := [.ref (gS 4), .int (-5 : Int32)]) fx hK lk_X4_104 (c_X4_countOf_4 l dC dI cA oS gS FS AS (-5 : Int32) _ hw) (hP.sub [0, 1, 2, 3, 4, 5, 6] rfl) 0 rfl rfl ⟨(Nat.le_of_ble_eq_true rfl), (Nat.le_of_ble_eq_true rfl)⟩ rfl hl.1 rfl (Nat.le_of_ble_eq_true rfl) dX4_endlessStates_7 ?_
  intro r_2 hw
  exact hret _ _ _ dX4_endlessStates_10 rfl hw
set_option maxHeartbeats 4000000 in
set_option maxRecDepth 100000 in
theorem c_X4_legalStates (l : Launch) (dC : Nat → ClassId) (dI : Nat → Nat → Nat) (cA : ClassId) (oS : Nat) (gS : Nat → Nat) (FS : Nat → Int32) (AS : Nat → Nat → Int32) (Post : Int32 → Prop) (hw : wp_X4_legalStates FS AS Post) : RoI (dC, dI) cA l yX4_legalStates cX4_legalStates 1 .int 2 45 [.ref oS] (sW oS gS cA FS AS) Post := by
  refine enRo (by decide) (Nat.le_of_ble_eq_true rfl) ?_
  intro p e s m args below meth c Q ls fx hK hP hret hl
  obtain ⟨hx, hb, hml, hown, hts⟩ := id fx
  have hl : lv_has ls 1 [(0, .ref oS)] := hl
  refine lv_aload_n hx hb dX4_legalStates_0 rfl (lv_at hl 0 rfl) ?_
  refine lv_aload_n hx hb dX4_legalStates_1 rfl (lv_at hl 0 rfl) ?_
  refine gz (q0 := 0) (v := .ref (gS 4)) fx hK hP fl_X4_18 rfl rfl dX4_legalStates_2 ?_
  refine lv_iconst (v := (0 : Int32)) hx hb dX4_legalStates_5 (by decide) ?_
  refine caRoV (rest := []) (As := [.ref (gS 4), .int (0 : Int32)]) fx hK lk_X4_104 (c_X4_countOf_4 l dC dI cA oS gS FS AS (0 : Int32) _ hw) (hP.sub [0, 1, 2, 3, 4, 5, 6] rfl) 0 rfl rfl ⟨(Nat.le_of_ble_eq_true rfl), (Nat.le_of_ble_eq_true rfl)⟩ rfl hl.1 rfl (Nat.le_of_ble_eq_true rfl) dX4_legalStates_6 ?_
  intro r_2 hw
  exact hret _ _ _ dX4_legalStates_9 rfl hw
set_option maxHeartbeats 4000000 in
set_option maxRecDepth 100000 in
theorem c_X4_isWithin (l : Launch) (dC : Nat → ClassId) (dI : Nat → Nat → Nat) (cA : ClassId) (oS : Nat) (gS : Nat → Nat) (FS : Nat → Int32) (AS : Nat → Nat → Int32) (x1 : Int32) (x2 : Int32) (Post : Int32 → Prop) (hw : wp_X4_isWithin FS AS x1 x2 Post) : RoI (dC, dI) cA l yX4_isWithin cX4_isWithin 3 .boolean 2 42 [.ref oS, .int x1, .int x2] (sW oS gS cA FS AS) Post := by
  refine enRo (by decide) (Nat.le_of_ble_eq_true rfl) ?_
  intro p e s m args below meth c Q ls fx hK hP hret hl
  obtain ⟨hx, hb, hml, hown, hts⟩ := id fx
  have hl : lv_has ls 3 [(0, .ref oS), (1, .int x1), (2, .int x2)] := hl
  refine lv_aload_n hx hb dX4_isWithin_0 rfl (lv_at hl 0 rfl) ?_
  refine lv_iload_n hx hb dX4_isWithin_1 rfl (lv_at hl 1 rfl) ?_
  refine caRoV (rest := []) (As := [.int x1]) fx hK lk_X4_137 (c_X4_hitsOf l dC dI cA oS gS FS AS x1 _ hw) (hP.sub [0, 1, 2, 3, 4, 5, 6] rfl) 0 rfl rfl ⟨(Nat.le_of_ble_eq_true rfl), (Nat.le_of_ble_eq_true rfl)⟩ rfl hl.1 rfl (Nat.le_of_ble_eq_true rfl) dX4_isWithin_2 ?_
  intro r_5 hw
  refine lv_if_lt (tgt := 21) hx hb dX4_isWithin_5 (by decide) (fun c_6 => ?_) (fun c_6 => ?_)
  · have hw := hw.1 c_6
    refine lv_iconst (v := (0 : Int32)) hx hb dX4_isWithin_21 (by decide) ?_
    exact hret _ _ _ dX4_isWithin_22 rfl hw
  · have hw := hw.2 c_6
    refine lv_aload_n hx hb dX4_isWithin_8 rfl (lv_at hl 0 rfl) ?_
    refine lv_iload_n hx hb dX4_isWithin_9 rfl (lv_at hl 1 rfl) ?_
    refine caRoV (rest := []) (As := [.int x1]) fx hK lk_X4_137 (c_X4_hitsOf l dC dI cA oS gS FS AS x1 _ hw) (hP.sub [0, 1, 2, 3, 4, 5, 6] rfl) 0 rfl rfl ⟨(Nat.le_of_ble_eq_true rfl), (Nat.le_of_ble_eq_true rfl)⟩ rfl hl.1 rfl (Nat.le_of_ble_eq_true rfl) dX4_isWithin_10 ?_
    intro r_7 hw
    refine lv_iload_n hx hb dX4_isWithin_13 rfl (lv_at hl 2 rfl) ?_
    refine lv_icmp_gt (tgt := 21) hx hb dX4_isWithin_14 (by decide) (fun c_8 => ?_) (fun c_8 => ?_)
    · have hw := hw.1 c_8
      refine lv_iconst (v := (0 : Int32)) hx hb dX4_isWithin_21 (by decide) ?_
      exact hret _ _ _ dX4_isWithin_22 rfl hw
    · have hw := hw.2 c_8
      refine lv_iconst (v := (1 : Int32)) hx hb dX4_isWithin_17 (by decide) ?_
      refine lv_goto (tgt := 22) hx hb dX4_isWithin_18 (by decide) ?_
      exact hret _ _ _ dX4_isWithin_22 rfl hw
set_option maxHeartbeats 4000000 in
set_option maxRecDepth 100000 in
theorem c_X4_statesWithin (l : Launch) (dC : Nat → ClassId) (dI : Nat → Nat → Nat) (cA : ClassId) (oS : Nat) (gS : Nat → Nat) (FS : Nat → Int32) (AS : Nat → Nat → Int32) (x1 : Int32) (Post : Int32 → Prop) (hw : wp_X4_statesWithin FS AS x1 Post) : RoI (dC, dI) cA l yX4_statesWithin cX4_statesWithin 4 .int 3 64 [.ref oS, .int x1] (sW oS gS cA FS AS) Post := by
  refine enRo (by decide) (Nat.le_of_ble_eq_true rfl) ?_
  intro p e s m args below meth c Q ls fx hK hP hret hl
  obtain ⟨hx, hb, hml, hown, hts⟩ := id fx
  have hl : lv_has ls 4 [(0, .ref oS), (1, .int x1)] := hl
  have b_4 : ∀ (x2 : Int32) (x3 : Int32) (ls : Array Slot), lv_has ls 4 [(0, .ref oS), (1, .int x1), (2, .int x2), (3, .int x3)] → wp_X4_statesWithin_4 FS AS x1 x2 x3 Post → W p l e ({ frames := 3, cells := 0, slots := 0, locals := 64 } : Room) s m args below meth c s.heap [] 0 0 Q (F0 m 4 ls []) := by
    intro x2 x3 ls hl hw
    refine Lp_go (C := fun (t : Int32 × Int32) => ∀ (ls : Array Slot), lv_has ls 4 [(0, .ref oS), (1, .int x1), (2, .int (t.1)), (3, .int (t.2))] → W p l e ({ frames := 3, cells := 0, slots := 0, locals := 64 } : Room) s m args below meth c s.heap [] 0 0 Q (F0 m 4 ls [])) ?_ hw ls hl
    intro k_4 hk_4 t
    obtain ⟨x2, x3⟩ := t
    intro hw ls hl
    have hl : lv_has ls 4 [(0, .ref oS), (1, .int x1), (2, .int x2), (3, .int x3)] := hl
    have hw : st_X4_statesWithin_4 FS AS x1 Post k_4 x2 x3 := hw
    have b_27 : ∀ (x3 : Int32) (t0 : Int32) (t1 : Int32) (ls : Array Slot), lv_has ls 4 [(0, .ref oS), (1, .int x1), (3, .int x3)] → wp_X4_statesWithin_27 FS AS x1 x3 t0 t1 k_4 Post → W p l e ({ frames := 3, cells := 0, slots := 0, locals := 64 } : Room) s m args below meth c s.heap [] 0 0 Q (F0 m 27 ls [.int t1, .int t0]) := by
      intro x3 t0 t1 ls hl hw
      refine lv_iadd hx hb dX4_statesWithin_27 ?_
      refine lv_istore_n (lv' := [(2, .int (t0 + t1)), (0, .ref oS), (1, .int x1), (3, .int x3)]) hx hb dX4_statesWithin_28 rfl hl (by decide) rfl (fun ls hl => ?_)
      refine lv_iinc (v := (x3 + 1)) (lv' := [(3, .int (x3 + 1)), (2, .int (t0 + t1)), (0, .ref oS), (1, .int x1)]) hx hb dX4_statesWithin_29 hl (k := 3) rfl rfl (by decide) rfl (fun ls hl => ?_)
      refine lv_goto (tgt := 4) hx hb dX4_statesWithin_32 (by decide) ?_
      exact hk_4 ((t0 + t1), (x3 + 1)) hw _ (lv_sub hl [2, 3, 1, 0] rfl)
    refine lv_iload_n hx hb dX4_statesWithin_4 rfl (lv_at hl 3 rfl) ?_
    refine lv_aload_n hx hb dX4_statesWithin_5 rfl (lv_at hl 0 rfl) ?_
    refine gz (q0 := 0) (v := .int (FS 1)) fx hK hP fl_X4_46 rfl rfl dX4_statesWithin_6 ?_
    refine lv_icmp_ge (tgt := 35) hx hb dX4_statesWithin_9 (by decide) (fun c_1 => ?_) (fun c_1 => ?_)
    · have hw := hw.1 c_1
      refine lv_iload_n hx hb dX4_statesWithin_35 rfl (lv_at hl 2 rfl) ?_
      exact hret _ _ _ dX4_statesWithin_36 rfl hw
    · have hw := hw.2 c_1
      refine lv_iload_n hx hb dX4_statesWithin_12 rfl (lv_at hl 2 rfl) ?_
      refine lv_aload_n hx hb dX4_statesWithin_13 rfl (lv_at hl 0 rfl) ?_
      refine lv_iload_n hx hb dX4_statesWithin_14 rfl (lv_at hl 3 rfl) ?_
      refine lv_iload_n hx hb dX4_statesWithin_15 rfl (lv_at hl 1 rfl) ?_
      refine caRoV (rest := [.int x2]) (As := [.int x3, .int x1]) fx hK lk_X4_130 (c_X4_isWithin l dC dI cA oS gS FS AS x3 x1 _ hw) (hP.sub [0, 1, 2, 3, 4, 5, 6] rfl) 0 rfl rfl ⟨(Nat.le_of_ble_eq_true rfl), (Nat.le_of_ble_eq_true rfl)⟩ rfl hl.1 rfl (Nat.le_of_ble_eq_true rfl) dX4_statesWithin_16 ?_
      intro r_2 hw
      refine lv_if_eq (tgt := 26) hx hb dX4_statesWithin_19 (by decide) (fun c_3 => ?_) (fun c_3 => ?_)
      · have hw := hw.1 c_3
        refine lv_iconst (v := (0 : Int32)) hx hb dX4_statesWithin_26 (by decide) ?_
        exact b_27 x3 x2 (0 : Int32) _ (lv_sub hl [0, 1, 3] rfl) hw
      · have hw := hw.2 c_3
        refine lv_iconst (v := (1 : Int32)) hx hb dX4_statesWithin_22 (by decide) ?_
        refine lv_goto (tgt := 27) hx hb dX4_statesWithin_23 (by decide) ?_
        exact b_27 x3 x2 (1 : Int32) _ (lv_sub hl [0, 1, 3] rfl) hw
  refine lv_iconst (v := (0 : Int32)) hx hb dX4_statesWithin_0 (by decide) ?_
  refine lv_istore_n (lv' := [(2, .int (0 : Int32)), (0, .ref oS), (1, .int x1)]) hx hb dX4_statesWithin_1 rfl hl (by decide) rfl (fun ls hl => ?_)
  refine lv_iconst (v := (0 : Int32)) hx hb dX4_statesWithin_2 (by decide) ?_
  refine lv_istore_n (lv' := [(3, .int (0 : Int32)), (2, .int (0 : Int32)), (0, .ref oS), (1, .int x1)]) hx hb dX4_statesWithin_3 rfl hl (by decide) rfl (fun ls hl => ?_)
  exact b_4 (0 : Int32) (0 : Int32) _ (lv_sub hl [2, 3, 1, 0] rfl) hw
set_option maxHeartbeats 4000000 in
set_option maxRecDepth 100000 in
theorem c_X4_greatestWorstWithin (l : Launch) (dC : Nat → ClassId) (dI : Nat → Nat → Nat) (cA : ClassId) (oS : Nat) (gS : Nat → Nat) (FS : Nat → Int32) (AS : Nat → Nat → Int32) (x1 : Int32) (Post : Int32 → Prop) (hw : wp_X4_greatestWorstWithin FS AS x1 Post) : RoI (dC, dI) cA l yX4_greatestWorstWithin cX4_greatestWorstWithin 4 .int 3 64 [.ref oS, .int x1] (sW oS gS cA FS AS) Post := by
  refine enRo (by decide) (Nat.le_of_ble_eq_true rfl) ?_
  intro p e s m args below meth c Q ls fx hK hP hret hl
  obtain ⟨hx, hb, hml, hown, hts⟩ := id fx
  have hl : lv_has ls 4 [(0, .ref oS), (1, .int x1)] := hl
  have b_4 : ∀ (x2 : Int32) (x3 : Int32) (ls : Array Slot), lv_has ls 4 [(0, .ref oS), (1, .int x1), (2, .int x2), (3, .int x3)] → wp_X4_greatestWorstWithin_4 FS AS x1 x2 x3 Post → W p l e ({ frames := 3, cells := 0, slots := 0, locals := 64 } : Room) s m args below meth c s.heap [] 0 0 Q (F0 m 4 ls []) := by
    intro x2 x3 ls hl hw
    refine Lp_go (C := fun (t : Int32 × Int32) => ∀ (ls : Array Slot), lv_has ls 4 [(0, .ref oS), (1, .int x1), (2, .int (t.1)), (3, .int (t.2))] → W p l e ({ frames := 3, cells := 0, slots := 0, locals := 64 } : Room) s m args below meth c s.heap [] 0 0 Q (F0 m 4 ls [])) ?_ hw ls hl
    intro k_4 hk_4 t
    obtain ⟨x2, x3⟩ := t
    intro hw ls hl
    have hl : lv_has ls 4 [(0, .ref oS), (1, .int x1), (2, .int x2), (3, .int x3)] := hl
    have hw : st_X4_greatestWorstWithin_4 FS AS x1 Post k_4 x2 x3 := hw
    refine lv_iload_n hx hb dX4_greatestWorstWithin_4 rfl (lv_at hl 3 rfl) ?_
    refine lv_aload_n hx hb dX4_greatestWorstWithin_5 rfl (lv_at hl 0 rfl) ?_
    refine gz (q0 := 0) (v := .int (FS 1)) fx hK hP fl_X4_46 rfl rfl dX4_greatestWorstWithin_6 ?_
    refine lv_icmp_ge (tgt := 40) hx hb dX4_greatestWorstWithin_9 (by decide) (fun c_1 => ?_) (fun c_1 => ?_)
    · have hw := hw.1 c_1
      refine lv_iload_n hx hb dX4_greatestWorstWithin_40 rfl (lv_at hl 2 rfl) ?_
      refine lv_ldc (v := (2147483647 : Int32)) hx hb hown (hts _ (List.mem_cons_of_mem _ q_27_19)) dX4_greatestWorstWithin_41 ?_
      refine lv_icmp_ne (tgt := 51) hx hb dX4_greatestWorstWithin_43 (by decide) (fun c_2 => ?_) (fun c_2 => ?_)
      · have hw := hw.1 c_2
        refine lv_iload_n hx hb dX4_greatestWorstWithin_51 rfl (lv_at hl 2 rfl) ?_
        exact hret _ _ _ dX4_greatestWorstWithin_52 rfl hw
      · have hw := hw.2 c_2
        refine lv_bipush (v := (-5 : Int32)) hx hb dX4_greatestWorstWithin_46 (by decide) ?_
        refine lv_goto (tgt := 52) hx hb dX4_greatestWorstWithin_48 (by decide) ?_
        exact hret _ _ _ dX4_greatestWorstWithin_52 rfl hw
    · have hw := hw.2 c_1
      refine lv_aload_n hx hb dX4_greatestWorstWithin_12 rfl (lv_at hl 0 rfl) ?_
      refine lv_iload_n hx hb dX4_greatestWorstWithin_13 rfl (lv_at hl 3 rfl) ?_
      refine lv_iload_n hx hb dX4_greatestWorstWithin_14 rfl (lv_at hl 1 rfl) ?_
      refine caRoV (rest := []) (As := [.int x3, .int x1]) fx hK lk_X4_130 (c_X4_isWithin l dC dI cA oS gS FS AS x3 x1 _ hw) (hP.sub [0, 1, 2, 3, 4, 5, 6] rfl) 0 rfl rfl ⟨(Nat.le_of_ble_eq_true rfl), (Nat.le_of_ble_eq_true rfl)⟩ rfl hl.1 rfl (Nat.le_of_ble_eq_true rfl) dX4_greatestWorstWithin_15 ?_
      intro r_3 hw
      refine lv_if_eq (tgt := 34) hx hb dX4_greatestWorstWithin_18 (by decide) (fun c_4 => ?_) (fun c_4 => ?_)
      · have hw := hw.1 c_4
        refine lv_iinc (v := (x3 + 1)) (lv' := [(3, .int (x3 + 1)), (0, .ref oS), (1, .int x1), (2, .int x2)]) hx hb dX4_greatestWorstWithin_34 hl (k := 3) rfl rfl (by decide) rfl (fun ls hl => ?_)
        refine lv_goto (tgt := 4) hx hb dX4_greatestWorstWithin_37 (by decide) ?_
        exact hk_4 (x2, (x3 + 1)) hw _ (lv_sub hl [1, 2, 3, 0] rfl)
      · have hw := hw.2 c_4
        refine lv_iload_n hx hb dX4_greatestWorstWithin_21 rfl (lv_at hl 2 rfl) ?_
        refine lv_aload_n hx hb dX4_greatestWorstWithin_22 rfl (lv_at hl 0 rfl) ?_
        refine lv_iload_n hx hb dX4_greatestWorstWithin_23 rfl (lv_at hl 3 rfl) ?_
        refine caRoV (rest := [.int x2]) (As := [.int x3]) fx hK lk_X4_118 (c_X4_worstOf l dC dI cA oS gS FS AS x3 _ hw) (hP.sub [0, 1, 2, 3, 4, 5, 6] rfl) 0 rfl rfl ⟨(Nat.le_of_ble_eq_true rfl), (Nat.le_of_ble_eq_true rfl)⟩ rfl hl.1 rfl (Nat.le_of_ble_eq_true rfl) dX4_greatestWorstWithin_24 ?_
        intro r_5 hw
        refine caRoS (rest := [.int x2]) (As := [.int r_5]) fx hK lk_X4_134 (c_X4_rankOf l dC dI cA r_5 _ hw) (hP.sub [] rfl) ⟨(Nat.le_of_ble_eq_true rfl), (Nat.le_of_ble_eq_true rfl)⟩ rfl hl.1 rfl (Nat.le_of_ble_eq_true rfl) dX4_greatestWorstWithin_27 ?_
        intro r_6 hw
        refine va_mmax hx hb (hml.trans hl.1.symm) hown (hts _ (List.mem_cons_of_mem _ q_33_19)) (hts _ (List.mem_cons_of_mem _ q_31_17)) (hts _ (List.mem_cons_of_mem _ q_18_21)) (hts _ (List.mem_cons_of_mem _ q_31_18)) (Nat.le_of_ble_eq_true rfl) (Nat.le_of_ble_eq_true rfl) (Nat.zero_le _) (Nat.zero_le _) dX4_greatestWorstWithin_30 ?_
        refine lv_istore_n (lv' := [(2, .int (if x2 < r_6 then r_6 else x2)), (0, .ref oS), (1, .int x1), (3, .int x3)]) hx hb dX4_greatestWorstWithin_33 rfl hl (by decide) rfl (fun ls hl => ?_)
        refine lv_iinc (v := (x3 + 1)) (lv' := [(3, .int (x3 + 1)), (2, .int (if x2 < r_6 then r_6 else x2)), (0, .ref oS), (1, .int x1)]) hx hb dX4_greatestWorstWithin_34 hl (k := 3) rfl rfl (by decide) rfl (fun ls hl => ?_)
        refine lv_goto (tgt := 4) hx hb dX4_greatestWorstWithin_37 (by decide) ?_
        exact hk_4 ((if x2 < r_6 then r_6 else x2), (x3 + 1)) hw _ (lv_sub hl [2, 3, 1, 0] rfl)
  refine lv_iconst (v := (0 : Int32)) hx hb dX4_greatestWorstWithin_0 (by decide) ?_
  refine lv_istore_n (lv' := [(2, .int (0 : Int32)), (0, .ref oS), (1, .int x1)]) hx hb dX4_greatestWorstWithin_1 rfl hl (by decide) rfl (fun ls hl => ?_)
  refine lv_iconst (v := (0 : Int32)) hx hb dX4_greatestWorstWithin_2 (by decide) ?_
  refine lv_istore_n (lv' := [(3, .int (0 : Int32)), (2, .int (0 : Int32)), (0, .ref oS), (1, .int x1)]) hx hb dX4_greatestWorstWithin_3 rfl hl (by decide) rfl (fun ls hl => ?_)
  exact b_4 (0 : Int32) (0 : Int32) _ (lv_sub hl [2, 3, 1, 0] rfl) hw
