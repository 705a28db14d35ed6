set_option maxHeartbeats 4000000 in
set_option maxRecDepth 100000 in
theorem c_X5_append (l : Launch) (dC : Nat → ClassId) (dI : Nat → Nat → Nat) (cA : ClassId) (oT : Nat) (gT : Nat → Nat) (FT : Nat → Int32) (AT : Nat → Nat → Int32) (x1 : Int32) (Post : Int32 → (Nat → Int32) → (Nat → Nat → Int32) → Prop) (hw : wp_X5_append FT AT x1 Post) : MuI (dC, dI) cA l yX5_append cX5_append 2 .boolean 1 22 [.ref oT, .int x1] (tW oT gT cA FT AT) (fun r (u : (Nat → Int32) × (Nat → Nat → Int32)) => Post r (u.1) (u.2)) (fun u => (tW oT gT cA (u.1) (u.2))) := by
  refine enMu (by decide) (Nat.le_of_ble_eq_true rfl) ?_
  intro p e s m args below meth c Q ls A fx hK hP hD hS hA hret hl
  obtain ⟨hx, hb, hml, hown, hts⟩ := id fx
  have hl : lv_has ls 2 [(0, .ref oT), (1, .int x1)] := hl
  have hP : va_P (dC, dI) vwCl (tW oT gT cA FT AT) s.heap := hP
  refine lv_aload_n hx hb dX5_append_0 rfl (lv_at hl 0 rfl) ?_
  refine gz (q0 := 0) (v := .int (FT 1)) fx hK hP fl_X5_15 rfl rfl dX5_append_1 ?_
  refine lv_sipush (v := (200 : Int32)) hx hb dX5_append_4 (by decide) ?_
  refine lv_icmp_lt (tgt := 12) hx hb dX5_append_7 (by decide) (fun c_4 => ?_) (fun c_4 => ?_)
  · have hw := hw.1 c_4
    refine lv_aload_n hx hb dX5_append_12 rfl (lv_at hl 0 rfl) ?_
    refine gz (q0 := 0) (v := .ref (gT 0)) fx hK hP fl_X5_9 rfl rfl dX5_append_13 ?_
    refine lv_aload_n hx hb dX5_append_16 rfl (lv_at hl 0 rfl) ?_
    refine gz (q0 := 0) (v := .int (FT 1)) fx hK hP fl_X5_15 rfl rfl dX5_append_17 ?_
    refine lv_iload_n hx hb dX5_append_20 rfl (lv_at hl 1 rfl) ?_
    refine caCell (rest := []) (As := [.ref (gT 0), .int (FT 1), .int x1]) fx hK lk_X5_19 (c_put l (dC, dI) cA (gT 0) 200 (AT 0) (FT 1) x1 (by decide)) hP hD hS hA 1 rfl ⟨(Nat.le_of_ble_eq_true rfl), (Nat.le_of_ble_eq_true rfl)⟩ rfl hl.1 rfl (Nat.le_of_ble_eq_true rfl) dX5_append_21 ?_
    intro g_5 H locs e_6 hP hD hS
    have hw := hw g_5 e_6
    have hP : va_P (dC, dI) vwCl (tW oT gT cA FT (uA AT 0 g_5)) H := hP
    have hD : va_D A (tW oT gT cA FT (uA AT 0 g_5)) := hD
    refine lv_aload_n hx hb dX5_append_24 rfl (lv_at hl 0 rfl) ?_
    refine lv_dup hx hb dX5_append_25 rfl ?_
    refine gz (q0 := 0) (v := .int (FT 1)) fx hK hP fl_X5_15 rfl rfl dX5_append_26 ?_
    refine lv_iconst (v := (1 : Int32)) hx hb dX5_append_29 (by decide) ?_
    refine lv_iadd hx hb dX5_append_30 ?_
    refine pz (q0 := 0) (v := .int ((FT 1) + (1 : Int32))) fx hK hP hD hS fp_X5_15 rfl rfl rfl (Nat.le_of_ble_eq_true rfl) dX5_append_31 (fun H locs hP hD hS => ?_)
    have hP : va_P (dC, dI) vwCl (tW oT gT cA (uF FT 1 ((FT 1) + (1 : Int32))) (uA AT 0 g_5)) H := hP
    have hD : va_D A (tW oT gT cA (uF FT 1 ((FT 1) + (1 : Int32))) (uA AT 0 g_5)) := hD
    refine lv_iconst (v := (1 : Int32)) hx hb dX5_append_34 (by decide) ?_
    exact hret _ ((uF FT 1 ((FT 1) + (1 : Int32))), (uA AT 0 g_5)) _ _ _ _ dX5_append_35 rfl hw hP hD hS
  · have hw := hw.2 c_4
    refine lv_iconst (v := (0 : Int32)) hx hb dX5_append_10 (by decide) ?_
    exact hret _ (FT, AT) _ _ _ _ dX5_append_11 rfl hw hP hD hS
set_option maxHeartbeats 4000000 in
set_option maxRecDepth 100000 in
theorem c_X5_length (l : Launch) (dC : Nat → ClassId) (dI : Nat → Nat → Nat) (cA : ClassId) (oT : Nat) (gT : Nat → Nat) (FT : Nat → Int32) (AT : Nat → Nat → Int32) (Post : Int32 → Prop) (hw : wp_X5_length FT AT Post) : RoI (dC, dI) cA l yX5_length cX5_length 1 .int 0 0 [.ref oT] (tW oT gT cA FT AT) Post := by
  refine enRo (by decide) (Nat.le_of_ble_eq_true rfl) ?_
  intro p e s m args below meth c Q ls fx hK hP hret hl
  obtain ⟨hx, hb, hml, hown, hts⟩ := id fx
  have hl : lv_has ls 1 [(0, .ref oT)] := hl
  refine lv_aload_n hx hb dX5_length_0 rfl (lv_at hl 0 rfl) ?_
  refine gz (q0 := 0) (v := .int (FT 1)) fx hK hP fl_X5_15 rfl rfl dX5_length_1 ?_
  exact hret _ _ _ dX5_length_4 rfl hw
set_option maxHeartbeats 4000000 in
set_option maxRecDepth 100000 in
theorem c_X5_clear (l : Launch) (dC : Nat → ClassId) (dI : Nat → Nat → Nat) (cA : ClassId) (oT : Nat) (gT : Nat → Nat) (FT : Nat → Int32) (AT : Nat → Nat → Int32) (Post : (Nat → Int32) → (Nat → Nat → Int32) → Prop) (hw : wp_X5_clear FT AT Post) : MuV (dC, dI) cA l yX5_clear cX5_clear 1 0 0 [.ref oT] (tW oT gT cA FT AT) (fun (u : (Nat → Int32) × (Nat → Nat → Int32)) => Post (u.1) (u.2)) (fun u => (tW oT gT cA (u.1) (u.2))) := by
  refine enMv (by decide) (Nat.le_of_ble_eq_true rfl) ?_
  intro p e s m args below meth c Q ls A fx hK hP hD hS hA hret hl
  obtain ⟨hx, hb, hml, hown, hts⟩ := id fx
  have hl : lv_has ls 1 [(0, .ref oT)] := hl
  have hP : va_P (dC, dI) vwCl (tW oT gT cA FT AT) s.heap := hP
  refine lv_aload_n hx hb dX5_clear_0 rfl (lv_at hl 0 rfl) ?_
  refine lv_iconst (v := (0 : Int32)) hx hb dX5_clear_1 (by decide) ?_
  refine pz (q0 := 0) (v := .int (0 : Int32)) fx hK hP hD hS fp_X5_15 rfl rfl rfl (Nat.le_of_ble_eq_true rfl) dX5_clear_2 (fun H locs hP hD hS => ?_)
  have hP : va_P (dC, dI) vwCl (tW oT gT cA (uF FT 1 (0 : Int32)) AT) H := hP
  have hD : va_D A (tW oT gT cA (uF FT 1 (0 : Int32)) AT) := hD
  exact hret ((uF FT 1 (0 : Int32)), AT) _ _ _ _ dX5_clear_5 hw hP hD hS
set_option maxHeartbeats 4000000 in
set_option maxRecDepth 100000 in
theorem c_X5_letterAt (l : Launch) (dC : Nat → ClassId) (dI : Nat → Nat → Nat) (cA : ClassId) (oT : Nat) (gT : Nat → Nat) (FT : Nat → Int32) (AT : Nat → Nat → Int32) (x1 : Int32) (Post : Int32 → Prop) (hw : wp_X5_letterAt FT AT x1 Post) : RoI (dC, dI) cA l yX5_letterAt cX5_letterAt 2 .int 1 21 [.ref oT, .int x1] (tW oT gT cA FT AT) Post := by
  refine enRo (by decide) (Nat.le_of_ble_eq_true rfl) ?_
  intro p e s m args below meth c Q ls fx hK hP hret hl
  obtain ⟨hx, hb, hml, hown, hts⟩ := id fx
  have hl : lv_has ls 2 [(0, .ref oT), (1, .int x1)] := hl
  refine lv_iload_n hx hb dX5_letterAt_0 rfl (lv_at hl 1 rfl) ?_
  refine lv_if_lt (tgt := 23) hx hb dX5_letterAt_1 (by decide) (fun c_5 => ?_) (fun c_5 => ?_)
  · have hw := hw.1 c_5
    refine lv_iconst (v := (0 : Int32)) hx hb dX5_letterAt_23 (by decide) ?_
    exact hret _ _ _ dX5_letterAt_24 rfl hw
  · have hw := hw.2 c_5
    refine lv_iload_n hx hb dX5_letterAt_4 rfl (lv_at hl 1 rfl) ?_
    refine lv_aload_n hx hb dX5_letterAt_5 rfl (lv_at hl 0 rfl) ?_
    refine gz (q0 := 0) (v := .int (FT 1)) fx hK hP fl_X5_15 rfl rfl dX5_letterAt_6 ?_
    refine lv_icmp_ge (tgt := 23) hx hb dX5_letterAt_9 (by decide) (fun c_6 => ?_) (fun c_6 => ?_)
    · have hw := hw.1 c_6
      refine lv_iconst (v := (0 : Int32)) hx hb dX5_letterAt_23 (by decide) ?_
      exact hret _ _ _ dX5_letterAt_24 rfl hw
    · have hw := hw.2 c_6
      refine lv_aload_n hx hb dX5_letterAt_12 rfl (lv_at hl 0 rfl) ?_
      refine gz (q0 := 0) (v := .ref (gT 0)) fx hK hP fl_X5_9 rfl rfl dX5_letterAt_13 ?_
      refine lv_iload_n hx hb dX5_letterAt_16 rfl (lv_at hl 1 rfl) ?_
      refine caRoS (rest := []) (As := [.ref (gT 0), .int x1]) fx hK lk_X5_49 (c_at l (dC, dI) cA (gT 0) 200 (AT 0) x1 (by decide)) (hP.sub [1] rfl) ⟨(Nat.le_of_ble_eq_true rfl), (Nat.le_of_ble_eq_true rfl)⟩ rfl hl.1 rfl (Nat.le_of_ble_eq_true rfl) dX5_letterAt_17 ?_
      intro r_7 e_8
      have hw := hw r_7 e_8
      refine lv_goto (tgt := 24) hx hb dX5_letterAt_20 (by decide) ?_
      exact hret _ _ _ dX5_letterAt_24 rfl hw
set_option maxHeartbeats 4000000 in
set_option maxRecDepth 100000 in
theorem c_X5_figureAt (l : Launch) (dC : Nat → ClassId) (dI : Nat → Nat → Nat) (cA : ClassId) (oT : Nat) (gT : Nat → Nat) (FT : Nat → Int32) (AT : Nat → Nat → Int32) (x1 : Int32) (Post : Int32 → Prop) (hw : wp_X5_figureAt FT AT x1 Post) : RoI (dC, dI) cA l yX5_figureAt cX5_figureAt 3 .int 2 42 [.ref oT, .int x1] (tW oT gT cA FT AT) Post := by
  refine enRo (by decide) (Nat.le_of_ble_eq_true rfl) ?_
  intro p e s m args below meth c Q ls fx hK hP hret hl
  obtain ⟨hx, hb, hml, hown, hts⟩ := id fx
  have hl : lv_has ls 3 [(0, .ref oT), (1, .int x1)] := hl
  refine lv_aload_n hx hb dX5_figureAt_0 rfl (lv_at hl 0 rfl) ?_
  refine lv_iload_n hx hb dX5_figureAt_1 rfl (lv_at hl 1 rfl) ?_
  refine caRoV (rest := []) (As := [.int x1]) fx hK lk_X5_29 (c_X5_letterAt l dC dI cA oT gT FT AT x1 _ hw) (hP.sub [0, 1] rfl) 0 rfl rfl ⟨(Nat.le_of_ble_eq_true rfl), (Nat.le_of_ble_eq_true rfl)⟩ rfl hl.1 rfl (Nat.le_of_ble_eq_true rfl) dX5_figureAt_2 ?_
  intro r_4 hw
  refine lv_istore_n (lv' := [(2, .int r_4), (0, .ref oT), (1, .int x1)]) hx hb dX5_figureAt_5 rfl hl (by decide) rfl (fun ls hl => ?_)
  refine lv_iload_n hx hb dX5_figureAt_6 rfl (lv_at hl 0 rfl) ?_
  refine lv_bipush (v := (48 : Int32)) hx hb dX5_figureAt_7 (by decide) ?_
  refine lv_icmp_lt (tgt := 25) hx hb dX5_figureAt_9 (by decide) (fun c_5 => ?_) (fun c_5 => ?_)
  · have hw := hw.1 c_5
    refine lv_iconst (v := (-1 : Int32)) hx hb dX5_figureAt_25 (by decide) ?_
    exact hret _ _ _ dX5_figureAt_26 rfl hw
  · have hw := hw.2 c_5
    refine lv_iload_n hx hb dX5_figureAt_12 rfl (lv_at hl 0 rfl) ?_
    refine lv_bipush (v := (57 : Int32)) hx hb dX5_figureAt_13 (by decide) ?_
    refine lv_icmp_gt (tgt := 25) hx hb dX5_figureAt_15 (by decide) (fun c_6 => ?_) (fun c_6 => ?_)
    · have hw := hw.1 c_6
      refine lv_iconst (v := (-1 : Int32)) hx hb dX5_figureAt_25 (by decide) ?_
      exact hret _ _ _ dX5_figureAt_26 rfl hw
    · have hw := hw.2 c_6
      refine lv_iload_n hx hb dX5_figureAt_18 rfl (lv_at hl 0 rfl) ?_
      refine lv_bipush (v := (48 : Int32)) hx hb dX5_figureAt_19 (by decide) ?_
      refine lv_isub hx hb dX5_figureAt_21 ?_
      refine lv_goto (tgt := 26) hx hb dX5_figureAt_22 (by decide) ?_
      exact hret _ _ _ dX5_figureAt_26 rfl hw
set_option maxHeartbeats 4000000 in
set_option maxRecDepth 100000 in
theorem c_X1_begin (l : Launch) (dC : Nat → ClassId) (dI : Nat → Nat → Nat) (cA : ClassId) (oN : Nat) (gN : Nat → Nat) (FN : Nat → Int32) (AN : Nat → Nat → Int32) (x1 : Int32) (x2 : Int32) (x3 : Int32) (Post : Int32 → (Nat → Int32) → (Nat → Nat → Int32) → Prop) (hw : wp_X1_begin FN AN x1 x2 x3 Post) : MuI (dC, dI) cA l yX1_begin cX1_begin 6 .boolean 1 22 [.ref oN, .int x1, .int x2, .int x3] (nW oN gN cA FN AN) (fun r (u : (Nat → Int32) × (Nat → Nat → Int32)) => Post r (u.1) (u.2)) (fun u => (nW oN gN cA (u.1) (u.2))) := by
  refine enMu (by decide) (Nat.le_of_ble_eq_true rfl) ?_
  intro p e s m args below meth c Q ls A fx hK hP hD hS hA hret hl
  obtain ⟨hx, hb, hml, hown, hts⟩ := id fx
  have hl : lv_has ls 6 [(0, .ref oN), (1, .int x1), (2, .int x2), (3, .int x3)] := hl
  have hP : va_P (dC, dI) vwCl (nW oN gN cA FN AN) s.heap := hP
  have b_64 : ∀ (FN : Nat → Int32) (AN : Nat → Nat → Int32) (x4 : Int32) (x5 : Int32) (H : Heap) (locs : List Loc) (ls : Array Slot), va_P (dC, dI) vwCl (nW oN gN cA FN AN) H → va_D A (nW oN gN cA FN AN) → va_S A s.heap H locs → lv_has ls 6 [(0, .ref oN), (1, .int x1), (2, .int x2), (3, .int x3), (4, .int x4), (5, .int x5)] → wp_X1_begin_64 FN AN x1 x2 x3 x4 x5 Post → W p l e ({ frames := 1, cells := 0, slots := 0, locals := 22 } : Room) s m args below meth c H locs 0 0 Q (F0 m 64 ls []) := by
    intro FN AN x4 x5 H locs ls hP hD hS hl hw
    refine Lp_go (C := fun (t : Int32 × Int32 × (Nat → Int32) × (Nat → Nat → Int32)) => ∀ (H : Heap) (locs : List Loc) (ls : Array Slot), va_P (dC, dI) vwCl (nW oN gN cA (t.2.2.1) (t.2.2.2)) H → va_D A (nW oN gN cA (t.2.2.1) (t.2.2.2)) → va_S A s.heap H locs → lv_has ls 6 [(0, .ref oN), (1, .int x1), (2, .int x2), (3, .int x3), (4, .int (t.1)), (5, .int (t.2.1))] → W p l e ({ frames := 1, cells := 0, slots := 0, locals := 22 } : Room) s m args below meth c H locs 0 0 Q (F0 m 64 ls [])) ?_ hw H locs ls hP hD hS hl
    intro k_64 hk_64 t
    obtain ⟨x4, x5, FN, AN⟩ := t
    intro hw H locs ls hP hD hS hl
    have hP : va_P (dC, dI) vwCl (nW oN gN cA FN AN) H := hP
    have hD : va_D A (nW oN gN cA FN AN) := hD
    have hl : lv_has ls 6 [(0, .ref oN), (1, .int x1), (2, .int x2), (3, .int x3), (4, .int x4), (5, .int x5)] := hl
    have hw : st_X1_begin_64 x1 x2 x3 Post k_64 x4 x5 FN AN := hw
    refine lv_iload hx hb dX1_begin_64 (lv_at hl 5 rfl) ?_
    refine lv_iload_n hx hb dX1_begin_66 rfl (lv_at hl 2 rfl) ?_
    refine lv_icmp_ge (tgt := 103) hx hb dX1_begin_67 (by decide) (fun c_9 => ?_) (fun c_9 => ?_)
    · have hw := hw.1 c_9
      refine lv_aload_n hx hb dX1_begin_103 rfl (lv_at hl 0 rfl) ?_
      refine lv_iload_n hx hb dX1_begin_104 rfl (lv_at hl 1 rfl) ?_
      refine pz (q0 := 0) (v := .int x1) fx hK hP hD hS fp_X1_24 rfl rfl rfl (Nat.le_of_ble_eq_true rfl) dX1_begin_105 (fun H locs hP hD hS => ?_)
      have hP : va_P (dC, dI) vwCl (nW oN gN cA (uF FN 0 x1) AN) H := hP
      have hD : va_D A (nW oN gN cA (uF FN 0 x1) AN) := hD
      refine lv_aload_n hx hb dX1_begin_108 rfl (lv_at hl 0 rfl) ?_
      refine lv_iload_n hx hb dX1_begin_109 rfl (lv_at hl 2 rfl) ?_
      refine pz (q0 := 0) (v := .int x2) fx hK hP hD hS fp_X1_28 rfl rfl rfl (Nat.le_of_ble_eq_true rfl) dX1_begin_110 (fun H locs hP hD hS => ?_)
      have hP : va_P (dC, dI) vwCl (nW oN gN cA (uF (uF FN 0 x1) 1 x2) AN) H := hP
      have hD : va_D A (nW oN gN cA (uF (uF FN 0 x1) 1 x2) AN) := hD
      refine lv_aload_n hx hb dX1_begin_113 rfl (lv_at hl 0 rfl) ?_
      refine lv_iload_n hx hb dX1_begin_114 rfl (lv_at hl 3 rfl) ?_
      refine pz (q0 := 0) (v := .int x3) fx hK hP hD hS fp_X1_31 rfl rfl rfl (Nat.le_of_ble_eq_true rfl) dX1_begin_115 (fun H locs hP hD hS => ?_)
      have hP : va_P (dC, dI) vwCl (nW oN gN cA (uF (uF (uF FN 0 x1) 1 x2) 2 x3) AN) H := hP
      have hD : va_D A (nW oN gN cA (uF (uF (uF FN 0 x1) 1 x2) 2 x3) AN) := hD
      refine lv_aload_n hx hb dX1_begin_118 rfl (lv_at hl 0 rfl) ?_
      refine lv_iload hx hb dX1_begin_119 (lv_at hl 4 rfl) ?_
      refine pz (q0 := 0) (v := .int x4) fx hK hP hD hS fp_X1_34 rfl rfl rfl (Nat.le_of_ble_eq_true rfl) dX1_begin_121 (fun H locs hP hD hS => ?_)
      have hP : va_P (dC, dI) vwCl (nW oN gN cA (uF (uF (uF (uF FN 0 x1) 1 x2) 2 x3) 3 x4) AN) H := hP
      have hD : va_D A (nW oN gN cA (uF (uF (uF (uF FN 0 x1) 1 x2) 2 x3) 3 x4) AN) := hD
      refine lv_aload_n hx hb dX1_begin_124 rfl (lv_at hl 0 rfl) ?_
      refine lv_iconst (v := (0 : Int32)) hx hb dX1_begin_125 (by decide) ?_
      refine pz (q0 := 0) (v := .int (0 : Int32)) fx hK hP hD hS fp_X1_37 rfl rfl rfl (Nat.le_of_ble_eq_true rfl) dX1_begin_126 (fun H locs hP hD hS => ?_)
      have hP : va_P (dC, dI) vwCl (nW oN gN cA (uF (uF (uF (uF (uF FN 0 x1) 1 x2) 2 x3) 3 x4) 4 (0 : Int32)) AN) H := hP
      have hD : va_D A (nW oN gN cA (uF (uF (uF (uF (uF FN 0 x1) 1 x2) 2 x3) 3 x4) 4 (0 : Int32)) AN) := hD
      refine lv_aload_n hx hb dX1_begin_129 rfl (lv_at hl 0 rfl) ?_
      refine lv_iconst (v := (0 : Int32)) hx hb dX1_begin_130 (by decide) ?_
      refine pz (q0 := 0) (v := .int (0 : Int32)) fx hK hP hD hS fp_X1_40 rfl rfl rfl (Nat.le_of_ble_eq_true rfl) dX1_begin_131 (fun H locs hP hD hS => ?_)
      have hP : va_P (dC, dI) vwCl (nW oN gN cA (uF (uF (uF (uF (uF (uF FN 0 x1) 1 x2) 2 x3) 3 x4) 4 (0 : Int32)) 5 (0 : Int32)) AN) H := hP
      have hD : va_D A (nW oN gN cA (uF (uF (uF (uF (uF (uF FN 0 x1) 1 x2) 2 x3) 3 x4) 4 (0 : Int32)) 5 (0 : Int32)) AN) := hD
      refine lv_iload hx hb dX1_begin_134 (lv_at hl 4 rfl) ?_
      refine lv_sipush (v := (4096 : Int32)) hx hb dX1_begin_136 (by decide) ?_
      refine lv_icmp_gt (tgt := 146) hx hb dX1_begin_139 (by decide) (fun c_10 => ?_) (fun c_10 => ?_)
      · have hw := hw.1 c_10
        refine lv_iconst (v := (0 : Int32)) hx hb dX1_begin_146 (by decide) ?_
        exact hret _ ((uF (uF (uF (uF (uF (uF FN 0 x1) 1 x2) 2 x3) 3 x4) 4 (0 : Int32)) 5 (0 : Int32)), AN) _ _ _ _ dX1_begin_147 rfl hw hP hD hS
      · have hw := hw.2 c_10
        refine lv_iconst (v := (1 : Int32)) hx hb dX1_begin_142 (by decide) ?_
        refine lv_goto (tgt := 147) hx hb dX1_begin_143 (by decide) ?_
        exact hret _ ((uF (uF (uF (uF (uF (uF FN 0 x1) 1 x2) 2 x3) 3 x4) 4 (0 : Int32)) 5 (0 : Int32)), AN) _ _ _ _ dX1_begin_147 rfl hw hP hD hS
    · have hw := hw.2 c_9
      refine lv_aload_n hx hb dX1_begin_70 rfl (lv_at hl 0 rfl) ?_
      refine gz (q0 := 0) (v := .ref (gN 6)) fx hK hP fl_X1_9 rfl rfl dX1_begin_71 ?_
      refine lv_iload hx hb dX1_begin_74 (lv_at hl 5 rfl) ?_
      refine lv_iconst (v := (0 : Int32)) hx hb dX1_begin_76 (by decide) ?_
      refine caCell (rest := []) (As := [.ref (gN 6), .int x5, .int (0 : Int32)]) fx hK lk_X1_18 (c_put l (dC, dI) cA (gN 6) 6 (AN 6) x5 (0 : Int32) (by decide)) hP hD hS hA 1 rfl ⟨(Nat.le_of_ble_eq_true rfl), (Nat.le_of_ble_eq_true rfl)⟩ rfl hl.1 rfl (Nat.le_of_ble_eq_true rfl) dX1_begin_77 ?_
      intro g_11 H locs e_12 hP hD hS
      have hw := hw g_11 e_12
      have hP : va_P (dC, dI) vwCl (nW oN gN cA FN (uA AN 6 g_11)) H := hP
      have hD : va_D A (nW oN gN cA FN (uA AN 6 g_11)) := hD
      refine lv_aload_n hx hb dX1_begin_80 rfl (lv_at hl 0 rfl) ?_
      refine gz (q0 := 0) (v := .ref (gN 7)) fx hK hP fl_X1_15 rfl rfl dX1_begin_81 ?_
      refine lv_iload hx hb dX1_begin_84 (lv_at hl 5 rfl) ?_
      refine lv_iload hx hb dX1_begin_86 (lv_at hl 4 rfl) ?_
      refine caCell (rest := []) (As := [.ref (gN 7), .int x5, .int x4]) fx hK lk_X1_18 (c_put l (dC, dI) cA (gN 7) 6 (AN 7) x5 x4 (by decide)) hP hD hS hA 2 rfl ⟨(Nat.le_of_ble_eq_true rfl), (Nat.le_of_ble_eq_true rfl)⟩ rfl hl.1 rfl (Nat.le_of_ble_eq_true rfl) dX1_begin_88 ?_
      intro g_13 H locs e_14 hP hD hS
      have hw := hw g_13 e_14
      have hP : va_P (dC, dI) vwCl (nW oN gN cA FN (uA (uA AN 6 g_11) 7 g_13)) H := hP
      have hD : va_D A (nW oN gN cA FN (uA (uA AN 6 g_11) 7 g_13)) := hD
      refine lv_iload hx hb dX1_begin_91 (lv_at hl 4 rfl) ?_
      refine lv_iload_n hx hb dX1_begin_93 rfl (lv_at hl 3 rfl) ?_
      refine lv_imul hx hb dX1_begin_94 ?_
      refine lv_istore (lv' := [(4, .int (x4 * x3)), (0, .ref oN), (1, .int x1), (2, .int x2), (3, .int x3), (5, .int x5)]) hx hb dX1_begin_95 hl (by decide) rfl (fun ls hl => ?_)
      refine lv_iinc (v := (x5 + 1)) (lv' := [(5, .int (x5 + 1)), (4, .int (x4 * x3)), (0, .ref oN), (1, .int x1), (2, .int x2), (3, .int x3)]) hx hb dX1_begin_97 hl (k := 5) rfl rfl (by decide) rfl (fun ls hl => ?_)
      refine lv_goto (tgt := 64) hx hb dX1_begin_100 (by decide) ?_
      exact hk_64 ((x4 * x3), (x5 + 1), FN, (uA (uA AN 6 g_11) 7 g_13)) hw _ _ _ hP hD hS (lv_sub hl [2, 3, 4, 5, 1, 0] rfl)
  have b_58 : ∀ (FN : Nat → Int32) (AN : Nat → Nat → Int32) (H : Heap) (locs : List Loc) (ls : Array Slot), va_P (dC, dI) vwCl (nW oN gN cA FN AN) H → va_D A (nW oN gN cA FN AN) → va_S A s.heap H locs → lv_has ls 6 [(0, .ref oN), (1, .int x1), (2, .int x2), (3, .int x3)] → wp_X1_begin_58 FN AN x1 x2 x3 Post → W p l e ({ frames := 1, cells := 0, slots := 0, locals := 22 } : Room) s m args below meth c H locs 0 0 Q (F0 m 58 ls []) := by
    intro FN AN H locs ls hP hD hS hl hw
    refine lv_iconst (v := (1 : Int32)) hx hb dX1_begin_58 (by decide) ?_
    refine lv_istore (lv' := [(4, .int (1 : Int32)), (0, .ref oN), (1, .int x1), (2, .int x2), (3, .int x3)]) hx hb dX1_begin_59 hl (by decide) rfl (fun ls hl => ?_)
    refine lv_iconst (v := (0 : Int32)) hx hb dX1_begin_61 (by decide) ?_
    refine lv_istore (lv' := [(5, .int (0 : Int32)), (4, .int (1 : Int32)), (0, .ref oN), (1, .int x1), (2, .int x2), (3, .int x3)]) hx hb dX1_begin_62 hl (by decide) rfl (fun ls hl => ?_)
    exact b_64 FN AN (1 : Int32) (0 : Int32) _ _ _ hP hD hS (lv_sub hl [2, 3, 4, 5, 1, 0] rfl) hw
  have b_46 : ∀ (FN : Nat → Int32) (AN : Nat → Nat → Int32) (H : Heap) (locs : List Loc) (ls : Array Slot), va_P (dC, dI) vwCl (nW oN gN cA FN AN) H → va_D A (nW oN gN cA FN AN) → va_S A s.heap H locs → lv_has ls 6 [(0, .ref oN), (1, .int x1), (2, .int x2), (3, .int x3)] → wp_X1_begin_46 FN AN x1 x2 x3 Post → W p l e ({ frames := 1, cells := 0, slots := 0, locals := 22 } : Room) s m args below meth c H locs 0 0 Q (F0 m 46 ls []) := by
    intro FN AN H locs ls hP hD hS hl hw
    refine lv_iload_n hx hb dX1_begin_46 rfl (lv_at hl 1 rfl) ?_
    refine lv_iconst (v := (3 : Int32)) hx hb dX1_begin_47 (by decide) ?_
    refine lv_icmp_ne (tgt := 58) hx hb dX1_begin_48 (by decide) (fun c_15 => ?_) (fun c_15 => ?_)
    · have hw := hw.1 c_15
      exact b_58 FN AN _ _ _ hP hD hS (lv_sub hl [0, 1, 2, 3] rfl) hw
    · have hw := hw.2 c_15
      refine lv_iload_n hx hb dX1_begin_51 rfl (lv_at hl 3 rfl) ?_
      refine lv_iload_n hx hb dX1_begin_52 rfl (lv_at hl 2 rfl) ?_
      refine lv_icmp_ge (tgt := 58) hx hb dX1_begin_53 (by decide) (fun c_16 => ?_) (fun c_16 => ?_)
      · have hw := hw.1 c_16
        exact b_58 FN AN _ _ _ hP hD hS (lv_sub hl [0, 1, 2, 3] rfl) hw
      · have hw := hw.2 c_16
        refine lv_iconst (v := (0 : Int32)) hx hb dX1_begin_56 (by decide) ?_
        exact hret _ (FN, AN) _ _ _ _ dX1_begin_57 rfl hw hP hD hS
  refine lv_iload_n hx hb dX1_begin_0 rfl (lv_at hl 1 rfl) ?_
  refine lv_iconst (v := (1 : Int32)) hx hb dX1_begin_1 (by decide) ?_
  refine lv_icmp_lt (tgt := 32) hx hb dX1_begin_2 (by decide) (fun c_17 => ?_) (fun c_17 => ?_)
  · have hw := hw.1 c_17
    refine lv_iconst (v := (0 : Int32)) hx hb dX1_begin_32 (by decide) ?_
    exact hret _ (FN, AN) _ _ _ _ dX1_begin_33 rfl hw hP hD hS
  · have hw := hw.2 c_17
    refine lv_iload_n hx hb dX1_begin_5 rfl (lv_at hl 1 rfl) ?_
    refine lv_iconst (v := (4 : Int32)) hx hb dX1_begin_6 (by decide) ?_
    refine lv_icmp_gt (tgt := 32) hx hb dX1_begin_7 (by decide) (fun c_18 => ?_) (fun c_18 => ?_)
    · have hw := hw.1 c_18
      refine lv_iconst (v := (0 : Int32)) hx hb dX1_begin_32 (by decide) ?_
      exact hret _ (FN, AN) _ _ _ _ dX1_begin_33 rfl hw hP hD hS
    · have hw := hw.2 c_18
      refine lv_iload_n hx hb dX1_begin_10 rfl (lv_at hl 2 rfl) ?_
      refine lv_iconst (v := (2 : Int32)) hx hb dX1_begin_11 (by decide) ?_
      refine lv_icmp_lt (tgt := 32) hx hb dX1_begin_12 (by decide) (fun c_19 => ?_) (fun c_19 => ?_)
      · have hw := hw.1 c_19
        refine lv_iconst (v := (0 : Int32)) hx hb dX1_begin_32 (by decide) ?_
        exact hret _ (FN, AN) _ _ _ _ dX1_begin_33 rfl hw hP hD hS
      · have hw := hw.2 c_19
        refine lv_iload_n hx hb dX1_begin_15 rfl (lv_at hl 2 rfl) ?_
        refine lv_bipush (v := (6 : Int32)) hx hb dX1_begin_16 (by decide) ?_
        refine lv_icmp_gt (tgt := 32) hx hb dX1_begin_18 (by decide) (fun c_20 => ?_) (fun c_20 => ?_)
        · have hw := hw.1 c_20
          refine lv_iconst (v := (0 : Int32)) hx hb dX1_begin_32 (by decide) ?_
          exact hret _ (FN, AN) _ _ _ _ dX1_begin_33 rfl hw hP hD hS
        · have hw := hw.2 c_20
          refine lv_iload_n hx hb dX1_begin_21 rfl (lv_at hl 3 rfl) ?_
          refine lv_iconst (v := (2 : Int32)) hx hb dX1_begin_22 (by decide) ?_
          refine lv_icmp_lt (tgt := 32) hx hb dX1_begin_23 (by decide) (fun c_21 => ?_) (fun c_21 => ?_)
          · have hw := hw.1 c_21
            refine lv_iconst (v := (0 : Int32)) hx hb dX1_begin_32 (by decide) ?_
            exact hret _ (FN, AN) _ _ _ _ dX1_begin_33 rfl hw hP hD hS
          · have hw := hw.2 c_21
            refine lv_iload_n hx hb dX1_begin_26 rfl (lv_at hl 3 rfl) ?_
            refine lv_bipush (v := (7 : Int32)) hx hb dX1_begin_27 (by decide) ?_
            refine lv_icmp_le (tgt := 34) hx hb dX1_begin_29 (by decide) (fun c_22 => ?_) (fun c_22 => ?_)
            · have hw := hw.1 c_22
              refine lv_iload_n hx hb dX1_begin_34 rfl (lv_at hl 1 rfl) ?_
              refine lv_iconst (v := (2 : Int32)) hx hb dX1_begin_35 (by decide) ?_
              refine lv_icmp_ne (tgt := 46) hx hb dX1_begin_36 (by decide) (fun c_23 => ?_) (fun c_23 => ?_)
              · have hw := hw.1 c_23
                exact b_46 FN AN _ _ _ hP hD hS (lv_sub hl [0, 1, 2, 3] rfl) hw
              · have hw := hw.2 c_23
                refine lv_iload_n hx hb dX1_begin_39 rfl (lv_at hl 3 rfl) ?_
                refine lv_iload_n hx hb dX1_begin_40 rfl (lv_at hl 2 rfl) ?_
                refine lv_iconst (v := (1 : Int32)) hx hb dX1_begin_41 (by decide) ?_
                refine lv_iadd hx hb dX1_begin_42 ?_
                refine lv_icmp_ne (tgt := 56) hx hb dX1_begin_43 (by decide) (fun c_24 => ?_) (fun c_24 => ?_)
                · have hw := hw.1 c_24
                  refine lv_iconst (v := (0 : Int32)) hx hb dX1_begin_56 (by decide) ?_
                  exact hret _ (FN, AN) _ _ _ _ dX1_begin_57 rfl hw hP hD hS
                · have hw := hw.2 c_24
                  exact b_46 FN AN _ _ _ hP hD hS (lv_sub hl [0, 1, 2, 3] rfl) hw
            · have hw := hw.2 c_22
              refine lv_iconst (v := (0 : Int32)) hx hb dX1_begin_32 (by decide) ?_
              exact hret _ (FN, AN) _ _ _ _ dX1_begin_33 rfl hw hP hD hS
set_option maxHeartbeats 4000000 in
set_option maxRecDepth 100000 in
theorem c_X1_hasMachine (l : Launch) (dC : Nat → ClassId) (dI : Nat → Nat → Nat) (cA : ClassId) (oN : Nat) (gN : Nat → Nat) (FN : Nat → Int32) (AN : Nat → Nat → Int32) (x1 : Int32) (Post : Int32 → Prop) (hw : wp_X1_hasMachine FN AN x1 Post) : RoI (dC, dI) cA l yX1_hasMachine cX1_hasMachine 2 .boolean 0 0 [.ref oN, .int x1] (nW oN gN cA FN AN) Post := by
  refine enRo (by decide) (Nat.le_of_ble_eq_true rfl) ?_
  intro p e s m args below meth c Q ls fx hK hP hret hl
  obtain ⟨hx, hb, hml, hown, hts⟩ := id fx
  have hl : lv_has ls 2 [(0, .ref oN), (1, .int x1)] := hl
  refine lv_iload_n hx hb dX1_hasMachine_0 rfl (lv_at hl 1 rfl) ?_
  refine lv_if_lt (tgt := 16) hx hb dX1_hasMachine_1 (by decide) (fun c_3 => ?_) (fun c_3 => ?_)
  · have hw := hw.1 c_3
    refine lv_iconst (v := (0 : Int32)) hx hb dX1_hasMachine_16 (by decide) ?_
    exact hret _ _ _ dX1_hasMachine_17 rfl hw
  · have hw := hw.2 c_3
    refine lv_iload_n hx hb dX1_hasMachine_4 rfl (lv_at hl 1 rfl) ?_
    refine lv_aload_n hx hb dX1_hasMachine_5 rfl (lv_at hl 0 rfl) ?_
    refine gz (q0 := 0) (v := .int (FN 1)) fx hK hP fl_X1_28 rfl rfl dX1_hasMachine_6 ?_
    refine lv_icmp_ge (tgt := 16) hx hb dX1_hasMachine_9 (by decide) (fun c_4 => ?_) (fun c_4 => ?_)
    · have hw := hw.1 c_4
      refine lv_iconst (v := (0 : Int32)) hx hb dX1_hasMachine_16 (by decide) ?_
      exact hret _ _ _ dX1_hasMachine_17 rfl hw
    · have hw := hw.2 c_4
      refine lv_iconst (v := (1 : Int32)) hx hb dX1_hasMachine_12 (by decide) ?_
      refine lv_goto (tgt := 17) hx hb dX1_hasMachine_13 (by decide) ?_
      exact hret _ _ _ dX1_hasMachine_17 rfl hw
set_option maxHeartbeats 4000000 in
set_option maxRecDepth 100000 in
theorem c_X1_isLinked (l : Launch) (dC : Nat → ClassId) (dI : Nat → Nat → Nat) (cA : ClassId) (oN : Nat) (gN : Nat → Nat) (FN : Nat → Int32) (AN : Nat → Nat → Int32) (x1 : Int32) (x2 : Int32) (Post : Int32 → Prop) (hw : wp_X1_isLinked FN AN x1 x2 Post) : RoI (dC, dI) cA l yX1_isLinked cX1_isLinked 3 .boolean 0 0 [.ref oN, .int x1, .int x2] (nW oN gN cA FN AN) Post := by
  refine enRo (by decide) (Nat.le_of_ble_eq_true rfl) ?_
  intro p e s m args below meth c Q ls fx hK hP hret hl
  obtain ⟨hx, hb, hml, hown, hts⟩ := id fx
  have hl : lv_has ls 3 [(0, .ref oN), (1, .int x1), (2, .int x2)] := hl
  refine lv_iload_n hx hb dX1_isLinked_0 rfl (lv_at hl 1 rfl) ?_
  refine lv_if_lt (tgt := 31) hx hb dX1_isLinked_1 (by decide) (fun c_4 => ?_) (fun c_4 => ?_)
  · have hw := hw.1 c_4
    refine lv_iconst (v := (0 : Int32)) hx hb dX1_isLinked_31 (by decide) ?_
    exact hret _ _ _ dX1_isLinked_32 rfl hw
  · have hw := hw.2 c_4
    refine lv_iload_n hx hb dX1_isLinked_4 rfl (lv_at hl 1 rfl) ?_
    refine lv_aload_n hx hb dX1_isLinked_5 rfl (lv_at hl 0 rfl) ?_
    refine gz (q0 := 0) (v := .ref (gN 6)) fx hK hP fl_X1_9 rfl rfl dX1_isLinked_6 ?_
    refine va_alen (v := (6 : Int32)) hx hb hK hP 1 0 rfl rfl rfl dX1_isLinked_9 ?_
    refine lv_icmp_ge (tgt := 31) hx hb dX1_isLinked_10 (by decide) (fun c_5 => ?_) (fun c_5 => ?_)
    · have hw := hw.1 c_5
      refine lv_iconst (v := (0 : Int32)) hx hb dX1_isLinked_31 (by decide) ?_
      exact hret _ _ _ dX1_isLinked_32 rfl hw
    · have hw := hw.2 c_5
      refine lv_aload_n hx hb dX1_isLinked_13 rfl (lv_at hl 0 rfl) ?_
      refine gz (q0 := 0) (v := .ref (gN 6)) fx hK hP fl_X1_9 rfl rfl dX1_isLinked_14 ?_
      refine lv_iload_n hx hb dX1_isLinked_17 rfl (lv_at hl 1 rfl) ?_
      obtain ⟨hz, hw⟩ := hw
      refine va_iald hx hb hK hP 1 0 rfl rfl hz dX1_isLinked_18 ?_
      refine lv_iload_n hx hb dX1_isLinked_19 rfl (lv_at hl 2 rfl) ?_
      refine lv_ishr hx hb dX1_isLinked_20 ?_
      refine lv_iconst (v := (1 : Int32)) hx hb dX1_isLinked_21 (by decide) ?_
      refine lv_iand hx hb dX1_isLinked_22 ?_
      refine lv_iconst (v := (1 : Int32)) hx hb dX1_isLinked_23 (by decide) ?_
      refine lv_icmp_ne (tgt := 31) hx hb dX1_isLinked_24 (by decide) (fun c_6 => ?_) (fun c_6 => ?_)
      · have hw := hw.1 c_6
        refine lv_iconst (v := (0 : Int32)) hx hb dX1_isLinked_31 (by decide) ?_
        exact hret _ _ _ dX1_isLinked_32 rfl hw
      · have hw := hw.2 c_6
        refine lv_iconst (v := (1 : Int32)) hx hb dX1_isLinked_27 (by decide) ?_
        refine lv_goto (tgt := 32) hx hb dX1_isLinked_28 (by decide) ?_
        exact hret _ _ _ dX1_isLinked_32 rfl hw
set_option maxHeartbeats 4000000 in
set_option maxRecDepth 100000 in
theorem c_X1_addWire (l : Launch) (dC : Nat → ClassId) (dI : Nat → Nat → Nat) (cA : ClassId) (oN : Nat) (gN : Nat → Nat) (FN : Nat → Int32) (AN : Nat → Nat → Int32) (x1 : Int32) (x2 : Int32) (Post : Int32 → (Nat → Int32) → (Nat → Nat → Int32) → Prop) (hw : wp_X1_addWire FN AN x1 x2 Post) : MuI (dC, dI) cA l yX1_addWire cX1_addWire 3 .boolean 1 22 [.ref oN, .int x1, .int x2] (nW oN gN cA FN AN) (fun r (u : (Nat → Int32) × (Nat → Nat → Int32)) => Post r (u.1) (u.2)) (fun u => (nW oN gN cA (u.1) (u.2))) := by
  refine enMu (by decide) (Nat.le_of_ble_eq_true rfl) ?_
  intro p e s m args below meth c Q ls A fx hK hP hD hS hA hret hl
  obtain ⟨hx, hb, hml, hown, hts⟩ := id fx
  have hl : lv_has ls 3 [(0, .ref oN), (1, .int x1), (2, .int x2)] := hl
  have hP : va_P (dC, dI) vwCl (nW oN gN cA FN AN) s.heap := hP
  refine lv_aload_n hx hb dX1_addWire_0 rfl (lv_at hl 0 rfl) ?_
  refine gz (q0 := 0) (v := .int (FN 0)) fx hK hP fl_X1_24 rfl rfl dX1_addWire_1 ?_
  refine lv_iconst (v := (1 : Int32)) hx hb dX1_addWire_4 (by decide) ?_
  refine lv_icmp_eq (tgt := 38) hx hb dX1_addWire_5 (by decide) (fun c_17 => ?_) (fun c_17 => ?_)
  · have hw := hw.1 c_17
    refine lv_iconst (v := (0 : Int32)) hx hb dX1_addWire_38 (by decide) ?_
    exact hret _ (FN, AN) _ _ _ _ dX1_addWire_39 rfl hw hP hD hS
  · have hw := hw.2 c_17
    refine lv_aload_n hx hb dX1_addWire_8 rfl (lv_at hl 0 rfl) ?_
    refine lv_iload_n hx hb dX1_addWire_9 rfl (lv_at hl 1 rfl) ?_
    refine caRoV (rest := []) (As := [.int x1]) fx hK lk_X1_43 (c_X1_hasMachine l dC dI cA oN gN FN AN x1 _ hw) (hP.sub [0, 1, 2] rfl) 0 rfl rfl ⟨(Nat.le_of_ble_eq_true rfl), (Nat.le_of_ble_eq_true rfl)⟩ rfl hl.1 rfl (Nat.le_of_ble_eq_true rfl) dX1_addWire_10 ?_
    intro r_18 hw
    refine lv_if_eq (tgt := 38) hx hb dX1_addWire_13 (by decide) (fun c_19 => ?_) (fun c_19 => ?_)
    · have hw := hw.1 c_19
      refine lv_iconst (v := (0 : Int32)) hx hb dX1_addWire_38 (by decide) ?_
      exact hret _ (FN, AN) _ _ _ _ dX1_addWire_39 rfl hw hP hD hS
    · have hw := hw.2 c_19
      refine lv_aload_n hx hb dX1_addWire_16 rfl (lv_at hl 0 rfl) ?_
      refine lv_iload_n hx hb dX1_addWire_17 rfl (lv_at hl 2 rfl) ?_
      refine caRoV (rest := []) (As := [.int x2]) fx hK lk_X1_43 (c_X1_hasMachine l dC dI cA oN gN FN AN x2 _ hw) (hP.sub [0, 1, 2] rfl) 0 rfl rfl ⟨(Nat.le_of_ble_eq_true rfl), (Nat.le_of_ble_eq_true rfl)⟩ rfl hl.1 rfl (Nat.le_of_ble_eq_true rfl) dX1_addWire_18 ?_
      intro r_20 hw
      refine lv_if_eq (tgt := 38) hx hb dX1_addWire_21 (by decide) (fun c_21 => ?_) (fun c_21 => ?_)
      · have hw := hw.1 c_21
        refine lv_iconst (v := (0 : Int32)) hx hb dX1_addWire_38 (by decide) ?_
        exact hret _ (FN, AN) _ _ _ _ dX1_addWire_39 rfl hw hP hD hS
      · have hw := hw.2 c_21
        refine lv_iload_n hx hb dX1_addWire_24 rfl (lv_at hl 1 rfl) ?_
        refine lv_iload_n hx hb dX1_addWire_25 rfl (lv_at hl 2 rfl) ?_
        refine lv_icmp_eq (tgt := 38) hx hb dX1_addWire_26 (by decide) (fun c_22 => ?_) (fun c_22 => ?_)
        · have hw := hw.1 c_22
          refine lv_iconst (v := (0 : Int32)) hx hb dX1_addWire_38 (by decide) ?_
          exact hret _ (FN, AN) _ _ _ _ dX1_addWire_39 rfl hw hP hD hS
        · have hw := hw.2 c_22
          refine lv_aload_n hx hb dX1_addWire_29 rfl (lv_at hl 0 rfl) ?_
          refine lv_iload_n hx hb dX1_addWire_30 rfl (lv_at hl 1 rfl) ?_
          refine lv_iload_n hx hb dX1_addWire_31 rfl (lv_at hl 2 rfl) ?_
          refine caRoV (rest := []) (As := [.int x1, .int x2]) fx hK lk_X1_47 (c_X1_isLinked l dC dI cA oN gN FN AN x1 x2 _ hw) (hP.sub [0, 1, 2] rfl) 0 rfl rfl ⟨(Nat.le_of_ble_eq_true rfl), (Nat.le_of_ble_eq_true rfl)⟩ rfl hl.1 rfl (Nat.le_of_ble_eq_true rfl) dX1_addWire_32 ?_
          intro r_23 hw
          refine lv_if_eq (tgt := 40) hx hb dX1_addWire_35 (by decide) (fun c_24 => ?_) (fun c_24 => ?_)
          · have hw := hw.1 c_24
            refine lv_aload_n hx hb dX1_addWire_40 rfl (lv_at hl 0 rfl) ?_
            refine gz (q0 := 0) (v := .ref (gN 6)) fx hK hP fl_X1_9 rfl rfl dX1_addWire_41 ?_
            refine lv_iload_n hx hb dX1_addWire_44 rfl (lv_at hl 1 rfl) ?_
            refine lv_aload_n hx hb dX1_addWire_45 rfl (lv_at hl 0 rfl) ?_
            refine gz (q0 := 0) (v := .ref (gN 6)) fx hK hP fl_X1_9 rfl rfl dX1_addWire_46 ?_
            refine lv_iload_n hx hb dX1_addWire_49 rfl (lv_at hl 1 rfl) ?_
            refine caRoS (rest := [.int x1, .ref (gN 6)]) (As := [.ref (gN 6), .int x1]) fx hK lk_X1_51 (c_at l (dC, dI) cA (gN 6) 6 (AN 6) x1 (by decide)) (hP.sub [1] rfl) ⟨(Nat.le_of_ble_eq_true rfl), (Nat.le_of_ble_eq_true rfl)⟩ rfl hl.1 rfl (Nat.le_of_ble_eq_true rfl) dX1_addWire_50 ?_
            intro r_25 e_26
            have hw := hw r_25 e_26
            refine lv_iconst (v := (1 : Int32)) hx hb dX1_addWire_53 (by decide) ?_
            refine lv_iload_n hx hb dX1_addWire_54 rfl (lv_at hl 2 rfl) ?_
            refine lv_ishl hx hb dX1_addWire_55 ?_
            refine lv_ior hx hb dX1_addWire_56 ?_
            refine caCell (rest := []) (As := [.ref (gN 6), .int x1, .int (r_25 ||| ((1 : Int32) <<< (x2 &&& 31)))]) fx hK lk_X1_18 (c_put l (dC, dI) cA (gN 6) 6 (AN 6) x1 (r_25 ||| ((1 : Int32) <<< (x2 &&& 31))) (by decide)) hP hD hS hA 1 rfl ⟨(Nat.le_of_ble_eq_true rfl), (Nat.le_of_ble_eq_true rfl)⟩ rfl hl.1 rfl (Nat.le_of_ble_eq_true rfl) dX1_addWire_57 ?_
            intro g_27 H locs e_28 hP hD hS
            have hw := hw g_27 e_28
            have hP : va_P (dC, dI) vwCl (nW oN gN cA FN (uA AN 6 g_27)) H := hP
            have hD : va_D A (nW oN gN cA FN (uA AN 6 g_27)) := hD
            refine lv_aload_n hx hb dX1_addWire_60 rfl (lv_at hl 0 rfl) ?_
            refine gz (q0 := 0) (v := .ref (gN 6)) fx hK hP fl_X1_9 rfl rfl dX1_addWire_61 ?_
            refine lv_iload_n hx hb dX1_addWire_64 rfl (lv_at hl 2 rfl) ?_
            refine lv_aload_n hx hb dX1_addWire_65 rfl (lv_at hl 0 rfl) ?_
            refine gz (q0 := 0) (v := .ref (gN 6)) fx hK hP fl_X1_9 rfl rfl dX1_addWire_66 ?_
            refine lv_iload_n hx hb dX1_addWire_69 rfl (lv_at hl 2 rfl) ?_
            refine caRoS (rest := [.int x2, .ref (gN 6)]) (As := [.ref (gN 6), .int x2]) fx hK lk_X1_51 (c_at l (dC, dI) cA (gN 6) 6 g_27 x2 (by decide)) (hP.sub [1] rfl) ⟨(Nat.le_of_ble_eq_true rfl), (Nat.le_of_ble_eq_true rfl)⟩ rfl hl.1 rfl (Nat.le_of_ble_eq_true rfl) dX1_addWire_70 ?_
            intro r_29 e_30
            have hw := hw r_29 e_30
            refine lv_iconst (v := (1 : Int32)) hx hb dX1_addWire_73 (by decide) ?_
            refine lv_iload_n hx hb dX1_addWire_74 rfl (lv_at hl 1 rfl) ?_
            refine lv_ishl hx hb dX1_addWire_75 ?_
            refine lv_ior hx hb dX1_addWire_76 ?_
            refine caCell (rest := []) (As := [.ref (gN 6), .int x2, .int (r_29 ||| ((1 : Int32) <<< (x1 &&& 31)))]) fx hK lk_X1_18 (c_put l (dC, dI) cA (gN 6) 6 g_27 x2 (r_29 ||| ((1 : Int32) <<< (x1 &&& 31))) (by decide)) hP hD hS hA 1 rfl ⟨(Nat.le_of_ble_eq_true rfl), (Nat.le_of_ble_eq_true rfl)⟩ rfl hl.1 rfl (Nat.le_of_ble_eq_true rfl) dX1_addWire_77 ?_
            intro g_31 H locs e_32 hP hD hS
            have hw := hw g_31 e_32
            have hP : va_P (dC, dI) vwCl (nW oN gN cA FN (uA AN 6 g_31)) H := hP
            have hD : va_D A (nW oN gN cA FN (uA AN 6 g_31)) := hD
            refine lv_aload_n hx hb dX1_addWire_80 rfl (lv_at hl 0 rfl) ?_
            refine lv_dup hx hb dX1_addWire_81 rfl ?_
            refine gz (q0 := 0) (v := .int (FN 4)) fx hK hP fl_X1_37 rfl rfl dX1_addWire_82 ?_
            refine lv_iconst (v := (1 : Int32)) hx hb dX1_addWire_85 (by decide) ?_
            refine lv_iadd hx hb dX1_addWire_86 ?_
            refine pz (q0 := 0) (v := .int ((FN 4) + (1 : Int32))) fx hK hP hD hS fp_X1_37 rfl rfl rfl (Nat.le_of_ble_eq_true rfl) dX1_addWire_87 (fun H locs hP hD hS => ?_)
            have hP : va_P (dC, dI) vwCl (nW oN gN cA (uF FN 4 ((FN 4) + (1 : Int32))) (uA AN 6 g_31)) H := hP
            have hD : va_D A (nW oN gN cA (uF FN 4 ((FN 4) + (1 : Int32))) (uA AN 6 g_31)) := hD
            refine lv_iconst (v := (1 : Int32)) hx hb dX1_addWire_90 (by decide) ?_
            exact hret _ ((uF FN 4 ((FN 4) + (1 : Int32))), (uA AN 6 g_31)) _ _ _ _ dX1_addWire_91 rfl hw hP hD hS
          · have hw := hw.2 c_24
            refine lv_iconst (v := (0 : Int32)) hx hb dX1_addWire_38 (by decide) ?_
            exact hret _ (FN, AN) _ _ _ _ dX1_addWire_39 rfl hw hP hD hS
set_option maxHeartbeats 4000000 in
set_option maxRecDepth 100000 in
theorem c_X1_hasValue (l : Launch) (dC : Nat → ClassId) (dI : Nat → Nat → Nat) (cA : ClassId) (oN : Nat) (gN : Nat → Nat) (FN : Nat → Int32) (AN : Nat → Nat → Int32) (x1 : Int32) (Post : Int32 → Prop) (hw : wp_X1_hasValue FN AN x1 Post) : RoI (dC, dI) cA l yX1_hasValue cX1_hasValue 2 .boolean 0 0 [.ref oN, .int x1] (nW oN gN cA FN AN) Post := by
  refine enRo (by decide) (Nat.le_of_ble_eq_true rfl) ?_
  intro p e s m args below meth c Q ls fx hK hP hret hl
  obtain ⟨hx, hb, hml, hown, hts⟩ := id fx
  have hl : lv_has ls 2 [(0, .ref oN), (1, .int x1)] := hl
  refine lv_iload_n hx hb dX1_hasValue_0 rfl (lv_at hl 1 rfl) ?_
  refine lv_if_lt (tgt := 16) hx hb dX1_hasValue_1 (by decide) (fun c_3 => ?_) (fun c_3 => ?_)
  · have hw := hw.1 c_3
    refine lv_iconst (v := (0 : Int32)) hx hb dX1_hasValue_16 (by decide) ?_
    exact hret _ _ _ dX1_hasValue_17 rfl hw
  · have hw := hw.2 c_3
    refine lv_iload_n hx hb dX1_hasValue_4 rfl (lv_at hl 1 rfl) ?_
    refine lv_aload_n hx hb dX1_hasValue_5 rfl (lv_at hl 0 rfl) ?_
    refine gz (q0 := 0) (v := .int (FN 2)) fx hK hP fl_X1_31 rfl rfl dX1_hasValue_6 ?_
    refine lv_icmp_ge (tgt := 16) hx hb dX1_hasValue_9 (by decide) (fun c_4 => ?_) (fun c_4 => ?_)
    · have hw := hw.1 c_4
      refine lv_iconst (v := (0 : Int32)) hx hb dX1_hasValue_16 (by decide) ?_
      exact hret _ _ _ dX1_hasValue_17 rfl hw
    · have hw := hw.2 c_4
      refine lv_iconst (v := (1 : Int32)) hx hb dX1_hasValue_12 (by decide) ?_
      refine lv_goto (tgt := 17) hx hb dX1_hasValue_13 (by decide) ?_
      exact hret _ _ _ dX1_hasValue_17 rfl hw
set_option maxHeartbeats 4000000 in
set_option maxRecDepth 100000 in
theorem c_X1_valueAt (l : Launch) (dC : Nat → ClassId) (dI : Nat → Nat → Nat) (cA : ClassId) (oN : Nat) (gN : Nat → Nat) (FN : Nat → Int32) (AN : Nat → Nat → Int32) (x1 : Int32) (x2 : Int32) (Post : Int32 → Prop) (hw : wp_X1_valueAt FN AN x1 x2 Post) : RoI (dC, dI) cA l yX1_valueAt cX1_valueAt 3 .int 0 0 [.ref oN, .int x1, .int x2] (nW oN gN cA FN AN) Post := by
  refine enRo (by decide) (Nat.le_of_ble_eq_true rfl) ?_
  intro p e s m args below meth c Q ls fx hK hP hret hl
  obtain ⟨hx, hb, hml, hown, hts⟩ := id fx
  have hl : lv_has ls 3 [(0, .ref oN), (1, .int x1), (2, .int x2)] := hl
  refine lv_iload_n hx hb dX1_valueAt_0 rfl (lv_at hl 2 rfl) ?_
  refine lv_if_lt (tgt := 29) hx hb dX1_valueAt_1 (by decide) (fun c_5 => ?_) (fun c_5 => ?_)
  · have hw := hw.1 c_5
    refine lv_iconst (v := (0 : Int32)) hx hb dX1_valueAt_29 (by decide) ?_
    exact hret _ _ _ dX1_valueAt_30 rfl hw
  · have hw := hw.2 c_5
    refine lv_iload_n hx hb dX1_valueAt_4 rfl (lv_at hl 2 rfl) ?_
    refine lv_aload_n hx hb dX1_valueAt_5 rfl (lv_at hl 0 rfl) ?_
    refine gz (q0 := 0) (v := .ref (gN 7)) fx hK hP fl_X1_15 rfl rfl dX1_valueAt_6 ?_
    refine va_alen (v := (6 : Int32)) hx hb hK hP 2 0 rfl rfl rfl dX1_valueAt_9 ?_
    refine lv_icmp_ge (tgt := 29) hx hb dX1_valueAt_10 (by decide) (fun c_6 => ?_) (fun c_6 => ?_)
    · have hw := hw.1 c_6
      refine lv_iconst (v := (0 : Int32)) hx hb dX1_valueAt_29 (by decide) ?_
      exact hret _ _ _ dX1_valueAt_30 rfl hw
    · have hw := hw.2 c_6
      refine lv_aload_n hx hb dX1_valueAt_13 rfl (lv_at hl 0 rfl) ?_
      refine gz (q0 := 0) (v := .ref (gN 7)) fx hK hP fl_X1_15 rfl rfl dX1_valueAt_14 ?_
      refine lv_iload_n hx hb dX1_valueAt_17 rfl (lv_at hl 2 rfl) ?_
      obtain ⟨hz, hw⟩ := hw
      refine va_iald hx hb hK hP 2 0 rfl rfl hz dX1_valueAt_18 ?_
      refine lv_if_le (tgt := 29) hx hb dX1_valueAt_19 (by decide) (fun c_7 => ?_) (fun c_7 => ?_)
      · have hw := hw.1 c_7
        refine lv_iconst (v := (0 : Int32)) hx hb dX1_valueAt_29 (by decide) ?_
        exact hret _ _ _ dX1_valueAt_30 rfl hw
      · have hw := hw.2 c_7
        refine lv_aload_n hx hb dX1_valueAt_22 rfl (lv_at hl 0 rfl) ?_
        refine gz (q0 := 0) (v := .int (FN 2)) fx hK hP fl_X1_31 rfl rfl dX1_valueAt_23 ?_
        refine lv_if_gt (tgt := 31) hx hb dX1_valueAt_26 (by decide) (fun c_8 => ?_) (fun c_8 => ?_)
        · have hw := hw.1 c_8
          refine lv_iload_n hx hb dX1_valueAt_31 rfl (lv_at hl 1 rfl) ?_
          refine lv_aload_n hx hb dX1_valueAt_32 rfl (lv_at hl 0 rfl) ?_
          refine gz (q0 := 0) (v := .ref (gN 7)) fx hK hP fl_X1_15 rfl rfl dX1_valueAt_33 ?_
          refine lv_iload_n hx hb dX1_valueAt_36 rfl (lv_at hl 2 rfl) ?_
          obtain ⟨hz, hw⟩ := hw
          refine va_iald hx hb hK hP 2 0 rfl rfl hz dX1_valueAt_37 ?_
          obtain ⟨hz, hw⟩ := hw
          refine lv_idiv hx hb dX1_valueAt_38 hz ?_
          refine lv_aload_n hx hb dX1_valueAt_39 rfl (lv_at hl 0 rfl) ?_
          refine gz (q0 := 0) (v := .int (FN 2)) fx hK hP fl_X1_31 rfl rfl dX1_valueAt_40 ?_
          obtain ⟨hz, hw⟩ := hw
          refine lv_irem hx hb dX1_valueAt_43 hz ?_
          exact hret _ _ _ dX1_valueAt_44 rfl hw
        · have hw := hw.2 c_8
          refine lv_iconst (v := (0 : Int32)) hx hb dX1_valueAt_29 (by decide) ?_
          exact hret _ _ _ dX1_valueAt_30 rfl hw
set_option maxHeartbeats 4000000 in
set_option maxRecDepth 100000 in
theorem c_X1_withValue (l : Launch) (dC : Nat → ClassId) (dI : Nat → Nat → Nat) (cA : ClassId) (oN : Nat) (gN : Nat → Nat) (FN : Nat → Int32) (AN : Nat → Nat → Int32) (x1 : Int32) (x2 : Int32) (x3 : Int32) (Post : Int32 → Prop) (hw : wp_X1_withValue FN AN x1 x2 x3 Post) : RoI (dC, dI) cA l yX1_withValue cX1_withValue 4 .int 1 22 [.ref oN, .int x1, .int x2, .int x3] (nW oN gN cA FN AN) Post := by
  refine enRo (by decide) (Nat.le_of_ble_eq_true rfl) ?_
  intro p e s m args below meth c Q ls fx hK hP hret hl
  obtain ⟨hx, hb, hml, hown, hts⟩ := id fx
  have hl : lv_has ls 4 [(0, .ref oN), (1, .int x1), (2, .int x2), (3, .int x3)] := hl
  refine lv_iload_n hx hb dX1_withValue_0 rfl (lv_at hl 1 rfl) ?_
  refine lv_iload_n hx hb dX1_withValue_1 rfl (lv_at hl 3 rfl) ?_
  refine lv_aload_n hx hb dX1_withValue_2 rfl (lv_at hl 0 rfl) ?_
  refine lv_iload_n hx hb dX1_withValue_3 rfl (lv_at hl 1 rfl) ?_
  refine lv_iload_n hx hb dX1_withValue_4 rfl (lv_at hl 2 rfl) ?_
  refine caRoV (rest := [.int x3, .int x1]) (As := [.int x1, .int x2]) fx hK lk_X1_68 (c_X1_valueAt l dC dI cA oN gN FN AN x1 x2 _ hw) (hP.sub [0, 1, 2] rfl) 0 rfl rfl ⟨(Nat.le_of_ble_eq_true rfl), (Nat.le_of_ble_eq_true rfl)⟩ rfl hl.1 rfl (Nat.le_of_ble_eq_true rfl) dX1_withValue_5 ?_
  intro r_4 hw
  refine lv_isub hx hb dX1_withValue_8 ?_
  refine lv_aload_n hx hb dX1_withValue_9 rfl (lv_at hl 0 rfl) ?_
  refine gz (q0 := 0) (v := .ref (gN 7)) fx hK hP fl_X1_15 rfl rfl dX1_withValue_10 ?_
  refine lv_iload_n hx hb dX1_withValue_13 rfl (lv_at hl 2 rfl) ?_
  refine caRoS (rest := [.int (x3 - r_4), .int x1]) (As := [.ref (gN 7), .int x2]) fx hK lk_X1_51 (c_at l (dC, dI) cA (gN 7) 6 (AN 7) x2 (by decide)) (hP.sub [2] rfl) ⟨(Nat.le_of_ble_eq_true rfl), (Nat.le_of_ble_eq_true rfl)⟩ rfl hl.1 rfl (Nat.le_of_ble_eq_true rfl) dX1_withValue_14 ?_
  intro r_5 e_6
  have hw := hw r_5 e_6
  refine lv_imul hx hb dX1_withValue_17 ?_
  refine lv_iadd hx hb dX1_withValue_18 ?_
  exact hret _ _ _ dX1_withValue_19 rfl hw
set_option maxHeartbeats 4000000 in
set_option maxRecDepth 100000 in
theorem c_X1_startWith (l : Launch) (dC : Nat → ClassId) (dI : Nat → Nat → Nat) (cA : ClassId) (oN : Nat) (gN : Nat → Nat) (FN : Nat → Int32) (AN : Nat → Nat → Int32) (x1 : Int32) (x2 : Int32) (Post : Int32 → (Nat → Int32) → (Nat → Nat → Int32) → Prop) (hw : wp_X1_startWith FN AN x1 x2 Post) : MuI (dC, dI) cA l yX1_startWith cX1_startWith 3 .boolean 2 45 [.ref oN, .int x1, .int x2] (nW oN gN cA FN AN) (fun r (u : (Nat → Int32) × (Nat → Nat → Int32)) => Post r (u.1) (u.2)) (fun u => (nW oN gN cA (u.1) (u.2))) := by
  refine enMu (by decide) (Nat.le_of_ble_eq_true rfl) ?_
  intro p e s m args below meth c Q ls A fx hK hP hD hS hA hret hl
  obtain ⟨hx, hb, hml, hown, hts⟩ := id fx
  have hl : lv_has ls 3 [(0, .ref oN), (1, .int x1), (2, .int x2)] := hl
  have hP : va_P (dC, dI) vwCl (nW oN gN cA FN AN) s.heap := hP
  refine lv_aload_n hx hb dX1_startWith_0 rfl (lv_at hl 0 rfl) ?_
  refine lv_iload_n hx hb dX1_startWith_1 rfl (lv_at hl 1 rfl) ?_
  refine caRoV (rest := []) (As := [.int x1]) fx hK lk_X1_43 (c_X1_hasMachine l dC dI cA oN gN FN AN x1 _ hw) (hP.sub [0, 1, 2] rfl) 0 rfl rfl ⟨(Nat.le_of_ble_eq_true rfl), (Nat.le_of_ble_eq_true rfl)⟩ rfl hl.1 rfl (Nat.le_of_ble_eq_true rfl) dX1_startWith_2 ?_
  intro r_6 hw
  refine lv_if_eq (tgt := 16) hx hb dX1_startWith_5 (by decide) (fun c_7 => ?_) (fun c_7 => ?_)
  · have hw := hw.1 c_7
    refine lv_iconst (v := (0 : Int32)) hx hb dX1_startWith_16 (by decide) ?_
    exact hret _ (FN, AN) _ _ _ _ dX1_startWith_17 rfl hw hP hD hS
  · have hw := hw.2 c_7
    refine lv_aload_n hx hb dX1_startWith_8 rfl (lv_at hl 0 rfl) ?_
    refine lv_iload_n hx hb dX1_startWith_9 rfl (lv_at hl 2 rfl) ?_
    refine caRoV (rest := []) (As := [.int x2]) fx hK lk_X1_55 (c_X1_hasValue l dC dI cA oN gN FN AN x2 _ hw) (hP.sub [0, 1, 2] rfl) 0 rfl rfl ⟨(Nat.le_of_ble_eq_true rfl), (Nat.le_of_ble_eq_true rfl)⟩ rfl hl.1 rfl (Nat.le_of_ble_eq_true rfl) dX1_startWith_10 ?_
    intro r_8 hw
    refine lv_if_ne (tgt := 18) hx hb dX1_startWith_13 (by decide) (fun c_9 => ?_) (fun c_9 => ?_)
    · have hw := hw.1 c_9
      refine lv_aload_n hx hb dX1_startWith_18 rfl (lv_at hl 0 rfl) ?_
      refine lv_aload_n hx hb dX1_startWith_19 rfl (lv_at hl 0 rfl) ?_
      refine lv_aload_n hx hb dX1_startWith_20 rfl (lv_at hl 0 rfl) ?_
      refine gz (q0 := 0) (v := .int (FN 5)) fx hK hP fl_X1_40 rfl rfl dX1_startWith_21 ?_
      refine lv_iload_n hx hb dX1_startWith_24 rfl (lv_at hl 1 rfl) ?_
      refine lv_iload_n hx hb dX1_startWith_25 rfl (lv_at hl 2 rfl) ?_
      refine caRoV (rest := [.ref oN]) (As := [.int (FN 5), .int x1, .int x2]) fx hK lk_X1_58 (c_X1_withValue l dC dI cA oN gN FN AN (FN 5) x1 x2 _ hw) (hP.sub [0, 1, 2] rfl) 0 rfl rfl ⟨(Nat.le_of_ble_eq_true rfl), (Nat.le_of_ble_eq_true rfl)⟩ rfl hl.1 rfl (Nat.le_of_ble_eq_true rfl) dX1_startWith_26 ?_
      intro r_10 hw
      refine pz (q0 := 0) (v := .int r_10) fx hK hP hD hS fp_X1_40 rfl rfl rfl (Nat.le_of_ble_eq_true rfl) dX1_startWith_29 (fun H locs hP hD hS => ?_)
      have hP : va_P (dC, dI) vwCl (nW oN gN cA (uF FN 5 r_10) AN) H := hP
      have hD : va_D A (nW oN gN cA (uF FN 5 r_10) AN) := hD
      refine lv_iconst (v := (1 : Int32)) hx hb dX1_startWith_32 (by decide) ?_
      exact hret _ ((uF FN 5 r_10), AN) _ _ _ _ dX1_startWith_33 rfl hw hP hD hS
    · have hw := hw.2 c_9
      refine lv_iconst (v := (0 : Int32)) hx hb dX1_startWith_16 (by decide) ?_
      exact hret _ (FN, AN) _ _ _ _ dX1_startWith_17 rfl hw hP hD hS
set_option maxHeartbeats 4000000 in
set_option maxRecDepth 100000 in
theorem c_X5_readItem (l : Launch) (dC : Nat → ClassId) (dI : Nat → Nat → Nat) (cA : ClassId) (oT : Nat) (gT : Nat → Nat) (oN : Nat) (gN : Nat → Nat) (FT : Nat → Int32) (AT : Nat → Nat → Int32) (FN : Nat → Int32) (AN : Nat → Nat → Int32) (x1 : Int32) (Post : Int32 → (Nat → Int32) → (Nat → Nat → Int32) → Prop) (hw : wp_X5_readItem FT AT FN AN x1 Post) : MuI (dC, dI) cA l yX5_readItem cX5_readItem 6 .boolean 3 67 [.ref oT, .int x1, .ref oN] ((tW oT gT cA FT AT) ++ (nW oN gN cA FN AN)) (fun r (u : (Nat → Int32) × (Nat → Nat → Int32)) => Post r (u.1) (u.2)) (fun u => ((tW oT gT cA FT AT) ++ (nW oN gN cA (u.1) (u.2)))) := by
  refine enMu (by decide) (Nat.le_of_ble_eq_true rfl) ?_
  intro p e s m args below meth c Q ls A fx hK hP hD hS hA hret hl
  obtain ⟨hx, hb, hml, hown, hts⟩ := id fx
  have hl : lv_has ls 6 [(0, .ref oT), (1, .int x1), (2, .ref oN)] := hl
  have hP : va_P (dC, dI) vwCl ((tW oT gT cA FT AT) ++ (nW oN gN cA FN AN)) s.heap := hP
  refine lv_aload_n hx hb dX5_readItem_0 rfl (lv_at hl 0 rfl) ?_
  refine lv_iload_n hx hb dX5_readItem_1 rfl (lv_at hl 1 rfl) ?_
  refine lv_iconst (v := (1 : Int32)) hx hb dX5_readItem_2 (by decide) ?_
  refine lv_iadd hx hb dX5_readItem_3 ?_
  refine caRoV (rest := []) (As := [.int (x1 + (1 : Int32))]) fx hK lk_X5_33 (c_X5_figureAt l dC dI cA oT gT FT AT (x1 + (1 : Int32)) _ hw) (hP.sub [0, 1] rfl) 0 rfl rfl ⟨(Nat.le_of_ble_eq_true rfl), (Nat.le_of_ble_eq_true rfl)⟩ rfl hl.1 rfl (Nat.le_of_ble_eq_true rfl) dX5_readItem_4 ?_
  intro r_28 hw
  refine lv_istore_n (lv' := [(3, .int r_28), (0, .ref oT), (1, .int x1), (2, .ref oN)]) hx hb dX5_readItem_7 rfl hl (by decide) rfl (fun ls hl => ?_)
  refine lv_aload_n hx hb dX5_readItem_8 rfl (lv_at hl 1 rfl) ?_
  refine lv_iload_n hx hb dX5_readItem_9 rfl (lv_at hl 2 rfl) ?_
  refine lv_iconst (v := (2 : Int32)) hx hb dX5_readItem_10 (by decide) ?_
  refine lv_iadd hx hb dX5_readItem_11 ?_
  refine caRoV (rest := []) (As := [.int (x1 + (2 : Int32))]) fx hK lk_X5_33 (c_X5_figureAt l dC dI cA oT gT FT AT (x1 + (2 : Int32)) _ hw) (hP.sub [0, 1] rfl) 0 rfl rfl ⟨(Nat.le_of_ble_eq_true rfl), (Nat.le_of_ble_eq_true rfl)⟩ rfl hl.1 rfl (Nat.le_of_ble_eq_true rfl) dX5_readItem_12 ?_
  intro r_29 hw
  refine lv_istore (lv' := [(4, .int r_29), (3, .int r_28), (0, .ref oT), (1, .int x1), (2, .ref oN)]) hx hb dX5_readItem_15 hl (by decide) rfl (fun ls hl => ?_)
  refine lv_aload_n hx hb dX5_readItem_17 rfl (lv_at hl 2 rfl) ?_
  refine lv_iload_n hx hb dX5_readItem_18 rfl (lv_at hl 3 rfl) ?_
  refine caRoV (rest := []) (As := [.int x1]) fx hK lk_X5_29 (c_X5_letterAt l dC dI cA oT gT FT AT x1 _ hw) (hP.sub [0, 1] rfl) 0 rfl rfl ⟨(Nat.le_of_ble_eq_true rfl), (Nat.le_of_ble_eq_true rfl)⟩ rfl hl.1 rfl (Nat.le_of_ble_eq_true rfl) dX5_readItem_19 ?_
  intro r_30 hw
  refine lv_istore (lv' := [(5, .int r_30), (4, .int r_29), (3, .int r_28), (0, .ref oT), (1, .int x1), (2, .ref oN)]) hx hb dX5_readItem_22 hl (by decide) rfl (fun ls hl => ?_)
  refine lv_iload hx hb dX5_readItem_24 (lv_at hl 0 rfl) ?_
  refine lv_bipush (v := (103 : Int32)) hx hb dX5_readItem_26 (by decide) ?_
  refine lv_icmp_ne (tgt := 70) hx hb dX5_readItem_28 (by decide) (fun c_31 => ?_) (fun c_31 => ?_)
  · have hw := hw.1 c_31
    refine lv_iload_n hx hb dX5_readItem_70 rfl (lv_at hl 4 rfl) ?_
    refine lv_if_eq (tgt := 86) hx hb dX5_readItem_71 (by decide) (fun c_32 => ?_) (fun c_32 => ?_)
    · have hw := hw.1 c_32
      refine lv_iconst (v := (0 : Int32)) hx hb dX5_readItem_86 (by decide) ?_
      exact hret _ (FN, AN) _ _ _ _ dX5_readItem_87 rfl hw hP hD hS
    · have hw := hw.2 c_32
      refine lv_aload_n hx hb dX5_readItem_74 rfl (lv_at hl 3 rfl) ?_
      refine lv_iload_n hx hb dX5_readItem_75 rfl (lv_at hl 4 rfl) ?_
      refine lv_iconst (v := (3 : Int32)) hx hb dX5_readItem_76 (by decide) ?_
      refine lv_iadd hx hb dX5_readItem_77 ?_
      refine caRoV (rest := []) (As := [.int (x1 + (3 : Int32))]) fx hK lk_X5_29 (c_X5_letterAt l dC dI cA oT gT FT AT (x1 + (3 : Int32)) _ hw) (hP.sub [0, 1] rfl) 0 rfl rfl ⟨(Nat.le_of_ble_eq_true rfl), (Nat.le_of_ble_eq_true rfl)⟩ rfl hl.1 rfl (Nat.le_of_ble_eq_true rfl) dX5_readItem_78 ?_
      intro r_33 hw
      refine lv_bipush (v := (59 : Int32)) hx hb dX5_readItem_81 (by decide) ?_
      refine lv_icmp_eq (tgt := 88) hx hb dX5_readItem_83 (by decide) (fun c_34 => ?_) (fun c_34 => ?_)
      · have hw := hw.1 c_34
        refine lv_iload hx hb dX5_readItem_88 (lv_at hl 0 rfl) ?_
        refine lv_bipush (v := (101 : Int32)) hx hb dX5_readItem_90 (by decide) ?_
        refine lv_icmp_ne (tgt := 103) hx hb dX5_readItem_92 (by decide) (fun c_35 => ?_) (fun c_35 => ?_)
        · have hw := hw.1 c_35
          refine lv_iload hx hb dX5_readItem_103 (lv_at hl 0 rfl) ?_
          refine lv_bipush (v := (120 : Int32)) hx hb dX5_readItem_105 (by decide) ?_
          refine lv_icmp_ne (tgt := 124) hx hb dX5_readItem_107 (by decide) (fun c_36 => ?_) (fun c_36 => ?_)
          · have hw := hw.1 c_36
            refine lv_iconst (v := (0 : Int32)) hx hb dX5_readItem_124 (by decide) ?_
            exact hret _ (FN, AN) _ _ _ _ dX5_readItem_125 rfl hw hP hD hS
          · have hw := hw.2 c_36
            refine lv_aload_n hx hb dX5_readItem_110 rfl (lv_at hl 5 rfl) ?_
            refine lv_iload_n hx hb dX5_readItem_111 rfl (lv_at hl 2 rfl) ?_
            refine lv_iload hx hb dX5_readItem_112 (lv_at hl 1 rfl) ?_
            refine caMuV (rest := []) (As := [.int r_28, .int r_29]) (w1 := (tW oT gT cA FT AT)) (w2 := ([] : va_W)) fx hK lk_X5_46 (c_X1_startWith l dC dI cA oN gN FN AN r_28 r_29 _ hw) hP hD hS hA 0 rfl rfl ⟨(Nat.le_of_ble_eq_true rfl), (Nat.le_of_ble_eq_true rfl)⟩ rfl hl.1 rfl (Nat.le_of_ble_eq_true rfl) dX5_readItem_114 ?_
            intro r_40 u_39 H locs hw hP hD hS
            obtain ⟨FN_37, AN_38⟩ := u_39
            have hP : va_P (dC, dI) vwCl ((tW oT gT cA FT AT) ++ (nW oN gN cA FN_37 AN_38)) H := hP
            have hD : va_D A ((tW oT gT cA FT AT) ++ (nW oN gN cA FN_37 AN_38)) := hD
            try dsimp only at hw
            refine lv_if_eq (tgt := 124) hx hb dX5_readItem_117 (by decide) (fun c_41 => ?_) (fun c_41 => ?_)
            · have hw := hw.1 c_41
              refine lv_iconst (v := (0 : Int32)) hx hb dX5_readItem_124 (by decide) ?_
              exact hret _ (FN_37, AN_38) _ _ _ _ dX5_readItem_125 rfl hw hP hD hS
            · have hw := hw.2 c_41
              refine lv_iconst (v := (1 : Int32)) hx hb dX5_readItem_120 (by decide) ?_
              refine lv_goto (tgt := 125) hx hb dX5_readItem_121 (by decide) ?_
              exact hret _ (FN_37, AN_38) _ _ _ _ dX5_readItem_125 rfl hw hP hD hS
        · have hw := hw.2 c_35
          refine lv_aload_n hx hb dX5_readItem_95 rfl (lv_at hl 5 rfl) ?_
          refine lv_iload_n hx hb dX5_readItem_96 rfl (lv_at hl 2 rfl) ?_
          refine lv_iload hx hb dX5_readItem_97 (lv_at hl 1 rfl) ?_
          refine caMuV (rest := []) (As := [.int r_28, .int r_29]) (w1 := (tW oT gT cA FT AT)) (w2 := ([] : va_W)) fx hK lk_X5_42 (c_X1_addWire l dC dI cA oN gN FN AN r_28 r_29 _ hw) hP hD hS hA 0 rfl rfl ⟨(Nat.le_of_ble_eq_true rfl), (Nat.le_of_ble_eq_true rfl)⟩ rfl hl.1 rfl (Nat.le_of_ble_eq_true rfl) dX5_readItem_99 ?_
          intro r_45 u_44 H locs hw hP hD hS
          obtain ⟨FN_42, AN_43⟩ := u_44
          have hP : va_P (dC, dI) vwCl ((tW oT gT cA FT AT) ++ (nW oN gN cA FN_42 AN_43)) H := hP
          have hD : va_D A ((tW oT gT cA FT AT) ++ (nW oN gN cA FN_42 AN_43)) := hD
          try dsimp only at hw
          obtain ⟨hz, hw⟩ := hw
          exact hret _ (FN_42, AN_43) _ _ _ _ dX5_readItem_102 hz hw hP hD hS
      · have hw := hw.2 c_34
        refine lv_iconst (v := (0 : Int32)) hx hb dX5_readItem_86 (by decide) ?_
        exact hret _ (FN, AN) _ _ _ _ dX5_readItem_87 rfl hw hP hD hS
  · have hw := hw.2 c_31
    refine lv_iload_n hx hb dX5_readItem_31 rfl (lv_at hl 4 rfl) ?_
    refine lv_if_ne (tgt := 68) hx hb dX5_readItem_32 (by decide) (fun c_46 => ?_) (fun c_46 => ?_)
    · have hw := hw.1 c_46
      refine lv_iconst (v := (0 : Int32)) hx hb dX5_readItem_68 (by decide) ?_
      exact hret _ (FN, AN) _ _ _ _ dX5_readItem_69 rfl hw hP hD hS
    · have hw := hw.2 c_46
      refine lv_aload_n hx hb dX5_readItem_35 rfl (lv_at hl 3 rfl) ?_
      refine lv_iload_n hx hb dX5_readItem_36 rfl (lv_at hl 4 rfl) ?_
      refine lv_iconst (v := (4 : Int32)) hx hb dX5_readItem_37 (by decide) ?_
      refine lv_iadd hx hb dX5_readItem_38 ?_
      refine caRoV (rest := []) (As := [.int (x1 + (4 : Int32))]) fx hK lk_X5_29 (c_X5_letterAt l dC dI cA oT gT FT AT (x1 + (4 : Int32)) _ hw) (hP.sub [0, 1] rfl) 0 rfl rfl ⟨(Nat.le_of_ble_eq_true rfl), (Nat.le_of_ble_eq_true rfl)⟩ rfl hl.1 rfl (Nat.le_of_ble_eq_true rfl) dX5_readItem_39 ?_
      intro r_47 hw
      refine lv_bipush (v := (59 : Int32)) hx hb dX5_readItem_42 (by decide) ?_
      refine lv_icmp_ne (tgt := 68) hx hb dX5_readItem_44 (by decide) (fun c_48 => ?_) (fun c_48 => ?_)
      · have hw := hw.1 c_48
        refine lv_iconst (v := (0 : Int32)) hx hb dX5_readItem_68 (by decide) ?_
        exact hret _ (FN, AN) _ _ _ _ dX5_readItem_69 rfl hw hP hD hS
      · have hw := hw.2 c_48
        refine lv_aload_n hx hb dX5_readItem_47 rfl (lv_at hl 5 rfl) ?_
        refine lv_iload_n hx hb dX5_readItem_48 rfl (lv_at hl 2 rfl) ?_
        refine lv_iload hx hb dX5_readItem_49 (lv_at hl 1 rfl) ?_
        refine lv_aload_n hx hb dX5_readItem_51 rfl (lv_at hl 3 rfl) ?_
        refine lv_iload_n hx hb dX5_readItem_52 rfl (lv_at hl 4 rfl) ?_
        refine lv_iconst (v := (3 : Int32)) hx hb dX5_readItem_53 (by decide) ?_
        refine lv_iadd hx hb dX5_readItem_54 ?_
        refine caRoV (rest := [.int r_29, .int r_28, .ref oN]) (As := [.int (x1 + (3 : Int32))]) fx hK lk_X5_33 (c_X5_figureAt l dC dI cA oT gT FT AT (x1 + (3 : Int32)) _ hw) (hP.sub [0, 1] rfl) 0 rfl rfl ⟨(Nat.le_of_ble_eq_true rfl), (Nat.le_of_ble_eq_true rfl)⟩ rfl hl.1 rfl (Nat.le_of_ble_eq_true rfl) dX5_readItem_55 ?_
        intro r_49 hw
        refine caMuV (rest := []) (As := [.int r_28, .int r_29, .int r_49]) (w1 := (tW oT gT cA FT AT)) (w2 := ([] : va_W)) fx hK lk_X5_36 (c_X1_begin l dC dI cA oN gN FN AN r_28 r_29 r_49 _ hw) hP hD hS hA 0 rfl rfl ⟨(Nat.le_of_ble_eq_true rfl), (Nat.le_of_ble_eq_true rfl)⟩ rfl hl.1 rfl (Nat.le_of_ble_eq_true rfl) dX5_readItem_58 ?_
        intro r_53 u_52 H locs hw hP hD hS
        obtain ⟨FN_50, AN_51⟩ := u_52
        have hP : va_P (dC, dI) vwCl ((tW oT gT cA FT AT) ++ (nW oN gN cA FN_50 AN_51)) H := hP
        have hD : va_D A ((tW oT gT cA FT AT) ++ (nW oN gN cA FN_50 AN_51)) := hD
        try dsimp only at hw
        refine lv_if_eq (tgt := 68) hx hb dX5_readItem_61 (by decide) (fun c_54 => ?_) (fun c_54 => ?_)
        · have hw := hw.1 c_54
          refine lv_iconst (v := (0 : Int32)) hx hb dX5_readItem_68 (by decide) ?_
          exact hret _ (FN_50, AN_51) _ _ _ _ dX5_readItem_69 rfl hw hP hD hS
        · have hw := hw.2 c_54
          refine lv_iconst (v := (1 : Int32)) hx hb dX5_readItem_64 (by decide) ?_
          refine lv_goto (tgt := 69) hx hb dX5_readItem_65 (by decide) ?_
          exact hret _ (FN_50, AN_51) _ _ _ _ dX5_readItem_69 rfl hw hP hD hS
set_option maxHeartbeats 4000000 in
set_option maxRecDepth 100000 in
theorem c_X5_readInto (l : Launch) (dC : Nat → ClassId) (dI : Nat → Nat → Nat) (cA : ClassId) (oT : Nat) (gT : Nat → Nat) (oN : Nat) (gN : Nat → Nat) (FT : Nat → Int32) (AT : Nat → Nat → Int32) (FN : Nat → Int32) (AN : Nat → Nat → Int32) (Post : Int32 → (Nat → Int32) → (Nat → Nat → Int32) → Prop) (hw : wp_X5_readInto FT AT FN AN Post) : MuI (dC, dI) cA l yX5_readInto cX5_readInto 4 .int 4 92 [.ref oT, .ref oN] ((tW oT gT cA FT AT) ++ (nW oN gN cA FN AN)) (fun r (u : (Nat → Int32) × (Nat → Nat → Int32)) => Post r (u.1) (u.2)) (fun u => ((tW oT gT cA FT AT) ++ (nW oN gN cA (u.1) (u.2)))) := by
  refine enMu (by decide) (Nat.le_of_ble_eq_true rfl) ?_
  intro p e s m args below meth c Q ls A fx hK hP hD hS hA hret hl
  obtain ⟨hx, hb, hml, hown, hts⟩ := id fx
  have hl : lv_has ls 4 [(0, .ref oT), (1, .ref oN)] := hl
  have hP : va_P (dC, dI) vwCl ((tW oT gT cA FT AT) ++ (nW oN gN cA FN AN)) s.heap := hP
  have b_4 : ∀ (FN : Nat → Int32) (AN : Nat → Nat → Int32) (x2 : Int32) (x3 : Int32) (H : Heap) (locs : List Loc) (ls : Array Slot), va_P (dC, dI) vwCl ((tW oT gT cA FT AT) ++ (nW oN gN cA FN AN)) H → va_D A ((tW oT gT cA FT AT) ++ (nW oN gN cA FN AN)) → va_S A s.heap H locs → lv_has ls 4 [(0, .ref oT), (1, .ref oN), (2, .int x2), (3, .int x3)] → wp_X5_readInto_4 FT AT FN AN x2 x3 Post → W p l e ({ frames := 4, cells := 0, slots := 0, locals := 92 } : Room) s m args below meth c H locs 0 0 Q (F0 m 4 ls []) := by
    intro FN AN x2 x3 H locs ls hP hD hS hl hw
    refine Lp_go (C := fun (t : Int32 × Int32 × (Nat → Int32) × (Nat → Nat → Int32)) => ∀ (H : Heap) (locs : List Loc) (ls : Array Slot), va_P (dC, dI) vwCl ((tW oT gT cA FT AT) ++ (nW oN gN cA (t.2.2.1) (t.2.2.2))) H → va_D A ((tW oT gT cA FT AT) ++ (nW oN gN cA (t.2.2.1) (t.2.2.2))) → va_S A s.heap H locs → lv_has ls 4 [(0, .ref oT), (1, .ref oN), (2, .int (t.1)), (3, .int (t.2.1))] → W p l e ({ frames := 4, cells := 0, slots := 0, locals := 92 } : Room) s m args below meth c H locs 0 0 Q (F0 m 4 ls [])) ?_ hw H locs ls hP hD hS hl
    intro k_4 hk_4 t
    obtain ⟨x2, x3, FN, AN⟩ := t
    intro hw H locs ls hP hD hS hl
    have hP : va_P (dC, dI) vwCl ((tW oT gT cA FT AT) ++ (nW oN gN cA FN AN)) H := hP
    have hD : va_D A ((tW oT gT cA FT AT) ++ (nW oN gN cA FN AN)) := hD
    have hl : lv_has ls 4 [(0, .ref oT), (1, .ref oN), (2, .int x2), (3, .int x3)] := hl
    have hw : st_X5_readInto_4 FT AT Post k_4 x2 x3 FN AN := hw
    have b_46 : ∀ (FN : Nat → Int32) (AN : Nat → Nat → Int32) (x3 : Int32) (t0 : Int32) (t1 : Int32) (H : Heap) (locs : List Loc) (ls : Array Slot), va_P (dC, dI) vwCl ((tW oT gT cA FT AT) ++ (nW oN gN cA FN AN)) H → va_D A ((tW oT gT cA FT AT) ++ (nW oN gN cA FN AN)) → va_S A s.heap H locs → lv_has ls 4 [(0, .ref oT), (1, .ref oN), (3, .int x3)] → wp_X5_readInto_46 FT AT FN AN x3 t0 t1 k_4 Post → W p l e ({ frames := 4, cells := 0, slots := 0, locals := 92 } : Room) s m args below meth c H locs 0 0 Q (F0 m 46 ls [.int t1, .int t0]) := by
      intro FN AN x3 t0 t1 H locs ls hP hD hS hl hw
      refine lv_iadd hx hb dX5_readInto_46 ?_
      refine lv_istore_n (lv' := [(2, .int (t0 + t1)), (0, .ref oT), (1, .ref oN), (3, .int x3)]) hx hb dX5_readInto_47 rfl hl (by decide) rfl (fun ls hl => ?_)
      refine lv_iinc (v := (x3 + 1)) (lv' := [(3, .int (x3 + 1)), (2, .int (t0 + t1)), (0, .ref oT), (1, .ref oN)]) hx hb dX5_readInto_48 hl (k := 3) rfl rfl (by decide) rfl (fun ls hl => ?_)
      refine lv_goto (tgt := 4) hx hb dX5_readInto_51 (by decide) ?_
      exact hk_4 ((t0 + t1), (x3 + 1), FN, AN) hw _ _ _ hP hD hS (lv_sub hl [2, 3, 1, 0] rfl)
    refine lv_iload_n hx hb dX5_readInto_4 rfl (lv_at hl 3 rfl) ?_
    refine lv_sipush (v := (200 : Int32)) hx hb dX5_readInto_5 (by decide) ?_
    refine lv_icmp_ge (tgt := 54) hx hb dX5_readInto_8 (by decide) (fun c_1 => ?_) (fun c_1 => ?_)
    · have hw := hw.1 c_1
      refine lv_bipush (v := (-4 : Int32)) hx hb dX5_readInto_54 (by decide) ?_
      exact hret _ (FN, AN) _ _ _ _ dX5_readInto_56 rfl hw hP hD hS
    · have hw := hw.2 c_1
      refine lv_iload_n hx hb dX5_readInto_11 rfl (lv_at hl 2 rfl) ?_
      refine lv_aload_n hx hb dX5_readInto_12 rfl (lv_at hl 0 rfl) ?_
      refine gz (q0 := 0) (v := .int (FT 1)) fx hK hP fl_X5_15 rfl rfl dX5_readInto_13 ?_
      refine lv_icmp_ge (tgt := 54) hx hb dX5_readInto_16 (by decide) (fun c_2 => ?_) (fun c_2 => ?_)
      · have hw := hw.1 c_2
        refine lv_bipush (v := (-4 : Int32)) hx hb dX5_readInto_54 (by decide) ?_
        exact hret _ (FN, AN) _ _ _ _ dX5_readInto_56 rfl hw hP hD hS
      · have hw := hw.2 c_2
        refine lv_aload_n hx hb dX5_readInto_19 rfl (lv_at hl 0 rfl) ?_
        refine lv_iload_n hx hb dX5_readInto_20 rfl (lv_at hl 2 rfl) ?_
        refine lv_aload_n hx hb dX5_readInto_21 rfl (lv_at hl 1 rfl) ?_
        refine caMuV (rest := []) (As := [.int x2, .ref oN]) (w1 := ([] : va_W)) (w2 := ([] : va_W)) fx hK lk_X5_25 (c_X5_readItem l dC dI cA oT gT oN gN FT AT FN AN x2 _ hw) hP hD hS hA 0 rfl rfl ⟨(Nat.le_of_ble_eq_true rfl), (Nat.le_of_ble_eq_true rfl)⟩ rfl hl.1 rfl (Nat.le_of_ble_eq_true rfl) dX5_readInto_22 ?_
        intro r_6 u_5 H locs hw hP hD hS
        obtain ⟨FN_3, AN_4⟩ := u_5
        have hP : va_P (dC, dI) vwCl ((tW oT gT cA FT AT) ++ (nW oN gN cA FN_3 AN_4)) H := hP
        have hD : va_D A ((tW oT gT cA FT AT) ++ (nW oN gN cA FN_3 AN_4)) := hD
        try dsimp only at hw
        refine lv_if_ne (tgt := 30) hx hb dX5_readInto_25 (by decide) (fun c_7 => ?_) (fun c_7 => ?_)
        · have hw := hw.1 c_7
          refine lv_iload_n hx hb dX5_readInto_30 rfl (lv_at hl 2 rfl) ?_
          refine lv_aload_n hx hb dX5_readInto_31 rfl (lv_at hl 0 rfl) ?_
          refine lv_iload_n hx hb dX5_readInto_32 rfl (lv_at hl 2 rfl) ?_
          refine caRoV (rest := [.int x2]) (As := [.int x2]) fx hK lk_X5_29 (c_X5_letterAt l dC dI cA oT gT FT AT x2 _ hw) (hP.sub [0, 1] rfl) 0 rfl rfl ⟨(Nat.le_of_ble_eq_true rfl), (Nat.le_of_ble_eq_true rfl)⟩ rfl hl.1 rfl (Nat.le_of_ble_eq_true rfl) dX5_readInto_33 ?_
          intro r_8 hw
          refine lv_bipush (v := (103 : Int32)) hx hb dX5_readInto_36 (by decide) ?_
          refine lv_icmp_ne (tgt := 45) hx hb dX5_readInto_38 (by decide) (fun c_9 => ?_) (fun c_9 => ?_)
          · have hw := hw.1 c_9
            refine lv_iconst (v := (4 : Int32)) hx hb dX5_readInto_45 (by decide) ?_
            exact b_46 FN_3 AN_4 x3 x2 (4 : Int32) _ _ _ hP hD hS (lv_sub hl [0, 1, 3] rfl) hw
          · have hw := hw.2 c_9
            refine lv_iconst (v := (5 : Int32)) hx hb dX5_readInto_41 (by decide) ?_
            refine lv_goto (tgt := 46) hx hb dX5_readInto_42 (by decide) ?_
            exact b_46 FN_3 AN_4 x3 x2 (5 : Int32) _ _ _ hP hD hS (lv_sub hl [0, 1, 3] rfl) hw
        · have hw := hw.2 c_7
          refine lv_iload_n hx hb dX5_readInto_28 rfl (lv_at hl 2 rfl) ?_
          exact hret _ (FN_3, AN_4) _ _ _ _ dX5_readInto_29 rfl hw hP hD hS
  refine lv_iconst (v := (0 : Int32)) hx hb dX5_readInto_0 (by decide) ?_
  refine lv_istore_n (lv' := [(2, .int (0 : Int32)), (0, .ref oT), (1, .ref oN)]) hx hb dX5_readInto_1 rfl hl (by decide) rfl (fun ls hl => ?_)
  refine lv_iconst (v := (0 : Int32)) hx hb dX5_readInto_2 (by decide) ?_
  refine lv_istore_n (lv' := [(3, .int (0 : Int32)), (2, .int (0 : Int32)), (0, .ref oT), (1, .ref oN)]) hx hb dX5_readInto_3 rfl hl (by decide) rfl (fun ls hl => ?_)
  exact b_4 FN AN (0 : Int32) (0 : Int32) _ _ _ hP hD hS (lv_sub hl [2, 3, 1, 0] rfl) hw
set_option maxHeartbeats 4000000 in
set_option maxRecDepth 100000 in
theorem c_J6_bitCount_0f7a4 (l : Launch) (dC : Nat → ClassId) (dI : Nat → Nat → Nat) (cA : ClassId) (x0 : Int32) (Post : Int32 → Prop) (hw : wp_J6_bitCount_0f7a4 x0 Post) : RoI (dC, dI) cA l yJ6_bitCount_0f7a4 cJ6_bitCount_0f7a4 1 .int 0 0 [.int x0] ([] : va_W) Post := by
  refine enRo (by decide) (Nat.le_of_ble_eq_true rfl) ?_
  intro p e s m args below meth c Q ls fx hK hP hret hl
  obtain ⟨hx, hb, hml, hown, hts⟩ := id fx
  have hl : lv_has ls 1 [(0, .int x0)] := hl
  refine lv_iload_n hx hb dJ6_bitCount_0f7a4_0 rfl (lv_at hl 0 rfl) ?_
  refine lv_iload_n hx hb dJ6_bitCount_0f7a4_1 rfl (lv_at hl 0 rfl) ?_
  refine lv_iconst (v := (1 : Int32)) hx hb dJ6_bitCount_0f7a4_2 (by decide) ?_
  refine lv_iushr (v := ((Int32.toUInt32 x0 >>> (Int32.toUInt32 (1 : Int32) &&& Int32.toUInt32 31)).toInt32)) hx hb dJ6_bitCount_0f7a4_3 rfl ?_
  refine lv_ldcw (v := (1431655765 : Int32)) hx hb hown (hts _ (List.mem_cons_of_mem _ q_13_8)) dJ6_bitCount_0f7a4_4 ?_
  refine lv_iand hx hb dJ6_bitCount_0f7a4_7 ?_
  refine lv_isub hx hb dJ6_bitCount_0f7a4_8 ?_
  refine lv_istore_n (lv' := [(0, .int (x0 - (((Int32.toUInt32 x0 >>> (Int32.toUInt32 (1 : Int32) &&& Int32.toUInt32 31)).toInt32) &&& (1431655765 : Int32))))]) hx hb dJ6_bitCount_0f7a4_9 rfl hl (by decide) rfl (fun ls hl => ?_)
  refine lv_iload_n hx hb dJ6_bitCount_0f7a4_10 rfl (lv_at hl 0 rfl) ?_
  refine lv_ldcw (v := (858993459 : Int32)) hx hb hown (hts _ (List.mem_cons_of_mem _ q_13_9)) dJ6_bitCount_0f7a4_11 ?_
  refine lv_iand hx hb dJ6_bitCount_0f7a4_14 ?_
  refine lv_iload_n hx hb dJ6_bitCount_0f7a4_15 rfl (lv_at hl 0 rfl) ?_
  refine lv_iconst (v := (2 : Int32)) hx hb dJ6_bitCount_0f7a4_16 (by decide) ?_
  refine lv_iushr (v := ((Int32.toUInt32 (x0 - (((Int32.toUInt32 x0 >>> (Int32.toUInt32 (1 : Int32) &&& Int32.toUInt32 31)).toInt32) &&& (1431655765 : Int32))) >>> (Int32.toUInt32 (2 : Int32) &&& Int32.toUInt32 31)).toInt32)) hx hb dJ6_bitCount_0f7a4_17 rfl ?_
  refine lv_ldcw (v := (858993459 : Int32)) hx hb hown (hts _ (List.mem_cons_of_mem _ q_13_9)) dJ6_bitCount_0f7a4_18 ?_
  refine lv_iand hx hb dJ6_bitCount_0f7a4_21 ?_
  refine lv_iadd hx hb dJ6_bitCount_0f7a4_22 ?_
  refine lv_istore_n (lv' := [(0, .int (((x0 - (((Int32.toUInt32 x0 >>> (Int32.toUInt32 (1 : Int32) &&& Int32.toUInt32 31)).toInt32) &&& (1431655765 : Int32))) &&& (858993459 : Int32)) + (((Int32.toUInt32 (x0 - (((Int32.toUInt32 x0 >>> (Int32.toUInt32 (1 : Int32) &&& Int32.toUInt32 31)).toInt32) &&& (1431655765 : Int32))) >>> (Int32.toUInt32 (2 : Int32) &&& Int32.toUInt32 31)).toInt32) &&& (858993459 : Int32))))]) hx hb dJ6_bitCount_0f7a4_23 rfl hl (by decide) rfl (fun ls hl => ?_)
  refine lv_iload_n hx hb dJ6_bitCount_0f7a4_24 rfl (lv_at hl 0 rfl) ?_
  refine lv_iload_n hx hb dJ6_bitCount_0f7a4_25 rfl (lv_at hl 0 rfl) ?_
  refine lv_iconst (v := (4 : Int32)) hx hb dJ6_bitCount_0f7a4_26 (by decide) ?_
  refine lv_iushr (v := ((Int32.toUInt32 (((x0 - (((Int32.toUInt32 x0 >>> (Int32.toUInt32 (1 : Int32) &&& Int32.toUInt32 31)).toInt32) &&& (1431655765 : Int32))) &&& (858993459 : Int32)) + (((Int32.toUInt32 (x0 - (((Int32.toUInt32 x0 >>> (Int32.toUInt32 (1 : Int32) &&& Int32.toUInt32 31)).toInt32) &&& (1431655765 : Int32))) >>> (Int32.toUInt32 (2 : Int32) &&& Int32.toUInt32 31)).toInt32) &&& (858993459 : Int32))) >>> (Int32.toUInt32 (4 : Int32) &&& Int32.toUInt32 31)).toInt32)) hx hb dJ6_bitCount_0f7a4_27 rfl ?_
  refine lv_iadd hx hb dJ6_bitCount_0f7a4_28 ?_
  refine lv_ldcw (v := (252645135 : Int32)) hx hb hown (hts _ (List.mem_cons_of_mem _ q_13_10)) dJ6_bitCount_0f7a4_29 ?_
  refine lv_iand hx hb dJ6_bitCount_0f7a4_32 ?_
  refine lv_istore_n (lv' := [(0, .int (((((x0 - (((Int32.toUInt32 x0 >>> (Int32.toUInt32 (1 : Int32) &&& Int32.toUInt32 31)).toInt32) &&& (1431655765 : Int32))) &&& (858993459 : Int32)) + (((Int32.toUInt32 (x0 - (((Int32.toUInt32 x0 >>> (Int32.toUInt32 (1 : Int32) &&& Int32.toUInt32 31)).toInt32) &&& (1431655765 : Int32))) >>> (Int32.toUInt32 (2 : Int32) &&& Int32.toUInt32 31)).toInt32) &&& (858993459 : Int32))) + ((Int32.toUInt32 (((x0 - (((Int32.toUInt32 x0 >>> (Int32.toUInt32 (1 : Int32) &&& Int32.toUInt32 31)).toInt32) &&& (1431655765 : Int32))) &&& (858993459 : Int32)) + (((Int32.toUInt32 (x0 - (((Int32.toUInt32 x0 >>> (Int32.toUInt32 (1 : Int32) &&& Int32.toUInt32 31)).toInt32) &&& (1431655765 : Int32))) >>> (Int32.toUInt32 (2 : Int32) &&& Int32.toUInt32 31)).toInt32) &&& (858993459 : Int32))) >>> (Int32.toUInt32 (4 : Int32) &&& Int32.toUInt32 31)).toInt32)) &&& (252645135 : Int32)))]) hx hb dJ6_bitCount_0f7a4_33 rfl hl (by decide) rfl (fun ls hl => ?_)
  refine lv_iload_n hx hb dJ6_bitCount_0f7a4_34 rfl (lv_at hl 0 rfl) ?_
  refine lv_iload_n hx hb dJ6_bitCount_0f7a4_35 rfl (lv_at hl 0 rfl) ?_
  refine lv_bipush (v := (8 : Int32)) hx hb dJ6_bitCount_0f7a4_36 (by decide) ?_
  refine lv_iushr (v := ((Int32.toUInt32 (((((x0 - (((Int32.toUInt32 x0 >>> (Int32.toUInt32 (1 : Int32) &&& Int32.toUInt32 31)).toInt32) &&& (1431655765 : Int32))) &&& (858993459 : Int32)) + (((Int32.toUInt32 (x0 - (((Int32.toUInt32 x0 >>> (Int32.toUInt32 (1 : Int32) &&& Int32.toUInt32 31)).toInt32) &&& (1431655765 : Int32))) >>> (Int32.toUInt32 (2 : Int32) &&& Int32.toUInt32 31)).toInt32) &&& (858993459 : Int32))) + ((Int32.toUInt32 (((x0 - (((Int32.toUInt32 x0 >>> (Int32.toUInt32 (1 : Int32) &&& Int32.toUInt32 31)).toInt32) &&& (1431655765 : Int32))) &&& (858993459 : Int32)) + (((Int32.toUInt32 (x0 - (((Int32.toUInt32 x0 >>> (Int32.toUInt32 (1 : Int32) &&& Int32.toUInt32 31)).toInt32) &&& (1431655765 : Int32))) >>> (Int32.toUInt32 (2 : Int32) &&& Int32.toUInt32 31)).toInt32) &&& (858993459 : Int32))) >>> (Int32.toUInt32 (4 : Int32) &&& Int32.toUInt32 31)).toInt32)) &&& (252645135 : Int32)) >>> (Int32.toUInt32 (8 : Int32) &&& Int32.toUInt32 31)).toInt32)) hx hb dJ6_bitCount_0f7a4_38 rfl ?_
  refine lv_iadd hx hb dJ6_bitCount_0f7a4_39 ?_
  refine lv_istore_n (lv' := [(0, .int ((((((x0 - (((Int32.toUInt32 x0 >>> (Int32.toUInt32 (1 : Int32) &&& Int32.toUInt32 31)).toInt32) &&& (1431655765 : Int32))) &&& (858993459 : Int32)) + (((Int32.toUInt32 (x0 - (((Int32.toUInt32 x0 >>> (Int32.toUInt32 (1 : Int32) &&& Int32.toUInt32 31)).toInt32) &&& (1431655765 : Int32))) >>> (Int32.toUInt32 (2 : Int32) &&& Int32.toUInt32 31)).toInt32) &&& (858993459 : Int32))) + ((Int32.toUInt32 (((x0 - (((Int32.toUInt32 x0 >>> (Int32.toUInt32 (1 : Int32) &&& Int32.toUInt32 31)).toInt32) &&& (1431655765 : Int32))) &&& (858993459 : Int32)) + (((Int32.toUInt32 (x0 - (((Int32.toUInt32 x0 >>> (Int32.toUInt32 (1 : Int32) &&& Int32.toUInt32 31)).toInt32) &&& (1431655765 : Int32))) >>> (Int32.toUInt32 (2 : Int32) &&& Int32.toUInt32 31)).toInt32) &&& (858993459 : Int32))) >>> (Int32.toUInt32 (4 : Int32) &&& Int32.toUInt32 31)).toInt32)) &&& (252645135 : Int32)) + ((Int32.toUInt32 (((((x0 - (((Int32.toUInt32 x0 >>> (Int32.toUInt32 (1 : Int32) &&& Int32.toUInt32 31)).toInt32) &&& (1431655765 : Int32))) &&& (858993459 : Int32)) + (((Int32.toUInt32 (x0 - (((Int32.toUInt32 x0 >>> (Int32.toUInt32 (1 : Int32) &&& Int32.toUInt32 31)).toInt32) &&& (1431655765 : Int32))) >>> (Int32.toUInt32 (2 : Int32) &&& Int32.toUInt32 31)).toInt32) &&& (858993459 : Int32))) + ((Int32.toUInt32 (((x0 - (((Int32.toUInt32 x0 >>> (Int32.toUInt32 (1 : Int32) &&& Int32.toUInt32 31)).toInt32) &&& (1431655765 : Int32))) &&& (858993459 : Int32)) + (((Int32.toUInt32 (x0 - (((Int32.toUInt32 x0 >>> (Int32.toUInt32 (1 : Int32) &&& Int32.toUInt32 31)).toInt32) &&& (1431655765 : Int32))) >>> (Int32.toUInt32 (2 : Int32) &&& Int32.toUInt32 31)).toInt32) &&& (858993459 : Int32))) >>> (Int32.toUInt32 (4 : Int32) &&& Int32.toUInt32 31)).toInt32)) &&& (252645135 : Int32)) >>> (Int32.toUInt32 (8 : Int32) &&& Int32.toUInt32 31)).toInt32)))]) hx hb dJ6_bitCount_0f7a4_40 rfl hl (by decide) rfl (fun ls hl => ?_)
  refine lv_iload_n hx hb dJ6_bitCount_0f7a4_41 rfl (lv_at hl 0 rfl) ?_
  refine lv_iload_n hx hb dJ6_bitCount_0f7a4_42 rfl (lv_at hl 0 rfl) ?_
  refine lv_bipush (v := (16 : Int32)) hx hb dJ6_bitCount_0f7a4_43 (by decide) ?_
  refine lv_iushr (v := ((Int32.toUInt32 ((((((x0 - (((Int32.toUInt32 x0 >>> (Int32.toUInt32 (1 : Int32) &&& Int32.toUInt32 31)).toInt32) &&& (1431655765 : Int32))) &&& (858993459 : Int32)) + (((Int32.toUInt32 (x0 - (((Int32.toUInt32 x0 >>> (Int32.toUInt32 (1 : Int32) &&& Int32.toUInt32 31)).toInt32) &&& (1431655765 : Int32))) >>> (Int32.toUInt32 (2 : Int32) &&& Int32.toUInt32 31)).toInt32) &&& (858993459 : Int32))) + ((Int32.toUInt32 (((x0 - (((Int32.toUInt32 x0 >>> (Int32.toUInt32 (1 : Int32) &&& Int32.toUInt32 31)).toInt32) &&& (1431655765 : Int32))) &&& (858993459 : Int32)) + (((Int32.toUInt32 (x0 - (((Int32.toUInt32 x0 >>> (Int32.toUInt32 (1 : Int32) &&& Int32.toUInt32 31)).toInt32) &&& (1431655765 : Int32))) >>> (Int32.toUInt32 (2 : Int32) &&& Int32.toUInt32 31)).toInt32) &&& (858993459 : Int32))) >>> (Int32.toUInt32 (4 : Int32) &&& Int32.toUInt32 31)).toInt32)) &&& (252645135 : Int32)) + ((Int32.toUInt32 (((((x0 - (((Int32.toUInt32 x0 >>> (Int32.toUInt32 (1 : Int32) &&& Int32.toUInt32 31)).toInt32) &&& (1431655765 : Int32))) &&& (858993459 : Int32)) + (((Int32.toUInt32 (x0 - (((Int32.toUInt32 x0 >>> (Int32.toUInt32 (1 : Int32) &&& Int32.toUInt32 31)).toInt32) &&& (1431655765 : Int32))) >>> (Int32.toUInt32 (2 : Int32) &&& Int32.toUInt32 31)).toInt32) &&& (858993459 : Int32))) + ((Int32.toUInt32 (((x0 - (((Int32.toUInt32 x0 >>> (Int32.toUInt32 (1 : Int32) &&& Int32.toUInt32 31)).toInt32) &&& (1431655765 : Int32))) &&& (858993459 : Int32)) + (((Int32.toUInt32 (x0 - (((Int32.toUInt32 x0 >>> (Int32.toUInt32 (1 : Int32) &&& Int32.toUInt32 31)).toInt32) &&& (1431655765 : Int32))) >>> (Int32.toUInt32 (2 : Int32) &&& Int32.toUInt32 31)).toInt32) &&& (858993459 : Int32))) >>> (Int32.toUInt32 (4 : Int32) &&& Int32.toUInt32 31)).toInt32)) &&& (252645135 : Int32)) >>> (Int32.toUInt32 (8 : Int32) &&& Int32.toUInt32 31)).toInt32)) >>> (Int32.toUInt32 (16 : Int32) &&& Int32.toUInt32 31)).toInt32)) hx hb dJ6_bitCount_0f7a4_45 rfl ?_
  refine lv_iadd hx hb dJ6_bitCount_0f7a4_46 ?_
  refine lv_istore_n (lv' := [(0, .int (((((((x0 - (((Int32.toUInt32 x0 >>> (Int32.toUInt32 (1 : Int32) &&& Int32.toUInt32 31)).toInt32) &&& (1431655765 : Int32))) &&& (858993459 : Int32)) + (((Int32.toUInt32 (x0 - (((Int32.toUInt32 x0 >>> (Int32.toUInt32 (1 : Int32) &&& Int32.toUInt32 31)).toInt32) &&& (1431655765 : Int32))) >>> (Int32.toUInt32 (2 : Int32) &&& Int32.toUInt32 31)).toInt32) &&& (858993459 : Int32))) + ((Int32.toUInt32 (((x0 - (((Int32.toUInt32 x0 >>> (Int32.toUInt32 (1 : Int32) &&& Int32.toUInt32 31)).toInt32) &&& (1431655765 : Int32))) &&& (858993459 : Int32)) + (((Int32.toUInt32 (x0 - (((Int32.toUInt32 x0 >>> (Int32.toUInt32 (1 : Int32) &&& Int32.toUInt32 31)).toInt32) &&& (1431655765 : Int32))) >>> (Int32.toUInt32 (2 : Int32) &&& Int32.toUInt32 31)).toInt32) &&& (858993459 : Int32))) >>> (Int32.toUInt32 (4 : Int32) &&& Int32.toUInt32 31)).toInt32)) &&& (252645135 : Int32)) + ((Int32.toUInt32 (((((x0 - (((Int32.toUInt32 x0 >>> (Int32.toUInt32 (1 : Int32) &&& Int32.toUInt32 31)).toInt32) &&& (1431655765 : Int32))) &&& (858993459 : Int32)) + (((Int32.toUInt32 (x0 - (((Int32.toUInt32 x0 >>> (Int32.toUInt32 (1 : Int32) &&& Int32.toUInt32 31)).toInt32) &&& (1431655765 : Int32))) >>> (Int32.toUInt32 (2 : Int32) &&& Int32.toUInt32 31)).toInt32) &&& (858993459 : Int32))) + ((Int32.toUInt32 (((x0 - (((Int32.toUInt32 x0 >>> (Int32.toUInt32 (1 : Int32) &&& Int32.toUInt32 31)).toInt32) &&& (1431655765 : Int32))) &&& (858993459 : Int32)) + (((Int32.toUInt32 (x0 - (((Int32.toUInt32 x0 >>> (Int32.toUInt32 (1 : Int32) &&& Int32.toUInt32 31)).toInt32) &&& (1431655765 : Int32))) >>> (Int32.toUInt32 (2 : Int32) &&& Int32.toUInt32 31)).toInt32) &&& (858993459 : Int32))) >>> (Int32.toUInt32 (4 : Int32) &&& Int32.toUInt32 31)).toInt32)) &&& (252645135 : Int32)) >>> (Int32.toUInt32 (8 : Int32) &&& Int32.toUInt32 31)).toInt32)) + ((Int32.toUInt32 ((((((x0 - (((Int32.toUInt32 x0 >>> (Int32.toUInt32 (1 : Int32) &&& Int32.toUInt32 31)).toInt32) &&& (1431655765 : Int32))) &&& (858993459 : Int32)) + (((Int32.toUInt32 (x0 - (((Int32.toUInt32 x0 >>> (Int32.toUInt32 (1 : Int32) &&& Int32.toUInt32 31)).toInt32) &&& (1431655765 : Int32))) >>> (Int32.toUInt32 (2 : Int32) &&& Int32.toUInt32 31)).toInt32) &&& (858993459 : Int32))) + ((Int32.toUInt32 (((x0 - (((Int32.toUInt32 x0 >>> (Int32.toUInt32 (1 : Int32) &&& Int32.toUInt32 31)).toInt32) &&& (1431655765 : Int32))) &&& (858993459 : Int32)) + (((Int32.toUInt32 (x0 - (((Int32.toUInt32 x0 >>> (Int32.toUInt32 (1 : Int32) &&& Int32.toUInt32 31)).toInt32) &&& (1431655765 : Int32))) >>> (Int32.toUInt32 (2 : Int32) &&& Int32.toUInt32 31)).toInt32) &&& (858993459 : Int32))) >>> (Int32.toUInt32 (4 : Int32) &&& Int32.toUInt32 31)).toInt32)) &&& (252645135 : Int32)) + ((Int32.toUInt32 (((((x0 - (((Int32.toUInt32 x0 >>> (Int32.toUInt32 (1 : Int32) &&& Int32.toUInt32 31)).toInt32) &&& (1431655765 : Int32))) &&& (858993459 : Int32)) + (((Int32.toUInt32 (x0 - (((Int32.toUInt32 x0 >>> (Int32.toUInt32 (1 : Int32) &&& Int32.toUInt32 31)).toInt32) &&& (1431655765 : Int32))) >>> (Int32.toUInt32 (2 : Int32) &&& Int32.toUInt32 31)).toInt32) &&& (858993459 : Int32))) + ((Int32.toUInt32 (((x0 - (((Int32.toUInt32 x0 >>> (Int32.toUInt32 (1 : Int32) &&& Int32.toUInt32 31)).toInt32) &&& (1431655765 : Int32))) &&& (858993459 : Int32)) + (((Int32.toUInt32 (x0 - (((Int32.toUInt32 x0 >>> (Int32.toUInt32 (1 : Int32) &&& Int32.toUInt32 31)).toInt32) &&& (1431655765 : Int32))) >>> (Int32.toUInt32 (2 : Int32) &&& Int32.toUInt32 31)).toInt32) &&& (858993459 : Int32))) >>> (Int32.toUInt32 (4 : Int32) &&& Int32.toUInt32 31)).toInt32)) &&& (252645135 : Int32)) >>> (Int32.toUInt32 (8 : Int32) &&& Int32.toUInt32 31)).toInt32)) >>> (Int32.toUInt32 (16 : Int32) &&& Int32.toUInt32 31)).toInt32)))]) hx hb dJ6_bitCount_0f7a4_47 rfl hl (by decide) rfl (fun ls hl => ?_)
  refine lv_iload_n hx hb dJ6_bitCount_0f7a4_48 rfl (lv_at hl 0 rfl) ?_
  refine lv_bipush (v := (63 : Int32)) hx hb dJ6_bitCount_0f7a4_49 (by decide) ?_
  refine lv_iand hx hb dJ6_bitCount_0f7a4_51 ?_
  exact hret _ _ _ dJ6_bitCount_0f7a4_52 rfl hw
set_option maxHeartbeats 4000000 in
set_option maxRecDepth 100000 in
theorem c_X1_hasColoursEnough (l : Launch) (dC : Nat → ClassId) (dI : Nat → Nat → Nat) (cA : ClassId) (oN : Nat) (gN : Nat → Nat) (FN : Nat → Int32) (AN : Nat → Nat → Int32) (Post : Int32 → Prop) (hw : wp_X1_hasColoursEnough FN AN Post) : RoI (dC, dI) cA l yX1_hasColoursEnough cX1_hasColoursEnough 2 .boolean 1 21 [.ref oN] (nW oN gN cA FN AN) Post := by
  refine enRo (by decide) (Nat.le_of_ble_eq_true rfl) ?_
  intro p e s m args below meth c Q ls fx hK hP hret hl
  obtain ⟨hx, hb, hml, hown, hts⟩ := id fx
  have hl : lv_has ls 2 [(0, .ref oN)] := hl
  have b_2 : ∀ (x1 : Int32) (ls : Array Slot), lv_has ls 2 [(0, .ref oN), (1, .int x1)] → wp_X1_hasColoursEnough_2 FN AN x1 Post → W p l e ({ frames := 1, cells := 0, slots := 0, locals := 21 } : Room) s m args below meth c s.heap [] 0 0 Q (F0 m 2 ls []) := by
    intro x1 ls hl hw
    refine Lp_go (C := fun (t : Int32) => ∀ (ls : Array Slot), lv_has ls 2 [(0, .ref oN), (1, .int t)] → W p l e ({ frames := 1, cells := 0, slots := 0, locals := 21 } : Room) s m args below meth c s.heap [] 0 0 Q (F0 m 2 ls [])) ?_ hw ls hl
    intro k_2 hk_2 t
    obtain ⟨x1, ht⟩ : ∃ z, z = t := ⟨_, rfl⟩
    subst ht
    intro hw ls hl
    have hl : lv_has ls 2 [(0, .ref oN), (1, .int x1)] := hl
    have hw : st_X1_hasColoursEnough_2 FN AN Post k_2 x1 := hw
    refine lv_aload_n hx hb dX1_hasColoursEnough_2 rfl (lv_at hl 0 rfl) ?_
    refine gz (q0 := 0) (v := .int (FN 0)) fx hK hP fl_X1_24 rfl rfl dX1_hasColoursEnough_3 ?_
    refine lv_iconst (v := (4 : Int32)) hx hb dX1_hasColoursEnough_6 (by decide) ?_
    refine lv_icmp_ne (tgt := 44) hx hb dX1_hasColoursEnough_7 (by decide) (fun c_1 => ?_) (fun c_1 => ?_)
    · have hw := hw.1 c_1
      refine lv_iconst (v := (1 : Int32)) hx hb dX1_hasColoursEnough_44 (by decide) ?_
      exact hret _ _ _ dX1_hasColoursEnough_45 rfl hw
    · have hw := hw.2 c_1
      refine lv_iload_n hx hb dX1_hasColoursEnough_10 rfl (lv_at hl 1 rfl) ?_
      refine lv_aload_n hx hb dX1_hasColoursEnough_11 rfl (lv_at hl 0 rfl) ?_
      refine gz (q0 := 0) (v := .int (FN 1)) fx hK hP fl_X1_28 rfl rfl dX1_hasColoursEnough_12 ?_
      refine lv_icmp_ge (tgt := 44) hx hb dX1_hasColoursEnough_15 (by decide) (fun c_2 => ?_) (fun c_2 => ?_)
      · have hw := hw.1 c_2
        refine lv_iconst (v := (1 : Int32)) hx hb dX1_hasColoursEnough_44 (by decide) ?_
        exact hret _ _ _ dX1_hasColoursEnough_45 rfl hw
      · have hw := hw.2 c_2
        refine lv_aload_n hx hb dX1_hasColoursEnough_18 rfl (lv_at hl 0 rfl) ?_
        refine gz (q0 := 0) (v := .ref (gN 6)) fx hK hP fl_X1_9 rfl rfl dX1_hasColoursEnough_19 ?_
        refine lv_iload_n hx hb dX1_hasColoursEnough_22 rfl (lv_at hl 1 rfl) ?_
        refine caRoS (rest := []) (As := [.ref (gN 6), .int x1]) fx hK lk_X1_51 (c_at l (dC, dI) cA (gN 6) 6 (AN 6) x1 (by decide)) (hP.sub [1] rfl) ⟨(Nat.le_of_ble_eq_true rfl), (Nat.le_of_ble_eq_true rfl)⟩ rfl hl.1 rfl (Nat.le_of_ble_eq_true rfl) dX1_hasColoursEnough_23 ?_
        intro r_3 e_4
        have hw := hw r_3 e_4
        refine caRoS (rest := []) (As := [.int r_3]) fx hK lk_X1_62 (c_J6_bitCount_0f7a4 l dC dI cA r_3 _ hw) (hP.sub [] rfl) ⟨(Nat.le_of_ble_eq_true rfl), (Nat.le_of_ble_eq_true rfl)⟩ rfl hl.1 rfl (Nat.le_of_ble_eq_true rfl) dX1_hasColoursEnough_26 ?_
        intro r_5 hw
        refine lv_aload_n hx hb dX1_hasColoursEnough_29 rfl (lv_at hl 0 rfl) ?_
        refine gz (q0 := 0) (v := .int (FN 2)) fx hK hP fl_X1_31 rfl rfl dX1_hasColoursEnough_30 ?_
        refine lv_icmp_lt (tgt := 38) hx hb dX1_hasColoursEnough_33 (by decide) (fun c_6 => ?_) (fun c_6 => ?_)
        · have hw := hw.1 c_6
          refine lv_iinc (v := (x1 + 1)) (lv' := [(1, .int (x1 + 1)), (0, .ref oN)]) hx hb dX1_hasColoursEnough_38 hl (k := 1) rfl rfl (by decide) rfl (fun ls hl => ?_)
          refine lv_goto (tgt := 2) hx hb dX1_hasColoursEnough_41 (by decide) ?_
          exact hk_2 ((x1 + 1)) hw _ (lv_sub hl [1, 0] rfl)
        · have hw := hw.2 c_6
          refine lv_iconst (v := (0 : Int32)) hx hb dX1_hasColoursEnough_36 (by decide) ?_
          exact hret _ _ _ dX1_hasColoursEnough_37 rfl hw
  refine lv_iconst (v := (0 : Int32)) hx hb dX1_hasColoursEnough_0 (by decide) ?_
  refine lv_istore_n (lv' := [(1, .int (0 : Int32)), (0, .ref oN)]) hx hb dX1_hasColoursEnough_1 rfl hl (by decide) rfl (fun ls hl => ?_)
  exact b_2 (0 : Int32) _ (lv_sub hl [1, 0] rfl) hw
set_option maxHeartbeats 4000000 in
set_option maxRecDepth 100000 in
theorem c_X1_copyFrom (l : Launch) (dC : Nat → ClassId) (dI : Nat → Nat → Nat) (cA : ClassId) (oD : Nat) (gD : Nat → Nat) (oN : Nat) (gN : Nat → Nat) (FD : Nat → Int32) (AD : Nat → Nat → Int32) (FN : Nat → Int32) (AN : Nat → Nat → Int32) (Post : (Nat → Int32) → (Nat → Nat → Int32) → Prop) (hw : wp_X1_copyFrom FD AD FN AN Post) : MuV (dC, dI) cA l yX1_copyFrom cX1_copyFrom 3 1 22 [.ref oN, .ref oD] ((nW oD gD cA FD AD) ++ (nW oN gN cA FN AN)) (fun (u : (Nat → Int32) × (Nat → Nat → Int32)) => Post (u.1) (u.2)) (fun u => ((nW oD gD cA FD AD) ++ (nW oN gN cA (u.1) (u.2)))) := by
  refine enMv (by decide) (Nat.le_of_ble_eq_true rfl) ?_
  intro p e s m args below meth c Q ls A fx hK hP hD hS hA hret hl
  obtain ⟨hx, hb, hml, hown, hts⟩ := id fx
  have hl : lv_has ls 3 [(0, .ref oN), (1, .ref oD)] := hl
  have hP : va_P (dC, dI) vwCl ((nW oD gD cA FD AD) ++ (nW oN gN cA FN AN)) s.heap := hP
  have b_50 : ∀ (FN : Nat → Int32) (AN : Nat → Nat → Int32) (x2 : Int32) (H : Heap) (locs : List Loc) (ls : Array Slot), va_P (dC, dI) vwCl ((nW oD gD cA FD AD) ++ (nW oN gN cA FN AN)) H → va_D A ((nW oD gD cA FD AD) ++ (nW oN gN cA FN AN)) → va_S A s.heap H locs → lv_has ls 3 [(0, .ref oN), (1, .ref oD), (2, .int x2)] → wp_X1_copyFrom_50 FD AD FN AN x2 Post → W p l e ({ frames := 1, cells := 0, slots := 0, locals := 22 } : Room) s m args below meth c H locs 0 0 Q (F0 m 50 ls []) := by
    intro FN AN x2 H locs ls hP hD hS hl hw
    refine Lp_go (C := fun (t : Int32 × (Nat → Int32) × (Nat → Nat → Int32)) => ∀ (H : Heap) (locs : List Loc) (ls : Array Slot), va_P (dC, dI) vwCl ((nW oD gD cA FD AD) ++ (nW oN gN cA (t.2.1) (t.2.2))) H → va_D A ((nW oD gD cA FD AD) ++ (nW oN gN cA (t.2.1) (t.2.2))) → va_S A s.heap H locs → lv_has ls 3 [(0, .ref oN), (1, .ref oD), (2, .int (t.1))] → W p l e ({ frames := 1, cells := 0, slots := 0, locals := 22 } : Room) s m args below meth c H locs 0 0 Q (F0 m 50 ls [])) ?_ hw H locs ls hP hD hS hl
    intro k_50 hk_50 t
    obtain ⟨x2, FN, AN⟩ := t
    intro hw H locs ls hP hD hS hl
    have hP : va_P (dC, dI) vwCl ((nW oD gD cA FD AD) ++ (nW oN gN cA FN AN)) H := hP
    have hD : va_D A ((nW oD gD cA FD AD) ++ (nW oN gN cA FN AN)) := hD
    have hl : lv_has ls 3 [(0, .ref oN), (1, .ref oD), (2, .int x2)] := hl
    have hw : st_X1_copyFrom_50 FD AD Post k_50 x2 FN AN := hw
    refine lv_iload_n hx hb dX1_copyFrom_50 rfl (lv_at hl 2 rfl) ?_
    refine lv_bipush (v := (6 : Int32)) hx hb dX1_copyFrom_51 (by decide) ?_
    refine lv_icmp_ge (tgt := 94) hx hb dX1_copyFrom_53 (by decide) (fun c_1 => ?_) (fun c_1 => ?_)
    · have hw := hw.1 c_1
      exact hret (FN, AN) _ _ _ _ dX1_copyFrom_94 hw hP hD hS
    · have hw := hw.2 c_1
      refine lv_aload_n hx hb dX1_copyFrom_56 rfl (lv_at hl 0 rfl) ?_
      refine gz (q0 := 3) (v := .ref (gN 6)) fx hK hP fl_X1_9 rfl rfl dX1_copyFrom_57 ?_
      refine lv_iload_n hx hb dX1_copyFrom_60 rfl (lv_at hl 2 rfl) ?_
      refine lv_aload_n hx hb dX1_copyFrom_61 rfl (lv_at hl 1 rfl) ?_
      refine gz (q0 := 0) (v := .ref (gD 6)) fx hK hP fl_X1_9 rfl rfl dX1_copyFrom_62 ?_
      refine lv_iload_n hx hb dX1_copyFrom_65 rfl (lv_at hl 2 rfl) ?_
      refine caRoS (rest := [.int x2, .ref (gN 6)]) (As := [.ref (gD 6), .int x2]) fx hK lk_X1_51 (c_at l (dC, dI) cA (gD 6) 6 (AD 6) x2 (by decide)) (hP.sub [1] rfl) ⟨(Nat.le_of_ble_eq_true rfl), (Nat.le_of_ble_eq_true rfl)⟩ rfl hl.1 rfl (Nat.le_of_ble_eq_true rfl) dX1_copyFrom_66 ?_
      intro r_2 e_3
      have hw := hw r_2 e_3
      refine caCell (rest := []) (As := [.ref (gN 6), .int x2, .int r_2]) fx hK lk_X1_18 (c_put l (dC, dI) cA (gN 6) 6 (AN 6) x2 r_2 (by decide)) hP hD hS hA 4 rfl ⟨(Nat.le_of_ble_eq_true rfl), (Nat.le_of_ble_eq_true rfl)⟩ rfl hl.1 rfl (Nat.le_of_ble_eq_true rfl) dX1_copyFrom_69 ?_
      intro g_4 H locs e_5 hP hD hS
      have hw := hw g_4 e_5
      have hP : va_P (dC, dI) vwCl ((nW oD gD cA FD AD) ++ (nW oN gN cA FN (uA AN 6 g_4))) H := hP
      have hD : va_D A ((nW oD gD cA FD AD) ++ (nW oN gN cA FN (uA AN 6 g_4))) := hD
      refine lv_aload_n hx hb dX1_copyFrom_72 rfl (lv_at hl 0 rfl) ?_
      refine gz (q0 := 3) (v := .ref (gN 7)) fx hK hP fl_X1_15 rfl rfl dX1_copyFrom_73 ?_
      refine lv_iload_n hx hb dX1_copyFrom_76 rfl (lv_at hl 2 rfl) ?_
      refine lv_aload_n hx hb dX1_copyFrom_77 rfl (lv_at hl 1 rfl) ?_
      refine gz (q0 := 0) (v := .ref (gD 7)) fx hK hP fl_X1_15 rfl rfl dX1_copyFrom_78 ?_
      refine lv_iload_n hx hb dX1_copyFrom_81 rfl (lv_at hl 2 rfl) ?_
      refine caRoS (rest := [.int x2, .ref (gN 7)]) (As := [.ref (gD 7), .int x2]) fx hK lk_X1_51 (c_at l (dC, dI) cA (gD 7) 6 (AD 7) x2 (by decide)) (hP.sub [2] rfl) ⟨(Nat.le_of_ble_eq_true rfl), (Nat.le_of_ble_eq_true rfl)⟩ rfl hl.1 rfl (Nat.le_of_ble_eq_true rfl) dX1_copyFrom_82 ?_
      intro r_6 e_7
      have hw := hw r_6 e_7
      refine caCell (rest := []) (As := [.ref (gN 7), .int x2, .int r_6]) fx hK lk_X1_18 (c_put l (dC, dI) cA (gN 7) 6 (AN 7) x2 r_6 (by decide)) hP hD hS hA 5 rfl ⟨(Nat.le_of_ble_eq_true rfl), (Nat.le_of_ble_eq_true rfl)⟩ rfl hl.1 rfl (Nat.le_of_ble_eq_true rfl) dX1_copyFrom_85 ?_
      intro g_8 H locs e_9 hP hD hS
      have hw := hw g_8 e_9
      have hP : va_P (dC, dI) vwCl ((nW oD gD cA FD AD) ++ (nW oN gN cA FN (uA (uA AN 6 g_4) 7 g_8))) H := hP
      have hD : va_D A ((nW oD gD cA FD AD) ++ (nW oN gN cA FN (uA (uA AN 6 g_4) 7 g_8))) := hD
      refine lv_iinc (v := (x2 + 1)) (lv' := [(2, .int (x2 + 1)), (0, .ref oN), (1, .ref oD)]) hx hb dX1_copyFrom_88 hl (k := 2) rfl rfl (by decide) rfl (fun ls hl => ?_)
      refine lv_goto (tgt := 50) hx hb dX1_copyFrom_91 (by decide) ?_
      exact hk_50 ((x2 + 1), FN, (uA (uA AN 6 g_4) 7 g_8)) hw _ _ _ hP hD hS (lv_sub hl [1, 2, 0] rfl)
  refine lv_aload_n hx hb dX1_copyFrom_0 rfl (lv_at hl 0 rfl) ?_
  refine lv_aload_n hx hb dX1_copyFrom_1 rfl (lv_at hl 1 rfl) ?_
  refine gz (q0 := 0) (v := .int (FD 0)) fx hK hP fl_X1_24 rfl rfl dX1_copyFrom_2 ?_
  refine pz (q0 := 3) (v := .int (FD 0)) fx hK hP hD hS fp_X1_24 rfl rfl rfl (Nat.le_of_ble_eq_true rfl) dX1_copyFrom_5 (fun H locs hP hD hS => ?_)
  have hP : va_P (dC, dI) vwCl ((nW oD gD cA FD AD) ++ (nW oN gN cA (uF FN 0 (FD 0)) AN)) H := hP
  have hD : va_D A ((nW oD gD cA FD AD) ++ (nW oN gN cA (uF FN 0 (FD 0)) AN)) := hD
  refine lv_aload_n hx hb dX1_copyFrom_8 rfl (lv_at hl 0 rfl) ?_
  refine lv_aload_n hx hb dX1_copyFrom_9 rfl (lv_at hl 1 rfl) ?_
  refine gz (q0 := 0) (v := .int (FD 1)) fx hK hP fl_X1_28 rfl rfl dX1_copyFrom_10 ?_
  refine pz (q0 := 3) (v := .int (FD 1)) fx hK hP hD hS fp_X1_28 rfl rfl rfl (Nat.le_of_ble_eq_true rfl) dX1_copyFrom_13 (fun H locs hP hD hS => ?_)
  have hP : va_P (dC, dI) vwCl ((nW oD gD cA FD AD) ++ (nW oN gN cA (uF (uF FN 0 (FD 0)) 1 (FD 1)) AN)) H := hP
  have hD : va_D A ((nW oD gD cA FD AD) ++ (nW oN gN cA (uF (uF FN 0 (FD 0)) 1 (FD 1)) AN)) := hD
  refine lv_aload_n hx hb dX1_copyFrom_16 rfl (lv_at hl 0 rfl) ?_
  refine lv_aload_n hx hb dX1_copyFrom_17 rfl (lv_at hl 1 rfl) ?_
  refine gz (q0 := 0) (v := .int (FD 2)) fx hK hP fl_X1_31 rfl rfl dX1_copyFrom_18 ?_
  refine pz (q0 := 3) (v := .int (FD 2)) fx hK hP hD hS fp_X1_31 rfl rfl rfl (Nat.le_of_ble_eq_true rfl) dX1_copyFrom_21 (fun H locs hP hD hS => ?_)
  have hP : va_P (dC, dI) vwCl ((nW oD gD cA FD AD) ++ (nW oN gN cA (uF (uF (uF FN 0 (FD 0)) 1 (FD 1)) 2 (FD 2)) AN)) H := hP
  have hD : va_D A ((nW oD gD cA FD AD) ++ (nW oN gN cA (uF (uF (uF FN 0 (FD 0)) 1 (FD 1)) 2 (FD 2)) AN)) := hD
  refine lv_aload_n hx hb dX1_copyFrom_24 rfl (lv_at hl 0 rfl) ?_
  refine lv_aload_n hx hb dX1_copyFrom_25 rfl (lv_at hl 1 rfl) ?_
  refine gz (q0 := 0) (v := .int (FD 3)) fx hK hP fl_X1_34 rfl rfl dX1_copyFrom_26 ?_
  refine pz (q0 := 3) (v := .int (FD 3)) fx hK hP hD hS fp_X1_34 rfl rfl rfl (Nat.le_of_ble_eq_true rfl) dX1_copyFrom_29 (fun H locs hP hD hS => ?_)
  have hP : va_P (dC, dI) vwCl ((nW oD gD cA FD AD) ++ (nW oN gN cA (uF (uF (uF (uF FN 0 (FD 0)) 1 (FD 1)) 2 (FD 2)) 3 (FD 3)) AN)) H := hP
  have hD : va_D A ((nW oD gD cA FD AD) ++ (nW oN gN cA (uF (uF (uF (uF FN 0 (FD 0)) 1 (FD 1)) 2 (FD 2)) 3 (FD 3)) AN)) := hD
  refine lv_aload_n hx hb dX1_copyFrom_32 rfl (lv_at hl 0 rfl) ?_
  refine lv_aload_n hx hb dX1_copyFrom_33 rfl (lv_at hl 1 rfl) ?_
  refine gz (q0 := 0) (v := .int (FD 4)) fx hK hP fl_X1_37 rfl rfl dX1_copyFrom_34 ?_
  refine pz (q0 := 3) (v := .int (FD 4)) fx hK hP hD hS fp_X1_37 rfl rfl rfl (Nat.le_of_ble_eq_true rfl) dX1_copyFrom_37 (fun H locs hP hD hS => ?_)
  have hP : va_P (dC, dI) vwCl ((nW oD gD cA FD AD) ++ (nW oN gN cA (uF (uF (uF (uF (uF FN 0 (FD 0)) 1 (FD 1)) 2 (FD 2)) 3 (FD 3)) 4 (FD 4)) AN)) H := hP
  have hD : va_D A ((nW oD gD cA FD AD) ++ (nW oN gN cA (uF (uF (uF (uF (uF FN 0 (FD 0)) 1 (FD 1)) 2 (FD 2)) 3 (FD 3)) 4 (FD 4)) AN)) := hD
  refine lv_aload_n hx hb dX1_copyFrom_40 rfl (lv_at hl 0 rfl) ?_
  refine lv_aload_n hx hb dX1_copyFrom_41 rfl (lv_at hl 1 rfl) ?_
  refine gz (q0 := 0) (v := .int (FD 5)) fx hK hP fl_X1_40 rfl rfl dX1_copyFrom_42 ?_
  refine pz (q0 := 3) (v := .int (FD 5)) fx hK hP hD hS fp_X1_40 rfl rfl rfl (Nat.le_of_ble_eq_true rfl) dX1_copyFrom_45 (fun H locs hP hD hS => ?_)
  have hP : va_P (dC, dI) vwCl ((nW oD gD cA FD AD) ++ (nW oN gN cA (uF (uF (uF (uF (uF (uF FN 0 (FD 0)) 1 (FD 1)) 2 (FD 2)) 3 (FD 3)) 4 (FD 4)) 5 (FD 5)) AN)) H := hP
  have hD : va_D A ((nW oD gD cA FD AD) ++ (nW oN gN cA (uF (uF (uF (uF (uF (uF FN 0 (FD 0)) 1 (FD 1)) 2 (FD 2)) 3 (FD 3)) 4 (FD 4)) 5 (FD 5)) AN)) := hD
  refine lv_iconst (v := (0 : Int32)) hx hb dX1_copyFrom_48 (by decide) ?_
  refine lv_istore_n (lv' := [(2, .int (0 : Int32)), (0, .ref oN), (1, .ref oD)]) hx hb dX1_copyFrom_49 rfl hl (by decide) rfl (fun ls hl => ?_)
  exact b_50 (uF (uF (uF (uF (uF (uF FN 0 (FD 0)) 1 (FD 1)) 2 (FD 2)) 3 (FD 3)) 4 (FD 4)) 5 (FD 5)) AN (0 : Int32) _ _ _ hP hD hS (lv_sub hl [1, 2, 0] rfl) hw
set_option maxHeartbeats 4000000 in
set_option maxRecDepth 100000 in
theorem c_X2_clear (l : Launch) (dC : Nat → ClassId) (dI : Nat → Nat → Nat) (cA : ClassId) (oP : Nat) (gP : Nat → Nat) (FP : Nat → Int32) (AP : Nat → Nat → Int32) (Post : (Nat → Int32) → (Nat → Nat → Int32) → Prop) (hw : wp_X2_clear FP AP Post) : MuV (dC, dI) cA l yX2_clear cX2_clear 1 0 0 [.ref oP] (pW oP gP cA FP AP) (fun (u : (Nat → Int32) × (Nat → Nat → Int32)) => Post (u.1) (u.2)) (fun u => (pW oP gP cA (u.1) (u.2))) := by
  refine enMv (by decide) (Nat.le_of_ble_eq_true rfl) ?_
  intro p e s m args below meth c Q ls A fx hK hP hD hS hA hret hl
  obtain ⟨hx, hb, hml, hown, hts⟩ := id fx
  have hl : lv_has ls 1 [(0, .ref oP)] := hl
  have hP : va_P (dC, dI) vwCl (pW oP gP cA FP AP) s.heap := hP
  refine lv_aload_n hx hb dX2_clear_0 rfl (lv_at hl 0 rfl) ?_
  refine lv_iconst (v := (0 : Int32)) hx hb dX2_clear_1 (by decide) ?_
  refine pz (q0 := 0) (v := .int (0 : Int32)) fx hK hP hD hS fp_X2_18 rfl rfl rfl (Nat.le_of_ble_eq_true rfl) dX2_clear_2 (fun H locs hP hD hS => ?_)
  have hP : va_P (dC, dI) vwCl (pW oP gP cA (uF FP 2 (0 : Int32)) AP) H := hP
  have hD : va_D A (pW oP gP cA (uF FP 2 (0 : Int32)) AP) := hD
  exact hret ((uF FP 2 (0 : Int32)), AP) _ _ _ _ dX2_clear_5 hw hP hD hS
set_option maxHeartbeats 4000000 in
set_option maxRecDepth 100000 in
theorem c_X2_forgetOldest (l : Launch) (dC : Nat → ClassId) (dI : Nat → Nat → Nat) (cA : ClassId) (oP : Nat) (gP : Nat → Nat) (FP : Nat → Int32) (AP : Nat → Nat → Int32) (Post : (Nat → Int32) → (Nat → Nat → Int32) → Prop) (hw : wp_X2_forgetOldest FP AP Post) : MuV (dC, dI) cA l yX2_forgetOldest cX2_forgetOldest 2 1 22 [.ref oP] (pW oP gP cA FP AP) (fun (u : (Nat → Int32) × (Nat → Nat → Int32)) => Post (u.1) (u.2)) (fun u => (pW oP gP cA (u.1) (u.2))) := by
  refine enMv (by decide) (Nat.le_of_ble_eq_true rfl) ?_
  intro p e s m args below meth c Q ls A fx hK hP hD hS hA hret hl
  obtain ⟨hx, hb, hml, hown, hts⟩ := id fx
  have hl : lv_has ls 2 [(0, .ref oP)] := hl
  have hP : va_P (dC, dI) vwCl (pW oP gP cA FP AP) s.heap := hP
  have b_2 : ∀ (FP : Nat → Int32) (AP : Nat → Nat → Int32) (x1 : Int32) (H : Heap) (locs : List Loc) (ls : Array Slot), va_P (dC, dI) vwCl (pW oP gP cA FP AP) H → va_D A (pW oP gP cA FP AP) → va_S A s.heap H locs → lv_has ls 2 [(0, .ref oP), (1, .int x1)] → wp_X2_forgetOldest_2 FP AP x1 Post → W p l e ({ frames := 1, cells := 0, slots := 0, locals := 22 } : Room) s m args below meth c H locs 0 0 Q (F0 m 2 ls []) := by
    intro FP AP x1 H locs ls hP hD hS hl hw
    refine Lp_go (C := fun (t : Int32 × (Nat → Int32) × (Nat → Nat → Int32)) => ∀ (H : Heap) (locs : List Loc) (ls : Array Slot), va_P (dC, dI) vwCl (pW oP gP cA (t.2.1) (t.2.2)) H → va_D A (pW oP gP cA (t.2.1) (t.2.2)) → va_S A s.heap H locs → lv_has ls 2 [(0, .ref oP), (1, .int (t.1))] → W p l e ({ frames := 1, cells := 0, slots := 0, locals := 22 } : Room) s m args below meth c H locs 0 0 Q (F0 m 2 ls [])) ?_ hw H locs ls hP hD hS hl
    intro k_2 hk_2 t
    obtain ⟨x1, FP, AP⟩ := t
    intro hw H locs ls hP hD hS hl
    have hP : va_P (dC, dI) vwCl (pW oP gP cA FP AP) H := hP
    have hD : va_D A (pW oP gP cA FP AP) := hD
    have hl : lv_has ls 2 [(0, .ref oP), (1, .int x1)] := hl
    have hw : st_X2_forgetOldest_2 Post k_2 x1 FP AP := hw
    refine lv_iload_n hx hb dX2_forgetOldest_2 rfl (lv_at hl 1 rfl) ?_
    refine lv_aload_n hx hb dX2_forgetOldest_3 rfl (lv_at hl 0 rfl) ?_
    refine gz (q0 := 0) (v := .int (FP 2)) fx hK hP fl_X2_18 rfl rfl dX2_forgetOldest_4 ?_
    refine lv_icmp_ge (tgt := 52) hx hb dX2_forgetOldest_7 (by decide) (fun c_1 => ?_) (fun c_1 => ?_)
    · have hw := hw.1 c_1
      refine lv_aload_n hx hb dX2_forgetOldest_52 rfl (lv_at hl 0 rfl) ?_
      refine lv_dup hx hb dX2_forgetOldest_53 rfl ?_
      refine gz (q0 := 0) (v := .int (FP 2)) fx hK hP fl_X2_18 rfl rfl dX2_forgetOldest_54 ?_
      refine lv_iconst (v := (1 : Int32)) hx hb dX2_forgetOldest_57 (by decide) ?_
      refine lv_isub hx hb dX2_forgetOldest_58 ?_
      refine pz (q0 := 0) (v := .int ((FP 2) - (1 : Int32))) fx hK hP hD hS fp_X2_18 rfl rfl rfl (Nat.le_of_ble_eq_true rfl) dX2_forgetOldest_59 (fun H locs hP hD hS => ?_)
      have hP : va_P (dC, dI) vwCl (pW oP gP cA (uF FP 2 ((FP 2) - (1 : Int32))) AP) H := hP
      have hD : va_D A (pW oP gP cA (uF FP 2 ((FP 2) - (1 : Int32))) AP) := hD
      exact hret ((uF FP 2 ((FP 2) - (1 : Int32))), AP) _ _ _ _ dX2_forgetOldest_62 hw hP hD hS
    · have hw := hw.2 c_1
      refine lv_aload_n hx hb dX2_forgetOldest_10 rfl (lv_at hl 0 rfl) ?_
      refine gz (q0 := 0) (v := .ref (gP 0)) fx hK hP fl_X2_9 rfl rfl dX2_forgetOldest_11 ?_
      refine lv_iload_n hx hb dX2_forgetOldest_14 rfl (lv_at hl 1 rfl) ?_
      refine lv_iconst (v := (1 : Int32)) hx hb dX2_forgetOldest_15 (by decide) ?_
      refine lv_isub hx hb dX2_forgetOldest_16 ?_
      refine lv_aload_n hx hb dX2_forgetOldest_17 rfl (lv_at hl 0 rfl) ?_
      refine gz (q0 := 0) (v := .ref (gP 0)) fx hK hP fl_X2_9 rfl rfl dX2_forgetOldest_18 ?_
      refine lv_iload_n hx hb dX2_forgetOldest_21 rfl (lv_at hl 1 rfl) ?_
      refine caRoS (rest := [.int (x1 - (1 : Int32)), .ref (gP 0)]) (As := [.ref (gP 0), .int x1]) fx hK lk_X2_31 (c_at l (dC, dI) cA (gP 0) 6 (AP 0) x1 (by decide)) (hP.sub [1] rfl) ⟨(Nat.le_of_ble_eq_true rfl), (Nat.le_of_ble_eq_true rfl)⟩ rfl hl.1 rfl (Nat.le_of_ble_eq_true rfl) dX2_forgetOldest_22 ?_
      intro r_2 e_3
      have hw := hw r_2 e_3
      refine caCell (rest := []) (As := [.ref (gP 0), .int (x1 - (1 : Int32)), .int r_2]) fx hK lk_X2_25 (c_put l (dC, dI) cA (gP 0) 6 (AP 0) (x1 - (1 : Int32)) r_2 (by decide)) hP hD hS hA 1 rfl ⟨(Nat.le_of_ble_eq_true rfl), (Nat.le_of_ble_eq_true rfl)⟩ rfl hl.1 rfl (Nat.le_of_ble_eq_true rfl) dX2_forgetOldest_25 ?_
      intro g_4 H locs e_5 hP hD hS
      have hw := hw g_4 e_5
      have hP : va_P (dC, dI) vwCl (pW oP gP cA FP (uA AP 0 g_4)) H := hP
      have hD : va_D A (pW oP gP cA FP (uA AP 0 g_4)) := hD
      refine lv_aload_n hx hb dX2_forgetOldest_28 rfl (lv_at hl 0 rfl) ?_
      refine gz (q0 := 0) (v := .ref (gP 1)) fx hK hP fl_X2_15 rfl rfl dX2_forgetOldest_29 ?_
      refine lv_iload_n hx hb dX2_forgetOldest_32 rfl (lv_at hl 1 rfl) ?_
      refine lv_iconst (v := (1 : Int32)) hx hb dX2_forgetOldest_33 (by decide) ?_
      refine lv_isub hx hb dX2_forgetOldest_34 ?_
      refine lv_aload_n hx hb dX2_forgetOldest_35 rfl (lv_at hl 0 rfl) ?_
      refine gz (q0 := 0) (v := .ref (gP 1)) fx hK hP fl_X2_15 rfl rfl dX2_forgetOldest_36 ?_
      refine lv_iload_n hx hb dX2_forgetOldest_39 rfl (lv_at hl 1 rfl) ?_
      refine caRoS (rest := [.int (x1 - (1 : Int32)), .ref (gP 1)]) (As := [.ref (gP 1), .int x1]) fx hK lk_X2_31 (c_at l (dC, dI) cA (gP 1) 6 (AP 1) x1 (by decide)) (hP.sub [2] rfl) ⟨(Nat.le_of_ble_eq_true rfl), (Nat.le_of_ble_eq_true rfl)⟩ rfl hl.1 rfl (Nat.le_of_ble_eq_true rfl) dX2_forgetOldest_40 ?_
      intro r_6 e_7
      have hw := hw r_6 e_7
      refine caCell (rest := []) (As := [.ref (gP 1), .int (x1 - (1 : Int32)), .int r_6]) fx hK lk_X2_25 (c_put l (dC, dI) cA (gP 1) 6 (AP 1) (x1 - (1 : Int32)) r_6 (by decide)) hP hD hS hA 2 rfl ⟨(Nat.le_of_ble_eq_true rfl), (Nat.le_of_ble_eq_true rfl)⟩ rfl hl.1 rfl (Nat.le_of_ble_eq_true rfl) dX2_forgetOldest_43 ?_
      intro g_8 H locs e_9 hP hD hS
      have hw := hw g_8 e_9
      have hP : va_P (dC, dI) vwCl (pW oP gP cA FP (uA (uA AP 0 g_4) 1 g_8)) H := hP
      have hD : va_D A (pW oP gP cA FP (uA (uA AP 0 g_4) 1 g_8)) := hD
      refine lv_iinc (v := (x1 + 1)) (lv' := [(1, .int (x1 + 1)), (0, .ref oP)]) hx hb dX2_forgetOldest_46 hl (k := 1) rfl rfl (by decide) rfl (fun ls hl => ?_)
      refine lv_goto (tgt := 2) hx hb dX2_forgetOldest_49 (by decide) ?_
      exact hk_2 ((x1 + 1), FP, (uA (uA AP 0 g_4) 1 g_8)) hw _ _ _ hP hD hS (lv_sub hl [1, 0] rfl)
  refine lv_iconst (v := (1 : Int32)) hx hb dX2_forgetOldest_0 (by decide) ?_
  refine lv_istore_n (lv' := [(1, .int (1 : Int32)), (0, .ref oP)]) hx hb dX2_forgetOldest_1 rfl hl (by decide) rfl (fun ls hl => ?_)
  exact b_2 FP AP (1 : Int32) _ _ _ hP hD hS (lv_sub hl [1, 0] rfl) hw
set_option maxHeartbeats 4000000 in
set_option maxRecDepth 100000 in
theorem c_X2_keep (l : Launch) (dC : Nat → ClassId) (dI : Nat → Nat → Nat) (cA : ClassId) (oP : Nat) (gP : Nat → Nat) (FP : Nat → Int32) (AP : Nat → Nat → Int32) (x1 : Int32) (x2 : Int32) (Post : (Nat → Int32) → (Nat → Nat → Int32) → Prop) (hw : wp_X2_keep FP AP x1 x2 Post) : MuV (dC, dI) cA l yX2_keep cX2_keep 3 2 43 [.ref oP, .int x1, .int x2] (pW oP gP cA FP AP) (fun (u : (Nat → Int32) × (Nat → Nat → Int32)) => Post (u.1) (u.2)) (fun u => (pW oP gP cA (u.1) (u.2))) := by
  refine enMv (by decide) (Nat.le_of_ble_eq_true rfl) ?_
  intro p e s m args below meth c Q ls A fx hK hP hD hS hA hret hl
  obtain ⟨hx, hb, hml, hown, hts⟩ := id fx
  have hl : lv_has ls 3 [(0, .ref oP), (1, .int x1), (2, .int x2)] := hl
  have hP : va_P (dC, dI) vwCl (pW oP gP cA FP AP) s.heap := hP
  have b_13 : ∀ (FP : Nat → Int32) (AP : Nat → Nat → Int32) (H : Heap) (locs : List Loc) (ls : Array Slot), va_P (dC, dI) vwCl (pW oP gP cA FP AP) H → va_D A (pW oP gP cA FP AP) → va_S A s.heap H locs → lv_has ls 3 [(0, .ref oP), (1, .int x1), (2, .int x2)] → wp_X2_keep_13 FP AP x1 x2 Post → W p l e ({ frames := 2, cells := 0, slots := 0, locals := 43 } : Room) s m args below meth c H locs 0 0 Q (F0 m 13 ls []) := by
    intro FP AP H locs ls hP hD hS hl hw
    refine lv_aload_n hx hb dX2_keep_13 rfl (lv_at hl 0 rfl) ?_
    refine gz (q0 := 0) (v := .ref (gP 0)) fx hK hP fl_X2_9 rfl rfl dX2_keep_14 ?_
    refine lv_aload_n hx hb dX2_keep_17 rfl (lv_at hl 0 rfl) ?_
    refine gz (q0 := 0) (v := .int (FP 2)) fx hK hP fl_X2_18 rfl rfl dX2_keep_18 ?_
    refine lv_iload_n hx hb dX2_keep_21 rfl (lv_at hl 1 rfl) ?_
    refine caCell (rest := []) (As := [.ref (gP 0), .int (FP 2), .int x1]) fx hK lk_X2_25 (c_put l (dC, dI) cA (gP 0) 6 (AP 0) (FP 2) x1 (by decide)) hP hD hS hA 1 rfl ⟨(Nat.le_of_ble_eq_true rfl), (Nat.le_of_ble_eq_true rfl)⟩ rfl hl.1 rfl (Nat.le_of_ble_eq_true rfl) dX2_keep_22 ?_
    intro g_5 H locs e_6 hP hD hS
    have hw := hw g_5 e_6
    have hP : va_P (dC, dI) vwCl (pW oP gP cA FP (uA AP 0 g_5)) H := hP
    have hD : va_D A (pW oP gP cA FP (uA AP 0 g_5)) := hD
    refine lv_aload_n hx hb dX2_keep_25 rfl (lv_at hl 0 rfl) ?_
    refine gz (q0 := 0) (v := .ref (gP 1)) fx hK hP fl_X2_15 rfl rfl dX2_keep_26 ?_
    refine lv_aload_n hx hb dX2_keep_29 rfl (lv_at hl 0 rfl) ?_
    refine gz (q0 := 0) (v := .int (FP 2)) fx hK hP fl_X2_18 rfl rfl dX2_keep_30 ?_
    refine lv_iload_n hx hb dX2_keep_33 rfl (lv_at hl 2 rfl) ?_
    refine caCell (rest := []) (As := [.ref (gP 1), .int (FP 2), .int x2]) fx hK lk_X2_25 (c_put l (dC, dI) cA (gP 1) 6 (AP 1) (FP 2) x2 (by decide)) hP hD hS hA 2 rfl ⟨(Nat.le_of_ble_eq_true rfl), (Nat.le_of_ble_eq_true rfl)⟩ rfl hl.1 rfl (Nat.le_of_ble_eq_true rfl) dX2_keep_34 ?_
    intro g_7 H locs e_8 hP hD hS
    have hw := hw g_7 e_8
    have hP : va_P (dC, dI) vwCl (pW oP gP cA FP (uA (uA AP 0 g_5) 1 g_7)) H := hP
    have hD : va_D A (pW oP gP cA FP (uA (uA AP 0 g_5) 1 g_7)) := hD
    refine lv_aload_n hx hb dX2_keep_37 rfl (lv_at hl 0 rfl) ?_
    refine lv_dup hx hb dX2_keep_38 rfl ?_
    refine gz (q0 := 0) (v := .int (FP 2)) fx hK hP fl_X2_18 rfl rfl dX2_keep_39 ?_
    refine lv_iconst (v := (1 : Int32)) hx hb dX2_keep_42 (by decide) ?_
    refine lv_iadd hx hb dX2_keep_43 ?_
    refine pz (q0 := 0) (v := .int ((FP 2) + (1 : Int32))) fx hK hP hD hS fp_X2_18 rfl rfl rfl (Nat.le_of_ble_eq_true rfl) dX2_keep_44 (fun H locs hP hD hS => ?_)
    have hP : va_P (dC, dI) vwCl (pW oP gP cA (uF FP 2 ((FP 2) + (1 : Int32))) (uA (uA AP 0 g_5) 1 g_7)) H := hP
    have hD : va_D A (pW oP gP cA (uF FP 2 ((FP 2) + (1 : Int32))) (uA (uA AP 0 g_5) 1 g_7)) := hD
    exact hret ((uF FP 2 ((FP 2) + (1 : Int32))), (uA (uA AP 0 g_5) 1 g_7)) _ _ _ _ dX2_keep_47 hw hP hD hS
  refine lv_aload_n hx hb dX2_keep_0 rfl (lv_at hl 0 rfl) ?_
  refine gz (q0 := 0) (v := .int (FP 2)) fx hK hP fl_X2_18 rfl rfl dX2_keep_1 ?_
  refine lv_bipush (v := (6 : Int32)) hx hb dX2_keep_4 (by decide) ?_
  refine lv_icmp_lt (tgt := 13) hx hb dX2_keep_6 (by decide) (fun c_9 => ?_) (fun c_9 => ?_)
  · have hw := hw.1 c_9
    exact b_13 FP AP _ _ _ hP hD hS (lv_sub hl [0, 1, 2] rfl) hw
  · have hw := hw.2 c_9
    refine lv_aload_n hx hb dX2_keep_9 rfl (lv_at hl 0 rfl) ?_
    refine caMuVv (rest := []) (As := []) (w1 := ([] : va_W)) (w2 := ([] : va_W)) fx hK lk_X2_22 (c_X2_forgetOldest l dC dI cA oP gP FP AP _ hw) hP hD hS hA 0 rfl rfl ⟨(Nat.le_of_ble_eq_true rfl), (Nat.le_of_ble_eq_true rfl)⟩ rfl hl.1 rfl (Nat.le_of_ble_eq_true rfl) dX2_keep_10 ?_
    intro u_12 H locs hw hP hD hS
    obtain ⟨FP_10, AP_11⟩ := u_12
    have hP : va_P (dC, dI) vwCl (pW oP gP cA FP_10 AP_11) H := hP
    have hD : va_D A (pW oP gP cA FP_10 AP_11) := hD
    try dsimp only at hw
    exact b_13 FP_10 AP_11 _ _ _ hP hD hS (lv_sub hl [0, 1, 2] rfl) hw
set_option maxHeartbeats 4000000 in
set_option maxRecDepth 100000 in
theorem c_X1_hasState (l : Launch) (dC : Nat → ClassId) (dI : Nat → Nat → Nat) (cA : ClassId) (oN : Nat) (gN : Nat → Nat) (FN : Nat → Int32) (AN : Nat → Nat → Int32) (x1 : Int32) (Post : Int32 → Prop) (hw : wp_X1_hasState FN AN x1 Post) : RoI (dC, dI) cA l yX1_hasState cX1_hasState 2 .boolean 0 0 [.ref oN, .int x1] (nW oN gN cA FN AN) Post := by
  refine enRo (by decide) (Nat.le_of_ble_eq_true rfl) ?_
  intro p e s m args below meth c Q ls fx hK hP hret hl
  obtain ⟨hx, hb, hml, hown, hts⟩ := id fx
  have hl : lv_has ls 2 [(0, .ref oN), (1, .int x1)] := hl
  refine lv_iload_n hx hb dX1_hasState_0 rfl (lv_at hl 1 rfl) ?_
  refine lv_if_lt (tgt := 16) hx hb dX1_hasState_1 (by decide) (fun c_3 => ?_) (fun c_3 => ?_)
  · have hw := hw.1 c_3
    refine lv_iconst (v := (0 : Int32)) hx hb dX1_hasState_16 (by decide) ?_
    exact hret _ _ _ dX1_hasState_17 rfl hw
  · have hw := hw.2 c_3
    refine lv_iload_n hx hb dX1_hasState_4 rfl (lv_at hl 1 rfl) ?_
    refine lv_aload_n hx hb dX1_hasState_5 rfl (lv_at hl 0 rfl) ?_
    refine gz (q0 := 0) (v := .int (FN 3)) fx hK hP fl_X1_34 rfl rfl dX1_hasState_6 ?_
    refine lv_icmp_ge (tgt := 16) hx hb dX1_hasState_9 (by decide) (fun c_4 => ?_) (fun c_4 => ?_)
    · have hw := hw.1 c_4
      refine lv_iconst (v := (0 : Int32)) hx hb dX1_hasState_16 (by decide) ?_
      exact hret _ _ _ dX1_hasState_17 rfl hw
    · have hw := hw.2 c_4
      refine lv_iconst (v := (1 : Int32)) hx hb dX1_hasState_12 (by decide) ?_
      refine lv_goto (tgt := 17) hx hb dX1_hasState_13 (by decide) ?_
      exact hret _ _ _ dX1_hasState_17 rfl hw
set_option maxHeartbeats 4000000 in
set_option maxRecDepth 100000 in
theorem c_X1_aheadOf (l : Launch) (dC : Nat → ClassId) (dI : Nat → Nat → Nat) (cA : ClassId) (oN : Nat) (gN : Nat → Nat) (FN : Nat → Int32) (AN : Nat → Nat → Int32) (x1 : Int32) (Post : Int32 → Prop) (hw : wp_X1_aheadOf FN AN x1 Post) : RoI (dC, dI) cA l yX1_aheadOf cX1_aheadOf 2 .int 0 0 [.ref oN, .int x1] (nW oN gN cA FN AN) Post := by
  refine enRo (by decide) (Nat.le_of_ble_eq_true rfl) ?_
  intro p e s m args below meth c Q ls fx hK hP hret hl
  obtain ⟨hx, hb, hml, hown, hts⟩ := id fx
  have hl : lv_has ls 2 [(0, .ref oN), (1, .int x1)] := hl
  refine lv_iload_n hx hb dX1_aheadOf_0 rfl (lv_at hl 1 rfl) ?_
  refine lv_if_ne (tgt := 13) hx hb dX1_aheadOf_1 (by decide) (fun c_2 => ?_) (fun c_2 => ?_)
  · have hw := hw.1 c_2
    refine lv_iload_n hx hb dX1_aheadOf_13 rfl (lv_at hl 1 rfl) ?_
    refine lv_iconst (v := (1 : Int32)) hx hb dX1_aheadOf_14 (by decide) ?_
    refine lv_isub hx hb dX1_aheadOf_15 ?_
    exact hret _ _ _ dX1_aheadOf_16 rfl hw
  · have hw := hw.2 c_2
    refine lv_aload_n hx hb dX1_aheadOf_4 rfl (lv_at hl 0 rfl) ?_
    refine gz (q0 := 0) (v := .int (FN 1)) fx hK hP fl_X1_28 rfl rfl dX1_aheadOf_5 ?_
    refine lv_iconst (v := (1 : Int32)) hx hb dX1_aheadOf_8 (by decide) ?_
    refine lv_isub hx hb dX1_aheadOf_9 ?_
    refine lv_goto (tgt := 16) hx hb dX1_aheadOf_10 (by decide) ?_
    exact hret _ _ _ dX1_aheadOf_16 rfl hw
set_option maxHeartbeats 4000000 in
set_option maxRecDepth 100000 in
theorem c_X1_sees (l : Launch) (dC : Nat → ClassId) (dI : Nat → Nat → Nat) (cA : ClassId) (oN : Nat) (gN : Nat → Nat) (FN : Nat → Int32) (AN : Nat → Nat → Int32) (x1 : Int32) (x2 : Int32) (Post : Int32 → Prop) (hw : wp_X1_sees FN AN x1 x2 Post) : RoI (dC, dI) cA l yX1_sees cX1_sees 3 .boolean 1 22 [.ref oN, .int x1, .int x2] (nW oN gN cA FN AN) Post := by
  refine enRo (by decide) (Nat.le_of_ble_eq_true rfl) ?_
  intro p e s m args below meth c Q ls fx hK hP hret hl
  obtain ⟨hx, hb, hml, hown, hts⟩ := id fx
  have hl : lv_has ls 3 [(0, .ref oN), (1, .int x1), (2, .int x2)] := hl
  refine lv_aload_n hx hb dX1_sees_0 rfl (lv_at hl 0 rfl) ?_
  refine gz (q0 := 0) (v := .int (FN 0)) fx hK hP fl_X1_24 rfl rfl dX1_sees_1 ?_
  refine lv_iconst (v := (1 : Int32)) hx hb dX1_sees_4 (by decide) ?_
  refine lv_icmp_ne (tgt := 25) hx hb dX1_sees_5 (by decide) (fun c_5 => ?_) (fun c_5 => ?_)
  · have hw := hw.1 c_5
    refine lv_aload_n hx hb dX1_sees_25 rfl (lv_at hl 0 rfl) ?_
    refine lv_iload_n hx hb dX1_sees_26 rfl (lv_at hl 1 rfl) ?_
    refine lv_iload_n hx hb dX1_sees_27 rfl (lv_at hl 2 rfl) ?_
    refine caRoV (rest := []) (As := [.int x1, .int x2]) fx hK lk_X1_47 (c_X1_isLinked l dC dI cA oN gN FN AN x1 x2 _ hw) (hP.sub [0, 1, 2] rfl) 0 rfl rfl ⟨(Nat.le_of_ble_eq_true rfl), (Nat.le_of_ble_eq_true rfl)⟩ rfl hl.1 rfl (Nat.le_of_ble_eq_true rfl) dX1_sees_28 ?_
    intro r_6 hw
    obtain ⟨hz, hw⟩ := hw
    exact hret _ _ _ dX1_sees_31 hz hw
  · have hw := hw.2 c_5
    refine lv_aload_n hx hb dX1_sees_8 rfl (lv_at hl 0 rfl) ?_
    refine lv_iload_n hx hb dX1_sees_9 rfl (lv_at hl 1 rfl) ?_
    refine caRoV (rest := []) (As := [.int x1]) fx hK lk_X1_72 (c_X1_aheadOf l dC dI cA oN gN FN AN x1 _ hw) (hP.sub [0, 1, 2] rfl) 0 rfl rfl ⟨(Nat.le_of_ble_eq_true rfl), (Nat.le_of_ble_eq_true rfl)⟩ rfl hl.1 rfl (Nat.le_of_ble_eq_true rfl) dX1_sees_10 ?_
    intro r_7 hw
    refine lv_iload_n hx hb dX1_sees_13 rfl (lv_at hl 2 rfl) ?_
    refine lv_icmp_ne (tgt := 21) hx hb dX1_sees_14 (by decide) (fun c_8 => ?_) (fun c_8 => ?_)
    · have hw := hw.1 c_8
      refine lv_iconst (v := (0 : Int32)) hx hb dX1_sees_21 (by decide) ?_
      refine lv_goto (tgt := 31) hx hb dX1_sees_22 (by decide) ?_
      exact hret _ _ _ dX1_sees_31 rfl hw
    · have hw := hw.2 c_8
      refine lv_iconst (v := (1 : Int32)) hx hb dX1_sees_17 (by decide) ?_
      refine lv_goto (tgt := 31) hx hb dX1_sees_18 (by decide) ?_
      exact hret _ _ _ dX1_sees_31 rfl hw
set_option maxHeartbeats 4000000 in
set_option maxRecDepth 100000 in
theorem c_X0_has (l : Launch) (dC : Nat → ClassId) (dI : Nat → Nat → Nat) (cA : ClassId) (x0 : Int32) (x1 : Int32) (Post : Int32 → Prop) (hw : wp_X0_has x0 x1 Post) : RoI (dC, dI) cA l yX0_has cX0_has 2 .boolean 0 0 [.int x0, .int x1] ([] : va_W) Post := by
  refine enRo (by decide) (Nat.le_of_ble_eq_true rfl) ?_
  intro p e s m args below meth c Q ls fx hK hP hret hl
  obtain ⟨hx, hb, hml, hown, hts⟩ := id fx
  have hl : lv_has ls 2 [(0, .int x0), (1, .int x1)] := hl
  refine lv_iload_n hx hb dX0_has_0 rfl (lv_at hl 0 rfl) ?_
  refine lv_iload_n hx hb dX0_has_1 rfl (lv_at hl 1 rfl) ?_
  refine lv_ishr hx hb dX0_has_2 ?_
  refine lv_iconst (v := (1 : Int32)) hx hb dX0_has_3 (by decide) ?_
  refine lv_iand hx hb dX0_has_4 ?_
  refine lv_iconst (v := (1 : Int32)) hx hb dX0_has_5 (by decide) ?_
  refine lv_icmp_ne (tgt := 13) hx hb dX0_has_6 (by decide) (fun c_2 => ?_) (fun c_2 => ?_)
  · have hw := hw.1 c_2
    refine lv_iconst (v := (0 : Int32)) hx hb dX0_has_13 (by decide) ?_
    exact hret _ _ _ dX0_has_14 rfl hw
  · have hw := hw.2 c_2
    refine lv_iconst (v := (1 : Int32)) hx hb dX0_has_9 (by decide) ?_
    refine lv_goto (tgt := 14) hx hb dX0_has_10 (by decide) ?_
    exact hret _ _ _ dX0_has_14 rfl hw
set_option maxHeartbeats 4000000 in
set_option maxRecDepth 100000 in
theorem c_X0_lowest (l : Launch) (dC : Nat → ClassId) (dI : Nat → Nat → Nat) (cA : ClassId) (x0 : Int32) (Post : Int32 → Prop) (hw : wp_X0_lowest x0 Post) : RoI (dC, dI) cA l yX0_lowest cX0_lowest 1 .int 0 0 [.int x0] ([] : va_W) Post := by
  refine enRo (by decide) (Nat.le_of_ble_eq_true rfl) ?_
  intro p e s m args below meth c Q ls fx hK hP hret hl
  obtain ⟨hx, hb, hml, hown, hts⟩ := id fx
  have hl : lv_has ls 1 [(0, .int x0)] := hl
  refine lv_iload_n hx hb dX0_lowest_0 rfl (lv_at hl 0 rfl) ?_
  refine lv_iload_n hx hb dX0_lowest_1 rfl (lv_at hl 0 rfl) ?_
  refine lv_ineg hx hb dX0_lowest_2 ?_
  refine lv_iand hx hb dX0_lowest_3 ?_
  exact hret _ _ _ dX0_lowest_4 rfl hw
set_option maxHeartbeats 4000000 in
set_option maxRecDepth 100000 in
theorem c_X0_indexOf (l : Launch) (dC : Nat → ClassId) (dI : Nat → Nat → Nat) (cA : ClassId) (x0 : Int32) (Post : Int32 → Prop) (hw : wp_X0_indexOf x0 Post) : RoI (dC, dI) cA l yX0_indexOf cX0_indexOf 1 .int 1 20 [.int x0] ([] : va_W) Post := by
  refine enRo (by decide) (Nat.le_of_ble_eq_true rfl) ?_
  intro p e s m args below meth c Q ls fx hK hP hret hl
  obtain ⟨hx, hb, hml, hown, hts⟩ := id fx
  have hl : lv_has ls 1 [(0, .int x0)] := hl
  refine lv_iload_n hx hb dX0_indexOf_0 rfl (lv_at hl 0 rfl) ?_
  refine caRoS (rest := []) (As := [.int x0]) fx hK lk_X0_7 (c_X0_lowest l dC dI cA x0 _ hw) (hP.sub [] rfl) ⟨(Nat.le_of_ble_eq_true rfl), (Nat.le_of_ble_eq_true rfl)⟩ rfl hl.1 rfl (Nat.le_of_ble_eq_true rfl) dX0_indexOf_1 ?_
  intro r_3 hw
  refine lv_iconst (v := (1 : Int32)) hx hb dX0_indexOf_4 (by decide) ?_
  refine lv_isub hx hb dX0_indexOf_5 ?_
  refine caRoS (rest := []) (As := [.int (r_3 - (1 : Int32))]) fx hK lk_X0_13 (c_J6_bitCount_0f7a4 l dC dI cA (r_3 - (1 : Int32)) _ hw) (hP.sub [] rfl) ⟨(Nat.le_of_ble_eq_true rfl), (Nat.le_of_ble_eq_true rfl)⟩ rfl hl.1 rfl (Nat.le_of_ble_eq_true rfl) dX0_indexOf_6 ?_
  intro r_4 hw
  exact hret _ _ _ dX0_indexOf_9 rfl hw
set_option maxHeartbeats 4000000 in
set_option maxRecDepth 100000 in
theorem c_X1_colourWants (l : Launch) (dC : Nat → ClassId) (dI : Nat → Nat → Nat) (cA : ClassId) (oN : Nat) (gN : Nat → Nat) (FN : Nat → Int32) (AN : Nat → Nat → Int32) (x1 : Int32) (x2 : Int32) (Post : Int32 → Prop) (hw : wp_X1_colourWants FN AN x1 x2 Post) : RoI (dC, dI) cA l yX1_colourWants cX1_colourWants 5 .int 2 40 [.ref oN, .int x1, .int x2] (nW oN gN cA FN AN) Post := by
  refine enRo (by decide) (Nat.le_of_ble_eq_true rfl) ?_
  intro p e s m args below meth c Q ls fx hK hP hret hl
  obtain ⟨hx, hb, hml, hown, hts⟩ := id fx
  have hl : lv_has ls 5 [(0, .ref oN), (1, .int x1), (2, .int x2)] := hl
  have b_5 : ∀ (x3 : Int32) (x4 : Int32) (ls : Array Slot), lv_has ls 5 [(0, .ref oN), (1, .int x1), (2, .int x2), (3, .int x3), (4, .int x4)] → wp_X1_colourWants_5 FN AN x1 x2 x3 x4 Post → W p l e ({ frames := 2, cells := 0, slots := 0, locals := 40 } : Room) s m args below meth c s.heap [] 0 0 Q (F0 m 5 ls []) := by
    intro x3 x4 ls hl hw
    refine Lp_go (C := fun (t : Int32 × Int32) => ∀ (ls : Array Slot), lv_has ls 5 [(0, .ref oN), (1, .int x1), (2, .int x2), (3, .int (t.1)), (4, .int (t.2))] → W p l e ({ frames := 2, cells := 0, slots := 0, locals := 40 } : Room) s m args below meth c s.heap [] 0 0 Q (F0 m 5 ls [])) ?_ hw ls hl
    intro k_5 hk_5 t
    obtain ⟨x3, x4⟩ := t
    intro hw ls hl
    have hl : lv_has ls 5 [(0, .ref oN), (1, .int x1), (2, .int x2), (3, .int x3), (4, .int x4)] := hl
    have hw : st_X1_colourWants_5 FN AN x1 x2 Post k_5 x3 x4 := hw
    refine lv_iload hx hb dX1_colourWants_5 (lv_at hl 4 rfl) ?_
    refine lv_aload_n hx hb dX1_colourWants_7 rfl (lv_at hl 0 rfl) ?_
    refine gz (q0 := 0) (v := .int (FN 1)) fx hK hP fl_X1_28 rfl rfl dX1_colourWants_8 ?_
    refine lv_icmp_ge (tgt := 42) hx hb dX1_colourWants_11 (by decide) (fun c_1 => ?_) (fun c_1 => ?_)
    · have hw := hw.1 c_1
      refine lv_aload_n hx hb dX1_colourWants_42 rfl (lv_at hl 0 rfl) ?_
      refine lv_iload_n hx hb dX1_colourWants_43 rfl (lv_at hl 1 rfl) ?_
      refine lv_iload_n hx hb dX1_colourWants_44 rfl (lv_at hl 2 rfl) ?_
      refine caRoV (rest := []) (As := [.int x1, .int x2]) fx hK lk_X1_68 (c_X1_valueAt l dC dI cA oN gN FN AN x1 x2 _ hw) (hP.sub [0, 1, 2] rfl) 0 rfl rfl ⟨(Nat.le_of_ble_eq_true rfl), (Nat.le_of_ble_eq_true rfl)⟩ rfl hl.1 rfl (Nat.le_of_ble_eq_true rfl) dX1_colourWants_45 ?_
      intro r_2 hw
      refine lv_istore (lv' := [(4, .int r_2), (0, .ref oN), (1, .int x1), (2, .int x2), (3, .int x3)]) hx hb dX1_colourWants_48 hl (by decide) rfl (fun ls hl => ?_)
      refine lv_iload_n hx hb dX1_colourWants_50 rfl (lv_at hl 4 rfl) ?_
      refine lv_iload hx hb dX1_colourWants_51 (lv_at hl 0 rfl) ?_
      refine caRoS (rest := []) (As := [.int x3, .int r_2]) fx hK lk_X1_95 (c_X0_has l dC dI cA x3 r_2 _ hw) (hP.sub [] rfl) ⟨(Nat.le_of_ble_eq_true rfl), (Nat.le_of_ble_eq_true rfl)⟩ rfl hl.1 rfl (Nat.le_of_ble_eq_true rfl) dX1_colourWants_53 ?_
      intro r_3 hw
      refine lv_if_eq (tgt := 68) hx hb dX1_colourWants_56 (by decide) (fun c_4 => ?_) (fun c_4 => ?_)
      · have hw := hw.1 c_4
        refine lv_iload hx hb dX1_colourWants_68 (lv_at hl 0 rfl) ?_
        exact hret _ _ _ dX1_colourWants_70 rfl hw
      · have hw := hw.2 c_4
        refine lv_iload_n hx hb dX1_colourWants_59 rfl (lv_at hl 4 rfl) ?_
        refine lv_iconst (v := (-1 : Int32)) hx hb dX1_colourWants_60 (by decide) ?_
        refine lv_ixor hx hb dX1_colourWants_61 ?_
        refine caRoS (rest := []) (As := [.int (x3 ^^^ (-1 : Int32))]) fx hK lk_X1_100 (c_X0_indexOf l dC dI cA (x3 ^^^ (-1 : Int32)) _ hw) (hP.sub [] rfl) ⟨(Nat.le_of_ble_eq_true rfl), (Nat.le_of_ble_eq_true rfl)⟩ rfl hl.1 rfl (Nat.le_of_ble_eq_true rfl) dX1_colourWants_62 ?_
        intro r_5 hw
        refine lv_goto (tgt := 70) hx hb dX1_colourWants_65 (by decide) ?_
        exact hret _ _ _ dX1_colourWants_70 rfl hw
    · have hw := hw.2 c_1
      refine lv_aload_n hx hb dX1_colourWants_14 rfl (lv_at hl 0 rfl) ?_
      refine lv_iload_n hx hb dX1_colourWants_15 rfl (lv_at hl 2 rfl) ?_
      refine lv_iload hx hb dX1_colourWants_16 (lv_at hl 4 rfl) ?_
      refine caRoV (rest := []) (As := [.int x2, .int x4]) fx hK lk_X1_47 (c_X1_isLinked l dC dI cA oN gN FN AN x2 x4 _ hw) (hP.sub [0, 1, 2] rfl) 0 rfl rfl ⟨(Nat.le_of_ble_eq_true rfl), (Nat.le_of_ble_eq_true rfl)⟩ rfl hl.1 rfl (Nat.le_of_ble_eq_true rfl) dX1_colourWants_18 ?_
      intro r_6 hw
      refine lv_if_eq (tgt := 36) hx hb dX1_colourWants_21 (by decide) (fun c_7 => ?_) (fun c_7 => ?_)
      · have hw := hw.1 c_7
        refine lv_iinc (v := (x4 + 1)) (lv' := [(4, .int (x4 + 1)), (0, .ref oN), (1, .int x1), (2, .int x2), (3, .int x3)]) hx hb dX1_colourWants_36 hl (k := 4) rfl rfl (by decide) rfl (fun ls hl => ?_)
        refine lv_goto (tgt := 5) hx hb dX1_colourWants_39 (by decide) ?_
        exact hk_5 (x3, (x4 + 1)) hw _ (lv_sub hl [1, 2, 3, 4, 0] rfl)
      · have hw := hw.2 c_7
        refine lv_iload_n hx hb dX1_colourWants_24 rfl (lv_at hl 3 rfl) ?_
        refine lv_iconst (v := (1 : Int32)) hx hb dX1_colourWants_25 (by decide) ?_
        refine lv_aload_n hx hb dX1_colourWants_26 rfl (lv_at hl 0 rfl) ?_
        refine lv_iload_n hx hb dX1_colourWants_27 rfl (lv_at hl 1 rfl) ?_
        refine lv_iload hx hb dX1_colourWants_28 (lv_at hl 4 rfl) ?_
        refine caRoV (rest := [.int (1 : Int32), .int x3]) (As := [.int x1, .int x4]) fx hK lk_X1_68 (c_X1_valueAt l dC dI cA oN gN FN AN x1 x4 _ hw) (hP.sub [0, 1, 2] rfl) 0 rfl rfl ⟨(Nat.le_of_ble_eq_true rfl), (Nat.le_of_ble_eq_true rfl)⟩ rfl hl.1 rfl (Nat.le_of_ble_eq_true rfl) dX1_colourWants_30 ?_
        intro r_8 hw
        refine lv_ishl hx hb dX1_colourWants_33 ?_
        refine lv_ior hx hb dX1_colourWants_34 ?_
        refine lv_istore_n (lv' := [(3, .int (x3 ||| ((1 : Int32) <<< (r_8 &&& 31)))), (0, .ref oN), (1, .int x1), (2, .int x2), (4, .int x4)]) hx hb dX1_colourWants_35 rfl hl (by decide) rfl (fun ls hl => ?_)
        refine lv_iinc (v := (x4 + 1)) (lv' := [(4, .int (x4 + 1)), (3, .int (x3 ||| ((1 : Int32) <<< (r_8 &&& 31)))), (0, .ref oN), (1, .int x1), (2, .int x2)]) hx hb dX1_colourWants_36 hl (k := 4) rfl rfl (by decide) rfl (fun ls hl => ?_)
        refine lv_goto (tgt := 5) hx hb dX1_colourWants_39 (by decide) ?_
        exact hk_5 ((x3 ||| ((1 : Int32) <<< (r_8 &&& 31))), (x4 + 1)) hw _ (lv_sub hl [2, 3, 4, 1, 0] rfl)
  refine lv_iconst (v := (0 : Int32)) hx hb dX1_colourWants_0 (by decide) ?_
  refine lv_istore_n (lv' := [(3, .int (0 : Int32)), (0, .ref oN), (1, .int x1), (2, .int x2)]) hx hb dX1_colourWants_1 rfl hl (by decide) rfl (fun ls hl => ?_)
  refine lv_iconst (v := (0 : Int32)) hx hb dX1_colourWants_2 (by decide) ?_
  refine lv_istore (lv' := [(4, .int (0 : Int32)), (3, .int (0 : Int32)), (0, .ref oN), (1, .int x1), (2, .int x2)]) hx hb dX1_colourWants_3 hl (by decide) rfl (fun ls hl => ?_)
  exact b_5 (0 : Int32) (0 : Int32) _ (lv_sub hl [2, 3, 4, 1, 0] rfl) hw
set_option maxHeartbeats 4000000 in
set_option maxRecDepth 100000 in
theorem c_X1_distanceWants (l : Launch) (dC : Nat → ClassId) (dI : Nat → Nat → Nat) (cA : ClassId) (oN : Nat) (gN : Nat → Nat) (FN : Nat → Int32) (AN : Nat → Nat → Int32) (x1 : Int32) (x2 : Int32) (Post : Int32 → Prop) (hw : wp_X1_distanceWants FN AN x1 x2 Post) : RoI (dC, dI) cA l yX1_distanceWants cX1_distanceWants 5 .int 1 22 [.ref oN, .int x1, .int x2] (nW oN gN cA FN AN) Post := by
  refine enRo (by decide) (Nat.le_of_ble_eq_true rfl) ?_
  intro p e s m args below meth c Q ls fx hK hP hret hl
  obtain ⟨hx, hb, hml, hown, hts⟩ := id fx
  have hl : lv_has ls 5 [(0, .ref oN), (1, .int x1), (2, .int x2)] := hl
  have b_16 : ∀ (x3 : Int32) (x4 : Int32) (ls : Array Slot), lv_has ls 5 [(0, .ref oN), (1, .int x1), (2, .int x2), (3, .int x3), (4, .int x4)] → wp_X1_distanceWants_16 FN AN x1 x2 x3 x4 Post → W p l e ({ frames := 1, cells := 0, slots := 0, locals := 22 } : Room) s m args below meth c s.heap [] 0 0 Q (F0 m 16 ls []) := by
    intro x3 x4 ls hl hw
    refine Lp_go (C := fun (t : Int32 × Int32) => ∀ (ls : Array Slot), lv_has ls 5 [(0, .ref oN), (1, .int x1), (2, .int x2), (3, .int (t.1)), (4, .int (t.2))] → W p l e ({ frames := 1, cells := 0, slots := 0, locals := 22 } : Room) s m args below meth c s.heap [] 0 0 Q (F0 m 16 ls [])) ?_ hw ls hl
    intro k_16 hk_16 t
    obtain ⟨x3, x4⟩ := t
    intro hw ls hl
    have hl : lv_has ls 5 [(0, .ref oN), (1, .int x1), (2, .int x2), (3, .int x3), (4, .int x4)] := hl
    have hw : st_X1_distanceWants_16 FN AN x1 x2 Post k_16 x3 x4 := hw
    refine lv_iload hx hb dX1_distanceWants_16 (lv_at hl 4 rfl) ?_
    refine lv_aload_n hx hb dX1_distanceWants_18 rfl (lv_at hl 0 rfl) ?_
    refine gz (q0 := 0) (v := .int (FN 1)) fx hK hP fl_X1_28 rfl rfl dX1_distanceWants_19 ?_
    refine lv_icmp_ge (tgt := 55) hx hb dX1_distanceWants_22 (by decide) (fun c_2 => ?_) (fun c_2 => ?_)
    · have hw := hw.1 c_2
      refine lv_iload_n hx hb dX1_distanceWants_55 rfl (lv_at hl 3 rfl) ?_
      exact hret _ _ _ dX1_distanceWants_56 rfl hw
    · have hw := hw.2 c_2
      refine lv_aload_n hx hb dX1_distanceWants_25 rfl (lv_at hl 0 rfl) ?_
      refine lv_iload_n hx hb dX1_distanceWants_26 rfl (lv_at hl 2 rfl) ?_
      refine lv_iload hx hb dX1_distanceWants_27 (lv_at hl 4 rfl) ?_
      refine caRoV (rest := []) (As := [.int x2, .int x4]) fx hK lk_X1_47 (c_X1_isLinked l dC dI cA oN gN FN AN x2 x4 _ hw) (hP.sub [0, 1, 2] rfl) 0 rfl rfl ⟨(Nat.le_of_ble_eq_true rfl), (Nat.le_of_ble_eq_true rfl)⟩ rfl hl.1 rfl (Nat.le_of_ble_eq_true rfl) dX1_distanceWants_29 ?_
      intro r_3 hw
      refine lv_if_eq (tgt := 49) hx hb dX1_distanceWants_32 (by decide) (fun c_4 => ?_) (fun c_4 => ?_)
      · have hw := hw.1 c_4
        refine lv_iinc (v := (x4 + 1)) (lv' := [(4, .int (x4 + 1)), (0, .ref oN), (1, .int x1), (2, .int x2), (3, .int x3)]) hx hb dX1_distanceWants_49 hl (k := 4) rfl rfl (by decide) rfl (fun ls hl => ?_)
        refine lv_goto (tgt := 16) hx hb dX1_distanceWants_52 (by decide) ?_
        exact hk_16 (x3, (x4 + 1)) hw _ (lv_sub hl [1, 2, 3, 4, 0] rfl)
      · have hw := hw.2 c_4
        refine lv_iload_n hx hb dX1_distanceWants_35 rfl (lv_at hl 3 rfl) ?_
        refine lv_aload_n hx hb dX1_distanceWants_36 rfl (lv_at hl 0 rfl) ?_
        refine lv_iload_n hx hb dX1_distanceWants_37 rfl (lv_at hl 1 rfl) ?_
        refine lv_iload hx hb dX1_distanceWants_38 (lv_at hl 4 rfl) ?_
        refine caRoV (rest := [.int x3]) (As := [.int x1, .int x4]) fx hK lk_X1_68 (c_X1_valueAt l dC dI cA oN gN FN AN x1 x4 _ hw) (hP.sub [0, 1, 2] rfl) 0 rfl rfl ⟨(Nat.le_of_ble_eq_true rfl), (Nat.le_of_ble_eq_true rfl)⟩ rfl hl.1 rfl (Nat.le_of_ble_eq_true rfl) dX1_distanceWants_40 ?_
        intro r_5 hw
        refine lv_iconst (v := (1 : Int32)) hx hb dX1_distanceWants_43 (by decide) ?_
        refine lv_iadd hx hb dX1_distanceWants_44 ?_
        refine va_mmin hx hb (hml.trans hl.1.symm) hown (hts _ (List.mem_cons_of_mem _ q_18_19)) (hts _ (List.mem_cons_of_mem _ q_18_20)) (hts _ (List.mem_cons_of_mem _ q_18_21)) (hts _ (List.mem_cons_of_mem _ q_18_22)) (Nat.le_of_ble_eq_true rfl) (Nat.le_of_ble_eq_true rfl) (Nat.zero_le _) (Nat.zero_le _) dX1_distanceWants_45 ?_
        refine lv_istore_n (lv' := [(3, .int (if (r_5 + (1 : Int32)) < x3 then (r_5 + (1 : Int32)) else x3)), (0, .ref oN), (1, .int x1), (2, .int x2), (4, .int x4)]) hx hb dX1_distanceWants_48 rfl hl (by decide) rfl (fun ls hl => ?_)
        refine lv_iinc (v := (x4 + 1)) (lv' := [(4, .int (x4 + 1)), (3, .int (if (r_5 + (1 : Int32)) < x3 then (r_5 + (1 : Int32)) else x3)), (0, .ref oN), (1, .int x1), (2, .int x2)]) hx hb dX1_distanceWants_49 hl (k := 4) rfl rfl (by decide) rfl (fun ls hl => ?_)
        refine lv_goto (tgt := 16) hx hb dX1_distanceWants_52 (by decide) ?_
        exact hk_16 ((if (r_5 + (1 : Int32)) < x3 then (r_5 + (1 : Int32)) else x3), (x4 + 1)) hw _ (lv_sub hl [2, 3, 4, 1, 0] rfl)
  refine lv_iload_n hx hb dX1_distanceWants_0 rfl (lv_at hl 2 rfl) ?_
  refine lv_if_ne (tgt := 6) hx hb dX1_distanceWants_1 (by decide) (fun c_6 => ?_) (fun c_6 => ?_)
  · have hw := hw.1 c_6
    refine lv_aload_n hx hb dX1_distanceWants_6 rfl (lv_at hl 0 rfl) ?_
    refine gz (q0 := 0) (v := .int (FN 2)) fx hK hP fl_X1_31 rfl rfl dX1_distanceWants_7 ?_
    refine lv_iconst (v := (1 : Int32)) hx hb dX1_distanceWants_10 (by decide) ?_
    refine lv_isub hx hb dX1_distanceWants_11 ?_
    refine lv_istore_n (lv' := [(3, .int ((FN 2) - (1 : Int32))), (0, .ref oN), (1, .int x1), (2, .int x2)]) hx hb dX1_distanceWants_12 rfl hl (by decide) rfl (fun ls hl => ?_)
    refine lv_iconst (v := (0 : Int32)) hx hb dX1_distanceWants_13 (by decide) ?_
    refine lv_istore (lv' := [(4, .int (0 : Int32)), (3, .int ((FN 2) - (1 : Int32))), (0, .ref oN), (1, .int x1), (2, .int x2)]) hx hb dX1_distanceWants_14 hl (by decide) rfl (fun ls hl => ?_)
    exact b_16 ((FN 2) - (1 : Int32)) (0 : Int32) _ (lv_sub hl [2, 3, 4, 1, 0] rfl) hw
  · have hw := hw.2 c_6
    refine lv_iconst (v := (0 : Int32)) hx hb dX1_distanceWants_4 (by decide) ?_
    exact hret _ _ _ dX1_distanceWants_5 rfl hw
set_option maxHeartbeats 4000000 in
set_option maxRecDepth 100000 in
theorem c_X1_lowestLinkedWith (l : Launch) (dC : Nat → ClassId) (dI : Nat → Nat → Nat) (cA : ClassId) (oN : Nat) (gN : Nat → Nat) (FN : Nat → Int32) (AN : Nat → Nat → Int32) (x1 : Int32) (x2 : Int32) (x3 : Int32) (Post : Int32 → Prop) (hw : wp_X1_lowestLinkedWith FN AN x1 x2 x3 Post) : RoI (dC, dI) cA l yX1_lowestLinkedWith cX1_lowestLinkedWith 5 .int 1 22 [.ref oN, .int x1, .int x2, .int x3] (nW oN gN cA FN AN) Post := by
  refine enRo (by decide) (Nat.le_of_ble_eq_true rfl) ?_
  intro p e s m args below meth c Q ls fx hK hP hret hl
  obtain ⟨hx, hb, hml, hown, hts⟩ := id fx
  have hl : lv_has ls 5 [(0, .ref oN), (1, .int x1), (2, .int x2), (3, .int x3)] := hl
  have b_3 : ∀ (x4 : Int32) (ls : Array Slot), lv_has ls 5 [(0, .ref oN), (1, .int x1), (2, .int x2), (3, .int x3), (4, .int x4)] → wp_X1_lowestLinkedWith_3 FN AN x1 x2 x3 x4 Post → W p l e ({ frames := 1, cells := 0, slots := 0, locals := 22 } : Room) s m args below meth c s.heap [] 0 0 Q (F0 m 3 ls []) := by
    intro x4 ls hl hw
    refine Lp_go (C := fun (t : Int32) => ∀ (ls : Array Slot), lv_has ls 5 [(0, .ref oN), (1, .int x1), (2, .int x2), (3, .int x3), (4, .int t)] → W p l e ({ frames := 1, cells := 0, slots := 0, locals := 22 } : Room) s m args below meth c s.heap [] 0 0 Q (F0 m 3 ls [])) ?_ hw ls hl
    intro k_3 hk_3 t
    obtain ⟨x4, ht⟩ : ∃ z, z = t := ⟨_, rfl⟩
    subst ht
    intro hw ls hl
    have hl : lv_has ls 5 [(0, .ref oN), (1, .int x1), (2, .int x2), (3, .int x3), (4, .int x4)] := hl
    have hw : st_X1_lowestLinkedWith_3 FN AN x1 x2 x3 Post k_3 x4 := hw
    refine lv_iload hx hb dX1_lowestLinkedWith_3 (lv_at hl 4 rfl) ?_
    refine lv_aload_n hx hb dX1_lowestLinkedWith_5 rfl (lv_at hl 0 rfl) ?_
    refine gz (q0 := 0) (v := .int (FN 1)) fx hK hP fl_X1_28 rfl rfl dX1_lowestLinkedWith_6 ?_
    refine lv_icmp_ge (tgt := 42) hx hb dX1_lowestLinkedWith_9 (by decide) (fun c_1 => ?_) (fun c_1 => ?_)
    · have hw := hw.1 c_1
      refine lv_bipush (v := (-4 : Int32)) hx hb dX1_lowestLinkedWith_42 (by decide) ?_
      exact hret _ _ _ dX1_lowestLinkedWith_44 rfl hw
    · have hw := hw.2 c_1
      refine lv_aload_n hx hb dX1_lowestLinkedWith_12 rfl (lv_at hl 0 rfl) ?_
      refine lv_iload_n hx hb dX1_lowestLinkedWith_13 rfl (lv_at hl 2 rfl) ?_
      refine lv_iload hx hb dX1_lowestLinkedWith_14 (lv_at hl 4 rfl) ?_
      refine caRoV (rest := []) (As := [.int x2, .int x4]) fx hK lk_X1_47 (c_X1_isLinked l dC dI cA oN gN FN AN x2 x4 _ hw) (hP.sub [0, 1, 2] rfl) 0 rfl rfl ⟨(Nat.le_of_ble_eq_true rfl), (Nat.le_of_ble_eq_true rfl)⟩ rfl hl.1 rfl (Nat.le_of_ble_eq_true rfl) dX1_lowestLinkedWith_16 ?_
      intro r_2 hw
      refine lv_if_eq (tgt := 36) hx hb dX1_lowestLinkedWith_19 (by decide) (fun c_3 => ?_) (fun c_3 => ?_)
      · have hw := hw.1 c_3
        refine lv_iinc (v := (x4 + 1)) (lv' := [(4, .int (x4 + 1)), (0, .ref oN), (1, .int x1), (2, .int x2), (3, .int x3)]) hx hb dX1_lowestLinkedWith_36 hl (k := 4) rfl rfl (by decide) rfl (fun ls hl => ?_)
        refine lv_goto (tgt := 3) hx hb dX1_lowestLinkedWith_39 (by decide) ?_
        exact hk_3 ((x4 + 1)) hw _ (lv_sub hl [1, 2, 3, 4, 0] rfl)
      · have hw := hw.2 c_3
        refine lv_aload_n hx hb dX1_lowestLinkedWith_22 rfl (lv_at hl 0 rfl) ?_
        refine lv_iload_n hx hb dX1_lowestLinkedWith_23 rfl (lv_at hl 1 rfl) ?_
        refine lv_iload hx hb dX1_lowestLinkedWith_24 (lv_at hl 4 rfl) ?_
        refine caRoV (rest := []) (As := [.int x1, .int x4]) fx hK lk_X1_68 (c_X1_valueAt l dC dI cA oN gN FN AN x1 x4 _ hw) (hP.sub [0, 1, 2] rfl) 0 rfl rfl ⟨(Nat.le_of_ble_eq_true rfl), (Nat.le_of_ble_eq_true rfl)⟩ rfl hl.1 rfl (Nat.le_of_ble_eq_true rfl) dX1_lowestLinkedWith_26 ?_
        intro r_4 hw
        refine lv_iload_n hx hb dX1_lowestLinkedWith_29 rfl (lv_at hl 3 rfl) ?_
        refine lv_icmp_ne (tgt := 36) hx hb dX1_lowestLinkedWith_30 (by decide) (fun c_5 => ?_) (fun c_5 => ?_)
        · have hw := hw.1 c_5
          refine lv_iinc (v := (x4 + 1)) (lv' := [(4, .int (x4 + 1)), (0, .ref oN), (1, .int x1), (2, .int x2), (3, .int x3)]) hx hb dX1_lowestLinkedWith_36 hl (k := 4) rfl rfl (by decide) rfl (fun ls hl => ?_)
          refine lv_goto (tgt := 3) hx hb dX1_lowestLinkedWith_39 (by decide) ?_
          exact hk_3 ((x4 + 1)) hw _ (lv_sub hl [1, 2, 3, 4, 0] rfl)
        · have hw := hw.2 c_5
          refine lv_iload hx hb dX1_lowestLinkedWith_33 (lv_at hl 4 rfl) ?_
          exact hret _ _ _ dX1_lowestLinkedWith_35 rfl hw
  refine lv_iconst (v := (0 : Int32)) hx hb dX1_lowestLinkedWith_0 (by decide) ?_
  refine lv_istore (lv' := [(4, .int (0 : Int32)), (0, .ref oN), (1, .int x1), (2, .int x2), (3, .int x3)]) hx hb dX1_lowestLinkedWith_1 hl (by decide) rfl (fun ls hl => ?_)
  exact b_3 (0 : Int32) _ (lv_sub hl [1, 2, 3, 4, 0] rfl) hw
set_option maxHeartbeats 4000000 in
set_option maxRecDepth 100000 in
theorem c_X1_pointerWants (l : Launch) (dC : Nat → ClassId) (dI : Nat → Nat → Nat) (cA : ClassId) (oN : Nat) (gN : Nat → Nat) (FN : Nat → Int32) (AN : Nat → Nat → Int32) (x1 : Int32) (x2 : Int32) (Post : Int32 → Prop) (hw : wp_X1_pointerWants FN AN x1 x2 Post) : RoI (dC, dI) cA l yX1_pointerWants cX1_pointerWants 6 .int 2 46 [.ref oN, .int x1, .int x2] (nW oN gN cA FN AN) Post := by
  refine enRo (by decide) (Nat.le_of_ble_eq_true rfl) ?_
  intro p e s m args below meth c Q ls fx hK hP hret hl
  obtain ⟨hx, hb, hml, hown, hts⟩ := id fx
  have hl : lv_has ls 6 [(0, .ref oN), (1, .int x1), (2, .int x2)] := hl
  have b_41 : ∀ (x3 : Int32) (t0 : Int32) (ls : Array Slot), lv_has ls 6 [(3, .int x3)] → wp_X1_pointerWants_41 FN AN x3 t0 Post → W p l e ({ frames := 2, cells := 0, slots := 0, locals := 46 } : Room) s m args below meth c s.heap [] 0 0 Q (F0 m 41 ls [.int t0]) := by
    intro x3 t0 ls hl hw
    refine lv_istore (lv' := [(5, .int t0), (3, .int x3)]) hx hb dX1_pointerWants_41 hl (by decide) rfl (fun ls hl => ?_)
    refine lv_iload hx hb dX1_pointerWants_43 (lv_at hl 0 rfl) ?_
    refine lv_bipush (v := (-4 : Int32)) hx hb dX1_pointerWants_45 (by decide) ?_
    refine lv_icmp_eq (tgt := 57) hx hb dX1_pointerWants_47 (by decide) (fun c_11 => ?_) (fun c_11 => ?_)
    · have hw := hw.1 c_11
      refine lv_iload_n hx hb dX1_pointerWants_57 rfl (lv_at hl 1 rfl) ?_
      exact hret _ _ _ dX1_pointerWants_58 rfl hw
    · have hw := hw.2 c_11
      refine lv_iload hx hb dX1_pointerWants_50 (lv_at hl 0 rfl) ?_
      refine lv_iconst (v := (1 : Int32)) hx hb dX1_pointerWants_52 (by decide) ?_
      refine lv_iadd hx hb dX1_pointerWants_53 ?_
      refine lv_goto (tgt := 58) hx hb dX1_pointerWants_54 (by decide) ?_
      exact hret _ _ _ dX1_pointerWants_58 rfl hw
  refine lv_aload_n hx hb dX1_pointerWants_0 rfl (lv_at hl 0 rfl) ?_
  refine lv_iload_n hx hb dX1_pointerWants_1 rfl (lv_at hl 1 rfl) ?_
  refine lv_iload_n hx hb dX1_pointerWants_2 rfl (lv_at hl 2 rfl) ?_
  refine caRoV (rest := []) (As := [.int x1, .int x2]) fx hK lk_X1_68 (c_X1_valueAt l dC dI cA oN gN FN AN x1 x2 _ hw) (hP.sub [0, 1, 2] rfl) 0 rfl rfl ⟨(Nat.le_of_ble_eq_true rfl), (Nat.le_of_ble_eq_true rfl)⟩ rfl hl.1 rfl (Nat.le_of_ble_eq_true rfl) dX1_pointerWants_3 ?_
  intro r_12 hw
  refine lv_istore_n (lv' := [(3, .int r_12), (0, .ref oN), (1, .int x1), (2, .int x2)]) hx hb dX1_pointerWants_6 rfl hl (by decide) rfl (fun ls hl => ?_)
  refine lv_iload_n hx hb dX1_pointerWants_7 rfl (lv_at hl 0 rfl) ?_
  refine lv_if_ne (tgt := 59) hx hb dX1_pointerWants_8 (by decide) (fun c_13 => ?_) (fun c_13 => ?_)
  · have hw := hw.1 c_13
    refine lv_aload_n hx hb dX1_pointerWants_59 rfl (lv_at hl 1 rfl) ?_
    refine lv_iload_n hx hb dX1_pointerWants_60 rfl (lv_at hl 3 rfl) ?_
    refine lv_iload_n hx hb dX1_pointerWants_61 rfl (lv_at hl 0 rfl) ?_
    refine lv_iconst (v := (1 : Int32)) hx hb dX1_pointerWants_62 (by decide) ?_
    refine lv_isub hx hb dX1_pointerWants_63 ?_
    refine caRoV (rest := []) (As := [.int x2, .int (r_12 - (1 : Int32))]) fx hK lk_X1_47 (c_X1_isLinked l dC dI cA oN gN FN AN x2 (r_12 - (1 : Int32)) _ hw) (hP.sub [0, 1, 2] rfl) 0 rfl rfl ⟨(Nat.le_of_ble_eq_true rfl), (Nat.le_of_ble_eq_true rfl)⟩ rfl hl.1 rfl (Nat.le_of_ble_eq_true rfl) dX1_pointerWants_64 ?_
    intro r_14 hw
    refine lv_if_ne (tgt := 72) hx hb dX1_pointerWants_67 (by decide) (fun c_15 => ?_) (fun c_15 => ?_)
    · have hw := hw.1 c_15
      refine lv_aload_n hx hb dX1_pointerWants_72 rfl (lv_at hl 1 rfl) ?_
      refine lv_iload_n hx hb dX1_pointerWants_73 rfl (lv_at hl 2 rfl) ?_
      refine lv_iload_n hx hb dX1_pointerWants_74 rfl (lv_at hl 0 rfl) ?_
      refine lv_iconst (v := (1 : Int32)) hx hb dX1_pointerWants_75 (by decide) ?_
      refine lv_isub hx hb dX1_pointerWants_76 ?_
      refine caRoV (rest := []) (As := [.int x1, .int (r_12 - (1 : Int32))]) fx hK lk_X1_68 (c_X1_valueAt l dC dI cA oN gN FN AN x1 (r_12 - (1 : Int32)) _ hw) (hP.sub [0, 1, 2] rfl) 0 rfl rfl ⟨(Nat.le_of_ble_eq_true rfl), (Nat.le_of_ble_eq_true rfl)⟩ rfl hl.1 rfl (Nat.le_of_ble_eq_true rfl) dX1_pointerWants_77 ?_
      intro r_16 hw
      refine lv_istore (lv' := [(4, .int r_16), (3, .int r_12), (0, .ref oN), (1, .int x1), (2, .int x2)]) hx hb dX1_pointerWants_80 hl (by decide) rfl (fun ls hl => ?_)
      refine lv_iload hx hb dX1_pointerWants_82 (lv_at hl 0 rfl) ?_
      refine lv_if_eq (tgt := 95) hx hb dX1_pointerWants_84 (by decide) (fun c_17 => ?_) (fun c_17 => ?_)
      · have hw := hw.1 c_17
        refine lv_iload_n hx hb dX1_pointerWants_95 rfl (lv_at hl 1 rfl) ?_
        refine lv_goto (tgt := 100) hx hb dX1_pointerWants_96 (by decide) ?_
        exact hret _ _ _ dX1_pointerWants_100 rfl hw
      · have hw := hw.2 c_17
        refine lv_iload hx hb dX1_pointerWants_87 (lv_at hl 0 rfl) ?_
        refine lv_iload_n hx hb dX1_pointerWants_89 rfl (lv_at hl 4 rfl) ?_
        refine lv_iconst (v := (1 : Int32)) hx hb dX1_pointerWants_90 (by decide) ?_
        refine lv_iadd hx hb dX1_pointerWants_91 ?_
        refine lv_icmp_ne (tgt := 99) hx hb dX1_pointerWants_92 (by decide) (fun c_18 => ?_) (fun c_18 => ?_)
        · have hw := hw.1 c_18
          refine lv_iconst (v := (0 : Int32)) hx hb dX1_pointerWants_99 (by decide) ?_
          exact hret _ _ _ dX1_pointerWants_100 rfl hw
        · have hw := hw.2 c_18
          refine lv_iload_n hx hb dX1_pointerWants_95 rfl (lv_at hl 1 rfl) ?_
          refine lv_goto (tgt := 100) hx hb dX1_pointerWants_96 (by decide) ?_
          exact hret _ _ _ dX1_pointerWants_100 rfl hw
    · have hw := hw.2 c_15
      refine lv_iconst (v := (0 : Int32)) hx hb dX1_pointerWants_70 (by decide) ?_
      exact hret _ _ _ dX1_pointerWants_71 rfl hw
  · have hw := hw.2 c_13
    refine lv_aload_n hx hb dX1_pointerWants_11 rfl (lv_at hl 1 rfl) ?_
    refine lv_iload_n hx hb dX1_pointerWants_12 rfl (lv_at hl 2 rfl) ?_
    refine lv_iload_n hx hb dX1_pointerWants_13 rfl (lv_at hl 3 rfl) ?_
    refine lv_iload_n hx hb dX1_pointerWants_14 rfl (lv_at hl 3 rfl) ?_
    refine lv_iconst (v := (1 : Int32)) hx hb dX1_pointerWants_15 (by decide) ?_
    refine lv_iadd hx hb dX1_pointerWants_16 ?_
    refine caRoV (rest := []) (As := [.int x1, .int x2, .int (x2 + (1 : Int32))]) fx hK lk_X1_87 (c_X1_lowestLinkedWith l dC dI cA oN gN FN AN x1 x2 (x2 + (1 : Int32)) _ hw) (hP.sub [0, 1, 2] rfl) 0 rfl rfl ⟨(Nat.le_of_ble_eq_true rfl), (Nat.le_of_ble_eq_true rfl)⟩ rfl hl.1 rfl (Nat.le_of_ble_eq_true rfl) dX1_pointerWants_17 ?_
    intro r_19 hw
    refine lv_istore (lv' := [(4, .int r_19), (3, .int r_12), (0, .ref oN), (1, .int x1), (2, .int x2)]) hx hb dX1_pointerWants_20 hl (by decide) rfl (fun ls hl => ?_)
    refine lv_iload hx hb dX1_pointerWants_22 (lv_at hl 0 rfl) ?_
    refine lv_bipush (v := (-4 : Int32)) hx hb dX1_pointerWants_24 (by decide) ?_
    refine lv_icmp_eq (tgt := 34) hx hb dX1_pointerWants_26 (by decide) (fun c_20 => ?_) (fun c_20 => ?_)
    · have hw := hw.1 c_20
      refine lv_aload_n hx hb dX1_pointerWants_34 rfl (lv_at hl 2 rfl) ?_
      refine lv_iload_n hx hb dX1_pointerWants_35 rfl (lv_at hl 3 rfl) ?_
      refine lv_iload_n hx hb dX1_pointerWants_36 rfl (lv_at hl 4 rfl) ?_
      refine lv_iconst (v := (0 : Int32)) hx hb dX1_pointerWants_37 (by decide) ?_
      refine caRoV (rest := []) (As := [.int x1, .int x2, .int (0 : Int32)]) fx hK lk_X1_87 (c_X1_lowestLinkedWith l dC dI cA oN gN FN AN x1 x2 (0 : Int32) _ hw) (hP.sub [0, 1, 2] rfl) 0 rfl rfl ⟨(Nat.le_of_ble_eq_true rfl), (Nat.le_of_ble_eq_true rfl)⟩ rfl hl.1 rfl (Nat.le_of_ble_eq_true rfl) dX1_pointerWants_38 ?_
      intro r_21 hw
      exact b_41 r_12 r_21 _ (lv_sub hl [1] rfl) hw
    · have hw := hw.2 c_20
      refine lv_iload hx hb dX1_pointerWants_29 (lv_at hl 0 rfl) ?_
      refine lv_goto (tgt := 41) hx hb dX1_pointerWants_31 (by decide) ?_
      exact b_41 r_12 r_19 _ (lv_sub hl [1] rfl) hw
set_option maxHeartbeats 4000000 in
set_option maxRecDepth 100000 in
theorem c_X1_counterWants (l : Launch) (dC : Nat → ClassId) (dI : Nat → Nat → Nat) (cA : ClassId) (oN : Nat) (gN : Nat → Nat) (FN : Nat → Int32) (AN : Nat → Nat → Int32) (x1 : Int32) (x2 : Int32) (Post : Int32 → Prop) (hw : wp_X1_counterWants FN AN x1 x2 Post) : RoI (dC, dI) cA l yX1_counterWants cX1_counterWants 5 .int 1 22 [.ref oN, .int x1, .int x2] (nW oN gN cA FN AN) Post := by
  refine enRo (by decide) (Nat.le_of_ble_eq_true rfl) ?_
  intro p e s m args below meth c Q ls fx hK hP hret hl
  obtain ⟨hx, hb, hml, hown, hts⟩ := id fx
  have hl : lv_has ls 5 [(0, .ref oN), (1, .int x1), (2, .int x2)] := hl
  refine lv_aload_n hx hb dX1_counterWants_0 rfl (lv_at hl 0 rfl) ?_
  refine lv_iload_n hx hb dX1_counterWants_1 rfl (lv_at hl 1 rfl) ?_
  refine lv_aload_n hx hb dX1_counterWants_2 rfl (lv_at hl 0 rfl) ?_
  refine lv_iload_n hx hb dX1_counterWants_3 rfl (lv_at hl 2 rfl) ?_
  refine caRoV (rest := [.int x1, .ref oN]) (As := [.int x2]) fx hK lk_X1_72 (c_X1_aheadOf l dC dI cA oN gN FN AN x2 _ hw) (hP.sub [0, 1, 2] rfl) 0 rfl rfl ⟨(Nat.le_of_ble_eq_true rfl), (Nat.le_of_ble_eq_true rfl)⟩ rfl hl.1 rfl (Nat.le_of_ble_eq_true rfl) dX1_counterWants_4 ?_
  intro r_7 hw
  refine caRoV (rest := []) (As := [.int x1, .int r_7]) fx hK lk_X1_68 (c_X1_valueAt l dC dI cA oN gN FN AN x1 r_7 _ hw) (hP.sub [0, 1, 2] rfl) 0 rfl rfl ⟨(Nat.le_of_ble_eq_true rfl), (Nat.le_of_ble_eq_true rfl)⟩ rfl hl.1 rfl (Nat.le_of_ble_eq_true rfl) dX1_counterWants_7 ?_
  intro r_8 hw
  refine lv_istore_n (lv' := [(3, .int r_8), (0, .ref oN), (1, .int x1), (2, .int x2)]) hx hb dX1_counterWants_10 rfl hl (by decide) rfl (fun ls hl => ?_)
  refine lv_iload_n hx hb dX1_counterWants_11 rfl (lv_at hl 3 rfl) ?_
  refine lv_if_eq (tgt := 17) hx hb dX1_counterWants_12 (by decide) (fun c_9 => ?_) (fun c_9 => ?_)
  · have hw := hw.1 c_9
    refine lv_aload_n hx hb dX1_counterWants_17 rfl (lv_at hl 1 rfl) ?_
    refine lv_iload_n hx hb dX1_counterWants_18 rfl (lv_at hl 2 rfl) ?_
    refine lv_iload_n hx hb dX1_counterWants_19 rfl (lv_at hl 3 rfl) ?_
    refine caRoV (rest := []) (As := [.int x1, .int x2]) fx hK lk_X1_68 (c_X1_valueAt l dC dI cA oN gN FN AN x1 x2 _ hw) (hP.sub [0, 1, 2] rfl) 0 rfl rfl ⟨(Nat.le_of_ble_eq_true rfl), (Nat.le_of_ble_eq_true rfl)⟩ rfl hl.1 rfl (Nat.le_of_ble_eq_true rfl) dX1_counterWants_20 ?_
    intro r_10 hw
    refine lv_istore (lv' := [(4, .int r_10), (3, .int r_8), (0, .ref oN), (1, .int x1), (2, .int x2)]) hx hb dX1_counterWants_23 hl (by decide) rfl (fun ls hl => ?_)
    refine lv_iload hx hb dX1_counterWants_25 (lv_at hl 0 rfl) ?_
    refine lv_iload_n hx hb dX1_counterWants_27 rfl (lv_at hl 1 rfl) ?_
    refine lv_icmp_eq (tgt := 34) hx hb dX1_counterWants_28 (by decide) (fun c_11 => ?_) (fun c_11 => ?_)
    · have hw := hw.1 c_11
      refine lv_iload hx hb dX1_counterWants_34 (lv_at hl 0 rfl) ?_
      refine lv_iconst (v := (1 : Int32)) hx hb dX1_counterWants_36 (by decide) ?_
      refine lv_iadd hx hb dX1_counterWants_37 ?_
      refine lv_aload_n hx hb dX1_counterWants_38 rfl (lv_at hl 2 rfl) ?_
      refine gz (q0 := 0) (v := .int (FN 2)) fx hK hP fl_X1_31 rfl rfl dX1_counterWants_39 ?_
      refine lv_icmp_ge (tgt := 52) hx hb dX1_counterWants_42 (by decide) (fun c_12 => ?_) (fun c_12 => ?_)
      · have hw := hw.1 c_12
        refine lv_iconst (v := (0 : Int32)) hx hb dX1_counterWants_52 (by decide) ?_
        exact hret _ _ _ dX1_counterWants_53 rfl hw
      · have hw := hw.2 c_12
        refine lv_iload hx hb dX1_counterWants_45 (lv_at hl 0 rfl) ?_
        refine lv_iconst (v := (1 : Int32)) hx hb dX1_counterWants_47 (by decide) ?_
        refine lv_iadd hx hb dX1_counterWants_48 ?_
        refine lv_goto (tgt := 53) hx hb dX1_counterWants_49 (by decide) ?_
        exact hret _ _ _ dX1_counterWants_53 rfl hw
    · have hw := hw.2 c_11
      refine lv_iload hx hb dX1_counterWants_31 (lv_at hl 0 rfl) ?_
      exact hret _ _ _ dX1_counterWants_33 rfl hw
  · have hw := hw.2 c_9
    refine lv_iload_n hx hb dX1_counterWants_15 rfl (lv_at hl 0 rfl) ?_
    exact hret _ _ _ dX1_counterWants_16 rfl hw
set_option maxHeartbeats 4000000 in
set_option maxRecDepth 100000 in
theorem c_X1_wants (l : Launch) (dC : Nat → ClassId) (dI : Nat → Nat → Nat) (cA : ClassId) (oN : Nat) (gN : Nat → Nat) (FN : Nat → Int32) (AN : Nat → Nat → Int32) (x1 : Int32) (x2 : Int32) (Post : Int32 → Prop) (hw : wp_X1_wants FN AN x1 x2 Post) : RoI (dC, dI) cA l yX1_wants cX1_wants 3 .int 3 71 [.ref oN, .int x1, .int x2] (nW oN gN cA FN AN) Post := by
  refine enRo (by decide) (Nat.le_of_ble_eq_true rfl) ?_
  intro p e s m args below meth c Q ls fx hK hP hret hl
  obtain ⟨hx, hb, hml, hown, hts⟩ := id fx
  have hl : lv_has ls 3 [(0, .ref oN), (1, .int x1), (2, .int x2)] := hl
  refine lv_aload_n hx hb dX1_wants_0 rfl (lv_at hl 0 rfl) ?_
  refine gz (q0 := 0) (v := .int (FN 0)) fx hK hP fl_X1_24 rfl rfl dX1_wants_1 ?_
  by_cases c_8 : (FN 0) = (1 : Int32)
  · have hw := hw.1 c_8
    refine lv_tableIn (off := 28) (tgt := 32) hx hb dX1_wants_4 (by rw [c_8]; decide) (by rw [c_8]; decide) (by rw [c_8]; rfl) (by decide) ?_
    refine lv_aload_n hx hb dX1_wants_32 rfl (lv_at hl 0 rfl) ?_
    refine lv_iload_n hx hb dX1_wants_33 rfl (lv_at hl 1 rfl) ?_
    refine lv_iload_n hx hb dX1_wants_34 rfl (lv_at hl 2 rfl) ?_
    refine caRoV (rest := []) (As := [.int x1, .int x2]) fx hK lk_X1_75 (c_X1_counterWants l dC dI cA oN gN FN AN x1 x2 _ hw) (hP.sub [0, 1, 2] rfl) 0 rfl rfl ⟨(Nat.le_of_ble_eq_true rfl), (Nat.le_of_ble_eq_true rfl)⟩ rfl hl.1 rfl (Nat.le_of_ble_eq_true rfl) dX1_wants_35 ?_
    intro r_9 hw
    exact hret _ _ _ dX1_wants_38 rfl hw
  · have hw := hw.2 c_8
    by_cases c_10 : (FN 0) = (2 : Int32)
    · have hw := hw.1 c_10
      refine lv_tableIn (off := 35) (tgt := 39) hx hb dX1_wants_4 (by rw [c_10]; decide) (by rw [c_10]; decide) (by rw [c_10]; rfl) (by decide) ?_
      refine lv_aload_n hx hb dX1_wants_39 rfl (lv_at hl 0 rfl) ?_
      refine lv_iload_n hx hb dX1_wants_40 rfl (lv_at hl 1 rfl) ?_
      refine lv_iload_n hx hb dX1_wants_41 rfl (lv_at hl 2 rfl) ?_
      refine caRoV (rest := []) (As := [.int x1, .int x2]) fx hK lk_X1_78 (c_X1_pointerWants l dC dI cA oN gN FN AN x1 x2 _ hw) (hP.sub [0, 1, 2] rfl) 0 rfl rfl ⟨(Nat.le_of_ble_eq_true rfl), (Nat.le_of_ble_eq_true rfl)⟩ rfl hl.1 rfl (Nat.le_of_ble_eq_true rfl) dX1_wants_42 ?_
      intro r_11 hw
      exact hret _ _ _ dX1_wants_45 rfl hw
    · have hw := hw.2 c_10
      by_cases c_12 : (FN 0) = (3 : Int32)
      · have hw := hw.1 c_12
        refine lv_tableIn (off := 42) (tgt := 46) hx hb dX1_wants_4 (by rw [c_12]; decide) (by rw [c_12]; decide) (by rw [c_12]; rfl) (by decide) ?_
        refine lv_aload_n hx hb dX1_wants_46 rfl (lv_at hl 0 rfl) ?_
        refine lv_iload_n hx hb dX1_wants_47 rfl (lv_at hl 1 rfl) ?_
        refine lv_iload_n hx hb dX1_wants_48 rfl (lv_at hl 2 rfl) ?_
        refine caRoV (rest := []) (As := [.int x1, .int x2]) fx hK lk_X1_81 (c_X1_distanceWants l dC dI cA oN gN FN AN x1 x2 _ hw) (hP.sub [0, 1, 2] rfl) 0 rfl rfl ⟨(Nat.le_of_ble_eq_true rfl), (Nat.le_of_ble_eq_true rfl)⟩ rfl hl.1 rfl (Nat.le_of_ble_eq_true rfl) dX1_wants_49 ?_
        intro r_13 hw
        exact hret _ _ _ dX1_wants_52 rfl hw
      · have hw := hw.2 c_12
        refine lv_tableOut (tgt := 53) hx hb dX1_wants_4 (by have := ne_i 1 _ (by decide) c_8; have := ne_i 2 _ (by decide) c_10; have := ne_i 3 _ (by decide) c_12; omega) (by decide) ?_
        refine lv_aload_n hx hb dX1_wants_53 rfl (lv_at hl 0 rfl) ?_
        refine lv_iload_n hx hb dX1_wants_54 rfl (lv_at hl 1 rfl) ?_
        refine lv_iload_n hx hb dX1_wants_55 rfl (lv_at hl 2 rfl) ?_
        refine caRoV (rest := []) (As := [.int x1, .int x2]) fx hK lk_X1_84 (c_X1_colourWants l dC dI cA oN gN FN AN x1 x2 _ hw) (hP.sub [0, 1, 2] rfl) 0 rfl rfl ⟨(Nat.le_of_ble_eq_true rfl), (Nat.le_of_ble_eq_true rfl)⟩ rfl hl.1 rfl (Nat.le_of_ble_eq_true rfl) dX1_wants_56 ?_
        intro r_14 hw
        exact hret _ _ _ dX1_wants_59 rfl hw
set_option maxHeartbeats 4000000 in
set_option maxRecDepth 100000 in
theorem c_X1_ruleOf (l : Launch) (dC : Nat → ClassId) (dI : Nat → Nat → Nat) (cA : ClassId) (oN : Nat) (gN : Nat → Nat) (FN : Nat → Int32) (AN : Nat → Nat → Int32) (x1 : Int32) (x2 : Int32) (Post : Int32 → Prop) (hw : wp_X1_ruleOf FN AN x1 x2 Post) : RoI (dC, dI) cA l yX1_ruleOf cX1_ruleOf 5 .int 4 93 [.ref oN, .int x1, .int x2] (nW oN gN cA FN AN) Post := by
  refine enRo (by decide) (Nat.le_of_ble_eq_true rfl) ?_
  intro p e s m args below meth c Q ls fx hK hP hret hl
  obtain ⟨hx, hb, hml, hown, hts⟩ := id fx
  have hl : lv_has ls 5 [(0, .ref oN), (1, .int x1), (2, .int x2)] := hl
  refine lv_aload_n hx hb dX1_ruleOf_0 rfl (lv_at hl 0 rfl) ?_
  refine lv_iload_n hx hb dX1_ruleOf_1 rfl (lv_at hl 1 rfl) ?_
  refine lv_iload_n hx hb dX1_ruleOf_2 rfl (lv_at hl 2 rfl) ?_
  refine caRoV (rest := []) (As := [.int x1, .int x2]) fx hK lk_X1_68 (c_X1_valueAt l dC dI cA oN gN FN AN x1 x2 _ hw) (hP.sub [0, 1, 2] rfl) 0 rfl rfl ⟨(Nat.le_of_ble_eq_true rfl), (Nat.le_of_ble_eq_true rfl)⟩ rfl hl.1 rfl (Nat.le_of_ble_eq_true rfl) dX1_ruleOf_3 ?_
  intro r_8 hw
  refine lv_istore_n (lv' := [(3, .int r_8), (0, .ref oN), (1, .int x1), (2, .int x2)]) hx hb dX1_ruleOf_6 rfl hl (by decide) rfl (fun ls hl => ?_)
  refine lv_aload_n hx hb dX1_ruleOf_7 rfl (lv_at hl 1 rfl) ?_
  refine lv_iload_n hx hb dX1_ruleOf_8 rfl (lv_at hl 2 rfl) ?_
  refine lv_iload_n hx hb dX1_ruleOf_9 rfl (lv_at hl 3 rfl) ?_
  refine caRoV (rest := []) (As := [.int x1, .int x2]) fx hK lk_X1_103 (c_X1_wants l dC dI cA oN gN FN AN x1 x2 _ hw) (hP.sub [0, 1, 2] rfl) 0 rfl rfl ⟨(Nat.le_of_ble_eq_true rfl), (Nat.le_of_ble_eq_true rfl)⟩ rfl hl.1 rfl (Nat.le_of_ble_eq_true rfl) dX1_ruleOf_10 ?_
  intro r_9 hw
  refine lv_istore (lv' := [(4, .int r_9), (3, .int r_8), (0, .ref oN), (1, .int x1), (2, .int x2)]) hx hb dX1_ruleOf_13 hl (by decide) rfl (fun ls hl => ?_)
  refine lv_iload hx hb dX1_ruleOf_15 (lv_at hl 0 rfl) ?_
  refine lv_iload_n hx hb dX1_ruleOf_17 rfl (lv_at hl 1 rfl) ?_
  refine lv_icmp_ne (tgt := 23) hx hb dX1_ruleOf_18 (by decide) (fun c_10 => ?_) (fun c_10 => ?_)
  · have hw := hw.1 c_10
    refine lv_aload_n hx hb dX1_ruleOf_23 rfl (lv_at hl 2 rfl) ?_
    refine gz (q0 := 0) (v := .int (FN 0)) fx hK hP fl_X1_24 rfl rfl dX1_ruleOf_24 ?_
    refine lv_iconst (v := (2 : Int32)) hx hb dX1_ruleOf_27 (by decide) ?_
    refine lv_icmp_eq (tgt := 33) hx hb dX1_ruleOf_28 (by decide) (fun c_11 => ?_) (fun c_11 => ?_)
    · have hw := hw.1 c_11
      refine lv_iload_n hx hb dX1_ruleOf_33 rfl (lv_at hl 1 rfl) ?_
      refine lv_if_eq (tgt := 39) hx hb dX1_ruleOf_34 (by decide) (fun c_12 => ?_) (fun c_12 => ?_)
      · have hw := hw.1 c_12
        refine lv_aload_n hx hb dX1_ruleOf_39 rfl (lv_at hl 2 rfl) ?_
        refine lv_iload_n hx hb dX1_ruleOf_40 rfl (lv_at hl 3 rfl) ?_
        refine lv_iload hx hb dX1_ruleOf_41 (lv_at hl 0 rfl) ?_
        refine lv_iconst (v := (1 : Int32)) hx hb dX1_ruleOf_43 (by decide) ?_
        refine lv_isub hx hb dX1_ruleOf_44 ?_
        refine caRoV (rest := []) (As := [.int x1, .int (r_9 - (1 : Int32))]) fx hK lk_X1_68 (c_X1_valueAt l dC dI cA oN gN FN AN x1 (r_9 - (1 : Int32)) _ hw) (hP.sub [0, 1, 2] rfl) 0 rfl rfl ⟨(Nat.le_of_ble_eq_true rfl), (Nat.le_of_ble_eq_true rfl)⟩ rfl hl.1 rfl (Nat.le_of_ble_eq_true rfl) dX1_ruleOf_45 ?_
        intro r_13 hw
        refine lv_iload_n hx hb dX1_ruleOf_48 rfl (lv_at hl 4 rfl) ?_
        refine lv_iconst (v := (1 : Int32)) hx hb dX1_ruleOf_49 (by decide) ?_
        refine lv_iadd hx hb dX1_ruleOf_50 ?_
        refine lv_icmp_ne (tgt := 58) hx hb dX1_ruleOf_51 (by decide) (fun c_14 => ?_) (fun c_14 => ?_)
        · have hw := hw.1 c_14
          refine lv_iconst (v := (2 : Int32)) hx hb dX1_ruleOf_58 (by decide) ?_
          exact hret _ _ _ dX1_ruleOf_59 rfl hw
        · have hw := hw.2 c_14
          refine lv_iconst (v := (1 : Int32)) hx hb dX1_ruleOf_54 (by decide) ?_
          refine lv_goto (tgt := 59) hx hb dX1_ruleOf_55 (by decide) ?_
          exact hret _ _ _ dX1_ruleOf_59 rfl hw
      · have hw := hw.2 c_12
        refine lv_iconst (v := (3 : Int32)) hx hb dX1_ruleOf_37 (by decide) ?_
        exact hret _ _ _ dX1_ruleOf_38 rfl hw
    · have hw := hw.2 c_11
      refine lv_iconst (v := (1 : Int32)) hx hb dX1_ruleOf_31 (by decide) ?_
      exact hret _ _ _ dX1_ruleOf_32 rfl hw
  · have hw := hw.2 c_10
    refine lv_iconst (v := (0 : Int32)) hx hb dX1_ruleOf_21 (by decide) ?_
    exact hret _ _ _ dX1_ruleOf_22 rfl hw
set_option maxHeartbeats 4000000 in
set_option maxRecDepth 100000 in
theorem c_X1_whoMay (l : Launch) (dC : Nat → ClassId) (dI : Nat → Nat → Nat) (cA : ClassId) (oN : Nat) (gN : Nat → Nat) (FN : Nat → Int32) (AN : Nat → Nat → Int32) (x1 : Int32) (Post : Int32 → Prop) (hw : wp_X1_whoMay FN AN x1 Post) : RoI (dC, dI) cA l yX1_whoMay cX1_whoMay 4 .int 4 93 [.ref oN, .int x1] (nW oN gN cA FN AN) Post := by
  refine enRo (by decide) (Nat.le_of_ble_eq_true rfl) ?_
  intro p e s m args below meth c Q ls fx hK hP hret hl
  obtain ⟨hx, hb, hml, hown, hts⟩ := id fx
  have hl : lv_has ls 4 [(0, .ref oN), (1, .int x1)] := hl
  have b_4 : ∀ (x2 : Int32) (x3 : Int32) (ls : Array Slot), lv_has ls 4 [(0, .ref oN), (1, .int x1), (2, .int x2), (3, .int x3)] → wp_X1_whoMay_4 FN AN x1 x2 x3 Post → W p l e ({ frames := 4, cells := 0, slots := 0, locals := 93 } : Room) s m args below meth c s.heap [] 0 0 Q (F0 m 4 ls []) := by
    intro x2 x3 ls hl hw
    refine Lp_go (C := fun (t : Int32 × Int32) => ∀ (ls : Array Slot), lv_has ls 4 [(0, .ref oN), (1, .int x1), (2, .int (t.1)), (3, .int (t.2))] → W p l e ({ frames := 4, cells := 0, slots := 0, locals := 93 } : Room) s m args below meth c s.heap [] 0 0 Q (F0 m 4 ls [])) ?_ hw ls hl
    intro k_4 hk_4 t
    obtain ⟨x2, x3⟩ := t
    intro hw ls hl
    have hl : lv_has ls 4 [(0, .ref oN), (1, .int x1), (2, .int x2), (3, .int x3)] := hl
    have hw : st_X1_whoMay_4 FN AN x1 Post k_4 x2 x3 := hw
    refine lv_iload_n hx hb dX1_whoMay_4 rfl (lv_at hl 3 rfl) ?_
    refine lv_aload_n hx hb dX1_whoMay_5 rfl (lv_at hl 0 rfl) ?_
    refine gz (q0 := 0) (v := .int (FN 1)) fx hK hP fl_X1_28 rfl rfl dX1_whoMay_6 ?_
    refine lv_icmp_ge (tgt := 39) hx hb dX1_whoMay_9 (by decide) (fun c_1 => ?_) (fun c_1 => ?_)
    · have hw := hw.1 c_1
      refine lv_iload_n hx hb dX1_whoMay_39 rfl (lv_at hl 2 rfl) ?_
      exact hret _ _ _ dX1_whoMay_40 rfl hw
    · have hw := hw.2 c_1
      refine lv_aload_n hx hb dX1_whoMay_12 rfl (lv_at hl 0 rfl) ?_
      refine lv_iload_n hx hb dX1_whoMay_13 rfl (lv_at hl 1 rfl) ?_
      refine lv_iload_n hx hb dX1_whoMay_14 rfl (lv_at hl 3 rfl) ?_
      refine caRoV (rest := []) (As := [.int x1, .int x3]) fx hK lk_X1_103 (c_X1_wants l dC dI cA oN gN FN AN x1 x3 _ hw) (hP.sub [0, 1, 2] rfl) 0 rfl rfl ⟨(Nat.le_of_ble_eq_true rfl), (Nat.le_of_ble_eq_true rfl)⟩ rfl hl.1 rfl (Nat.le_of_ble_eq_true rfl) dX1_whoMay_15 ?_
      intro r_2 hw
      refine lv_aload_n hx hb dX1_whoMay_18 rfl (lv_at hl 0 rfl) ?_
      refine lv_iload_n hx hb dX1_whoMay_19 rfl (lv_at hl 1 rfl) ?_
      refine lv_iload_n hx hb dX1_whoMay_20 rfl (lv_at hl 3 rfl) ?_
      refine caRoV (rest := [.int r_2]) (As := [.int x1, .int x3]) fx hK lk_X1_68 (c_X1_valueAt l dC dI cA oN gN FN AN x1 x3 _ hw) (hP.sub [0, 1, 2] rfl) 0 rfl rfl ⟨(Nat.le_of_ble_eq_true rfl), (Nat.le_of_ble_eq_true rfl)⟩ rfl hl.1 rfl (Nat.le_of_ble_eq_true rfl) dX1_whoMay_21 ?_
      intro r_3 hw
      refine lv_icmp_eq (tgt := 33) hx hb dX1_whoMay_24 (by decide) (fun c_4 => ?_) (fun c_4 => ?_)
      · have hw := hw.1 c_4
        refine lv_iinc (v := (x3 + 1)) (lv' := [(3, .int (x3 + 1)), (0, .ref oN), (1, .int x1), (2, .int x2)]) hx hb dX1_whoMay_33 hl (k := 3) rfl rfl (by decide) rfl (fun ls hl => ?_)
        refine lv_goto (tgt := 4) hx hb dX1_whoMay_36 (by decide) ?_
        exact hk_4 (x2, (x3 + 1)) hw _ (lv_sub hl [1, 2, 3, 0] rfl)
      · have hw := hw.2 c_4
        refine lv_iload_n hx hb dX1_whoMay_27 rfl (lv_at hl 2 rfl) ?_
        refine lv_iconst (v := (1 : Int32)) hx hb dX1_whoMay_28 (by decide) ?_
        refine lv_iload_n hx hb dX1_whoMay_29 rfl (lv_at hl 3 rfl) ?_
        refine lv_ishl hx hb dX1_whoMay_30 ?_
        refine lv_ior hx hb dX1_whoMay_31 ?_
        refine lv_istore_n (lv' := [(2, .int (x2 ||| ((1 : Int32) <<< (x3 &&& 31)))), (0, .ref oN), (1, .int x1), (3, .int x3)]) hx hb dX1_whoMay_32 rfl hl (by decide) rfl (fun ls hl => ?_)
        refine lv_iinc (v := (x3 + 1)) (lv' := [(3, .int (x3 + 1)), (2, .int (x2 ||| ((1 : Int32) <<< (x3 &&& 31)))), (0, .ref oN), (1, .int x1)]) hx hb dX1_whoMay_33 hl (k := 3) rfl rfl (by decide) rfl (fun ls hl => ?_)
        refine lv_goto (tgt := 4) hx hb dX1_whoMay_36 (by decide) ?_
        exact hk_4 ((x2 ||| ((1 : Int32) <<< (x3 &&& 31))), (x3 + 1)) hw _ (lv_sub hl [2, 3, 1, 0] rfl)
  refine lv_iconst (v := (0 : Int32)) hx hb dX1_whoMay_0 (by decide) ?_
  refine lv_istore_n (lv' := [(2, .int (0 : Int32)), (0, .ref oN), (1, .int x1)]) hx hb dX1_whoMay_1 rfl hl (by decide) rfl (fun ls hl => ?_)
  refine lv_iconst (v := (0 : Int32)) hx hb dX1_whoMay_2 (by decide) ?_
  refine lv_istore_n (lv' := [(3, .int (0 : Int32)), (2, .int (0 : Int32)), (0, .ref oN), (1, .int x1)]) hx hb dX1_whoMay_3 rfl hl (by decide) rfl (fun ls hl => ?_)
  exact b_4 (0 : Int32) (0 : Int32) _ (lv_sub hl [2, 3, 1, 0] rfl) hw
set_option maxHeartbeats 4000000 in
set_option maxRecDepth 100000 in
theorem c_X1_isLegal (l : Launch) (dC : Nat → ClassId) (dI : Nat → Nat → Nat) (cA : ClassId) (oN : Nat) (gN : Nat → Nat) (FN : Nat → Int32) (AN : Nat → Nat → Int32) (x1 : Int32) (Post : Int32 → Prop) (hw : wp_X1_isLegal FN AN x1 Post) : RoI (dC, dI) cA l yX1_isLegal cX1_isLegal 3 .boolean 5 116 [.ref oN, .int x1] (nW oN gN cA FN AN) Post := by
  refine enRo (by decide) (Nat.le_of_ble_eq_true rfl) ?_
  intro p e s m args below meth c Q ls fx hK hP hret hl
  obtain ⟨hx, hb, hml, hown, hts⟩ := id fx
  have hl : lv_has ls 3 [(0, .ref oN), (1, .int x1)] := hl
  refine lv_aload_n hx hb dX1_isLegal_0 rfl (lv_at hl 0 rfl) ?_
  refine lv_iload_n hx hb dX1_isLegal_1 rfl (lv_at hl 1 rfl) ?_
  refine caRoV (rest := []) (As := [.int x1]) fx hK lk_X1_106 (c_X1_whoMay l dC dI cA oN gN FN AN x1 _ hw) (hP.sub [0, 1, 2] rfl) 0 rfl rfl ⟨(Nat.le_of_ble_eq_true rfl), (Nat.le_of_ble_eq_true rfl)⟩ rfl hl.1 rfl (Nat.le_of_ble_eq_true rfl) dX1_isLegal_2 ?_
  intro r_6 hw
  refine lv_istore_n (lv' := [(2, .int r_6), (0, .ref oN), (1, .int x1)]) hx hb dX1_isLegal_5 rfl hl (by decide) rfl (fun ls hl => ?_)
  refine lv_aload_n hx hb dX1_isLegal_6 rfl (lv_at hl 1 rfl) ?_
  refine gz (q0 := 0) (v := .int (FN 0)) fx hK hP fl_X1_24 rfl rfl dX1_isLegal_7 ?_
  refine lv_iconst (v := (1 : Int32)) hx hb dX1_isLegal_10 (by decide) ?_
  refine lv_icmp_ne (tgt := 30) hx hb dX1_isLegal_11 (by decide) (fun c_7 => ?_) (fun c_7 => ?_)
  · have hw := hw.1 c_7
    refine lv_iload_n hx hb dX1_isLegal_30 rfl (lv_at hl 0 rfl) ?_
    refine lv_if_ne (tgt := 38) hx hb dX1_isLegal_31 (by decide) (fun c_8 => ?_) (fun c_8 => ?_)
    · have hw := hw.1 c_8
      refine lv_iconst (v := (0 : Int32)) hx hb dX1_isLegal_38 (by decide) ?_
      exact hret _ _ _ dX1_isLegal_39 rfl hw
    · have hw := hw.2 c_8
      refine lv_iconst (v := (1 : Int32)) hx hb dX1_isLegal_34 (by decide) ?_
      refine lv_goto (tgt := 39) hx hb dX1_isLegal_35 (by decide) ?_
      exact hret _ _ _ dX1_isLegal_39 rfl hw
  · have hw := hw.2 c_7
    refine lv_iload_n hx hb dX1_isLegal_14 rfl (lv_at hl 0 rfl) ?_
    refine caRoS (rest := []) (As := [.int r_6]) fx hK lk_X1_62 (c_J6_bitCount_0f7a4 l dC dI cA r_6 _ hw) (hP.sub [] rfl) ⟨(Nat.le_of_ble_eq_true rfl), (Nat.le_of_ble_eq_true rfl)⟩ rfl hl.1 rfl (Nat.le_of_ble_eq_true rfl) dX1_isLegal_15 ?_
    intro r_9 hw
    refine lv_iconst (v := (1 : Int32)) hx hb dX1_isLegal_18 (by decide) ?_
    refine lv_icmp_ne (tgt := 26) hx hb dX1_isLegal_19 (by decide) (fun c_10 => ?_) (fun c_10 => ?_)
    · have hw := hw.1 c_10
      refine lv_iconst (v := (0 : Int32)) hx hb dX1_isLegal_26 (by decide) ?_
      refine lv_goto (tgt := 39) hx hb dX1_isLegal_27 (by decide) ?_
      exact hret _ _ _ dX1_isLegal_39 rfl hw
    · have hw := hw.2 c_10
      refine lv_iconst (v := (1 : Int32)) hx hb dX1_isLegal_22 (by decide) ?_
      refine lv_goto (tgt := 39) hx hb dX1_isLegal_23 (by decide) ?_
      exact hret _ _ _ dX1_isLegal_39 rfl hw
set_option maxHeartbeats 4000000 in
set_option maxRecDepth 100000 in
theorem c_X1_matchOf (l : Launch) (dC : Nat → ClassId) (dI : Nat → Nat → Nat) (cA : ClassId) (oN : Nat) (gN : Nat → Nat) (FN : Nat → Int32) (AN : Nat → Nat → Int32) (x1 : Int32) (x2 : Int32) (Post : Int32 → Prop) (hw : wp_X1_matchOf FN AN x1 x2 Post) : RoI (dC, dI) cA l yX1_matchOf cX1_matchOf 5 .int 1 22 [.ref oN, .int x1, .int x2] (nW oN gN cA FN AN) Post := by
  refine enRo (by decide) (Nat.le_of_ble_eq_true rfl) ?_
  intro p e s m args below meth c Q ls fx hK hP hret hl
  obtain ⟨hx, hb, hml, hown, hts⟩ := id fx
  have hl : lv_has ls 5 [(0, .ref oN), (1, .int x1), (2, .int x2)] := hl
  have b_43 : ∀ (x3 : Int32) (t0 : Int32) (ls : Array Slot), lv_has ls 5 [(3, .int x3)] → wp_X1_matchOf_43 FN AN x3 t0 Post → W p l e ({ frames := 1, cells := 0, slots := 0, locals := 22 } : Room) s m args below meth c s.heap [] 0 0 Q (F0 m 43 ls [.int t0]) := by
    intro x3 t0 ls hl hw
    refine lv_istore (lv' := [(4, .int t0), (3, .int x3)]) hx hb dX1_matchOf_43 hl (by decide) rfl (fun ls hl => ?_)
    refine lv_iload hx hb dX1_matchOf_45 (lv_at hl 0 rfl) ?_
    refine lv_if_eq (tgt := 54) hx hb dX1_matchOf_47 (by decide) (fun c_8 => ?_) (fun c_8 => ?_)
    · have hw := hw.1 c_8
      refine lv_bipush (v := (-4 : Int32)) hx hb dX1_matchOf_54 (by decide) ?_
      exact hret _ _ _ dX1_matchOf_56 rfl hw
    · have hw := hw.2 c_8
      refine lv_iload_n hx hb dX1_matchOf_50 rfl (lv_at hl 1 rfl) ?_
      refine lv_goto (tgt := 56) hx hb dX1_matchOf_51 (by decide) ?_
      exact hret _ _ _ dX1_matchOf_56 rfl hw
  have b_42 : ∀ (x3 : Int32) (ls : Array Slot), lv_has ls 5 [(3, .int x3)] → wp_X1_matchOf_42 FN AN x3 Post → W p l e ({ frames := 1, cells := 0, slots := 0, locals := 22 } : Room) s m args below meth c s.heap [] 0 0 Q (F0 m 42 ls []) := by
    intro x3 ls hl hw
    refine lv_iconst (v := (0 : Int32)) hx hb dX1_matchOf_42 (by decide) ?_
    exact b_43 x3 (0 : Int32) _ (lv_sub hl [0] rfl) hw
  refine lv_aload_n hx hb dX1_matchOf_0 rfl (lv_at hl 0 rfl) ?_
  refine lv_iload_n hx hb dX1_matchOf_1 rfl (lv_at hl 1 rfl) ?_
  refine lv_iload_n hx hb dX1_matchOf_2 rfl (lv_at hl 2 rfl) ?_
  refine caRoV (rest := []) (As := [.int x1, .int x2]) fx hK lk_X1_68 (c_X1_valueAt l dC dI cA oN gN FN AN x1 x2 _ hw) (hP.sub [0, 1, 2] rfl) 0 rfl rfl ⟨(Nat.le_of_ble_eq_true rfl), (Nat.le_of_ble_eq_true rfl)⟩ rfl hl.1 rfl (Nat.le_of_ble_eq_true rfl) dX1_matchOf_3 ?_
  intro r_9 hw
  refine lv_iconst (v := (1 : Int32)) hx hb dX1_matchOf_6 (by decide) ?_
  refine lv_isub hx hb dX1_matchOf_7 ?_
  refine lv_istore_n (lv' := [(3, .int (r_9 - (1 : Int32))), (0, .ref oN), (1, .int x1), (2, .int x2)]) hx hb dX1_matchOf_8 rfl hl (by decide) rfl (fun ls hl => ?_)
  refine lv_aload_n hx hb dX1_matchOf_9 rfl (lv_at hl 1 rfl) ?_
  refine lv_iload_n hx hb dX1_matchOf_10 rfl (lv_at hl 0 rfl) ?_
  refine caRoV (rest := []) (As := [.int (r_9 - (1 : Int32))]) fx hK lk_X1_43 (c_X1_hasMachine l dC dI cA oN gN FN AN (r_9 - (1 : Int32)) _ hw) (hP.sub [0, 1, 2] rfl) 0 rfl rfl ⟨(Nat.le_of_ble_eq_true rfl), (Nat.le_of_ble_eq_true rfl)⟩ rfl hl.1 rfl (Nat.le_of_ble_eq_true rfl) dX1_matchOf_11 ?_
  intro r_10 hw
  refine lv_if_eq (tgt := 42) hx hb dX1_matchOf_14 (by decide) (fun c_11 => ?_) (fun c_11 => ?_)
  · have hw := hw.1 c_11
    exact b_42 (r_9 - (1 : Int32)) _ (lv_sub hl [0] rfl) hw
  · have hw := hw.2 c_11
    refine lv_aload_n hx hb dX1_matchOf_17 rfl (lv_at hl 1 rfl) ?_
    refine lv_iload_n hx hb dX1_matchOf_18 rfl (lv_at hl 3 rfl) ?_
    refine lv_iload_n hx hb dX1_matchOf_19 rfl (lv_at hl 0 rfl) ?_
    refine caRoV (rest := []) (As := [.int x2, .int (r_9 - (1 : Int32))]) fx hK lk_X1_47 (c_X1_isLinked l dC dI cA oN gN FN AN x2 (r_9 - (1 : Int32)) _ hw) (hP.sub [0, 1, 2] rfl) 0 rfl rfl ⟨(Nat.le_of_ble_eq_true rfl), (Nat.le_of_ble_eq_true rfl)⟩ rfl hl.1 rfl (Nat.le_of_ble_eq_true rfl) dX1_matchOf_20 ?_
    intro r_12 hw
    refine lv_if_eq (tgt := 42) hx hb dX1_matchOf_23 (by decide) (fun c_13 => ?_) (fun c_13 => ?_)
    · have hw := hw.1 c_13
      exact b_42 (r_9 - (1 : Int32)) _ (lv_sub hl [0] rfl) hw
    · have hw := hw.2 c_13
      refine lv_aload_n hx hb dX1_matchOf_26 rfl (lv_at hl 1 rfl) ?_
      refine lv_iload_n hx hb dX1_matchOf_27 rfl (lv_at hl 2 rfl) ?_
      refine lv_iload_n hx hb dX1_matchOf_28 rfl (lv_at hl 0 rfl) ?_
      refine caRoV (rest := []) (As := [.int x1, .int (r_9 - (1 : Int32))]) fx hK lk_X1_68 (c_X1_valueAt l dC dI cA oN gN FN AN x1 (r_9 - (1 : Int32)) _ hw) (hP.sub [0, 1, 2] rfl) 0 rfl rfl ⟨(Nat.le_of_ble_eq_true rfl), (Nat.le_of_ble_eq_true rfl)⟩ rfl hl.1 rfl (Nat.le_of_ble_eq_true rfl) dX1_matchOf_29 ?_
      intro r_14 hw
      refine lv_iload_n hx hb dX1_matchOf_32 rfl (lv_at hl 3 rfl) ?_
      refine lv_iconst (v := (1 : Int32)) hx hb dX1_matchOf_33 (by decide) ?_
      refine lv_iadd hx hb dX1_matchOf_34 ?_
      refine lv_icmp_ne (tgt := 42) hx hb dX1_matchOf_35 (by decide) (fun c_15 => ?_) (fun c_15 => ?_)
      · have hw := hw.1 c_15
        exact b_42 (r_9 - (1 : Int32)) _ (lv_sub hl [0] rfl) hw
      · have hw := hw.2 c_15
        refine lv_iconst (v := (1 : Int32)) hx hb dX1_matchOf_38 (by decide) ?_
        refine lv_goto (tgt := 43) hx hb dX1_matchOf_39 (by decide) ?_
        exact b_43 (r_9 - (1 : Int32)) (1 : Int32) _ (lv_sub hl [0] rfl) hw
set_option maxHeartbeats 4000000 in
set_option maxRecDepth 100000 in
theorem c_X1_parentOf (l : Launch) (dC : Nat → ClassId) (dI : Nat → Nat → Nat) (cA : ClassId) (oN : Nat) (gN : Nat → Nat) (FN : Nat → Int32) (AN : Nat → Nat → Int32) (x1 : Int32) (x2 : Int32) (Post : Int32 → Prop) (hw : wp_X1_parentOf FN AN x1 x2 Post) : RoI (dC, dI) cA l yX1_parentOf cX1_parentOf 3 .int 2 46 [.ref oN, .int x1, .int x2] (nW oN gN cA FN AN) Post := by
  refine enRo (by decide) (Nat.le_of_ble_eq_true rfl) ?_
  intro p e s m args below meth c Q ls fx hK hP hret hl
  obtain ⟨hx, hb, hml, hown, hts⟩ := id fx
  have hl : lv_has ls 3 [(0, .ref oN), (1, .int x1), (2, .int x2)] := hl
  refine lv_aload_n hx hb dX1_parentOf_0 rfl (lv_at hl 0 rfl) ?_
  refine lv_iload_n hx hb dX1_parentOf_1 rfl (lv_at hl 1 rfl) ?_
  refine lv_iload_n hx hb dX1_parentOf_2 rfl (lv_at hl 2 rfl) ?_
  refine lv_aload_n hx hb dX1_parentOf_3 rfl (lv_at hl 0 rfl) ?_
  refine lv_iload_n hx hb dX1_parentOf_4 rfl (lv_at hl 1 rfl) ?_
  refine lv_iload_n hx hb dX1_parentOf_5 rfl (lv_at hl 2 rfl) ?_
  refine caRoV (rest := [.int x2, .int x1, .ref oN]) (As := [.int x1, .int x2]) fx hK lk_X1_68 (c_X1_valueAt l dC dI cA oN gN FN AN x1 x2 _ hw) (hP.sub [0, 1, 2] rfl) 0 rfl rfl ⟨(Nat.le_of_ble_eq_true rfl), (Nat.le_of_ble_eq_true rfl)⟩ rfl hl.1 rfl (Nat.le_of_ble_eq_true rfl) dX1_parentOf_6 ?_
  intro r_3 hw
  refine lv_iconst (v := (1 : Int32)) hx hb dX1_parentOf_9 (by decide) ?_
  refine lv_isub hx hb dX1_parentOf_10 ?_
  refine caRoV (rest := []) (As := [.int x1, .int x2, .int (r_3 - (1 : Int32))]) fx hK lk_X1_87 (c_X1_lowestLinkedWith l dC dI cA oN gN FN AN x1 x2 (r_3 - (1 : Int32)) _ hw) (hP.sub [0, 1, 2] rfl) 0 rfl rfl ⟨(Nat.le_of_ble_eq_true rfl), (Nat.le_of_ble_eq_true rfl)⟩ rfl hl.1 rfl (Nat.le_of_ble_eq_true rfl) dX1_parentOf_11 ?_
  intro r_4 hw
  exact hret _ _ _ dX1_parentOf_14 rfl hw
set_option maxHeartbeats 4000000 in
set_option maxRecDepth 100000 in
theorem c_X2_size (l : Launch) (dC : Nat → ClassId) (dI : Nat → Nat → Nat) (cA : ClassId) (oP : Nat) (gP : Nat → Nat) (FP : Nat → Int32) (AP : Nat → Nat → Int32) (Post : Int32 → Prop) (hw : wp_X2_size FP AP Post) : RoI (dC, dI) cA l yX2_size cX2_size 1 .int 0 0 [.ref oP] (pW oP gP cA FP AP) Post := by
  refine enRo (by decide) (Nat.le_of_ble_eq_true rfl) ?_
  intro p e s m args below meth c Q ls fx hK hP hret hl
  obtain ⟨hx, hb, hml, hown, hts⟩ := id fx
  have hl : lv_has ls 1 [(0, .ref oP)] := hl
  refine lv_aload_n hx hb dX2_size_0 rfl (lv_at hl 0 rfl) ?_
  refine gz (q0 := 0) (v := .int (FP 2)) fx hK hP fl_X2_18 rfl rfl dX2_size_1 ?_
  exact hret _ _ _ dX2_size_4 rfl hw
set_option maxHeartbeats 4000000 in
set_option maxRecDepth 100000 in
theorem c_X2_lastState (l : Launch) (dC : Nat → ClassId) (dI : Nat → Nat → Nat) (cA : ClassId) (oP : Nat) (gP : Nat → Nat) (FP : Nat → Int32) (AP : Nat → Nat → Int32) (Post : Int32 → Prop) (hw : wp_X2_lastState FP AP Post) : RoI (dC, dI) cA l yX2_lastState cX2_lastState 1 .int 1 21 [.ref oP] (pW oP gP cA FP AP) Post := by
  refine enRo (by decide) (Nat.le_of_ble_eq_true rfl) ?_
  intro p e s m args below meth c Q ls fx hK hP hret hl
  obtain ⟨hx, hb, hml, hown, hts⟩ := id fx
  have hl : lv_has ls 1 [(0, .ref oP)] := hl
  refine lv_aload_n hx hb dX2_lastState_0 rfl (lv_at hl 0 rfl) ?_
  refine gz (q0 := 0) (v := .ref (gP 0)) fx hK hP fl_X2_9 rfl rfl dX2_lastState_1 ?_
  refine lv_aload_n hx hb dX2_lastState_4 rfl (lv_at hl 0 rfl) ?_
  refine gz (q0 := 0) (v := .int (FP 2)) fx hK hP fl_X2_18 rfl rfl dX2_lastState_5 ?_
  refine lv_iconst (v := (1 : Int32)) hx hb dX2_lastState_8 (by decide) ?_
  refine lv_isub hx hb dX2_lastState_9 ?_
  refine caRoS (rest := []) (As := [.ref (gP 0), .int ((FP 2) - (1 : Int32))]) fx hK lk_X2_31 (c_at l (dC, dI) cA (gP 0) 6 (AP 0) ((FP 2) - (1 : Int32)) (by decide)) (hP.sub [1] rfl) ⟨(Nat.le_of_ble_eq_true rfl), (Nat.le_of_ble_eq_true rfl)⟩ rfl hl.1 rfl (Nat.le_of_ble_eq_true rfl) dX2_lastState_10 ?_
  intro r_3 e_4
  have hw := hw r_3 e_4
  exact hret _ _ _ dX2_lastState_13 rfl hw
set_option maxHeartbeats 4000000 in
set_option maxRecDepth 100000 in
theorem c_X2_lastMover (l : Launch) (dC : Nat → ClassId) (dI : Nat → Nat → Nat) (cA : ClassId) (oP : Nat) (gP : Nat → Nat) (FP : Nat → Int32) (AP : Nat → Nat → Int32) (Post : Int32 → Prop) (hw : wp_X2_lastMover FP AP Post) : RoI (dC, dI) cA l yX2_lastMover cX2_lastMover 1 .int 1 21 [.ref oP] (pW oP gP cA FP AP) Post := by
  refine enRo (by decide) (Nat.le_of_ble_eq_true rfl) ?_
  intro p e s m args below meth c Q ls fx hK hP hret hl
  obtain ⟨hx, hb, hml, hown, hts⟩ := id fx
  have hl : lv_has ls 1 [(0, .ref oP)] := hl
  refine lv_aload_n hx hb dX2_lastMover_0 rfl (lv_at hl 0 rfl) ?_
  refine gz (q0 := 0) (v := .ref (gP 1)) fx hK hP fl_X2_15 rfl rfl dX2_lastMover_1 ?_
  refine lv_aload_n hx hb dX2_lastMover_4 rfl (lv_at hl 0 rfl) ?_
  refine gz (q0 := 0) (v := .int (FP 2)) fx hK hP fl_X2_18 rfl rfl dX2_lastMover_5 ?_
  refine lv_iconst (v := (1 : Int32)) hx hb dX2_lastMover_8 (by decide) ?_
  refine lv_isub hx hb dX2_lastMover_9 ?_
  refine caRoS (rest := []) (As := [.ref (gP 1), .int ((FP 2) - (1 : Int32))]) fx hK lk_X2_31 (c_at l (dC, dI) cA (gP 1) 6 (AP 1) ((FP 2) - (1 : Int32)) (by decide)) (hP.sub [2] rfl) ⟨(Nat.le_of_ble_eq_true rfl), (Nat.le_of_ble_eq_true rfl)⟩ rfl hl.1 rfl (Nat.le_of_ble_eq_true rfl) dX2_lastMover_10 ?_
  intro r_3 e_4
  have hw := hw r_3 e_4
  exact hret _ _ _ dX2_lastMover_13 rfl hw
set_option maxHeartbeats 4000000 in
set_option maxRecDepth 100000 in
theorem c_X2_drop (l : Launch) (dC : Nat → ClassId) (dI : Nat → Nat → Nat) (cA : ClassId) (oP : Nat) (gP : Nat → Nat) (FP : Nat → Int32) (AP : Nat → Nat → Int32) (Post : (Nat → Int32) → (Nat → Nat → Int32) → Prop) (hw : wp_X2_drop FP AP Post) : MuV (dC, dI) cA l yX2_drop cX2_drop 1 0 0 [.ref oP] (pW oP gP cA FP AP) (fun (u : (Nat → Int32) × (Nat → Nat → Int32)) => Post (u.1) (u.2)) (fun u => (pW oP gP cA (u.1) (u.2))) := by
  refine enMv (by decide) (Nat.le_of_ble_eq_true rfl) ?_
  intro p e s m args below meth c Q ls A fx hK hP hD hS hA hret hl
  obtain ⟨hx, hb, hml, hown, hts⟩ := id fx
  have hl : lv_has ls 1 [(0, .ref oP)] := hl
  have hP : va_P (dC, dI) vwCl (pW oP gP cA FP AP) s.heap := hP
  refine lv_aload_n hx hb dX2_drop_0 rfl (lv_at hl 0 rfl) ?_
  refine gz (q0 := 0) (v := .int (FP 2)) fx hK hP fl_X2_18 rfl rfl dX2_drop_1 ?_
  refine lv_if_le (tgt := 17) hx hb dX2_drop_4 (by decide) (fun c_2 => ?_) (fun c_2 => ?_)
  · have hw := hw.1 c_2
    exact hret (FP, AP) _ _ _ _ dX2_drop_17 hw hP hD hS
  · have hw := hw.2 c_2
    refine lv_aload_n hx hb dX2_drop_7 rfl (lv_at hl 0 rfl) ?_
    refine lv_dup hx hb dX2_drop_8 rfl ?_
    refine gz (q0 := 0) (v := .int (FP 2)) fx hK hP fl_X2_18 rfl rfl dX2_drop_9 ?_
    refine lv_iconst (v := (1 : Int32)) hx hb dX2_drop_12 (by decide) ?_
    refine lv_isub hx hb dX2_drop_13 ?_
    refine pz (q0 := 0) (v := .int ((FP 2) - (1 : Int32))) fx hK hP hD hS fp_X2_18 rfl rfl rfl (Nat.le_of_ble_eq_true rfl) dX2_drop_14 (fun H locs hP hD hS => ?_)
    have hP : va_P (dC, dI) vwCl (pW oP gP cA (uF FP 2 ((FP 2) - (1 : Int32))) AP) H := hP
    have hD : va_D A (pW oP gP cA (uF FP 2 ((FP 2) - (1 : Int32))) AP) := hD
    exact hret ((uF FP 2 ((FP 2) - (1 : Int32))), AP) _ _ _ _ dX2_drop_17 hw hP hD hS
set_option maxHeartbeats 4000000 in
set_option maxRecDepth 100000 in
theorem c_X0_drawn (l : Launch) (dC : Nat → ClassId) (dI : Nat → Nat → Nat) (cA : ClassId) (x0 : Int32) (x1 : Int32) (Post : Int32 → Prop) (hw : wp_X0_drawn x0 x1 Post) : RoI (dC, dI) cA l yX0_drawn cX0_drawn 5 .int 1 20 [.int x0, .int x1] ([] : va_W) Post := by
  refine enRo (by decide) (Nat.le_of_ble_eq_true rfl) ?_
  intro p e s m args below meth c Q ls fx hK hP hret hl
  obtain ⟨hx, hb, hml, hown, hts⟩ := id fx
  have hl : lv_has ls 5 [(0, .int x0), (1, .int x1)] := hl
  have b_18 : ∀ (x3 : Int32) (x4 : Int32) (ls : Array Slot), lv_has ls 5 [(3, .int x3), (4, .int x4)] → wp_X0_drawn_18 x3 x4 Post → W p l e ({ frames := 1, cells := 0, slots := 0, locals := 20 } : Room) s m args below meth c s.heap [] 0 0 Q (F0 m 18 ls []) := by
    intro x3 x4 ls hl hw
    refine Lp_go (C := fun (t : Int32 × Int32) => ∀ (ls : Array Slot), lv_has ls 5 [(3, .int (t.1)), (4, .int (t.2))] → W p l e ({ frames := 1, cells := 0, slots := 0, locals := 20 } : Room) s m args below meth c s.heap [] 0 0 Q (F0 m 18 ls [])) ?_ hw ls hl
    intro k_18 hk_18 t
    obtain ⟨x3, x4⟩ := t
    intro hw ls hl
    have hl : lv_has ls 5 [(3, .int x3), (4, .int x4)] := hl
    have hw : st_X0_drawn_18 Post k_18 x3 x4 := hw
    refine lv_iload hx hb dX0_drawn_18 (lv_at hl 1 rfl) ?_
    refine lv_if_le (tgt := 36) hx hb dX0_drawn_20 (by decide) (fun c_3 => ?_) (fun c_3 => ?_)
    · have hw := hw.1 c_3
      refine lv_iload_n hx hb dX0_drawn_36 rfl (lv_at hl 0 rfl) ?_
      refine caRoS (rest := []) (As := [.int x3]) fx hK lk_X0_7 (c_X0_lowest l dC dI cA x3 _ hw) (hP.sub [] rfl) ⟨(Nat.le_of_ble_eq_true rfl), (Nat.le_of_ble_eq_true rfl)⟩ rfl hl.1 rfl (Nat.le_of_ble_eq_true rfl) dX0_drawn_37 ?_
      intro r_4 hw
      exact hret _ _ _ dX0_drawn_40 rfl hw
    · have hw := hw.2 c_3
      refine lv_iload_n hx hb dX0_drawn_23 rfl (lv_at hl 0 rfl) ?_
      refine lv_iload_n hx hb dX0_drawn_24 rfl (lv_at hl 0 rfl) ?_
      refine caRoS (rest := [.int x3]) (As := [.int x3]) fx hK lk_X0_7 (c_X0_lowest l dC dI cA x3 _ hw) (hP.sub [] rfl) ⟨(Nat.le_of_ble_eq_true rfl), (Nat.le_of_ble_eq_true rfl)⟩ rfl hl.1 rfl (Nat.le_of_ble_eq_true rfl) dX0_drawn_25 ?_
      intro r_5 hw
      refine lv_isub hx hb dX0_drawn_28 ?_
      refine lv_istore_n (lv' := [(3, .int (x3 - r_5)), (4, .int x4)]) hx hb dX0_drawn_29 rfl hl (by decide) rfl (fun ls hl => ?_)
      refine lv_iinc (v := (x4 + (-1))) (lv' := [(4, .int (x4 + (-1))), (3, .int (x3 - r_5))]) hx hb dX0_drawn_30 hl (k := 1) rfl rfl (by decide) rfl (fun ls hl => ?_)
      refine lv_goto (tgt := 18) hx hb dX0_drawn_33 (by decide) ?_
      exact hk_18 ((x3 - r_5), (x4 + (-1))) hw _ (lv_sub hl [1, 0] rfl)
  refine lv_iload_n hx hb dX0_drawn_0 rfl (lv_at hl 0 rfl) ?_
  refine caRoS (rest := []) (As := [.int x0]) fx hK lk_X0_13 (c_J6_bitCount_0f7a4 l dC dI cA x0 _ hw) (hP.sub [] rfl) ⟨(Nat.le_of_ble_eq_true rfl), (Nat.le_of_ble_eq_true rfl)⟩ rfl hl.1 rfl (Nat.le_of_ble_eq_true rfl) dX0_drawn_1 ?_
  intro r_6 hw
  refine lv_istore_n (lv' := [(2, .int r_6), (0, .int x0), (1, .int x1)]) hx hb dX0_drawn_4 rfl hl (by decide) rfl (fun ls hl => ?_)
  refine lv_iload_n hx hb dX0_drawn_5 rfl (lv_at hl 0 rfl) ?_
  refine lv_if_ne (tgt := 11) hx hb dX0_drawn_6 (by decide) (fun c_7 => ?_) (fun c_7 => ?_)
  · have hw := hw.1 c_7
    refine lv_iload_n hx hb dX0_drawn_11 rfl (lv_at hl 1 rfl) ?_
    refine lv_istore_n (lv' := [(3, .int x0), (2, .int r_6), (0, .int x0), (1, .int x1)]) hx hb dX0_drawn_12 rfl hl (by decide) rfl (fun ls hl => ?_)
    refine lv_iload_n hx hb dX0_drawn_13 rfl (lv_at hl 3 rfl) ?_
    refine lv_iload_n hx hb dX0_drawn_14 rfl (lv_at hl 1 rfl) ?_
    obtain ⟨hz, hw⟩ := hw
    refine lv_irem hx hb dX0_drawn_15 hz ?_
    refine lv_istore (lv' := [(4, .int (x1 - x1 / r_6 * r_6)), (3, .int x0), (2, .int r_6), (0, .int x0), (1, .int x1)]) hx hb dX0_drawn_16 hl (by decide) rfl (fun ls hl => ?_)
    exact b_18 x0 (x1 - x1 / r_6 * r_6) _ (lv_sub hl [1, 0] rfl) hw
  · have hw := hw.2 c_7
    refine lv_iconst (v := (0 : Int32)) hx hb dX0_drawn_9 (by decide) ?_
    exact hret _ _ _ dX0_drawn_10 rfl hw
set_option maxHeartbeats 4000000 in
set_option maxRecDepth 100000 in
theorem c_X0_nextInRing (l : Launch) (dC : Nat → ClassId) (dI : Nat → Nat → Nat) (cA : ClassId) (x0 : Int32) (x1 : Int32) (x2 : Int32) (Post : Int32 → Prop) (hw : wp_X0_nextInRing x0 x1 x2 Post) : RoI (dC, dI) cA l yX0_nextInRing cX0_nextInRing 4 .int 1 20 [.int x0, .int x1, .int x2] ([] : va_W) Post := by
  refine enRo (by decide) (Nat.le_of_ble_eq_true rfl) ?_
  intro p e s m args below meth c Q ls fx hK hP hret hl
  obtain ⟨hx, hb, hml, hown, hts⟩ := id fx
  have hl : lv_has ls 4 [(0, .int x0), (1, .int x1), (2, .int x2)] := hl
  have b_35 : ∀ (ls : Array Slot), lv_has ls 4 [(0, .int x0)] → wp_X0_nextInRing_35 x0 Post → W p l e ({ frames := 1, cells := 0, slots := 0, locals := 20 } : Room) s m args below meth c s.heap [] 0 0 Q (F0 m 35 ls []) := by
    intro ls hl hw
    refine lv_iload_n hx hb dX0_nextInRing_35 rfl (lv_at hl 0 rfl) ?_
    refine caRoS (rest := []) (As := [.int x0]) fx hK lk_X0_7 (c_X0_lowest l dC dI cA x0 _ hw) (hP.sub [] rfl) ⟨(Nat.le_of_ble_eq_true rfl), (Nat.le_of_ble_eq_true rfl)⟩ rfl hl.1 rfl (Nat.le_of_ble_eq_true rfl) dX0_nextInRing_36 ?_
    intro r_6 hw
    exact hret _ _ _ dX0_nextInRing_39 rfl hw
  refine lv_iload_n hx hb dX0_nextInRing_0 rfl (lv_at hl 1 rfl) ?_
  refine lv_if_ge (tgt := 9) hx hb dX0_nextInRing_1 (by decide) (fun c_7 => ?_) (fun c_7 => ?_)
  · have hw := hw.1 c_7
    refine lv_iload_n hx hb dX0_nextInRing_9 rfl (lv_at hl 0 rfl) ?_
    refine lv_iload_n hx hb dX0_nextInRing_10 rfl (lv_at hl 1 rfl) ?_
    refine lv_iconst (v := (1 : Int32)) hx hb dX0_nextInRing_11 (by decide) ?_
    refine lv_iadd hx hb dX0_nextInRing_12 ?_
    refine lv_ishr hx hb dX0_nextInRing_13 ?_
    refine lv_iload_n hx hb dX0_nextInRing_14 rfl (lv_at hl 1 rfl) ?_
    refine lv_iconst (v := (1 : Int32)) hx hb dX0_nextInRing_15 (by decide) ?_
    refine lv_iadd hx hb dX0_nextInRing_16 ?_
    refine lv_ishl hx hb dX0_nextInRing_17 ?_
    refine lv_istore_n (lv' := [(3, .int ((x0 >>> ((x1 + (1 : Int32)) &&& 31)) <<< ((x1 + (1 : Int32)) &&& 31))), (0, .int x0), (1, .int x1), (2, .int x2)]) hx hb dX0_nextInRing_18 rfl hl (by decide) rfl (fun ls hl => ?_)
    refine lv_iload_n hx hb dX0_nextInRing_19 rfl (lv_at hl 2 rfl) ?_
    refine lv_iload_n hx hb dX0_nextInRing_20 rfl (lv_at hl 3 rfl) ?_
    refine lv_icmp_ge (tgt := 35) hx hb dX0_nextInRing_21 (by decide) (fun c_8 => ?_) (fun c_8 => ?_)
    · have hw := hw.1 c_8
      exact b_35  _ (lv_sub hl [1] rfl) hw
    · have hw := hw.2 c_8
      refine lv_iload_n hx hb dX0_nextInRing_24 rfl (lv_at hl 0 rfl) ?_
      refine lv_if_eq (tgt := 35) hx hb dX0_nextInRing_25 (by decide) (fun c_9 => ?_) (fun c_9 => ?_)
      · have hw := hw.1 c_9
        exact b_35  _ (lv_sub hl [1] rfl) hw
      · have hw := hw.2 c_9
        refine lv_iload_n hx hb dX0_nextInRing_28 rfl (lv_at hl 0 rfl) ?_
        refine caRoS (rest := []) (As := [.int ((x0 >>> ((x1 + (1 : Int32)) &&& 31)) <<< ((x1 + (1 : Int32)) &&& 31))]) fx hK lk_X0_7 (c_X0_lowest l dC dI cA ((x0 >>> ((x1 + (1 : Int32)) &&& 31)) <<< ((x1 + (1 : Int32)) &&& 31)) _ hw) (hP.sub [] rfl) ⟨(Nat.le_of_ble_eq_true rfl), (Nat.le_of_ble_eq_true rfl)⟩ rfl hl.1 rfl (Nat.le_of_ble_eq_true rfl) dX0_nextInRing_29 ?_
        intro r_10 hw
        refine lv_goto (tgt := 39) hx hb dX0_nextInRing_32 (by decide) ?_
        exact hret _ _ _ dX0_nextInRing_39 rfl hw
  · have hw := hw.2 c_7
    refine lv_iload_n hx hb dX0_nextInRing_4 rfl (lv_at hl 0 rfl) ?_
    refine caRoS (rest := []) (As := [.int x0]) fx hK lk_X0_7 (c_X0_lowest l dC dI cA x0 _ hw) (hP.sub [] rfl) ⟨(Nat.le_of_ble_eq_true rfl), (Nat.le_of_ble_eq_true rfl)⟩ rfl hl.1 rfl (Nat.le_of_ble_eq_true rfl) dX0_nextInRing_5 ?_
    intro r_11 hw
    exact hret _ _ _ dX0_nextInRing_8 rfl hw
set_option maxHeartbeats 4000000 in
set_option maxRecDepth 100000 in
theorem c_X1_moved (l : Launch) (dC : Nat → ClassId) (dI : Nat → Nat → Nat) (cA : ClassId) (oN : Nat) (gN : Nat → Nat) (FN : Nat → Int32) (AN : Nat → Nat → Int32) (x1 : Int32) (x2 : Int32) (Post : Int32 → Prop) (hw : wp_X1_moved FN AN x1 x2 Post) : RoI (dC, dI) cA l yX1_moved cX1_moved 5 .int 4 93 [.ref oN, .int x1, .int x2] (nW oN gN cA FN AN) Post := by
  refine enRo (by decide) (Nat.le_of_ble_eq_true rfl) ?_
  intro p e s m args below meth c Q ls fx hK hP hret hl
  obtain ⟨hx, hb, hml, hown, hts⟩ := id fx
  have hl : lv_has ls 5 [(0, .ref oN), (1, .int x1), (2, .int x2)] := hl
  have b_5 : ∀ (x3 : Int32) (x4 : Int32) (ls : Array Slot), lv_has ls 5 [(0, .ref oN), (1, .int x1), (2, .int x2), (3, .int x3), (4, .int x4)] → wp_X1_moved_5 FN AN x1 x2 x3 x4 Post → W p l e ({ frames := 4, cells := 0, slots := 0, locals := 93 } : Room) s m args below meth c s.heap [] 0 0 Q (F0 m 5 ls []) := by
    intro x3 x4 ls hl hw
    refine Lp_go (C := fun (t : Int32 × Int32) => ∀ (ls : Array Slot), lv_has ls 5 [(0, .ref oN), (1, .int x1), (2, .int x2), (3, .int (t.1)), (4, .int (t.2))] → W p l e ({ frames := 4, cells := 0, slots := 0, locals := 93 } : Room) s m args below meth c s.heap [] 0 0 Q (F0 m 5 ls [])) ?_ hw ls hl
    intro k_5 hk_5 t
    obtain ⟨x3, x4⟩ := t
    intro hw ls hl
    have hl : lv_has ls 5 [(0, .ref oN), (1, .int x1), (2, .int x2), (3, .int x3), (4, .int x4)] := hl
    have hw : st_X1_moved_5 FN AN x1 x2 Post k_5 x3 x4 := hw
    refine lv_iload hx hb dX1_moved_5 (lv_at hl 4 rfl) ?_
    refine lv_aload_n hx hb dX1_moved_7 rfl (lv_at hl 0 rfl) ?_
    refine gz (q0 := 0) (v := .int (FN 1)) fx hK hP fl_X1_28 rfl rfl dX1_moved_8 ?_
    refine lv_icmp_ge (tgt := 44) hx hb dX1_moved_11 (by decide) (fun c_1 => ?_) (fun c_1 => ?_)
    · have hw := hw.1 c_1
      refine lv_iload_n hx hb dX1_moved_44 rfl (lv_at hl 3 rfl) ?_
      exact hret _ _ _ dX1_moved_45 rfl hw
    · have hw := hw.2 c_1
      refine lv_iload_n hx hb dX1_moved_14 rfl (lv_at hl 2 rfl) ?_
      refine lv_iload hx hb dX1_moved_15 (lv_at hl 4 rfl) ?_
      refine caRoS (rest := []) (As := [.int x2, .int x4]) fx hK lk_X1_95 (c_X0_has l dC dI cA x2 x4 _ hw) (hP.sub [] rfl) ⟨(Nat.le_of_ble_eq_true rfl), (Nat.le_of_ble_eq_true rfl)⟩ rfl hl.1 rfl (Nat.le_of_ble_eq_true rfl) dX1_moved_17 ?_
      intro r_2 hw
      refine lv_if_eq (tgt := 38) hx hb dX1_moved_20 (by decide) (fun c_3 => ?_) (fun c_3 => ?_)
      · have hw := hw.1 c_3
        refine lv_iinc (v := (x4 + 1)) (lv' := [(4, .int (x4 + 1)), (0, .ref oN), (1, .int x1), (2, .int x2), (3, .int x3)]) hx hb dX1_moved_38 hl (k := 4) rfl rfl (by decide) rfl (fun ls hl => ?_)
        refine lv_goto (tgt := 5) hx hb dX1_moved_41 (by decide) ?_
        exact hk_5 (x3, (x4 + 1)) hw _ (lv_sub hl [1, 2, 3, 4, 0] rfl)
      · have hw := hw.2 c_3
        refine lv_aload_n hx hb dX1_moved_23 rfl (lv_at hl 0 rfl) ?_
        refine lv_iload_n hx hb dX1_moved_24 rfl (lv_at hl 3 rfl) ?_
        refine lv_iload hx hb dX1_moved_25 (lv_at hl 4 rfl) ?_
        refine lv_aload_n hx hb dX1_moved_27 rfl (lv_at hl 0 rfl) ?_
        refine lv_iload_n hx hb dX1_moved_28 rfl (lv_at hl 1 rfl) ?_
        refine lv_iload hx hb dX1_moved_29 (lv_at hl 4 rfl) ?_
        refine caRoV (rest := [.int x4, .int x3, .ref oN]) (As := [.int x1, .int x4]) fx hK lk_X1_103 (c_X1_wants l dC dI cA oN gN FN AN x1 x4 _ hw) (hP.sub [0, 1, 2] rfl) 0 rfl rfl ⟨(Nat.le_of_ble_eq_true rfl), (Nat.le_of_ble_eq_true rfl)⟩ rfl hl.1 rfl (Nat.le_of_ble_eq_true rfl) dX1_moved_31 ?_
        intro r_4 hw
        refine caRoV (rest := []) (As := [.int x3, .int x4, .int r_4]) fx hK lk_X1_58 (c_X1_withValue l dC dI cA oN gN FN AN x3 x4 r_4 _ hw) (hP.sub [0, 1, 2] rfl) 0 rfl rfl ⟨(Nat.le_of_ble_eq_true rfl), (Nat.le_of_ble_eq_true rfl)⟩ rfl hl.1 rfl (Nat.le_of_ble_eq_true rfl) dX1_moved_34 ?_
        intro r_5 hw
        refine lv_istore_n (lv' := [(3, .int r_5), (0, .ref oN), (1, .int x1), (2, .int x2), (4, .int x4)]) hx hb dX1_moved_37 rfl hl (by decide) rfl (fun ls hl => ?_)
        refine lv_iinc (v := (x4 + 1)) (lv' := [(4, .int (x4 + 1)), (3, .int r_5), (0, .ref oN), (1, .int x1), (2, .int x2)]) hx hb dX1_moved_38 hl (k := 4) rfl rfl (by decide) rfl (fun ls hl => ?_)
        refine lv_goto (tgt := 5) hx hb dX1_moved_41 (by decide) ?_
        exact hk_5 (r_5, (x4 + 1)) hw _ (lv_sub hl [2, 3, 4, 1, 0] rfl)
  refine lv_iload_n hx hb dX1_moved_0 rfl (lv_at hl 1 rfl) ?_
  refine lv_istore_n (lv' := [(3, .int x1), (0, .ref oN), (1, .int x1), (2, .int x2)]) hx hb dX1_moved_1 rfl hl (by decide) rfl (fun ls hl => ?_)
  refine lv_iconst (v := (0 : Int32)) hx hb dX1_moved_2 (by decide) ?_
  refine lv_istore (lv' := [(4, .int (0 : Int32)), (3, .int x1), (0, .ref oN), (1, .int x1), (2, .int x2)]) hx hb dX1_moved_3 hl (by decide) rfl (fun ls hl => ?_)
  exact b_5 x1 (0 : Int32) _ (lv_sub hl [2, 3, 4, 1, 0] rfl) hw
set_option maxHeartbeats 4000000 in
set_option maxRecDepth 100000 in
theorem c_X1_struck (l : Launch) (dC : Nat → ClassId) (dI : Nat → Nat → Nat) (cA : ClassId) (oN : Nat) (gN : Nat → Nat) (FN : Nat → Int32) (AN : Nat → Nat → Int32) (x1 : Int32) (x2 : Int32) (Post : Int32 → Prop) (hw : wp_X1_struck FN AN x1 x2 Post) : RoI (dC, dI) cA l yX1_struck cX1_struck 3 .int 2 45 [.ref oN, .int x1, .int x2] (nW oN gN cA FN AN) Post := by
  refine enRo (by decide) (Nat.le_of_ble_eq_true rfl) ?_
  intro p e s m args below meth c Q ls fx hK hP hret hl
  obtain ⟨hx, hb, hml, hown, hts⟩ := id fx
  have hl : lv_has ls 3 [(0, .ref oN), (1, .int x1), (2, .int x2)] := hl
  refine lv_aload_n hx hb dX1_struck_0 rfl (lv_at hl 0 rfl) ?_
  refine gz (q0 := 0) (v := .int (FN 1)) fx hK hP fl_X1_28 rfl rfl dX1_struck_1 ?_
  refine lv_if_le (tgt := 14) hx hb dX1_struck_4 (by decide) (fun c_4 => ?_) (fun c_4 => ?_)
  · have hw := hw.1 c_4
    refine lv_iload_n hx hb dX1_struck_14 rfl (lv_at hl 1 rfl) ?_
    exact hret _ _ _ dX1_struck_15 rfl hw
  · have hw := hw.2 c_4
    refine lv_aload_n hx hb dX1_struck_7 rfl (lv_at hl 0 rfl) ?_
    refine gz (q0 := 0) (v := .int (FN 2)) fx hK hP fl_X1_31 rfl rfl dX1_struck_8 ?_
    refine lv_if_gt (tgt := 16) hx hb dX1_struck_11 (by decide) (fun c_5 => ?_) (fun c_5 => ?_)
    · have hw := hw.1 c_5
      refine lv_aload_n hx hb dX1_struck_16 rfl (lv_at hl 0 rfl) ?_
      refine lv_iload_n hx hb dX1_struck_17 rfl (lv_at hl 1 rfl) ?_
      refine lv_iload_n hx hb dX1_struck_18 rfl (lv_at hl 2 rfl) ?_
      refine lv_bipush (v := (8 : Int32)) hx hb dX1_struck_19 (by decide) ?_
      refine lv_idiv hx hb dX1_struck_21 (by decide) ?_
      refine lv_aload_n hx hb dX1_struck_22 rfl (lv_at hl 0 rfl) ?_
      refine gz (q0 := 0) (v := .int (FN 1)) fx hK hP fl_X1_28 rfl rfl dX1_struck_23 ?_
      obtain ⟨hz, hw⟩ := hw
      refine lv_irem hx hb dX1_struck_26 hz ?_
      refine lv_iload_n hx hb dX1_struck_27 rfl (lv_at hl 2 rfl) ?_
      refine lv_bipush (v := (64 : Int32)) hx hb dX1_struck_28 (by decide) ?_
      refine lv_idiv hx hb dX1_struck_30 (by decide) ?_
      refine lv_aload_n hx hb dX1_struck_31 rfl (lv_at hl 0 rfl) ?_
      refine gz (q0 := 0) (v := .int (FN 2)) fx hK hP fl_X1_31 rfl rfl dX1_struck_32 ?_
      obtain ⟨hz, hw⟩ := hw
      refine lv_irem hx hb dX1_struck_35 hz ?_
      refine caRoV (rest := []) (As := [.int x1, .int ((x2 / (8 : Int32)) - (x2 / (8 : Int32)) / (FN 1) * (FN 1)), .int ((x2 / (64 : Int32)) - (x2 / (64 : Int32)) / (FN 2) * (FN 2))]) fx hK lk_X1_58 (c_X1_withValue l dC dI cA oN gN FN AN x1 ((x2 / (8 : Int32)) - (x2 / (8 : Int32)) / (FN 1) * (FN 1)) ((x2 / (64 : Int32)) - (x2 / (64 : Int32)) / (FN 2) * (FN 2)) _ hw) (hP.sub [0, 1, 2] rfl) 0 rfl rfl ⟨(Nat.le_of_ble_eq_true rfl), (Nat.le_of_ble_eq_true rfl)⟩ rfl hl.1 rfl (Nat.le_of_ble_eq_true rfl) dX1_struck_36 ?_
      intro r_6 hw
      exact hret _ _ _ dX1_struck_39 rfl hw
    · have hw := hw.2 c_5
      refine lv_iload_n hx hb dX1_struck_14 rfl (lv_at hl 1 rfl) ?_
      exact hret _ _ _ dX1_struck_15 rfl hw
