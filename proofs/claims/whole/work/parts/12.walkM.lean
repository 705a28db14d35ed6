set_option maxHeartbeats 4000000 in
set_option maxRecDepth 100000 in
theorem c_X7_write (l : Launch) (dC : Nat → ClassId) (dI : Nat → Nat → Nat) (cA : ClassId) (oM : Nat) (gM : Nat → Nat) (FM : Nat → Int32) (AM : Nat → Nat → Int32) (x1 : Int32) (Post : Int32 → (Nat → Int32) → (Nat → Nat → Int32) → Prop) (hw : wp_X7_write FM AM x1 Post) : MuI (dC, dI) cA l yX7_write cX7_write 2 .int 0 0 [.ref oM, .int x1] (mW oM gM cA FM AM) (fun r (u : (Nat → Int32) × (Nat → Nat → Int32)) => Post r (u.1) (u.2)) (fun u => (mW oM gM cA (u.1) (u.2))) := by
  refine enMu (by decide) (Nat.le_of_ble_eq_true rfl) ?_
  intro p e s m args below meth c Q ls A fx hK hP hD hS hA hret hl
  obtain ⟨hx, hb, hml, hown, hts⟩ := id fx
  have hl : lv_has ls 2 [(0, .ref oM), (1, .int x1)] := hl
  have hP : va_P (dC, dI) vwCl (mW oM gM cA FM AM) s.heap := hP
  refine lv_iload_n hx hb dX7_write_0 rfl (lv_at hl 1 rfl) ?_
  refine lv_bipush (v := (32 : Int32)) hx hb dX7_write_1 (by decide) ?_
  refine lv_icmp_lt (tgt := 12) hx hb dX7_write_3 (by decide) (fun c_6 => ?_) (fun c_6 => ?_)
  · have hw := hw.1 c_6
    refine lv_iconst (v := (-1 : Int32)) hx hb dX7_write_12 (by decide) ?_
    exact hret _ (FM, AM) _ _ _ _ dX7_write_13 rfl hw hP hD hS
  · have hw := hw.2 c_6
    refine lv_iload_n hx hb dX7_write_6 rfl (lv_at hl 1 rfl) ?_
    refine lv_bipush (v := (126 : Int32)) hx hb dX7_write_7 (by decide) ?_
    refine lv_icmp_le (tgt := 14) hx hb dX7_write_9 (by decide) (fun c_7 => ?_) (fun c_7 => ?_)
    · have hw := hw.1 c_7
      refine lv_aload_n hx hb dX7_write_14 rfl (lv_at hl 0 rfl) ?_
      refine gz (q0 := 0) (v := .int (FM 0)) fx hK hP fl_X7_75 rfl rfl dX7_write_15 ?_
      refine lv_sipush (v := (200 : Int32)) hx hb dX7_write_18 (by decide) ?_
      refine lv_icmp_ne (tgt := 27) hx hb dX7_write_21 (by decide) (fun c_8 => ?_) (fun c_8 => ?_)
      · have hw := hw.1 c_8
        refine lv_aload_n hx hb dX7_write_27 rfl (lv_at hl 0 rfl) ?_
        refine gz (q0 := 0) (v := .ref (gM 1)) fx hK hP fl_X7_7 rfl rfl dX7_write_28 ?_
        refine lv_aload_n hx hb dX7_write_31 rfl (lv_at hl 0 rfl) ?_
        refine gz (q0 := 0) (v := .int (FM 0)) fx hK hP fl_X7_75 rfl rfl dX7_write_32 ?_
        refine lv_iload_n hx hb dX7_write_35 rfl (lv_at hl 1 rfl) ?_
        obtain ⟨hz, hw⟩ := hw
        refine az hx hb hK hP hD hS 1 rfl hz dX7_write_36 ?_
        intro g_9 H locs e_10 hP hD hS
        have hw := hw g_9 e_10
        have hP : va_P (dC, dI) vwCl (mW oM gM cA FM (uA AM 1 g_9)) H := hP
        have hD : va_D A (mW oM gM cA FM (uA AM 1 g_9)) := hD
        refine lv_aload_n hx hb dX7_write_37 rfl (lv_at hl 0 rfl) ?_
        refine lv_dup hx hb dX7_write_38 rfl ?_
        refine gz (q0 := 0) (v := .int (FM 0)) fx hK hP fl_X7_75 rfl rfl dX7_write_39 ?_
        refine lv_iconst (v := (1 : Int32)) hx hb dX7_write_42 (by decide) ?_
        refine lv_iadd hx hb dX7_write_43 ?_
        refine pz (q0 := 0) (v := .int ((FM 0) + (1 : Int32))) fx hK hP hD hS fp_X7_75 rfl rfl rfl (Nat.le_of_ble_eq_true rfl) dX7_write_44 (fun H locs hP hD hS => ?_)
        have hP : va_P (dC, dI) vwCl (mW oM gM cA (uF FM 0 ((FM 0) + (1 : Int32))) (uA AM 1 g_9)) H := hP
        have hD : va_D A (mW oM gM cA (uF FM 0 ((FM 0) + (1 : Int32))) (uA AM 1 g_9)) := hD
        refine lv_aload_n hx hb dX7_write_47 rfl (lv_at hl 0 rfl) ?_
        refine gz (q0 := 0) (v := .int ((FM 0) + (1 : Int32))) fx hK hP fl_X7_75 rfl rfl dX7_write_48 ?_
        exact hret _ ((uF FM 0 ((FM 0) + (1 : Int32))), (uA AM 1 g_9)) _ _ _ _ dX7_write_51 rfl hw hP hD hS
      · have hw := hw.2 c_8
        refine lv_bipush (v := (-3 : Int32)) hx hb dX7_write_24 (by decide) ?_
        exact hret _ (FM, AM) _ _ _ _ dX7_write_26 rfl hw hP hD hS
    · have hw := hw.2 c_7
      refine lv_iconst (v := (-1 : Int32)) hx hb dX7_write_12 (by decide) ?_
      exact hret _ (FM, AM) _ _ _ _ dX7_write_13 rfl hw hP hD hS
set_option maxHeartbeats 4000000 in
set_option maxRecDepth 100000 in
theorem c_X7_wipe (l : Launch) (dC : Nat → ClassId) (dI : Nat → Nat → Nat) (cA : ClassId) (oM : Nat) (gM : Nat → Nat) (FM : Nat → Int32) (AM : Nat → Nat → Int32) (Post : Int32 → (Nat → Int32) → (Nat → Nat → Int32) → Prop) (hw : wp_X7_wipe FM AM Post) : MuI (dC, dI) cA l yX7_wipe cX7_wipe 2 .int 0 0 [.ref oM] (mW oM gM cA FM AM) (fun r (u : (Nat → Int32) × (Nat → Nat → Int32)) => Post r (u.1) (u.2)) (fun u => (mW oM gM cA (u.1) (u.2))) := by
  refine enMu (by decide) (Nat.le_of_ble_eq_true rfl) ?_
  intro p e s m args below meth c Q ls A fx hK hP hD hS hA hret hl
  obtain ⟨hx, hb, hml, hown, hts⟩ := id fx
  have hl : lv_has ls 2 [(0, .ref oM)] := hl
  have hP : va_P (dC, dI) vwCl (mW oM gM cA FM AM) s.heap := hP
  refine lv_aload_n hx hb dX7_wipe_0 rfl (lv_at hl 0 rfl) ?_
  refine gz (q0 := 0) (v := .int (FM 0)) fx hK hP fl_X7_75 rfl rfl dX7_wipe_1 ?_
  refine lv_istore_n (lv' := [(1, .int (FM 0)), (0, .ref oM)]) hx hb dX7_wipe_4 rfl hl (by decide) rfl (fun ls hl => ?_)
  refine lv_aload_n hx hb dX7_wipe_5 rfl (lv_at hl 1 rfl) ?_
  refine lv_iconst (v := (0 : Int32)) hx hb dX7_wipe_6 (by decide) ?_
  refine pz (q0 := 0) (v := .int (0 : Int32)) fx hK hP hD hS fp_X7_75 rfl rfl rfl (Nat.le_of_ble_eq_true rfl) dX7_wipe_7 (fun H locs hP hD hS => ?_)
  have hP : va_P (dC, dI) vwCl (mW oM gM cA (uF FM 0 (0 : Int32)) AM) H := hP
  have hD : va_D A (mW oM gM cA (uF FM 0 (0 : Int32)) AM) := hD
  refine lv_iload_n hx hb dX7_wipe_10 rfl (lv_at hl 0 rfl) ?_
  exact hret _ ((uF FM 0 (0 : Int32)), AM) _ _ _ _ dX7_wipe_11 rfl hw hP hD hS
set_option maxHeartbeats 4000000 in
set_option maxRecDepth 100000 in
theorem c_X7_letterAt (l : Launch) (dC : Nat → ClassId) (dI : Nat → Nat → Nat) (cA : ClassId) (oM : Nat) (gM : Nat → Nat) (FM : Nat → Int32) (AM : Nat → Nat → Int32) (x1 : Int32) (Post : Int32 → Prop) (hw : wp_X7_letterAt FM AM x1 Post) : RoI (dC, dI) cA l yX7_letterAt cX7_letterAt 2 .int 0 0 [.ref oM, .int x1] (mW oM gM cA FM AM) Post := by
  refine enRo (by decide) (Nat.le_of_ble_eq_true rfl) ?_
  intro p e s m args below meth c Q ls fx hK hP hret hl
  obtain ⟨hx, hb, hml, hown, hts⟩ := id fx
  have hl : lv_has ls 2 [(0, .ref oM), (1, .int x1)] := hl
  refine lv_iload_n hx hb dX7_letterAt_0 rfl (lv_at hl 1 rfl) ?_
  refine lv_aload_n hx hb dX7_letterAt_1 rfl (lv_at hl 0 rfl) ?_
  refine gz (q0 := 0) (v := .int (FM 0)) fx hK hP fl_X7_75 rfl rfl dX7_letterAt_2 ?_
  refine lv_icmp_ge (tgt := 17) hx hb dX7_letterAt_5 (by decide) (fun c_2 => ?_) (fun c_2 => ?_)
  · have hw := hw.1 c_2
    refine lv_iconst (v := (0 : Int32)) hx hb dX7_letterAt_17 (by decide) ?_
    exact hret _ _ _ dX7_letterAt_18 rfl hw
  · have hw := hw.2 c_2
    refine lv_aload_n hx hb dX7_letterAt_8 rfl (lv_at hl 0 rfl) ?_
    refine gz (q0 := 0) (v := .ref (gM 1)) fx hK hP fl_X7_7 rfl rfl dX7_letterAt_9 ?_
    refine lv_iload_n hx hb dX7_letterAt_12 rfl (lv_at hl 1 rfl) ?_
    obtain ⟨hz, hw⟩ := hw
    refine va_iald hx hb hK hP 1 0 rfl rfl hz dX7_letterAt_13 ?_
    refine lv_goto (tgt := 18) hx hb dX7_letterAt_14 (by decide) ?_
    exact hret _ _ _ dX7_letterAt_18 rfl hw
set_option maxHeartbeats 4000000 in
set_option maxRecDepth 100000 in
theorem c_X7_figure (l : Launch) (dC : Nat → ClassId) (dI : Nat → Nat → Nat) (cA : ClassId) (oM : Nat) (gM : Nat → Nat) (FM : Nat → Int32) (AM : Nat → Nat → Int32) (x1 : Int32) (Post : Int32 → Prop) (hw : wp_X7_figure FM AM x1 Post) : RoI (dC, dI) cA l yX7_figure cX7_figure 3 .int 1 21 [.ref oM, .int x1] (mW oM gM cA FM AM) Post := by
  refine enRo (by decide) (Nat.le_of_ble_eq_true rfl) ?_
  intro p e s m args below meth c Q ls fx hK hP hret hl
  obtain ⟨hx, hb, hml, hown, hts⟩ := id fx
  have hl : lv_has ls 3 [(0, .ref oM), (1, .int x1)] := hl
  refine lv_aload_n hx hb dX7_figure_0 rfl (lv_at hl 0 rfl) ?_
  refine lv_iload_n hx hb dX7_figure_1 rfl (lv_at hl 1 rfl) ?_
  refine caRoV (rest := []) (As := [.int x1]) fx hK lk_X7_78 (c_X7_letterAt l dC dI cA oM gM FM AM x1 _ hw) (hP.sub [0, 1, 2, 3, 4, 5, 6, 7, 8, 9, 10, 11, 12, 13] rfl) 0 rfl rfl ⟨(Nat.le_of_ble_eq_true rfl), (Nat.le_of_ble_eq_true rfl)⟩ rfl hl.1 rfl (Nat.le_of_ble_eq_true rfl) dX7_figure_2 ?_
  intro r_4 hw
  refine lv_istore_n (lv' := [(2, .int r_4), (0, .ref oM), (1, .int x1)]) hx hb dX7_figure_5 rfl hl (by decide) rfl (fun ls hl => ?_)
  refine lv_iload_n hx hb dX7_figure_6 rfl (lv_at hl 0 rfl) ?_
  refine lv_bipush (v := (48 : Int32)) hx hb dX7_figure_7 (by decide) ?_
  refine lv_icmp_lt (tgt := 25) hx hb dX7_figure_9 (by decide) (fun c_5 => ?_) (fun c_5 => ?_)
  · have hw := hw.1 c_5
    refine lv_iconst (v := (-1 : Int32)) hx hb dX7_figure_25 (by decide) ?_
    exact hret _ _ _ dX7_figure_26 rfl hw
  · have hw := hw.2 c_5
    refine lv_iload_n hx hb dX7_figure_12 rfl (lv_at hl 0 rfl) ?_
    refine lv_bipush (v := (57 : Int32)) hx hb dX7_figure_13 (by decide) ?_
    refine lv_icmp_gt (tgt := 25) hx hb dX7_figure_15 (by decide) (fun c_6 => ?_) (fun c_6 => ?_)
    · have hw := hw.1 c_6
      refine lv_iconst (v := (-1 : Int32)) hx hb dX7_figure_25 (by decide) ?_
      exact hret _ _ _ dX7_figure_26 rfl hw
    · have hw := hw.2 c_6
      refine lv_iload_n hx hb dX7_figure_18 rfl (lv_at hl 0 rfl) ?_
      refine lv_bipush (v := (48 : Int32)) hx hb dX7_figure_19 (by decide) ?_
      refine lv_isub hx hb dX7_figure_21 ?_
      refine lv_goto (tgt := 26) hx hb dX7_figure_22 (by decide) ?_
      exact hret _ _ _ dX7_figure_26 rfl hw
set_option maxHeartbeats 4000000 in
set_option maxRecDepth 100000 in
theorem c_X7_isIn (l : Launch) (dC : Nat → ClassId) (dI : Nat → Nat → Nat) (cA : ClassId) (x0 : Int32) (x1 : Int32) (x2 : Int32) (Post : Int32 → Prop) (hw : wp_X7_isIn x0 x1 x2 Post) : RoI (dC, dI) cA l yX7_isIn cX7_isIn 3 .boolean 0 0 [.int x0, .int x1, .int x2] ([] : va_W) Post := by
  refine enRo (by decide) (Nat.le_of_ble_eq_true rfl) ?_
  intro p e s m args below meth c Q ls fx hK hP hret hl
  obtain ⟨hx, hb, hml, hown, hts⟩ := id fx
  have hl : lv_has ls 3 [(0, .int x0), (1, .int x1), (2, .int x2)] := hl
  refine lv_iload_n hx hb dX7_isIn_0 rfl (lv_at hl 0 rfl) ?_
  refine lv_iload_n hx hb dX7_isIn_1 rfl (lv_at hl 1 rfl) ?_
  refine lv_icmp_lt (tgt := 14) hx hb dX7_isIn_2 (by decide) (fun c_3 => ?_) (fun c_3 => ?_)
  · have hw := hw.1 c_3
    refine lv_iconst (v := (0 : Int32)) hx hb dX7_isIn_14 (by decide) ?_
    exact hret _ _ _ dX7_isIn_15 rfl hw
  · have hw := hw.2 c_3
    refine lv_iload_n hx hb dX7_isIn_5 rfl (lv_at hl 0 rfl) ?_
    refine lv_iload_n hx hb dX7_isIn_6 rfl (lv_at hl 2 rfl) ?_
    refine lv_icmp_gt (tgt := 14) hx hb dX7_isIn_7 (by decide) (fun c_4 => ?_) (fun c_4 => ?_)
    · have hw := hw.1 c_4
      refine lv_iconst (v := (0 : Int32)) hx hb dX7_isIn_14 (by decide) ?_
      exact hret _ _ _ dX7_isIn_15 rfl hw
    · have hw := hw.2 c_4
      refine lv_iconst (v := (1 : Int32)) hx hb dX7_isIn_10 (by decide) ?_
      refine lv_goto (tgt := 15) hx hb dX7_isIn_11 (by decide) ?_
      exact hret _ _ _ dX7_isIn_15 rfl hw
set_option maxHeartbeats 4000000 in
set_option maxRecDepth 100000 in
theorem c_X7_readsNet (l : Launch) (dC : Nat → ClassId) (dI : Nat → Nat → Nat) (cA : ClassId) (oM : Nat) (gM : Nat → Nat) (FM : Nat → Int32) (AM : Nat → Nat → Int32) (x1 : Int32) (Post : Int32 → (Nat → Int32) → (Nat → Nat → Int32) → Prop) (hw : wp_X7_readsNet FM AM x1 Post) : MuI (dC, dI) cA l yX7_readsNet cX7_readsNet 7 .boolean 2 43 [.ref oM, .int x1] (mW oM gM cA FM AM) (fun r (u : (Nat → Int32) × (Nat → Nat → Int32)) => Post r (u.1) (u.2)) (fun u => (mW oM gM cA (u.1) (u.2))) := by
  refine enMu (by decide) (Nat.le_of_ble_eq_true rfl) ?_
  intro p e s m args below meth c Q ls A fx hK hP hD hS hA hret hl
  obtain ⟨hx, hb, hml, hown, hts⟩ := id fx
  have hl : lv_has ls 7 [(0, .ref oM), (1, .int x1)] := hl
  have hP : va_P (dC, dI) vwCl (mW oM gM cA FM AM) s.heap := hP
  have b_124 : ∀ (FM : Nat → Int32) (AM : Nat → Nat → Int32) (x2 : Int32) (x3 : Int32) (x4 : Int32) (H : Heap) (locs : List Loc) (ls : Array Slot), va_P (dC, dI) vwCl (mW oM gM cA FM AM) H → va_D A (mW oM gM cA FM AM) → va_S A s.heap H locs → lv_has ls 7 [(2, .int x2), (3, .int x3), (4, .int x4)] → wp_X7_readsNet_124 FM AM x2 x3 x4 Post → W p l e ({ frames := 2, cells := 0, slots := 0, locals := 43 } : Room) s m args below meth c H locs 0 0 Q (F0 m 124 ls []) := by
    intro FM AM x2 x3 x4 H locs ls hP hD hS hl hw
    refine lv_iload_n hx hb dX7_readsNet_124 rfl (lv_at hl 0 rfl) ?_
    refine lv_iconst (v := (3 : Int32)) hx hb dX7_readsNet_125 (by decide) ?_
    refine lv_icmp_ne (tgt := 135) hx hb dX7_readsNet_126 (by decide) (fun c_11 => ?_) (fun c_11 => ?_)
    · have hw := hw.1 c_11
      refine lv_iconst (v := (1 : Int32)) hx hb dX7_readsNet_135 (by decide) ?_
      refine lv_goto (tgt := 140) hx hb dX7_readsNet_136 (by decide) ?_
      exact hret _ (FM, AM) _ _ _ _ dX7_readsNet_140 rfl hw hP hD hS
    · have hw := hw.2 c_11
      refine lv_iload hx hb dX7_readsNet_129 (lv_at hl 2 rfl) ?_
      refine lv_iload_n hx hb dX7_readsNet_131 rfl (lv_at hl 1 rfl) ?_
      refine lv_icmp_lt (tgt := 139) hx hb dX7_readsNet_132 (by decide) (fun c_12 => ?_) (fun c_12 => ?_)
      · have hw := hw.1 c_12
        refine lv_iconst (v := (0 : Int32)) hx hb dX7_readsNet_139 (by decide) ?_
        exact hret _ (FM, AM) _ _ _ _ dX7_readsNet_140 rfl hw hP hD hS
      · have hw := hw.2 c_12
        refine lv_iconst (v := (1 : Int32)) hx hb dX7_readsNet_135 (by decide) ?_
        refine lv_goto (tgt := 140) hx hb dX7_readsNet_136 (by decide) ?_
        exact hret _ (FM, AM) _ _ _ _ dX7_readsNet_140 rfl hw hP hD hS
  have b_68 : ∀ (FM : Nat → Int32) (AM : Nat → Nat → Int32) (x2 : Int32) (x3 : Int32) (x4 : Int32) (x5 : Int32) (x6 : Int32) (H : Heap) (locs : List Loc) (ls : Array Slot), va_P (dC, dI) vwCl (mW oM gM cA FM AM) H → va_D A (mW oM gM cA FM AM) → va_S A s.heap H locs → lv_has ls 7 [(0, .ref oM), (2, .int x2), (3, .int x3), (4, .int x4), (5, .int x5), (6, .int x6)] → wp_X7_readsNet_68 FM AM x2 x3 x4 x5 x6 Post → W p l e ({ frames := 2, cells := 0, slots := 0, locals := 43 } : Room) s m args below meth c H locs 0 0 Q (F0 m 68 ls []) := by
    intro FM AM x2 x3 x4 x5 x6 H locs ls hP hD hS hl hw
    refine Lp_go (C := fun (t : Int32 × Int32) => ∀ (H : Heap) (locs : List Loc) (ls : Array Slot), va_P (dC, dI) vwCl (mW oM gM cA FM AM) H → va_D A (mW oM gM cA FM AM) → va_S A s.heap H locs → lv_has ls 7 [(0, .ref oM), (2, .int x2), (3, .int x3), (4, .int x4), (5, .int (t.1)), (6, .int (t.2))] → W p l e ({ frames := 2, cells := 0, slots := 0, locals := 43 } : Room) s m args below meth c H locs 0 0 Q (F0 m 68 ls [])) ?_ hw H locs ls hP hD hS hl
    intro k_68 hk_68 t
    obtain ⟨x5, x6⟩ := t
    intro hw H locs ls hP hD hS hl
    have hP : va_P (dC, dI) vwCl (mW oM gM cA FM AM) H := hP
    have hD : va_D A (mW oM gM cA FM AM) := hD
    have hl : lv_has ls 7 [(0, .ref oM), (2, .int x2), (3, .int x3), (4, .int x4), (5, .int x5), (6, .int x6)] := hl
    have hw : st_X7_readsNet_68 FM AM x2 x3 x4 Post k_68 x5 x6 := hw
    refine lv_iload hx hb dX7_readsNet_68 (lv_at hl 5 rfl) ?_
    refine lv_iload_n hx hb dX7_readsNet_70 rfl (lv_at hl 2 rfl) ?_
    refine lv_icmp_ge (tgt := 87) hx hb dX7_readsNet_71 (by decide) (fun c_13 => ?_) (fun c_13 => ?_)
    · have hw := hw.1 c_13
      refine lv_aload_n hx hb dX7_readsNet_87 rfl (lv_at hl 0 rfl) ?_
      refine lv_iload_n hx hb dX7_readsNet_88 rfl (lv_at hl 1 rfl) ?_
      refine pz (q0 := 0) (v := .int x2) fx hK hP hD hS fp_X7_85 rfl rfl rfl (Nat.le_of_ble_eq_true rfl) dX7_readsNet_89 (fun H locs hP hD hS => ?_)
      have hP : va_P (dC, dI) vwCl (mW oM gM cA (uF FM 11 x2) AM) H := hP
      have hD : va_D A (mW oM gM cA (uF FM 11 x2) AM) := hD
      refine lv_aload_n hx hb dX7_readsNet_92 rfl (lv_at hl 0 rfl) ?_
      refine lv_iload_n hx hb dX7_readsNet_93 rfl (lv_at hl 2 rfl) ?_
      refine pz (q0 := 0) (v := .int x3) fx hK hP hD hS fp_X7_92 rfl rfl rfl (Nat.le_of_ble_eq_true rfl) dX7_readsNet_94 (fun H locs hP hD hS => ?_)
      have hP : va_P (dC, dI) vwCl (mW oM gM cA (uF (uF FM 11 x2) 12 x3) AM) H := hP
      have hD : va_D A (mW oM gM cA (uF (uF FM 11 x2) 12 x3) AM) := hD
      refine lv_aload_n hx hb dX7_readsNet_97 rfl (lv_at hl 0 rfl) ?_
      refine lv_iload hx hb dX7_readsNet_98 (lv_at hl 3 rfl) ?_
      refine pz (q0 := 0) (v := .int x4) fx hK hP hD hS fp_X7_95 rfl rfl rfl (Nat.le_of_ble_eq_true rfl) dX7_readsNet_100 (fun H locs hP hD hS => ?_)
      have hP : va_P (dC, dI) vwCl (mW oM gM cA (uF (uF (uF FM 11 x2) 12 x3) 13 x4) AM) H := hP
      have hD : va_D A (mW oM gM cA (uF (uF (uF FM 11 x2) 12 x3) 13 x4) AM) := hD
      refine lv_iload hx hb dX7_readsNet_103 (lv_at hl 4 rfl) ?_
      refine lv_sipush (v := (4096 : Int32)) hx hb dX7_readsNet_105 (by decide) ?_
      refine lv_icmp_gt (tgt := 139) hx hb dX7_readsNet_108 (by decide) (fun c_14 => ?_) (fun c_14 => ?_)
      · have hw := hw.1 c_14
        refine lv_iconst (v := (0 : Int32)) hx hb dX7_readsNet_139 (by decide) ?_
        exact hret _ ((uF (uF (uF FM 11 x2) 12 x3) 13 x4), AM) _ _ _ _ dX7_readsNet_140 rfl hw hP hD hS
      · have hw := hw.2 c_14
        refine lv_iload_n hx hb dX7_readsNet_111 rfl (lv_at hl 1 rfl) ?_
        refine lv_iconst (v := (2 : Int32)) hx hb dX7_readsNet_112 (by decide) ?_
        refine lv_icmp_ne (tgt := 124) hx hb dX7_readsNet_113 (by decide) (fun c_15 => ?_) (fun c_15 => ?_)
        · have hw := hw.1 c_15
          exact b_124 (uF (uF (uF FM 11 x2) 12 x3) 13 x4) AM x2 x3 x4 _ _ _ hP hD hS (lv_sub hl [1, 2, 3] rfl) hw
        · have hw := hw.2 c_15
          refine lv_iload hx hb dX7_readsNet_116 (lv_at hl 3 rfl) ?_
          refine lv_iload_n hx hb dX7_readsNet_118 rfl (lv_at hl 2 rfl) ?_
          refine lv_iconst (v := (1 : Int32)) hx hb dX7_readsNet_119 (by decide) ?_
          refine lv_iadd hx hb dX7_readsNet_120 ?_
          refine lv_icmp_ne (tgt := 139) hx hb dX7_readsNet_121 (by decide) (fun c_16 => ?_) (fun c_16 => ?_)
          · have hw := hw.1 c_16
            refine lv_iconst (v := (0 : Int32)) hx hb dX7_readsNet_139 (by decide) ?_
            exact hret _ ((uF (uF (uF FM 11 x2) 12 x3) 13 x4), AM) _ _ _ _ dX7_readsNet_140 rfl hw hP hD hS
          · have hw := hw.2 c_16
            exact b_124 (uF (uF (uF FM 11 x2) 12 x3) 13 x4) AM x2 x3 x4 _ _ _ hP hD hS (lv_sub hl [1, 2, 3] rfl) hw
    · have hw := hw.2 c_13
      refine lv_iload hx hb dX7_readsNet_74 (lv_at hl 4 rfl) ?_
      refine lv_iload hx hb dX7_readsNet_76 (lv_at hl 3 rfl) ?_
      refine lv_imul hx hb dX7_readsNet_78 ?_
      refine lv_istore (lv' := [(5, .int (x5 * x4)), (0, .ref oM), (2, .int x2), (3, .int x3), (4, .int x4), (6, .int x6)]) hx hb dX7_readsNet_79 hl (by decide) rfl (fun ls hl => ?_)
      refine lv_iinc (v := (x6 + 1)) (lv' := [(6, .int (x6 + 1)), (5, .int (x5 * x4)), (0, .ref oM), (2, .int x2), (3, .int x3), (4, .int x4)]) hx hb dX7_readsNet_81 hl (k := 5) rfl rfl (by decide) rfl (fun ls hl => ?_)
      refine lv_goto (tgt := 68) hx hb dX7_readsNet_84 (by decide) ?_
      exact hk_68 ((x5 * x4), (x6 + 1)) hw _ _ _ hP hD hS (lv_sub hl [2, 3, 4, 5, 1, 0] rfl)
  refine lv_aload_n hx hb dX7_readsNet_0 rfl (lv_at hl 0 rfl) ?_
  refine lv_iload_n hx hb dX7_readsNet_1 rfl (lv_at hl 1 rfl) ?_
  refine caRoV (rest := []) (As := [.int x1]) fx hK lk_X7_82 (c_X7_figure l dC dI cA oM gM FM AM x1 _ hw) (hP.sub [0, 1, 2, 3, 4, 5, 6, 7, 8, 9, 10, 11, 12, 13] rfl) 0 rfl rfl ⟨(Nat.le_of_ble_eq_true rfl), (Nat.le_of_ble_eq_true rfl)⟩ rfl hl.1 rfl (Nat.le_of_ble_eq_true rfl) dX7_readsNet_2 ?_
  intro r_17 hw
  refine lv_istore_n (lv' := [(2, .int r_17), (0, .ref oM), (1, .int x1)]) hx hb dX7_readsNet_5 rfl hl (by decide) rfl (fun ls hl => ?_)
  refine lv_aload_n hx hb dX7_readsNet_6 rfl (lv_at hl 1 rfl) ?_
  refine lv_iload_n hx hb dX7_readsNet_7 rfl (lv_at hl 2 rfl) ?_
  refine lv_iconst (v := (1 : Int32)) hx hb dX7_readsNet_8 (by decide) ?_
  refine lv_iadd hx hb dX7_readsNet_9 ?_
  refine caRoV (rest := []) (As := [.int (x1 + (1 : Int32))]) fx hK lk_X7_82 (c_X7_figure l dC dI cA oM gM FM AM (x1 + (1 : Int32)) _ hw) (hP.sub [0, 1, 2, 3, 4, 5, 6, 7, 8, 9, 10, 11, 12, 13] rfl) 0 rfl rfl ⟨(Nat.le_of_ble_eq_true rfl), (Nat.le_of_ble_eq_true rfl)⟩ rfl hl.1 rfl (Nat.le_of_ble_eq_true rfl) dX7_readsNet_10 ?_
  intro r_18 hw
  refine lv_istore_n (lv' := [(3, .int r_18), (2, .int r_17), (0, .ref oM), (1, .int x1)]) hx hb dX7_readsNet_13 rfl hl (by decide) rfl (fun ls hl => ?_)
  refine lv_aload_n hx hb dX7_readsNet_14 rfl (lv_at hl 2 rfl) ?_
  refine lv_iload_n hx hb dX7_readsNet_15 rfl (lv_at hl 3 rfl) ?_
  refine lv_iconst (v := (2 : Int32)) hx hb dX7_readsNet_16 (by decide) ?_
  refine lv_iadd hx hb dX7_readsNet_17 ?_
  refine caRoV (rest := []) (As := [.int (x1 + (2 : Int32))]) fx hK lk_X7_82 (c_X7_figure l dC dI cA oM gM FM AM (x1 + (2 : Int32)) _ hw) (hP.sub [0, 1, 2, 3, 4, 5, 6, 7, 8, 9, 10, 11, 12, 13] rfl) 0 rfl rfl ⟨(Nat.le_of_ble_eq_true rfl), (Nat.le_of_ble_eq_true rfl)⟩ rfl hl.1 rfl (Nat.le_of_ble_eq_true rfl) dX7_readsNet_18 ?_
  intro r_19 hw
  refine lv_istore (lv' := [(4, .int r_19), (3, .int r_18), (2, .int r_17), (0, .ref oM), (1, .int x1)]) hx hb dX7_readsNet_21 hl (by decide) rfl (fun ls hl => ?_)
  refine lv_aload_n hx hb dX7_readsNet_23 rfl (lv_at hl 3 rfl) ?_
  refine gz (q0 := 0) (v := .int (FM 11)) fx hK hP fl_X7_85 rfl rfl dX7_readsNet_24 ?_
  refine lv_if_gt (tgt := 60) hx hb dX7_readsNet_27 (by decide) (fun c_20 => ?_) (fun c_20 => ?_)
  · have hw := hw.1 c_20
    refine lv_iconst (v := (0 : Int32)) hx hb dX7_readsNet_60 (by decide) ?_
    exact hret _ (FM, AM) _ _ _ _ dX7_readsNet_61 rfl hw hP hD hS
  · have hw := hw.2 c_20
    refine lv_iload_n hx hb dX7_readsNet_30 rfl (lv_at hl 2 rfl) ?_
    refine lv_iconst (v := (1 : Int32)) hx hb dX7_readsNet_31 (by decide) ?_
    refine lv_iconst (v := (4 : Int32)) hx hb dX7_readsNet_32 (by decide) ?_
    refine caRoS (rest := []) (As := [.int r_17, .int (1 : Int32), .int (4 : Int32)]) fx hK lk_X7_88 (c_X7_isIn l dC dI cA r_17 (1 : Int32) (4 : Int32) _ hw) (hP.sub [] rfl) ⟨(Nat.le_of_ble_eq_true rfl), (Nat.le_of_ble_eq_true rfl)⟩ rfl hl.1 rfl (Nat.le_of_ble_eq_true rfl) dX7_readsNet_33 ?_
    intro r_21 hw
    refine lv_if_eq (tgt := 60) hx hb dX7_readsNet_36 (by decide) (fun c_22 => ?_) (fun c_22 => ?_)
    · have hw := hw.1 c_22
      refine lv_iconst (v := (0 : Int32)) hx hb dX7_readsNet_60 (by decide) ?_
      exact hret _ (FM, AM) _ _ _ _ dX7_readsNet_61 rfl hw hP hD hS
    · have hw := hw.2 c_22
      refine lv_iload_n hx hb dX7_readsNet_39 rfl (lv_at hl 1 rfl) ?_
      refine lv_iconst (v := (2 : Int32)) hx hb dX7_readsNet_40 (by decide) ?_
      refine lv_bipush (v := (6 : Int32)) hx hb dX7_readsNet_41 (by decide) ?_
      refine caRoS (rest := []) (As := [.int r_18, .int (2 : Int32), .int (6 : Int32)]) fx hK lk_X7_88 (c_X7_isIn l dC dI cA r_18 (2 : Int32) (6 : Int32) _ hw) (hP.sub [] rfl) ⟨(Nat.le_of_ble_eq_true rfl), (Nat.le_of_ble_eq_true rfl)⟩ rfl hl.1 rfl (Nat.le_of_ble_eq_true rfl) dX7_readsNet_43 ?_
      intro r_23 hw
      refine lv_if_eq (tgt := 60) hx hb dX7_readsNet_46 (by decide) (fun c_24 => ?_) (fun c_24 => ?_)
      · have hw := hw.1 c_24
        refine lv_iconst (v := (0 : Int32)) hx hb dX7_readsNet_60 (by decide) ?_
        exact hret _ (FM, AM) _ _ _ _ dX7_readsNet_61 rfl hw hP hD hS
      · have hw := hw.2 c_24
        refine lv_iload hx hb dX7_readsNet_49 (lv_at hl 0 rfl) ?_
        refine lv_iconst (v := (2 : Int32)) hx hb dX7_readsNet_51 (by decide) ?_
        refine lv_bipush (v := (7 : Int32)) hx hb dX7_readsNet_52 (by decide) ?_
        refine caRoS (rest := []) (As := [.int r_19, .int (2 : Int32), .int (7 : Int32)]) fx hK lk_X7_88 (c_X7_isIn l dC dI cA r_19 (2 : Int32) (7 : Int32) _ hw) (hP.sub [] rfl) ⟨(Nat.le_of_ble_eq_true rfl), (Nat.le_of_ble_eq_true rfl)⟩ rfl hl.1 rfl (Nat.le_of_ble_eq_true rfl) dX7_readsNet_54 ?_
        intro r_25 hw
        refine lv_if_ne (tgt := 62) hx hb dX7_readsNet_57 (by decide) (fun c_26 => ?_) (fun c_26 => ?_)
        · have hw := hw.1 c_26
          refine lv_iconst (v := (1 : Int32)) hx hb dX7_readsNet_62 (by decide) ?_
          refine lv_istore (lv' := [(5, .int (1 : Int32)), (4, .int r_19), (3, .int r_18), (2, .int r_17), (0, .ref oM), (1, .int x1)]) hx hb dX7_readsNet_63 hl (by decide) rfl (fun ls hl => ?_)
          refine lv_iconst (v := (0 : Int32)) hx hb dX7_readsNet_65 (by decide) ?_
          refine lv_istore (lv' := [(6, .int (0 : Int32)), (5, .int (1 : Int32)), (4, .int r_19), (3, .int r_18), (2, .int r_17), (0, .ref oM), (1, .int x1)]) hx hb dX7_readsNet_66 hl (by decide) rfl (fun ls hl => ?_)
          exact b_68 FM AM r_17 r_18 r_19 (1 : Int32) (0 : Int32) _ _ _ hP hD hS (lv_sub hl [5, 4, 3, 2, 1, 0] rfl) hw
        · have hw := hw.2 c_26
          refine lv_iconst (v := (0 : Int32)) hx hb dX7_readsNet_60 (by decide) ?_
          exact hret _ (FM, AM) _ _ _ _ dX7_readsNet_61 rfl hw hP hD hS
set_option maxHeartbeats 4000000 in
set_option maxRecDepth 100000 in
theorem c_X7_readsItem (l : Launch) (dC : Nat → ClassId) (dI : Nat → Nat → Nat) (cA : ClassId) (oM : Nat) (gM : Nat → Nat) (FM : Nat → Int32) (AM : Nat → Nat → Int32) (x1 : Int32) (x2 : Int32) (Post : Int32 → (Nat → Int32) → (Nat → Nat → Int32) → Prop) (hw : wp_X7_readsItem FM AM x1 x2 Post) : MuI (dC, dI) cA l yX7_readsItem cX7_readsItem 5 .int 3 69 [.ref oM, .int x1, .int x2] (mW oM gM cA FM AM) (fun r (u : (Nat → Int32) × (Nat → Nat → Int32)) => Post r (u.1) (u.2)) (fun u => (mW oM gM cA (u.1) (u.2))) := by
  refine enMu (by decide) (Nat.le_of_ble_eq_true rfl) ?_
  intro p e s m args below meth c Q ls A fx hK hP hD hS hA hret hl
  obtain ⟨hx, hb, hml, hown, hts⟩ := id fx
  have hl : lv_has ls 5 [(0, .ref oM), (1, .int x1), (2, .int x2)] := hl
  have hP : va_P (dC, dI) vwCl (mW oM gM cA FM AM) s.heap := hP
  refine lv_iload_n hx hb dX7_readsItem_0 rfl (lv_at hl 1 rfl) ?_
  refine lv_bipush (v := (103 : Int32)) hx hb dX7_readsItem_1 (by decide) ?_
  refine lv_icmp_ne (tgt := 22) hx hb dX7_readsItem_3 (by decide) (fun c_29 => ?_) (fun c_29 => ?_)
  · have hw := hw.1 c_29
    refine lv_aload_n hx hb dX7_readsItem_22 rfl (lv_at hl 0 rfl) ?_
    refine gz (q0 := 0) (v := .int (FM 11)) fx hK hP fl_X7_85 rfl rfl dX7_readsItem_23 ?_
    refine lv_if_ne (tgt := 31) hx hb dX7_readsItem_26 (by decide) (fun c_30 => ?_) (fun c_30 => ?_)
    · have hw := hw.1 c_30
      refine lv_aload_n hx hb dX7_readsItem_31 rfl (lv_at hl 0 rfl) ?_
      refine lv_iload_n hx hb dX7_readsItem_32 rfl (lv_at hl 2 rfl) ?_
      refine caRoV (rest := []) (As := [.int x2]) fx hK lk_X7_82 (c_X7_figure l dC dI cA oM gM FM AM x2 _ hw) (hP.sub [0, 1, 2, 3, 4, 5, 6, 7, 8, 9, 10, 11, 12, 13] rfl) 0 rfl rfl ⟨(Nat.le_of_ble_eq_true rfl), (Nat.le_of_ble_eq_true rfl)⟩ rfl hl.1 rfl (Nat.le_of_ble_eq_true rfl) dX7_readsItem_33 ?_
      intro r_31 hw
      refine lv_istore_n (lv' := [(3, .int r_31), (0, .ref oM), (1, .int x1), (2, .int x2)]) hx hb dX7_readsItem_36 rfl hl (by decide) rfl (fun ls hl => ?_)
      refine lv_aload_n hx hb dX7_readsItem_37 rfl (lv_at hl 1 rfl) ?_
      refine lv_iload_n hx hb dX7_readsItem_38 rfl (lv_at hl 3 rfl) ?_
      refine lv_iconst (v := (1 : Int32)) hx hb dX7_readsItem_39 (by decide) ?_
      refine lv_iadd hx hb dX7_readsItem_40 ?_
      refine caRoV (rest := []) (As := [.int (x2 + (1 : Int32))]) fx hK lk_X7_82 (c_X7_figure l dC dI cA oM gM FM AM (x2 + (1 : Int32)) _ hw) (hP.sub [0, 1, 2, 3, 4, 5, 6, 7, 8, 9, 10, 11, 12, 13] rfl) 0 rfl rfl ⟨(Nat.le_of_ble_eq_true rfl), (Nat.le_of_ble_eq_true rfl)⟩ rfl hl.1 rfl (Nat.le_of_ble_eq_true rfl) dX7_readsItem_41 ?_
      intro r_32 hw
      refine lv_istore (lv' := [(4, .int r_32), (3, .int r_31), (0, .ref oM), (1, .int x1), (2, .int x2)]) hx hb dX7_readsItem_44 hl (by decide) rfl (fun ls hl => ?_)
      refine lv_iload_n hx hb dX7_readsItem_46 rfl (lv_at hl 3 rfl) ?_
      refine lv_bipush (v := (101 : Int32)) hx hb dX7_readsItem_47 (by decide) ?_
      refine lv_icmp_ne (tgt := 153) hx hb dX7_readsItem_49 (by decide) (fun c_33 => ?_) (fun c_33 => ?_)
      · have hw := hw.1 c_33
        refine lv_iload_n hx hb dX7_readsItem_153 rfl (lv_at hl 3 rfl) ?_
        refine lv_bipush (v := (120 : Int32)) hx hb dX7_readsItem_154 (by decide) ?_
        refine lv_icmp_ne (tgt := 188) hx hb dX7_readsItem_156 (by decide) (fun c_34 => ?_) (fun c_34 => ?_)
        · have hw := hw.1 c_34
          refine lv_iconst (v := (-1 : Int32)) hx hb dX7_readsItem_188 (by decide) ?_
          exact hret _ (FM, AM) _ _ _ _ dX7_readsItem_189 rfl hw hP hD hS
        · have hw := hw.2 c_34
          refine lv_iload_n hx hb dX7_readsItem_159 rfl (lv_at hl 1 rfl) ?_
          refine lv_iconst (v := (0 : Int32)) hx hb dX7_readsItem_160 (by decide) ?_
          refine lv_aload_n hx hb dX7_readsItem_161 rfl (lv_at hl 2 rfl) ?_
          refine gz (q0 := 0) (v := .int (FM 12)) fx hK hP fl_X7_92 rfl rfl dX7_readsItem_162 ?_
          refine lv_iconst (v := (1 : Int32)) hx hb dX7_readsItem_165 (by decide) ?_
          refine lv_isub hx hb dX7_readsItem_166 ?_
          refine caRoS (rest := []) (As := [.int r_31, .int (0 : Int32), .int ((FM 12) - (1 : Int32))]) fx hK lk_X7_88 (c_X7_isIn l dC dI cA r_31 (0 : Int32) ((FM 12) - (1 : Int32)) _ hw) (hP.sub [] rfl) ⟨(Nat.le_of_ble_eq_true rfl), (Nat.le_of_ble_eq_true rfl)⟩ rfl hl.1 rfl (Nat.le_of_ble_eq_true rfl) dX7_readsItem_167 ?_
          intro r_35 hw
          refine lv_if_eq (tgt := 188) hx hb dX7_readsItem_170 (by decide) (fun c_36 => ?_) (fun c_36 => ?_)
          · have hw := hw.1 c_36
            refine lv_iconst (v := (-1 : Int32)) hx hb dX7_readsItem_188 (by decide) ?_
            exact hret _ (FM, AM) _ _ _ _ dX7_readsItem_189 rfl hw hP hD hS
          · have hw := hw.2 c_36
            refine lv_iload hx hb dX7_readsItem_173 (lv_at hl 0 rfl) ?_
            refine lv_iconst (v := (0 : Int32)) hx hb dX7_readsItem_175 (by decide) ?_
            refine lv_aload_n hx hb dX7_readsItem_176 rfl (lv_at hl 2 rfl) ?_
            refine gz (q0 := 0) (v := .int (FM 13)) fx hK hP fl_X7_95 rfl rfl dX7_readsItem_177 ?_
            refine lv_iconst (v := (1 : Int32)) hx hb dX7_readsItem_180 (by decide) ?_
            refine lv_isub hx hb dX7_readsItem_181 ?_
            refine caRoS (rest := []) (As := [.int r_32, .int (0 : Int32), .int ((FM 13) - (1 : Int32))]) fx hK lk_X7_88 (c_X7_isIn l dC dI cA r_32 (0 : Int32) ((FM 13) - (1 : Int32)) _ hw) (hP.sub [] rfl) ⟨(Nat.le_of_ble_eq_true rfl), (Nat.le_of_ble_eq_true rfl)⟩ rfl hl.1 rfl (Nat.le_of_ble_eq_true rfl) dX7_readsItem_182 ?_
            intro r_37 hw
            refine lv_if_ne (tgt := 190) hx hb dX7_readsItem_185 (by decide) (fun c_38 => ?_) (fun c_38 => ?_)
            · have hw := hw.1 c_38
              refine lv_aload_n hx hb dX7_readsItem_190 rfl (lv_at hl 2 rfl) ?_
              refine gz (q0 := 0) (v := .ref (gM 16)) fx hK hP fl_X7_25 rfl rfl dX7_readsItem_191 ?_
              refine lv_iload_n hx hb dX7_readsItem_194 rfl (lv_at hl 1 rfl) ?_
              refine lv_iload hx hb dX7_readsItem_195 (lv_at hl 0 rfl) ?_
              obtain ⟨hz, hw⟩ := hw
              refine az hx hb hK hP hD hS 6 rfl hz dX7_readsItem_197 ?_
              intro g_39 H locs e_40 hP hD hS
              have hw := hw g_39 e_40
              have hP : va_P (dC, dI) vwCl (mW oM gM cA FM (uA AM 16 g_39)) H := hP
              have hD : va_D A (mW oM gM cA FM (uA AM 16 g_39)) := hD
              refine lv_iload_n hx hb dX7_readsItem_198 rfl (lv_at hl 4 rfl) ?_
              refine lv_iconst (v := (2 : Int32)) hx hb dX7_readsItem_199 (by decide) ?_
              refine lv_iadd hx hb dX7_readsItem_200 ?_
              exact hret _ (FM, (uA AM 16 g_39)) _ _ _ _ dX7_readsItem_201 rfl hw hP hD hS
            · have hw := hw.2 c_38
              refine lv_iconst (v := (-1 : Int32)) hx hb dX7_readsItem_188 (by decide) ?_
              exact hret _ (FM, AM) _ _ _ _ dX7_readsItem_189 rfl hw hP hD hS
      · have hw := hw.2 c_33
        refine lv_aload_n hx hb dX7_readsItem_52 rfl (lv_at hl 2 rfl) ?_
        refine gz (q0 := 0) (v := .int (FM 11)) fx hK hP fl_X7_85 rfl rfl dX7_readsItem_53 ?_
        refine lv_iconst (v := (1 : Int32)) hx hb dX7_readsItem_56 (by decide) ?_
        refine lv_icmp_eq (tgt := 111) hx hb dX7_readsItem_57 (by decide) (fun c_41 => ?_) (fun c_41 => ?_)
        · have hw := hw.1 c_41
          refine lv_iconst (v := (-1 : Int32)) hx hb dX7_readsItem_111 (by decide) ?_
          exact hret _ (FM, AM) _ _ _ _ dX7_readsItem_112 rfl hw hP hD hS
        · have hw := hw.2 c_41
          refine lv_iload_n hx hb dX7_readsItem_60 rfl (lv_at hl 1 rfl) ?_
          refine lv_iconst (v := (0 : Int32)) hx hb dX7_readsItem_61 (by decide) ?_
          refine lv_aload_n hx hb dX7_readsItem_62 rfl (lv_at hl 2 rfl) ?_
          refine gz (q0 := 0) (v := .int (FM 12)) fx hK hP fl_X7_92 rfl rfl dX7_readsItem_63 ?_
          refine lv_iconst (v := (1 : Int32)) hx hb dX7_readsItem_66 (by decide) ?_
          refine lv_isub hx hb dX7_readsItem_67 ?_
          refine caRoS (rest := []) (As := [.int r_31, .int (0 : Int32), .int ((FM 12) - (1 : Int32))]) fx hK lk_X7_88 (c_X7_isIn l dC dI cA r_31 (0 : Int32) ((FM 12) - (1 : Int32)) _ hw) (hP.sub [] rfl) ⟨(Nat.le_of_ble_eq_true rfl), (Nat.le_of_ble_eq_true rfl)⟩ rfl hl.1 rfl (Nat.le_of_ble_eq_true rfl) dX7_readsItem_68 ?_
          intro r_42 hw
          refine lv_if_eq (tgt := 111) hx hb dX7_readsItem_71 (by decide) (fun c_43 => ?_) (fun c_43 => ?_)
          · have hw := hw.1 c_43
            refine lv_iconst (v := (-1 : Int32)) hx hb dX7_readsItem_111 (by decide) ?_
            exact hret _ (FM, AM) _ _ _ _ dX7_readsItem_112 rfl hw hP hD hS
          · have hw := hw.2 c_43
            refine lv_iload hx hb dX7_readsItem_74 (lv_at hl 0 rfl) ?_
            refine lv_iconst (v := (0 : Int32)) hx hb dX7_readsItem_76 (by decide) ?_
            refine lv_aload_n hx hb dX7_readsItem_77 rfl (lv_at hl 2 rfl) ?_
            refine gz (q0 := 0) (v := .int (FM 12)) fx hK hP fl_X7_92 rfl rfl dX7_readsItem_78 ?_
            refine lv_iconst (v := (1 : Int32)) hx hb dX7_readsItem_81 (by decide) ?_
            refine lv_isub hx hb dX7_readsItem_82 ?_
            refine caRoS (rest := []) (As := [.int r_32, .int (0 : Int32), .int ((FM 12) - (1 : Int32))]) fx hK lk_X7_88 (c_X7_isIn l dC dI cA r_32 (0 : Int32) ((FM 12) - (1 : Int32)) _ hw) (hP.sub [] rfl) ⟨(Nat.le_of_ble_eq_true rfl), (Nat.le_of_ble_eq_true rfl)⟩ rfl hl.1 rfl (Nat.le_of_ble_eq_true rfl) dX7_readsItem_83 ?_
            intro r_44 hw
            refine lv_if_eq (tgt := 111) hx hb dX7_readsItem_86 (by decide) (fun c_45 => ?_) (fun c_45 => ?_)
            · have hw := hw.1 c_45
              refine lv_iconst (v := (-1 : Int32)) hx hb dX7_readsItem_111 (by decide) ?_
              exact hret _ (FM, AM) _ _ _ _ dX7_readsItem_112 rfl hw hP hD hS
            · have hw := hw.2 c_45
              refine lv_iload_n hx hb dX7_readsItem_89 rfl (lv_at hl 1 rfl) ?_
              refine lv_iload hx hb dX7_readsItem_90 (lv_at hl 0 rfl) ?_
              refine lv_icmp_eq (tgt := 111) hx hb dX7_readsItem_92 (by decide) (fun c_46 => ?_) (fun c_46 => ?_)
              · have hw := hw.1 c_46
                refine lv_iconst (v := (-1 : Int32)) hx hb dX7_readsItem_111 (by decide) ?_
                exact hret _ (FM, AM) _ _ _ _ dX7_readsItem_112 rfl hw hP hD hS
              · have hw := hw.2 c_46
                refine lv_aload_n hx hb dX7_readsItem_95 rfl (lv_at hl 2 rfl) ?_
                refine gz (q0 := 0) (v := .ref (gM 15)) fx hK hP fl_X7_22 rfl rfl dX7_readsItem_96 ?_
                refine lv_bipush (v := (6 : Int32)) hx hb dX7_readsItem_99 (by decide) ?_
                refine lv_iload_n hx hb dX7_readsItem_101 rfl (lv_at hl 1 rfl) ?_
                refine lv_imul hx hb dX7_readsItem_102 ?_
                refine lv_iload hx hb dX7_readsItem_103 (lv_at hl 0 rfl) ?_
                refine lv_iadd hx hb dX7_readsItem_105 ?_
                obtain ⟨hz, hw⟩ := hw
                refine va_iald hx hb hK hP 5 0 rfl rfl hz dX7_readsItem_106 ?_
                refine lv_iconst (v := (1 : Int32)) hx hb dX7_readsItem_107 (by decide) ?_
                refine lv_icmp_ne (tgt := 113) hx hb dX7_readsItem_108 (by decide) (fun c_47 => ?_) (fun c_47 => ?_)
                · have hw := hw.1 c_47
                  refine lv_aload_n hx hb dX7_readsItem_113 rfl (lv_at hl 2 rfl) ?_
                  refine gz (q0 := 0) (v := .ref (gM 15)) fx hK hP fl_X7_22 rfl rfl dX7_readsItem_114 ?_
                  refine lv_bipush (v := (6 : Int32)) hx hb dX7_readsItem_117 (by decide) ?_
                  refine lv_iload_n hx hb dX7_readsItem_119 rfl (lv_at hl 1 rfl) ?_
                  refine lv_imul hx hb dX7_readsItem_120 ?_
                  refine lv_iload hx hb dX7_readsItem_121 (lv_at hl 0 rfl) ?_
                  refine lv_iadd hx hb dX7_readsItem_123 ?_
                  refine lv_iconst (v := (1 : Int32)) hx hb dX7_readsItem_124 (by decide) ?_
                  obtain ⟨hz, hw⟩ := hw
                  refine az hx hb hK hP hD hS 5 rfl hz dX7_readsItem_125 ?_
                  intro g_48 H locs e_49 hP hD hS
                  have hw := hw g_48 e_49
                  have hP : va_P (dC, dI) vwCl (mW oM gM cA FM (uA AM 15 g_48)) H := hP
                  have hD : va_D A (mW oM gM cA FM (uA AM 15 g_48)) := hD
                  refine lv_aload_n hx hb dX7_readsItem_126 rfl (lv_at hl 2 rfl) ?_
                  refine gz (q0 := 0) (v := .ref (gM 15)) fx hK hP fl_X7_22 rfl rfl dX7_readsItem_127 ?_
                  refine lv_bipush (v := (6 : Int32)) hx hb dX7_readsItem_130 (by decide) ?_
                  refine lv_iload hx hb dX7_readsItem_132 (lv_at hl 0 rfl) ?_
                  refine lv_imul hx hb dX7_readsItem_134 ?_
                  refine lv_iload_n hx hb dX7_readsItem_135 rfl (lv_at hl 1 rfl) ?_
                  refine lv_iadd hx hb dX7_readsItem_136 ?_
                  refine lv_iconst (v := (1 : Int32)) hx hb dX7_readsItem_137 (by decide) ?_
                  obtain ⟨hz, hw⟩ := hw
                  refine az hx hb hK hP hD hS 5 rfl hz dX7_readsItem_138 ?_
                  intro g_50 H locs e_51 hP hD hS
                  have hw := hw g_50 e_51
                  have hP : va_P (dC, dI) vwCl (mW oM gM cA FM (uA AM 15 g_50)) H := hP
                  have hD : va_D A (mW oM gM cA FM (uA AM 15 g_50)) := hD
                  refine lv_aload_n hx hb dX7_readsItem_139 rfl (lv_at hl 2 rfl) ?_
                  refine lv_dup hx hb dX7_readsItem_140 rfl ?_
                  refine gz (q0 := 0) (v := .int (FM 14)) fx hK hP fl_X7_102 rfl rfl dX7_readsItem_141 ?_
                  refine lv_iconst (v := (1 : Int32)) hx hb dX7_readsItem_144 (by decide) ?_
                  refine lv_iadd hx hb dX7_readsItem_145 ?_
                  refine pz (q0 := 0) (v := .int ((FM 14) + (1 : Int32))) fx hK hP hD hS fp_X7_102 rfl rfl rfl (Nat.le_of_ble_eq_true rfl) dX7_readsItem_146 (fun H locs hP hD hS => ?_)
                  have hP : va_P (dC, dI) vwCl (mW oM gM cA (uF FM 14 ((FM 14) + (1 : Int32))) (uA AM 15 g_50)) H := hP
                  have hD : va_D A (mW oM gM cA (uF FM 14 ((FM 14) + (1 : Int32))) (uA AM 15 g_50)) := hD
                  refine lv_iload_n hx hb dX7_readsItem_149 rfl (lv_at hl 4 rfl) ?_
                  refine lv_iconst (v := (2 : Int32)) hx hb dX7_readsItem_150 (by decide) ?_
                  refine lv_iadd hx hb dX7_readsItem_151 ?_
                  exact hret _ ((uF FM 14 ((FM 14) + (1 : Int32))), (uA AM 15 g_50)) _ _ _ _ dX7_readsItem_152 rfl hw hP hD hS
                · have hw := hw.2 c_47
                  refine lv_iconst (v := (-1 : Int32)) hx hb dX7_readsItem_111 (by decide) ?_
                  exact hret _ (FM, AM) _ _ _ _ dX7_readsItem_112 rfl hw hP hD hS
    · have hw := hw.2 c_30
      refine lv_iconst (v := (-1 : Int32)) hx hb dX7_readsItem_29 (by decide) ?_
      exact hret _ (FM, AM) _ _ _ _ dX7_readsItem_30 rfl hw hP hD hS
  · have hw := hw.2 c_29
    refine lv_aload_n hx hb dX7_readsItem_6 rfl (lv_at hl 0 rfl) ?_
    refine lv_iload_n hx hb dX7_readsItem_7 rfl (lv_at hl 2 rfl) ?_
    refine caMuV (rest := []) (As := [.int x2]) (w1 := ([] : va_W)) (w2 := ([] : va_W)) fx hK lk_X7_98 (c_X7_readsNet l dC dI cA oM gM FM AM x2 _ hw) hP hD hS hA 0 rfl rfl ⟨(Nat.le_of_ble_eq_true rfl), (Nat.le_of_ble_eq_true rfl)⟩ rfl hl.1 rfl (Nat.le_of_ble_eq_true rfl) dX7_readsItem_8 ?_
    intro r_55 u_54 H locs hw hP hD hS
    obtain ⟨FM_52, AM_53⟩ := u_54
    have hP : va_P (dC, dI) vwCl (mW oM gM cA FM_52 AM_53) H := hP
    have hD : va_D A (mW oM gM cA FM_52 AM_53) := hD
    try dsimp only at hw
    refine lv_if_eq (tgt := 20) hx hb dX7_readsItem_11 (by decide) (fun c_56 => ?_) (fun c_56 => ?_)
    · have hw := hw.1 c_56
      refine lv_iconst (v := (-1 : Int32)) hx hb dX7_readsItem_20 (by decide) ?_
      exact hret _ (FM_52, AM_53) _ _ _ _ dX7_readsItem_21 rfl hw hP hD hS
    · have hw := hw.2 c_56
      refine lv_iload_n hx hb dX7_readsItem_14 rfl (lv_at hl 2 rfl) ?_
      refine lv_iconst (v := (3 : Int32)) hx hb dX7_readsItem_15 (by decide) ?_
      refine lv_iadd hx hb dX7_readsItem_16 ?_
      refine lv_goto (tgt := 21) hx hb dX7_readsItem_17 (by decide) ?_
      exact hret _ (FM_52, AM_53) _ _ _ _ dX7_readsItem_21 rfl hw hP hD hS
set_option maxHeartbeats 4000000 in
set_option maxRecDepth 100000 in
theorem c_X7_reads (l : Launch) (dC : Nat → ClassId) (dI : Nat → Nat → Nat) (cA : ClassId) (oM : Nat) (gM : Nat → Nat) (FM : Nat → Int32) (AM : Nat → Nat → Int32) (Post : Int32 → (Nat → Int32) → (Nat → Nat → Int32) → Prop) (hw : wp_X7_reads FM AM Post) : MuI (dC, dI) cA l yX7_reads cX7_reads 3 .int 4 93 [.ref oM] (mW oM gM cA FM AM) (fun r (u : (Nat → Int32) × (Nat → Nat → Int32)) => Post r (u.1) (u.2)) (fun u => (mW oM gM cA (u.1) (u.2))) := by
  refine enMu (by decide) (Nat.le_of_ble_eq_true rfl) ?_
  intro p e s m args below meth c Q ls A fx hK hP hD hS hA hret hl
  obtain ⟨hx, hb, hml, hown, hts⟩ := id fx
  have hl : lv_has ls 3 [(0, .ref oM)] := hl
  have hP : va_P (dC, dI) vwCl (mW oM gM cA FM AM) s.heap := hP
  have b_54 : ∀ (FM : Nat → Int32) (AM : Nat → Nat → Int32) (x1 : Int32) (H : Heap) (locs : List Loc) (ls : Array Slot), va_P (dC, dI) vwCl (mW oM gM cA FM AM) H → va_D A (mW oM gM cA FM AM) → va_S A s.heap H locs → lv_has ls 3 [(0, .ref oM), (1, .int x1)] → wp_X7_reads_54 FM AM x1 Post → W p l e ({ frames := 4, cells := 0, slots := 0, locals := 93 } : Room) s m args below meth c H locs 0 0 Q (F0 m 54 ls []) := by
    intro FM AM x1 H locs ls hP hD hS hl hw
    refine Lp_go (C := fun (t : Int32 × (Nat → Int32) × (Nat → Nat → Int32)) => ∀ (H : Heap) (locs : List Loc) (ls : Array Slot), va_P (dC, dI) vwCl (mW oM gM cA (t.2.1) (t.2.2)) H → va_D A (mW oM gM cA (t.2.1) (t.2.2)) → va_S A s.heap H locs → lv_has ls 3 [(0, .ref oM), (1, .int (t.1))] → W p l e ({ frames := 4, cells := 0, slots := 0, locals := 93 } : Room) s m args below meth c H locs 0 0 Q (F0 m 54 ls [])) ?_ hw H locs ls hP hD hS hl
    intro k_54 hk_54 t
    obtain ⟨x1, FM, AM⟩ := t
    intro hw H locs ls hP hD hS hl
    have hP : va_P (dC, dI) vwCl (mW oM gM cA FM AM) H := hP
    have hD : va_D A (mW oM gM cA FM AM) := hD
    have hl : lv_has ls 3 [(0, .ref oM), (1, .int x1)] := hl
    have hw : st_X7_reads_54 Post k_54 x1 FM AM := hw
    refine lv_iload_n hx hb dX7_reads_54 rfl (lv_at hl 1 rfl) ?_
    refine lv_aload_n hx hb dX7_reads_55 rfl (lv_at hl 0 rfl) ?_
    refine gz (q0 := 0) (v := .int (FM 0)) fx hK hP fl_X7_75 rfl rfl dX7_reads_56 ?_
    refine lv_icmp_ge (tgt := 99) hx hb dX7_reads_59 (by decide) (fun c_1 => ?_) (fun c_1 => ?_)
    · have hw := hw.1 c_1
      refine lv_bipush (v := (-4 : Int32)) hx hb dX7_reads_99 (by decide) ?_
      exact hret _ (FM, AM) _ _ _ _ dX7_reads_101 rfl hw hP hD hS
    · have hw := hw.2 c_1
      refine lv_aload_n hx hb dX7_reads_62 rfl (lv_at hl 0 rfl) ?_
      refine lv_aload_n hx hb dX7_reads_63 rfl (lv_at hl 0 rfl) ?_
      refine gz (q0 := 0) (v := .ref (gM 1)) fx hK hP fl_X7_7 rfl rfl dX7_reads_64 ?_
      refine lv_iload_n hx hb dX7_reads_67 rfl (lv_at hl 1 rfl) ?_
      obtain ⟨hz, hw⟩ := hw
      refine va_iald hx hb hK hP 1 0 rfl rfl hz dX7_reads_68 ?_
      refine lv_iload_n hx hb dX7_reads_69 rfl (lv_at hl 1 rfl) ?_
      refine lv_iconst (v := (1 : Int32)) hx hb dX7_reads_70 (by decide) ?_
      refine lv_iadd hx hb dX7_reads_71 ?_
      refine caMuV (rest := []) (As := [.int ((AM 1) (ix x1)), .int (x1 + (1 : Int32))]) (w1 := ([] : va_W)) (w2 := ([] : va_W)) fx hK lk_X7_105 (c_X7_readsItem l dC dI cA oM gM FM AM ((AM 1) (ix x1)) (x1 + (1 : Int32)) _ hw) hP hD hS hA 0 rfl rfl ⟨(Nat.le_of_ble_eq_true rfl), (Nat.le_of_ble_eq_true rfl)⟩ rfl hl.1 rfl (Nat.le_of_ble_eq_true rfl) dX7_reads_72 ?_
      intro r_5 u_4 H locs hw hP hD hS
      obtain ⟨FM_2, AM_3⟩ := u_4
      have hP : va_P (dC, dI) vwCl (mW oM gM cA FM_2 AM_3) H := hP
      have hD : va_D A (mW oM gM cA FM_2 AM_3) := hD
      try dsimp only at hw
      refine lv_istore_n (lv' := [(2, .int r_5), (0, .ref oM), (1, .int x1)]) hx hb dX7_reads_75 rfl hl (by decide) rfl (fun ls hl => ?_)
      refine lv_iload_n hx hb dX7_reads_76 rfl (lv_at hl 0 rfl) ?_
      refine lv_if_lt (tgt := 90) hx hb dX7_reads_77 (by decide) (fun c_6 => ?_) (fun c_6 => ?_)
      · have hw := hw.1 c_6
        refine lv_iload_n hx hb dX7_reads_90 rfl (lv_at hl 2 rfl) ?_
        exact hret _ (FM_2, AM_3) _ _ _ _ dX7_reads_91 rfl hw hP hD hS
      · have hw := hw.2 c_6
        refine lv_aload_n hx hb dX7_reads_80 rfl (lv_at hl 1 rfl) ?_
        refine lv_iload_n hx hb dX7_reads_81 rfl (lv_at hl 0 rfl) ?_
        refine caRoV (rest := []) (As := [.int r_5]) fx hK lk_X7_78 (c_X7_letterAt l dC dI cA oM gM FM_2 AM_3 r_5 _ hw) (hP.sub [0, 1, 2, 3, 4, 5, 6, 7, 8, 9, 10, 11, 12, 13] rfl) 0 rfl rfl ⟨(Nat.le_of_ble_eq_true rfl), (Nat.le_of_ble_eq_true rfl)⟩ rfl hl.1 rfl (Nat.le_of_ble_eq_true rfl) dX7_reads_82 ?_
        intro r_7 hw
        refine lv_bipush (v := (59 : Int32)) hx hb dX7_reads_85 (by decide) ?_
        refine lv_icmp_eq (tgt := 92) hx hb dX7_reads_87 (by decide) (fun c_8 => ?_) (fun c_8 => ?_)
        · have hw := hw.1 c_8
          refine lv_iload_n hx hb dX7_reads_92 rfl (lv_at hl 0 rfl) ?_
          refine lv_iconst (v := (1 : Int32)) hx hb dX7_reads_93 (by decide) ?_
          refine lv_iadd hx hb dX7_reads_94 ?_
          refine lv_istore_n (lv' := [(1, .int (r_5 + (1 : Int32))), (2, .int r_5), (0, .ref oM)]) hx hb dX7_reads_95 rfl hl (by decide) rfl (fun ls hl => ?_)
          refine lv_goto (tgt := 54) hx hb dX7_reads_96 (by decide) ?_
          exact hk_54 ((r_5 + (1 : Int32)), FM_2, AM_3) hw _ _ _ hP hD hS (lv_sub hl [2, 0] rfl)
        · have hw := hw.2 c_8
          refine lv_iload_n hx hb dX7_reads_90 rfl (lv_at hl 2 rfl) ?_
          exact hret _ (FM_2, AM_3) _ _ _ _ dX7_reads_91 rfl hw hP hD hS
  have b_33 : ∀ (FM : Nat → Int32) (AM : Nat → Nat → Int32) (x1 : Int32) (H : Heap) (locs : List Loc) (ls : Array Slot), va_P (dC, dI) vwCl (mW oM gM cA FM AM) H → va_D A (mW oM gM cA FM AM) → va_S A s.heap H locs → lv_has ls 3 [(0, .ref oM), (1, .int x1)] → wp_X7_reads_33 FM AM x1 Post → W p l e ({ frames := 4, cells := 0, slots := 0, locals := 93 } : Room) s m args below meth c H locs 0 0 Q (F0 m 33 ls []) := by
    intro FM AM x1 H locs ls hP hD hS hl hw
    refine Lp_go (C := fun (t : Int32 × (Nat → Int32) × (Nat → Nat → Int32)) => ∀ (H : Heap) (locs : List Loc) (ls : Array Slot), va_P (dC, dI) vwCl (mW oM gM cA (t.2.1) (t.2.2)) H → va_D A (mW oM gM cA (t.2.1) (t.2.2)) → va_S A s.heap H locs → lv_has ls 3 [(0, .ref oM), (1, .int (t.1))] → W p l e ({ frames := 4, cells := 0, slots := 0, locals := 93 } : Room) s m args below meth c H locs 0 0 Q (F0 m 33 ls [])) ?_ hw H locs ls hP hD hS hl
    intro k_33 hk_33 t
    obtain ⟨x1, FM, AM⟩ := t
    intro hw H locs ls hP hD hS hl
    have hP : va_P (dC, dI) vwCl (mW oM gM cA FM AM) H := hP
    have hD : va_D A (mW oM gM cA FM AM) := hD
    have hl : lv_has ls 3 [(0, .ref oM), (1, .int x1)] := hl
    have hw : st_X7_reads_33 Post k_33 x1 FM AM := hw
    refine lv_iload_n hx hb dX7_reads_33 rfl (lv_at hl 1 rfl) ?_
    refine lv_bipush (v := (6 : Int32)) hx hb dX7_reads_34 (by decide) ?_
    refine lv_icmp_ge (tgt := 52) hx hb dX7_reads_36 (by decide) (fun c_9 => ?_) (fun c_9 => ?_)
    · have hw := hw.1 c_9
      refine lv_iconst (v := (0 : Int32)) hx hb dX7_reads_52 (by decide) ?_
      refine lv_istore_n (lv' := [(1, .int (0 : Int32)), (0, .ref oM)]) hx hb dX7_reads_53 rfl hl (by decide) rfl (fun ls hl => ?_)
      exact b_54 FM AM (0 : Int32) _ _ _ hP hD hS (lv_sub hl [1, 0] rfl) hw
    · have hw := hw.2 c_9
      refine lv_aload_n hx hb dX7_reads_39 rfl (lv_at hl 0 rfl) ?_
      refine gz (q0 := 0) (v := .ref (gM 16)) fx hK hP fl_X7_25 rfl rfl dX7_reads_40 ?_
      refine lv_iload_n hx hb dX7_reads_43 rfl (lv_at hl 1 rfl) ?_
      refine lv_iconst (v := (0 : Int32)) hx hb dX7_reads_44 (by decide) ?_
      obtain ⟨hz, hw⟩ := hw
      refine az hx hb hK hP hD hS 6 rfl hz dX7_reads_45 ?_
      intro g_10 H locs e_11 hP hD hS
      have hw := hw g_10 e_11
      have hP : va_P (dC, dI) vwCl (mW oM gM cA FM (uA AM 16 g_10)) H := hP
      have hD : va_D A (mW oM gM cA FM (uA AM 16 g_10)) := hD
      refine lv_iinc (v := (x1 + 1)) (lv' := [(1, .int (x1 + 1)), (0, .ref oM)]) hx hb dX7_reads_46 hl (k := 1) rfl rfl (by decide) rfl (fun ls hl => ?_)
      refine lv_goto (tgt := 33) hx hb dX7_reads_49 (by decide) ?_
      exact hk_33 ((x1 + 1), FM, (uA AM 16 g_10)) hw _ _ _ hP hD hS (lv_sub hl [1, 0] rfl)
  have b_12 : ∀ (FM : Nat → Int32) (AM : Nat → Nat → Int32) (x1 : Int32) (H : Heap) (locs : List Loc) (ls : Array Slot), va_P (dC, dI) vwCl (mW oM gM cA FM AM) H → va_D A (mW oM gM cA FM AM) → va_S A s.heap H locs → lv_has ls 3 [(0, .ref oM), (1, .int x1)] → wp_X7_reads_12 FM AM x1 Post → W p l e ({ frames := 4, cells := 0, slots := 0, locals := 93 } : Room) s m args below meth c H locs 0 0 Q (F0 m 12 ls []) := by
    intro FM AM x1 H locs ls hP hD hS hl hw
    refine Lp_go (C := fun (t : Int32 × (Nat → Int32) × (Nat → Nat → Int32)) => ∀ (H : Heap) (locs : List Loc) (ls : Array Slot), va_P (dC, dI) vwCl (mW oM gM cA (t.2.1) (t.2.2)) H → va_D A (mW oM gM cA (t.2.1) (t.2.2)) → va_S A s.heap H locs → lv_has ls 3 [(0, .ref oM), (1, .int (t.1))] → W p l e ({ frames := 4, cells := 0, slots := 0, locals := 93 } : Room) s m args below meth c H locs 0 0 Q (F0 m 12 ls [])) ?_ hw H locs ls hP hD hS hl
    intro k_12 hk_12 t
    obtain ⟨x1, FM, AM⟩ := t
    intro hw H locs ls hP hD hS hl
    have hP : va_P (dC, dI) vwCl (mW oM gM cA FM AM) H := hP
    have hD : va_D A (mW oM gM cA FM AM) := hD
    have hl : lv_has ls 3 [(0, .ref oM), (1, .int x1)] := hl
    have hw : st_X7_reads_12 Post k_12 x1 FM AM := hw
    refine lv_iload_n hx hb dX7_reads_12 rfl (lv_at hl 1 rfl) ?_
    refine lv_bipush (v := (36 : Int32)) hx hb dX7_reads_13 (by decide) ?_
    refine lv_icmp_ge (tgt := 31) hx hb dX7_reads_15 (by decide) (fun c_12 => ?_) (fun c_12 => ?_)
    · have hw := hw.1 c_12
      refine lv_iconst (v := (0 : Int32)) hx hb dX7_reads_31 (by decide) ?_
      refine lv_istore_n (lv' := [(1, .int (0 : Int32)), (0, .ref oM)]) hx hb dX7_reads_32 rfl hl (by decide) rfl (fun ls hl => ?_)
      exact b_33 FM AM (0 : Int32) _ _ _ hP hD hS (lv_sub hl [1, 0] rfl) hw
    · have hw := hw.2 c_12
      refine lv_aload_n hx hb dX7_reads_18 rfl (lv_at hl 0 rfl) ?_
      refine gz (q0 := 0) (v := .ref (gM 15)) fx hK hP fl_X7_22 rfl rfl dX7_reads_19 ?_
      refine lv_iload_n hx hb dX7_reads_22 rfl (lv_at hl 1 rfl) ?_
      refine lv_iconst (v := (0 : Int32)) hx hb dX7_reads_23 (by decide) ?_
      obtain ⟨hz, hw⟩ := hw
      refine az hx hb hK hP hD hS 5 rfl hz dX7_reads_24 ?_
      intro g_13 H locs e_14 hP hD hS
      have hw := hw g_13 e_14
      have hP : va_P (dC, dI) vwCl (mW oM gM cA FM (uA AM 15 g_13)) H := hP
      have hD : va_D A (mW oM gM cA FM (uA AM 15 g_13)) := hD
      refine lv_iinc (v := (x1 + 1)) (lv' := [(1, .int (x1 + 1)), (0, .ref oM)]) hx hb dX7_reads_25 hl (k := 1) rfl rfl (by decide) rfl (fun ls hl => ?_)
      refine lv_goto (tgt := 12) hx hb dX7_reads_28 (by decide) ?_
      exact hk_12 ((x1 + 1), FM, (uA AM 15 g_13)) hw _ _ _ hP hD hS (lv_sub hl [1, 0] rfl)
  refine lv_aload_n hx hb dX7_reads_0 rfl (lv_at hl 0 rfl) ?_
  refine lv_iconst (v := (0 : Int32)) hx hb dX7_reads_1 (by decide) ?_
  refine pz (q0 := 0) (v := .int (0 : Int32)) fx hK hP hD hS fp_X7_85 rfl rfl rfl (Nat.le_of_ble_eq_true rfl) dX7_reads_2 (fun H locs hP hD hS => ?_)
  have hP : va_P (dC, dI) vwCl (mW oM gM cA (uF FM 11 (0 : Int32)) AM) H := hP
  have hD : va_D A (mW oM gM cA (uF FM 11 (0 : Int32)) AM) := hD
  refine lv_aload_n hx hb dX7_reads_5 rfl (lv_at hl 0 rfl) ?_
  refine lv_iconst (v := (0 : Int32)) hx hb dX7_reads_6 (by decide) ?_
  refine pz (q0 := 0) (v := .int (0 : Int32)) fx hK hP hD hS fp_X7_102 rfl rfl rfl (Nat.le_of_ble_eq_true rfl) dX7_reads_7 (fun H locs hP hD hS => ?_)
  have hP : va_P (dC, dI) vwCl (mW oM gM cA (uF (uF FM 11 (0 : Int32)) 14 (0 : Int32)) AM) H := hP
  have hD : va_D A (mW oM gM cA (uF (uF FM 11 (0 : Int32)) 14 (0 : Int32)) AM) := hD
  refine lv_iconst (v := (0 : Int32)) hx hb dX7_reads_10 (by decide) ?_
  refine lv_istore_n (lv' := [(1, .int (0 : Int32)), (0, .ref oM)]) hx hb dX7_reads_11 rfl hl (by decide) rfl (fun ls hl => ?_)
  exact b_12 (uF (uF FM 11 (0 : Int32)) 14 (0 : Int32)) AM (0 : Int32) _ _ _ hP hD hS (lv_sub hl [1, 0] rfl) hw
set_option maxHeartbeats 4000000 in
set_option maxRecDepth 100000 in
theorem c_X7_fault (l : Launch) (dC : Nat → ClassId) (dI : Nat → Nat → Nat) (cA : ClassId) (oM : Nat) (gM : Nat → Nat) (FM : Nat → Int32) (AM : Nat → Nat → Int32) (Post : Int32 → (Nat → Int32) → (Nat → Nat → Int32) → Prop) (hw : wp_X7_fault FM AM Post) : MuI (dC, dI) cA l yX7_fault cX7_fault 1 .int 5 115 [.ref oM] (mW oM gM cA FM AM) (fun r (u : (Nat → Int32) × (Nat → Nat → Int32)) => Post r (u.1) (u.2)) (fun u => (mW oM gM cA (u.1) (u.2))) := by
  refine enMu (by decide) (Nat.le_of_ble_eq_true rfl) ?_
  intro p e s m args below meth c Q ls A fx hK hP hD hS hA hret hl
  obtain ⟨hx, hb, hml, hown, hts⟩ := id fx
  have hl : lv_has ls 1 [(0, .ref oM)] := hl
  have hP : va_P (dC, dI) vwCl (mW oM gM cA FM AM) s.heap := hP
  refine lv_aload_n hx hb dX7_fault_0 rfl (lv_at hl 0 rfl) ?_
  refine caMuV (rest := []) (As := []) (w1 := ([] : va_W)) (w2 := ([] : va_W)) fx hK lk_X7_109 (c_X7_reads l dC dI cA oM gM FM AM _ hw) hP hD hS hA 0 rfl rfl ⟨(Nat.le_of_ble_eq_true rfl), (Nat.le_of_ble_eq_true rfl)⟩ rfl hl.1 rfl (Nat.le_of_ble_eq_true rfl) dX7_fault_1 ?_
  intro r_8 u_7 H locs hw hP hD hS
  obtain ⟨FM_5, AM_6⟩ := u_7
  have hP : va_P (dC, dI) vwCl (mW oM gM cA FM_5 AM_6) H := hP
  have hD : va_D A (mW oM gM cA FM_5 AM_6) := hD
  try dsimp only at hw
  exact hret _ (FM_5, AM_6) _ _ _ _ dX7_fault_4 rfl hw hP hD hS
set_option maxHeartbeats 4000000 in
set_option maxRecDepth 100000 in
theorem c_X7_begins (l : Launch) (dC : Nat → ClassId) (dI : Nat → Nat → Nat) (cA : ClassId) (oM : Nat) (gM : Nat → Nat) (FM : Nat → Int32) (AM : Nat → Nat → Int32) (Post : (Nat → Int32) → (Nat → Nat → Int32) → Prop) (hw : wp_X7_begins FM AM Post) : MuV (dC, dI) cA l yX7_begins cX7_begins 2 0 0 [.ref oM] (mW oM gM cA FM AM) (fun (u : (Nat → Int32) × (Nat → Nat → Int32)) => Post (u.1) (u.2)) (fun u => (mW oM gM cA (u.1) (u.2))) := by
  refine enMv (by decide) (Nat.le_of_ble_eq_true rfl) ?_
  intro p e s m args below meth c Q ls A fx hK hP hD hS hA hret hl
  obtain ⟨hx, hb, hml, hown, hts⟩ := id fx
  have hl : lv_has ls 2 [(0, .ref oM)] := hl
  have hP : va_P (dC, dI) vwCl (mW oM gM cA FM AM) s.heap := hP
  have b_7 : ∀ (FM : Nat → Int32) (AM : Nat → Nat → Int32) (x1 : Int32) (H : Heap) (locs : List Loc) (ls : Array Slot), va_P (dC, dI) vwCl (mW oM gM cA FM AM) H → va_D A (mW oM gM cA FM AM) → va_S A s.heap H locs → lv_has ls 2 [(0, .ref oM), (1, .int x1)] → wp_X7_begins_7 FM AM x1 Post → W p l e ({ frames := 0, cells := 0, slots := 0, locals := 0 } : Room) s m args below meth c H locs 0 0 Q (F0 m 7 ls []) := by
    intro FM AM x1 H locs ls hP hD hS hl hw
    refine Lp_go (C := fun (t : Int32 × (Nat → Int32) × (Nat → Nat → Int32)) => ∀ (H : Heap) (locs : List Loc) (ls : Array Slot), va_P (dC, dI) vwCl (mW oM gM cA (t.2.1) (t.2.2)) H → va_D A (mW oM gM cA (t.2.1) (t.2.2)) → va_S A s.heap H locs → lv_has ls 2 [(0, .ref oM), (1, .int (t.1))] → W p l e ({ frames := 0, cells := 0, slots := 0, locals := 0 } : Room) s m args below meth c H locs 0 0 Q (F0 m 7 ls [])) ?_ hw H locs ls hP hD hS hl
    intro k_7 hk_7 t
    obtain ⟨x1, FM, AM⟩ := t
    intro hw H locs ls hP hD hS hl
    have hP : va_P (dC, dI) vwCl (mW oM gM cA FM AM) H := hP
    have hD : va_D A (mW oM gM cA FM AM) := hD
    have hl : lv_has ls 2 [(0, .ref oM), (1, .int x1)] := hl
    have hw : st_X7_begins_7 Post k_7 x1 FM AM := hw
    refine lv_iload_n hx hb dX7_begins_7 rfl (lv_at hl 1 rfl) ?_
    refine lv_aload_n hx hb dX7_begins_8 rfl (lv_at hl 0 rfl) ?_
    refine gz (q0 := 0) (v := .int (FM 3)) fx hK hP fl_X7_53 rfl rfl dX7_begins_9 ?_
    refine lv_icmp_ge (tgt := 44) hx hb dX7_begins_12 (by decide) (fun c_1 => ?_) (fun c_1 => ?_)
    · have hw := hw.1 c_1
      refine lv_aload_n hx hb dX7_begins_44 rfl (lv_at hl 0 rfl) ?_
      refine lv_bipush (v := (-4 : Int32)) hx hb dX7_begins_45 (by decide) ?_
      refine pz (q0 := 0) (v := .int (-4 : Int32)) fx hK hP hD hS fp_X7_65 rfl rfl rfl (Nat.le_of_ble_eq_true rfl) dX7_begins_47 (fun H locs hP hD hS => ?_)
      have hP : va_P (dC, dI) vwCl (mW oM gM cA (uF FM 10 (-4 : Int32)) AM) H := hP
      have hD : va_D A (mW oM gM cA (uF FM 10 (-4 : Int32)) AM) := hD
      refine lv_aload_n hx hb dX7_begins_50 rfl (lv_at hl 0 rfl) ?_
      refine lv_iconst (v := (0 : Int32)) hx hb dX7_begins_51 (by decide) ?_
      refine pz (q0 := 0) (v := .int (0 : Int32)) fx hK hP hD hS fp_X7_68 rfl rfl rfl (Nat.le_of_ble_eq_true rfl) dX7_begins_52 (fun H locs hP hD hS => ?_)
      have hP : va_P (dC, dI) vwCl (mW oM gM cA (uF (uF FM 10 (-4 : Int32)) 17 (0 : Int32)) AM) H := hP
      have hD : va_D A (mW oM gM cA (uF (uF FM 10 (-4 : Int32)) 17 (0 : Int32)) AM) := hD
      refine lv_aload_n hx hb dX7_begins_55 rfl (lv_at hl 0 rfl) ?_
      refine lv_iconst (v := (0 : Int32)) hx hb dX7_begins_56 (by decide) ?_
      refine pz (q0 := 0) (v := .int (0 : Int32)) fx hK hP hD hS fp_X7_71 rfl rfl rfl (Nat.le_of_ble_eq_true rfl) dX7_begins_57 (fun H locs hP hD hS => ?_)
      have hP : va_P (dC, dI) vwCl (mW oM gM cA (uF (uF (uF FM 10 (-4 : Int32)) 17 (0 : Int32)) 23 (0 : Int32)) AM) H := hP
      have hD : va_D A (mW oM gM cA (uF (uF (uF FM 10 (-4 : Int32)) 17 (0 : Int32)) 23 (0 : Int32)) AM) := hD
      exact hret ((uF (uF (uF FM 10 (-4 : Int32)) 17 (0 : Int32)) 23 (0 : Int32)), AM) _ _ _ _ dX7_begins_60 hw hP hD hS
    · have hw := hw.2 c_1
      refine lv_aload_n hx hb dX7_begins_15 rfl (lv_at hl 0 rfl) ?_
      refine gz (q0 := 0) (v := .ref (gM 8)) fx hK hP fl_X7_16 rfl rfl dX7_begins_16 ?_
      refine lv_iload_n hx hb dX7_begins_19 rfl (lv_at hl 1 rfl) ?_
      refine lv_aload_n hx hb dX7_begins_20 rfl (lv_at hl 0 rfl) ?_
      refine gz (q0 := 0) (v := .int (FM 5)) fx hK hP fl_X7_62 rfl rfl dX7_begins_21 ?_
      obtain ⟨hz, hw⟩ := hw
      refine az hx hb hK hP hD hS 3 rfl hz dX7_begins_24 ?_
      intro g_2 H locs e_3 hP hD hS
      have hw := hw g_2 e_3
      have hP : va_P (dC, dI) vwCl (mW oM gM cA FM (uA AM 8 g_2)) H := hP
      have hD : va_D A (mW oM gM cA FM (uA AM 8 g_2)) := hD
      refine lv_aload_n hx hb dX7_begins_25 rfl (lv_at hl 0 rfl) ?_
      refine lv_dup hx hb dX7_begins_26 rfl ?_
      refine gz (q0 := 0) (v := .int (FM 5)) fx hK hP fl_X7_62 rfl rfl dX7_begins_27 ?_
      refine lv_aload_n hx hb dX7_begins_30 rfl (lv_at hl 0 rfl) ?_
      refine gz (q0 := 0) (v := .int (FM 4)) fx hK hP fl_X7_56 rfl rfl dX7_begins_31 ?_
      refine lv_imul hx hb dX7_begins_34 ?_
      refine pz (q0 := 0) (v := .int ((FM 5) * (FM 4))) fx hK hP hD hS fp_X7_62 rfl rfl rfl (Nat.le_of_ble_eq_true rfl) dX7_begins_35 (fun H locs hP hD hS => ?_)
      have hP : va_P (dC, dI) vwCl (mW oM gM cA (uF FM 5 ((FM 5) * (FM 4))) (uA AM 8 g_2)) H := hP
      have hD : va_D A (mW oM gM cA (uF FM 5 ((FM 5) * (FM 4))) (uA AM 8 g_2)) := hD
      refine lv_iinc (v := (x1 + 1)) (lv' := [(1, .int (x1 + 1)), (0, .ref oM)]) hx hb dX7_begins_38 hl (k := 1) rfl rfl (by decide) rfl (fun ls hl => ?_)
      refine lv_goto (tgt := 7) hx hb dX7_begins_41 (by decide) ?_
      exact hk_7 ((x1 + 1), (uF FM 5 ((FM 5) * (FM 4))), (uA AM 8 g_2)) hw _ _ _ hP hD hS (lv_sub hl [1, 0] rfl)
  refine lv_aload_n hx hb dX7_begins_0 rfl (lv_at hl 0 rfl) ?_
  refine lv_iconst (v := (1 : Int32)) hx hb dX7_begins_1 (by decide) ?_
  refine pz (q0 := 0) (v := .int (1 : Int32)) fx hK hP hD hS fp_X7_62 rfl rfl rfl (Nat.le_of_ble_eq_true rfl) dX7_begins_2 (fun H locs hP hD hS => ?_)
  have hP : va_P (dC, dI) vwCl (mW oM gM cA (uF FM 5 (1 : Int32)) AM) H := hP
  have hD : va_D A (mW oM gM cA (uF FM 5 (1 : Int32)) AM) := hD
  refine lv_iconst (v := (0 : Int32)) hx hb dX7_begins_5 (by decide) ?_
  refine lv_istore_n (lv' := [(1, .int (0 : Int32)), (0, .ref oM)]) hx hb dX7_begins_6 rfl hl (by decide) rfl (fun ls hl => ?_)
  exact b_7 (uF FM 5 (1 : Int32)) AM (0 : Int32) _ _ _ hP hD hS (lv_sub hl [1, 0] rfl) hw
set_option maxHeartbeats 4000000 in
set_option maxRecDepth 100000 in
theorem c_X7_lay (l : Launch) (dC : Nat → ClassId) (dI : Nat → Nat → Nat) (cA : ClassId) (oM : Nat) (gM : Nat → Nat) (FM : Nat → Int32) (AM : Nat → Nat → Int32) (Post : Int32 → (Nat → Int32) → (Nat → Nat → Int32) → Prop) (hw : wp_X7_lay FM AM Post) : MuI (dC, dI) cA l yX7_lay cX7_lay 4 .int 5 115 [.ref oM] (mW oM gM cA FM AM) (fun r (u : (Nat → Int32) × (Nat → Nat → Int32)) => Post r (u.1) (u.2)) (fun u => (mW oM gM cA (u.1) (u.2))) := by
  refine enMu (by decide) (Nat.le_of_ble_eq_true rfl) ?_
  intro p e s m args below meth c Q ls A fx hK hP hD hS hA hret hl
  obtain ⟨hx, hb, hml, hown, hts⟩ := id fx
  have hl : lv_has ls 4 [(0, .ref oM)] := hl
  have hP : va_P (dC, dI) vwCl (mW oM gM cA FM AM) s.heap := hP
  have b_146 : ∀ (FM : Nat → Int32) (AM : Nat → Nat → Int32) (x1 : Int32) (H : Heap) (locs : List Loc) (ls : Array Slot), va_P (dC, dI) vwCl (mW oM gM cA FM AM) H → va_D A (mW oM gM cA FM AM) → va_S A s.heap H locs → lv_has ls 4 [(0, .ref oM), (1, .int x1)] → wp_X7_lay_146 FM AM x1 Post → W p l e ({ frames := 5, cells := 0, slots := 0, locals := 115 } : Room) s m args below meth c H locs 0 0 Q (F0 m 146 ls []) := by
    intro FM AM x1 H locs ls hP hD hS hl hw
    refine Lp_go (C := fun (t : Int32 × (Nat → Int32) × (Nat → Nat → Int32)) => ∀ (H : Heap) (locs : List Loc) (ls : Array Slot), va_P (dC, dI) vwCl (mW oM gM cA (t.2.1) (t.2.2)) H → va_D A (mW oM gM cA (t.2.1) (t.2.2)) → va_S A s.heap H locs → lv_has ls 4 [(0, .ref oM), (1, .int (t.1))] → W p l e ({ frames := 5, cells := 0, slots := 0, locals := 115 } : Room) s m args below meth c H locs 0 0 Q (F0 m 146 ls [])) ?_ hw H locs ls hP hD hS hl
    intro k_146 hk_146 t
    obtain ⟨x1, FM, AM⟩ := t
    intro hw H locs ls hP hD hS hl
    have hP : va_P (dC, dI) vwCl (mW oM gM cA FM AM) H := hP
    have hD : va_D A (mW oM gM cA FM AM) := hD
    have hl : lv_has ls 4 [(0, .ref oM), (1, .int x1)] := hl
    have hw : st_X7_lay_146 Post k_146 x1 FM AM := hw
    refine lv_iload_n hx hb dX7_lay_146 rfl (lv_at hl 1 rfl) ?_
    refine lv_bipush (v := (6 : Int32)) hx hb dX7_lay_147 (by decide) ?_
    refine lv_icmp_ge (tgt := 170) hx hb dX7_lay_149 (by decide) (fun c_7 => ?_) (fun c_7 => ?_)
    · have hw := hw.1 c_7
      refine lv_aload_n hx hb dX7_lay_170 rfl (lv_at hl 0 rfl) ?_
      refine caMuVv (rest := []) (As := []) (w1 := ([] : va_W)) (w2 := ([] : va_W)) fx hK lk_X7_59 (c_X7_begins l dC dI cA oM gM FM AM _ hw) hP hD hS hA 0 rfl rfl ⟨(Nat.le_of_ble_eq_true rfl), (Nat.le_of_ble_eq_true rfl)⟩ rfl hl.1 rfl (Nat.le_of_ble_eq_true rfl) dX7_lay_171 ?_
      intro u_10 H locs hw hP hD hS
      obtain ⟨FM_8, AM_9⟩ := u_10
      have hP : va_P (dC, dI) vwCl (mW oM gM cA FM_8 AM_9) H := hP
      have hD : va_D A (mW oM gM cA FM_8 AM_9) := hD
      try dsimp only at hw
      refine lv_aload_n hx hb dX7_lay_174 rfl (lv_at hl 0 rfl) ?_
      refine gz (q0 := 0) (v := .int (FM_8 5)) fx hK hP fl_X7_62 rfl rfl dX7_lay_175 ?_
      exact hret _ (FM_8, AM_9) _ _ _ _ dX7_lay_178 rfl hw hP hD hS
    · have hw := hw.2 c_7
      refine lv_aload_n hx hb dX7_lay_152 rfl (lv_at hl 0 rfl) ?_
      refine gz (q0 := 0) (v := .ref (gM 9)) fx hK hP fl_X7_19 rfl rfl dX7_lay_153 ?_
      refine lv_iload_n hx hb dX7_lay_156 rfl (lv_at hl 1 rfl) ?_
      refine lv_aload_n hx hb dX7_lay_157 rfl (lv_at hl 0 rfl) ?_
      refine gz (q0 := 0) (v := .ref (gM 16)) fx hK hP fl_X7_25 rfl rfl dX7_lay_158 ?_
      refine lv_iload_n hx hb dX7_lay_161 rfl (lv_at hl 1 rfl) ?_
      obtain ⟨hz, hw⟩ := hw
      refine va_iald hx hb hK hP 6 0 rfl rfl hz dX7_lay_162 ?_
      obtain ⟨hz, hw⟩ := hw
      refine az hx hb hK hP hD hS 4 rfl hz dX7_lay_163 ?_
      intro g_11 H locs e_12 hP hD hS
      have hw := hw g_11 e_12
      have hP : va_P (dC, dI) vwCl (mW oM gM cA FM (uA AM 9 g_11)) H := hP
      have hD : va_D A (mW oM gM cA FM (uA AM 9 g_11)) := hD
      refine lv_iinc (v := (x1 + 1)) (lv' := [(1, .int (x1 + 1)), (0, .ref oM)]) hx hb dX7_lay_164 hl (k := 1) rfl rfl (by decide) rfl (fun ls hl => ?_)
      refine lv_goto (tgt := 146) hx hb dX7_lay_167 (by decide) ?_
      exact hk_146 ((x1 + 1), FM, (uA AM 9 g_11)) hw _ _ _ hP hD hS (lv_sub hl [1, 0] rfl)
  have b_120 : ∀ (FM : Nat → Int32) (AM : Nat → Nat → Int32) (x1 : Int32) (H : Heap) (locs : List Loc) (ls : Array Slot), va_P (dC, dI) vwCl (mW oM gM cA FM AM) H → va_D A (mW oM gM cA FM AM) → va_S A s.heap H locs → lv_has ls 4 [(0, .ref oM), (1, .int x1)] → wp_X7_lay_120 FM AM x1 Post → W p l e ({ frames := 5, cells := 0, slots := 0, locals := 115 } : Room) s m args below meth c H locs 0 0 Q (F0 m 120 ls []) := by
    intro FM AM x1 H locs ls hP hD hS hl hw
    refine Lp_go (C := fun (t : Int32 × (Nat → Int32) × (Nat → Nat → Int32)) => ∀ (H : Heap) (locs : List Loc) (ls : Array Slot), va_P (dC, dI) vwCl (mW oM gM cA (t.2.1) (t.2.2)) H → va_D A (mW oM gM cA (t.2.1) (t.2.2)) → va_S A s.heap H locs → lv_has ls 4 [(0, .ref oM), (1, .int (t.1))] → W p l e ({ frames := 5, cells := 0, slots := 0, locals := 115 } : Room) s m args below meth c H locs 0 0 Q (F0 m 120 ls [])) ?_ hw H locs ls hP hD hS hl
    intro k_120 hk_120 t
    obtain ⟨x1, FM, AM⟩ := t
    intro hw H locs ls hP hD hS hl
    have hP : va_P (dC, dI) vwCl (mW oM gM cA FM AM) H := hP
    have hD : va_D A (mW oM gM cA FM AM) := hD
    have hl : lv_has ls 4 [(0, .ref oM), (1, .int x1)] := hl
    have hw : st_X7_lay_120 Post k_120 x1 FM AM := hw
    refine lv_iload_n hx hb dX7_lay_120 rfl (lv_at hl 1 rfl) ?_
    refine lv_bipush (v := (36 : Int32)) hx hb dX7_lay_121 (by decide) ?_
    refine lv_icmp_ge (tgt := 144) hx hb dX7_lay_123 (by decide) (fun c_13 => ?_) (fun c_13 => ?_)
    · have hw := hw.1 c_13
      refine lv_iconst (v := (0 : Int32)) hx hb dX7_lay_144 (by decide) ?_
      refine lv_istore_n (lv' := [(1, .int (0 : Int32)), (0, .ref oM)]) hx hb dX7_lay_145 rfl hl (by decide) rfl (fun ls hl => ?_)
      exact b_146 FM AM (0 : Int32) _ _ _ hP hD hS (lv_sub hl [1, 0] rfl) hw
    · have hw := hw.2 c_13
      refine lv_aload_n hx hb dX7_lay_126 rfl (lv_at hl 0 rfl) ?_
      refine gz (q0 := 0) (v := .ref (gM 7)) fx hK hP fl_X7_13 rfl rfl dX7_lay_127 ?_
      refine lv_iload_n hx hb dX7_lay_130 rfl (lv_at hl 1 rfl) ?_
      refine lv_aload_n hx hb dX7_lay_131 rfl (lv_at hl 0 rfl) ?_
      refine gz (q0 := 0) (v := .ref (gM 15)) fx hK hP fl_X7_22 rfl rfl dX7_lay_132 ?_
      refine lv_iload_n hx hb dX7_lay_135 rfl (lv_at hl 1 rfl) ?_
      obtain ⟨hz, hw⟩ := hw
      refine va_iald hx hb hK hP 5 0 rfl rfl hz dX7_lay_136 ?_
      obtain ⟨hz, hw⟩ := hw
      refine az hx hb hK hP hD hS 2 rfl hz dX7_lay_137 ?_
      intro g_14 H locs e_15 hP hD hS
      have hw := hw g_14 e_15
      have hP : va_P (dC, dI) vwCl (mW oM gM cA FM (uA AM 7 g_14)) H := hP
      have hD : va_D A (mW oM gM cA FM (uA AM 7 g_14)) := hD
      refine lv_iinc (v := (x1 + 1)) (lv' := [(1, .int (x1 + 1)), (0, .ref oM)]) hx hb dX7_lay_138 hl (k := 1) rfl rfl (by decide) rfl (fun ls hl => ?_)
      refine lv_goto (tgt := 120) hx hb dX7_lay_141 (by decide) ?_
      exact hk_120 ((x1 + 1), FM, (uA AM 7 g_14)) hw _ _ _ hP hD hS (lv_sub hl [1, 0] rfl)
  have b_86 : ∀ (FM : Nat → Int32) (AM : Nat → Nat → Int32) (H : Heap) (locs : List Loc) (ls : Array Slot), va_P (dC, dI) vwCl (mW oM gM cA FM AM) H → va_D A (mW oM gM cA FM AM) → va_S A s.heap H locs → lv_has ls 4 [(0, .ref oM)] → wp_X7_lay_86 FM AM Post → W p l e ({ frames := 5, cells := 0, slots := 0, locals := 115 } : Room) s m args below meth c H locs 0 0 Q (F0 m 86 ls []) := by
    intro FM AM H locs ls hP hD hS hl hw
    refine lv_aload_n hx hb dX7_lay_86 rfl (lv_at hl 0 rfl) ?_
    refine lv_aload_n hx hb dX7_lay_87 rfl (lv_at hl 0 rfl) ?_
    refine gz (q0 := 0) (v := .int (FM 11)) fx hK hP fl_X7_85 rfl rfl dX7_lay_88 ?_
    refine pz (q0 := 0) (v := .int (FM 11)) fx hK hP hD hS fp_X7_49 rfl rfl rfl (Nat.le_of_ble_eq_true rfl) dX7_lay_91 (fun H locs hP hD hS => ?_)
    have hP : va_P (dC, dI) vwCl (mW oM gM cA (uF FM 2 (FM 11)) AM) H := hP
    have hD : va_D A (mW oM gM cA (uF FM 2 (FM 11)) AM) := hD
    refine lv_aload_n hx hb dX7_lay_94 rfl (lv_at hl 0 rfl) ?_
    refine lv_aload_n hx hb dX7_lay_95 rfl (lv_at hl 0 rfl) ?_
    refine gz (q0 := 0) (v := .int (FM 12)) fx hK hP fl_X7_92 rfl rfl dX7_lay_96 ?_
    refine pz (q0 := 0) (v := .int (FM 12)) fx hK hP hD hS fp_X7_53 rfl rfl rfl (Nat.le_of_ble_eq_true rfl) dX7_lay_99 (fun H locs hP hD hS => ?_)
    have hP : va_P (dC, dI) vwCl (mW oM gM cA (uF (uF FM 2 (FM 11)) 3 (FM 12)) AM) H := hP
    have hD : va_D A (mW oM gM cA (uF (uF FM 2 (FM 11)) 3 (FM 12)) AM) := hD
    refine lv_aload_n hx hb dX7_lay_102 rfl (lv_at hl 0 rfl) ?_
    refine lv_aload_n hx hb dX7_lay_103 rfl (lv_at hl 0 rfl) ?_
    refine gz (q0 := 0) (v := .int (FM 13)) fx hK hP fl_X7_95 rfl rfl dX7_lay_104 ?_
    refine pz (q0 := 0) (v := .int (FM 13)) fx hK hP hD hS fp_X7_56 rfl rfl rfl (Nat.le_of_ble_eq_true rfl) dX7_lay_107 (fun H locs hP hD hS => ?_)
    have hP : va_P (dC, dI) vwCl (mW oM gM cA (uF (uF (uF FM 2 (FM 11)) 3 (FM 12)) 4 (FM 13)) AM) H := hP
    have hD : va_D A (mW oM gM cA (uF (uF (uF FM 2 (FM 11)) 3 (FM 12)) 4 (FM 13)) AM) := hD
    refine lv_aload_n hx hb dX7_lay_110 rfl (lv_at hl 0 rfl) ?_
    refine lv_aload_n hx hb dX7_lay_111 rfl (lv_at hl 0 rfl) ?_
    refine gz (q0 := 0) (v := .int (FM 14)) fx hK hP fl_X7_102 rfl rfl dX7_lay_112 ?_
    refine pz (q0 := 0) (v := .int (FM 14)) fx hK hP hD hS fp_X7_113 rfl rfl rfl (Nat.le_of_ble_eq_true rfl) dX7_lay_115 (fun H locs hP hD hS => ?_)
    have hP : va_P (dC, dI) vwCl (mW oM gM cA (uF (uF (uF (uF FM 2 (FM 11)) 3 (FM 12)) 4 (FM 13)) 6 (FM 14)) AM) H := hP
    have hD : va_D A (mW oM gM cA (uF (uF (uF (uF FM 2 (FM 11)) 3 (FM 12)) 4 (FM 13)) 6 (FM 14)) AM) := hD
    refine lv_iconst (v := (0 : Int32)) hx hb dX7_lay_118 (by decide) ?_
    refine lv_istore_n (lv' := [(1, .int (0 : Int32)), (0, .ref oM)]) hx hb dX7_lay_119 rfl hl (by decide) rfl (fun ls hl => ?_)
    exact b_120 (uF (uF (uF (uF FM 2 (FM 11)) 3 (FM 12)) 4 (FM 13)) 6 (FM 14)) AM (0 : Int32) _ _ _ hP hD hS (lv_sub hl [1, 0] rfl) hw
  have b_21 : ∀ (FM : Nat → Int32) (AM : Nat → Nat → Int32) (x1 : Int32) (H : Heap) (locs : List Loc) (ls : Array Slot), va_P (dC, dI) vwCl (mW oM gM cA FM AM) H → va_D A (mW oM gM cA FM AM) → va_S A s.heap H locs → lv_has ls 4 [(0, .ref oM), (1, .int x1)] → wp_X7_lay_21 FM AM x1 Post → W p l e ({ frames := 5, cells := 0, slots := 0, locals := 115 } : Room) s m args below meth c H locs 0 0 Q (F0 m 21 ls []) := by
    intro FM AM x1 H locs ls hP hD hS hl hw
    refine Lp_go (C := fun (t : Int32) => ∀ (H : Heap) (locs : List Loc) (ls : Array Slot), va_P (dC, dI) vwCl (mW oM gM cA FM AM) H → va_D A (mW oM gM cA FM AM) → va_S A s.heap H locs → lv_has ls 4 [(0, .ref oM), (1, .int t)] → W p l e ({ frames := 5, cells := 0, slots := 0, locals := 115 } : Room) s m args below meth c H locs 0 0 Q (F0 m 21 ls [])) ?_ hw H locs ls hP hD hS hl
    intro k_21 hk_21 t
    obtain ⟨x1, ht⟩ : ∃ z, z = t := ⟨_, rfl⟩
    subst ht
    intro hw H locs ls hP hD hS hl
    have hP : va_P (dC, dI) vwCl (mW oM gM cA FM AM) H := hP
    have hD : va_D A (mW oM gM cA FM AM) := hD
    have hl : lv_has ls 4 [(0, .ref oM), (1, .int x1)] := hl
    have hw : st_X7_lay_21 FM AM Post k_21 x1 := hw
    have b_41 : ∀ (x1 : Int32) (x2 : Int32) (x3 : Int32) (H : Heap) (locs : List Loc) (ls : Array Slot), va_P (dC, dI) vwCl (mW oM gM cA FM AM) H → va_D A (mW oM gM cA FM AM) → va_S A s.heap H locs → lv_has ls 4 [(0, .ref oM), (1, .int x1), (2, .int x2), (3, .int x3)] → wp_X7_lay_41 FM AM x1 x2 x3 k_21 Post → W p l e ({ frames := 5, cells := 0, slots := 0, locals := 115 } : Room) s m args below meth c H locs 0 0 Q (F0 m 41 ls []) := by
      intro x1 x2 x3 H locs ls hP hD hS hl hw
      refine Lp_go (C := fun (t : Int32 × Int32) => ∀ (H : Heap) (locs : List Loc) (ls : Array Slot), va_P (dC, dI) vwCl (mW oM gM cA FM AM) H → va_D A (mW oM gM cA FM AM) → va_S A s.heap H locs → lv_has ls 4 [(0, .ref oM), (1, .int x1), (2, .int (t.1)), (3, .int (t.2))] → W p l e ({ frames := 5, cells := 0, slots := 0, locals := 115 } : Room) s m args below meth c H locs 0 0 Q (F0 m 41 ls [])) ?_ hw H locs ls hP hD hS hl
      intro k_41 hk_41 t
      obtain ⟨x2, x3⟩ := t
      intro hw H locs ls hP hD hS hl
      have hP : va_P (dC, dI) vwCl (mW oM gM cA FM AM) H := hP
      have hD : va_D A (mW oM gM cA FM AM) := hD
      have hl : lv_has ls 4 [(0, .ref oM), (1, .int x1), (2, .int x2), (3, .int x3)] := hl
      have hw : st_X7_lay_41 FM AM x1 k_21 Post k_41 x2 x3 := hw
      refine lv_iload_n hx hb dX7_lay_41 rfl (lv_at hl 3 rfl) ?_
      refine lv_aload_n hx hb dX7_lay_42 rfl (lv_at hl 0 rfl) ?_
      refine gz (q0 := 0) (v := .int (FM 12)) fx hK hP fl_X7_92 rfl rfl dX7_lay_43 ?_
      refine lv_icmp_ge (tgt := 69) hx hb dX7_lay_46 (by decide) (fun c_16 => ?_) (fun c_16 => ?_)
      · have hw := hw.1 c_16
        refine lv_iload_n hx hb dX7_lay_69 rfl (lv_at hl 2 rfl) ?_
        refine lv_aload_n hx hb dX7_lay_70 rfl (lv_at hl 0 rfl) ?_
        refine gz (q0 := 0) (v := .int (FM 13)) fx hK hP fl_X7_95 rfl rfl dX7_lay_71 ?_
        refine lv_icmp_lt (tgt := 80) hx hb dX7_lay_74 (by decide) (fun c_17 => ?_) (fun c_17 => ?_)
        · have hw := hw.1 c_17
          refine lv_iinc (v := (x1 + 1)) (lv' := [(1, .int (x1 + 1)), (0, .ref oM), (2, .int x2), (3, .int x3)]) hx hb dX7_lay_80 hl (k := 1) rfl rfl (by decide) rfl (fun ls hl => ?_)
          refine lv_goto (tgt := 21) hx hb dX7_lay_83 (by decide) ?_
          exact hk_21 ((x1 + 1)) hw _ _ _ hP hD hS (lv_sub hl [1, 0] rfl)
        · have hw := hw.2 c_17
          refine lv_bipush (v := (-2 : Int32)) hx hb dX7_lay_77 (by decide) ?_
          exact hret _ (FM, AM) _ _ _ _ dX7_lay_79 rfl hw hP hD hS
      · have hw := hw.2 c_16
        refine lv_iload_n hx hb dX7_lay_49 rfl (lv_at hl 2 rfl) ?_
        refine lv_aload_n hx hb dX7_lay_50 rfl (lv_at hl 0 rfl) ?_
        refine gz (q0 := 0) (v := .ref (gM 15)) fx hK hP fl_X7_22 rfl rfl dX7_lay_51 ?_
        refine lv_bipush (v := (6 : Int32)) hx hb dX7_lay_54 (by decide) ?_
        refine lv_iload_n hx hb dX7_lay_56 rfl (lv_at hl 1 rfl) ?_
        refine lv_imul hx hb dX7_lay_57 ?_
        refine lv_iload_n hx hb dX7_lay_58 rfl (lv_at hl 3 rfl) ?_
        refine lv_iadd hx hb dX7_lay_59 ?_
        obtain ⟨hz, hw⟩ := hw
        refine va_iald hx hb hK hP 5 0 rfl rfl hz dX7_lay_60 ?_
        refine lv_iadd hx hb dX7_lay_61 ?_
        refine lv_istore_n (lv' := [(2, .int (x2 + ((AM 15) (ix (((6 : Int32) * x1) + x3))))), (0, .ref oM), (1, .int x1), (3, .int x3)]) hx hb dX7_lay_62 rfl hl (by decide) rfl (fun ls hl => ?_)
        refine lv_iinc (v := (x3 + 1)) (lv' := [(3, .int (x3 + 1)), (2, .int (x2 + ((AM 15) (ix (((6 : Int32) * x1) + x3))))), (0, .ref oM), (1, .int x1)]) hx hb dX7_lay_63 hl (k := 3) rfl rfl (by decide) rfl (fun ls hl => ?_)
        refine lv_goto (tgt := 41) hx hb dX7_lay_66 (by decide) ?_
        exact hk_41 ((x2 + ((AM 15) (ix (((6 : Int32) * x1) + x3)))), (x3 + 1)) hw _ _ _ hP hD hS (lv_sub hl [2, 3, 1, 0] rfl)
    refine lv_iload_n hx hb dX7_lay_21 rfl (lv_at hl 1 rfl) ?_
    refine lv_aload_n hx hb dX7_lay_22 rfl (lv_at hl 0 rfl) ?_
    refine gz (q0 := 0) (v := .int (FM 12)) fx hK hP fl_X7_92 rfl rfl dX7_lay_23 ?_
    refine lv_icmp_ge (tgt := 86) hx hb dX7_lay_26 (by decide) (fun c_18 => ?_) (fun c_18 => ?_)
    · have hw := hw.1 c_18
      exact b_86 FM AM _ _ _ hP hD hS (lv_sub hl [0] rfl) hw
    · have hw := hw.2 c_18
      refine lv_aload_n hx hb dX7_lay_29 rfl (lv_at hl 0 rfl) ?_
      refine gz (q0 := 0) (v := .int (FM 11)) fx hK hP fl_X7_85 rfl rfl dX7_lay_30 ?_
      refine lv_iconst (v := (4 : Int32)) hx hb dX7_lay_33 (by decide) ?_
      refine lv_icmp_ne (tgt := 86) hx hb dX7_lay_34 (by decide) (fun c_19 => ?_) (fun c_19 => ?_)
      · have hw := hw.1 c_19
        exact b_86 FM AM _ _ _ hP hD hS (lv_sub hl [0] rfl) hw
      · have hw := hw.2 c_19
        refine lv_iconst (v := (0 : Int32)) hx hb dX7_lay_37 (by decide) ?_
        refine lv_istore_n (lv' := [(2, .int (0 : Int32)), (0, .ref oM), (1, .int x1)]) hx hb dX7_lay_38 rfl hl (by decide) rfl (fun ls hl => ?_)
        refine lv_iconst (v := (0 : Int32)) hx hb dX7_lay_39 (by decide) ?_
        refine lv_istore_n (lv' := [(3, .int (0 : Int32)), (2, .int (0 : Int32)), (0, .ref oM), (1, .int x1)]) hx hb dX7_lay_40 rfl hl (by decide) rfl (fun ls hl => ?_)
        exact b_41 x1 (0 : Int32) (0 : Int32) _ _ _ hP hD hS (lv_sub hl [2, 3, 1, 0] rfl) hw
  refine lv_aload_n hx hb dX7_lay_0 rfl (lv_at hl 0 rfl) ?_
  refine caMuV (rest := []) (As := []) (w1 := ([] : va_W)) (w2 := ([] : va_W)) fx hK lk_X7_109 (c_X7_reads l dC dI cA oM gM FM AM _ hw) hP hD hS hA 0 rfl rfl ⟨(Nat.le_of_ble_eq_true rfl), (Nat.le_of_ble_eq_true rfl)⟩ rfl hl.1 rfl (Nat.le_of_ble_eq_true rfl) dX7_lay_1 ?_
  intro r_23 u_22 H locs hw hP hD hS
  obtain ⟨FM_20, AM_21⟩ := u_22
  have hP : va_P (dC, dI) vwCl (mW oM gM cA FM_20 AM_21) H := hP
  have hD : va_D A (mW oM gM cA FM_20 AM_21) := hD
  try dsimp only at hw
  refine lv_bipush (v := (-4 : Int32)) hx hb dX7_lay_4 (by decide) ?_
  refine lv_icmp_ne (tgt := 16) hx hb dX7_lay_6 (by decide) (fun c_24 => ?_) (fun c_24 => ?_)
  · have hw := hw.1 c_24
    refine lv_bipush (v := (-2 : Int32)) hx hb dX7_lay_16 (by decide) ?_
    exact hret _ (FM_20, AM_21) _ _ _ _ dX7_lay_18 rfl hw hP hD hS
  · have hw := hw.2 c_24
    refine lv_aload_n hx hb dX7_lay_9 rfl (lv_at hl 0 rfl) ?_
    refine gz (q0 := 0) (v := .int (FM_20 11)) fx hK hP fl_X7_85 rfl rfl dX7_lay_10 ?_
    refine lv_if_ne (tgt := 19) hx hb dX7_lay_13 (by decide) (fun c_25 => ?_) (fun c_25 => ?_)
    · have hw := hw.1 c_25
      refine lv_iconst (v := (0 : Int32)) hx hb dX7_lay_19 (by decide) ?_
      refine lv_istore_n (lv' := [(1, .int (0 : Int32)), (0, .ref oM)]) hx hb dX7_lay_20 rfl hl (by decide) rfl (fun ls hl => ?_)
      exact b_21 FM_20 AM_21 (0 : Int32) _ _ _ hP hD hS (lv_sub hl [1, 0] rfl) hw
    · have hw := hw.2 c_25
      refine lv_bipush (v := (-2 : Int32)) hx hb dX7_lay_16 (by decide) ?_
      exact hret _ (FM_20, AM_21) _ _ _ _ dX7_lay_18 rfl hw hP hD hS
set_option maxHeartbeats 4000000 in
set_option maxRecDepth 100000 in
theorem c_X7_isMachine (l : Launch) (dC : Nat → ClassId) (dI : Nat → Nat → Nat) (cA : ClassId) (oM : Nat) (gM : Nat → Nat) (FM : Nat → Int32) (AM : Nat → Nat → Int32) (x1 : Int32) (Post : Int32 → Prop) (hw : wp_X7_isMachine FM AM x1 Post) : RoI (dC, dI) cA l yX7_isMachine cX7_isMachine 2 .boolean 1 22 [.ref oM, .int x1] (mW oM gM cA FM AM) Post := by
  refine enRo (by decide) (Nat.le_of_ble_eq_true rfl) ?_
  intro p e s m args below meth c Q ls fx hK hP hret hl
  obtain ⟨hx, hb, hml, hown, hts⟩ := id fx
  have hl : lv_has ls 2 [(0, .ref oM), (1, .int x1)] := hl
  refine lv_iload_n hx hb dX7_isMachine_0 rfl (lv_at hl 1 rfl) ?_
  refine lv_iconst (v := (0 : Int32)) hx hb dX7_isMachine_1 (by decide) ?_
  refine lv_aload_n hx hb dX7_isMachine_2 rfl (lv_at hl 0 rfl) ?_
  refine gz (q0 := 0) (v := .int (FM 3)) fx hK hP fl_X7_53 rfl rfl dX7_isMachine_3 ?_
  refine lv_iconst (v := (1 : Int32)) hx hb dX7_isMachine_6 (by decide) ?_
  refine lv_isub hx hb dX7_isMachine_7 ?_
  refine caRoS (rest := []) (As := [.int x1, .int (0 : Int32), .int ((FM 3) - (1 : Int32))]) fx hK lk_X7_88 (c_X7_isIn l dC dI cA x1 (0 : Int32) ((FM 3) - (1 : Int32)) _ hw) (hP.sub [] rfl) ⟨(Nat.le_of_ble_eq_true rfl), (Nat.le_of_ble_eq_true rfl)⟩ rfl hl.1 rfl (Nat.le_of_ble_eq_true rfl) dX7_isMachine_8 ?_
  intro r_2 hw
  obtain ⟨hz, hw⟩ := hw
  exact hret _ _ _ dX7_isMachine_11 hz hw
set_option maxHeartbeats 4000000 in
set_option maxRecDepth 100000 in
theorem c_X7_value (l : Launch) (dC : Nat → ClassId) (dI : Nat → Nat → Nat) (cA : ClassId) (oM : Nat) (gM : Nat → Nat) (FM : Nat → Int32) (AM : Nat → Nat → Int32) (x1 : Int32) (Post : Int32 → Prop) (hw : wp_X7_value FM AM x1 Post) : RoI (dC, dI) cA l yX7_value cX7_value 2 .int 2 43 [.ref oM, .int x1] (mW oM gM cA FM AM) Post := by
  refine enRo (by decide) (Nat.le_of_ble_eq_true rfl) ?_
  intro p e s m args below meth c Q ls fx hK hP hret hl
  obtain ⟨hx, hb, hml, hown, hts⟩ := id fx
  have hl : lv_has ls 2 [(0, .ref oM), (1, .int x1)] := hl
  refine lv_aload_n hx hb dX7_value_0 rfl (lv_at hl 0 rfl) ?_
  refine lv_iload_n hx hb dX7_value_1 rfl (lv_at hl 1 rfl) ?_
  refine caRoV (rest := []) (As := [.int x1]) fx hK lk_X7_148 (c_X7_isMachine l dC dI cA oM gM FM AM x1 _ hw) (hP.sub [0, 1, 2, 3, 4, 5, 6, 7, 8, 9, 10, 11, 12, 13] rfl) 0 rfl rfl ⟨(Nat.le_of_ble_eq_true rfl), (Nat.le_of_ble_eq_true rfl)⟩ rfl hl.1 rfl (Nat.le_of_ble_eq_true rfl) dX7_value_2 ?_
  intro r_3 hw
  refine lv_if_eq (tgt := 17) hx hb dX7_value_5 (by decide) (fun c_4 => ?_) (fun c_4 => ?_)
  · have hw := hw.1 c_4
    refine lv_iconst (v := (-1 : Int32)) hx hb dX7_value_17 (by decide) ?_
    exact hret _ _ _ dX7_value_18 rfl hw
  · have hw := hw.2 c_4
    refine lv_aload_n hx hb dX7_value_8 rfl (lv_at hl 0 rfl) ?_
    refine gz (q0 := 0) (v := .ref (gM 9)) fx hK hP fl_X7_19 rfl rfl dX7_value_9 ?_
    refine lv_iload_n hx hb dX7_value_12 rfl (lv_at hl 1 rfl) ?_
    obtain ⟨hz, hw⟩ := hw
    refine va_iald hx hb hK hP 4 0 rfl rfl hz dX7_value_13 ?_
    refine lv_goto (tgt := 18) hx hb dX7_value_14 (by decide) ?_
    exact hret _ _ _ dX7_value_18 rfl hw
set_option maxHeartbeats 4000000 in
set_option maxRecDepth 100000 in
theorem c_X7_rowNow (l : Launch) (dC : Nat → ClassId) (dI : Nat → Nat → Nat) (cA : ClassId) (oM : Nat) (gM : Nat → Nat) (FM : Nat → Int32) (AM : Nat → Nat → Int32) (Post : (Nat → Int32) → (Nat → Nat → Int32) → Prop) (hw : wp_X7_rowNow FM AM Post) : MuV (dC, dI) cA l yX7_rowNow cX7_rowNow 2 0 0 [.ref oM] (mW oM gM cA FM AM) (fun (u : (Nat → Int32) × (Nat → Nat → Int32)) => Post (u.1) (u.2)) (fun u => (mW oM gM cA (u.1) (u.2))) := by
  refine enMv (by decide) (Nat.le_of_ble_eq_true rfl) ?_
  intro p e s m args below meth c Q ls A fx hK hP hD hS hA hret hl
  obtain ⟨hx, hb, hml, hown, hts⟩ := id fx
  have hl : lv_has ls 2 [(0, .ref oM)] := hl
  have hP : va_P (dC, dI) vwCl (mW oM gM cA FM AM) s.heap := hP
  have b_2 : ∀ (FM : Nat → Int32) (AM : Nat → Nat → Int32) (x1 : Int32) (H : Heap) (locs : List Loc) (ls : Array Slot), va_P (dC, dI) vwCl (mW oM gM cA FM AM) H → va_D A (mW oM gM cA FM AM) → va_S A s.heap H locs → lv_has ls 2 [(0, .ref oM), (1, .int x1)] → wp_X7_rowNow_2 FM AM x1 Post → W p l e ({ frames := 0, cells := 0, slots := 0, locals := 0 } : Room) s m args below meth c H locs 0 0 Q (F0 m 2 ls []) := by
    intro FM AM x1 H locs ls hP hD hS hl hw
    refine Lp_go (C := fun (t : Int32 × (Nat → Int32) × (Nat → Nat → Int32)) => ∀ (H : Heap) (locs : List Loc) (ls : Array Slot), va_P (dC, dI) vwCl (mW oM gM cA (t.2.1) (t.2.2)) H → va_D A (mW oM gM cA (t.2.1) (t.2.2)) → va_S A s.heap H locs → lv_has ls 2 [(0, .ref oM), (1, .int (t.1))] → W p l e ({ frames := 0, cells := 0, slots := 0, locals := 0 } : Room) s m args below meth c H locs 0 0 Q (F0 m 2 ls [])) ?_ hw H locs ls hP hD hS hl
    intro k_2 hk_2 t
    obtain ⟨x1, FM, AM⟩ := t
    intro hw H locs ls hP hD hS hl
    have hP : va_P (dC, dI) vwCl (mW oM gM cA FM AM) H := hP
    have hD : va_D A (mW oM gM cA FM AM) := hD
    have hl : lv_has ls 2 [(0, .ref oM), (1, .int x1)] := hl
    have hw : st_X7_rowNow_2 Post k_2 x1 FM AM := hw
    refine lv_iload_n hx hb dX7_rowNow_2 rfl (lv_at hl 1 rfl) ?_
    refine lv_aload_n hx hb dX7_rowNow_3 rfl (lv_at hl 0 rfl) ?_
    refine gz (q0 := 0) (v := .int (FM 3)) fx hK hP fl_X7_53 rfl rfl dX7_rowNow_4 ?_
    refine lv_icmp_ge (tgt := 28) hx hb dX7_rowNow_7 (by decide) (fun c_1 => ?_) (fun c_1 => ?_)
    · have hw := hw.1 c_1
      exact hret (FM, AM) _ _ _ _ dX7_rowNow_28 hw hP hD hS
    · have hw := hw.2 c_1
      refine lv_aload_n hx hb dX7_rowNow_10 rfl (lv_at hl 0 rfl) ?_
      refine gz (q0 := 0) (v := .ref (gM 24)) fx hK hP fl_X7_43 rfl rfl dX7_rowNow_11 ?_
      refine lv_iload_n hx hb dX7_rowNow_14 rfl (lv_at hl 1 rfl) ?_
      refine lv_aload_n hx hb dX7_rowNow_15 rfl (lv_at hl 0 rfl) ?_
      refine gz (q0 := 0) (v := .ref (gM 9)) fx hK hP fl_X7_19 rfl rfl dX7_rowNow_16 ?_
      refine lv_iload_n hx hb dX7_rowNow_19 rfl (lv_at hl 1 rfl) ?_
      obtain ⟨hz, hw⟩ := hw
      refine va_iald hx hb hK hP 4 0 rfl rfl hz dX7_rowNow_20 ?_
      obtain ⟨hz, hw⟩ := hw
      refine az hx hb hK hP hD hS 12 rfl hz dX7_rowNow_21 ?_
      intro g_2 H locs e_3 hP hD hS
      have hw := hw g_2 e_3
      have hP : va_P (dC, dI) vwCl (mW oM gM cA FM (uA AM 24 g_2)) H := hP
      have hD : va_D A (mW oM gM cA FM (uA AM 24 g_2)) := hD
      refine lv_iinc (v := (x1 + 1)) (lv' := [(1, .int (x1 + 1)), (0, .ref oM)]) hx hb dX7_rowNow_22 hl (k := 1) rfl rfl (by decide) rfl (fun ls hl => ?_)
      refine lv_goto (tgt := 2) hx hb dX7_rowNow_25 (by decide) ?_
      exact hk_2 ((x1 + 1), FM, (uA AM 24 g_2)) hw _ _ _ hP hD hS (lv_sub hl [1, 0] rfl)
  refine lv_iconst (v := (0 : Int32)) hx hb dX7_rowNow_0 (by decide) ?_
  refine lv_istore_n (lv' := [(1, .int (0 : Int32)), (0, .ref oM)]) hx hb dX7_rowNow_1 rfl hl (by decide) rfl (fun ls hl => ?_)
  exact b_2 FM AM (0 : Int32) _ _ _ hP hD hS (lv_sub hl [1, 0] rfl) hw
set_option maxHeartbeats 4000000 in
set_option maxRecDepth 100000 in
theorem c_X7_codeOf (l : Launch) (dC : Nat → ClassId) (dI : Nat → Nat → Nat) (cA : ClassId) (oM : Nat) (gM : Nat → Nat) (FM : Nat → Int32) (AM : Nat → Nat → Int32) (Post : Int32 → Prop) (hw : wp_X7_codeOf FM AM Post) : RoI (dC, dI) cA l yX7_codeOf cX7_codeOf 3 .int 0 0 [.ref oM] (mW oM gM cA FM AM) Post := by
  refine enRo (by decide) (Nat.le_of_ble_eq_true rfl) ?_
  intro p e s m args below meth c Q ls fx hK hP hret hl
  obtain ⟨hx, hb, hml, hown, hts⟩ := id fx
  have hl : lv_has ls 3 [(0, .ref oM)] := hl
  have b_4 : ∀ (x1 : Int32) (x2 : Int32) (ls : Array Slot), lv_has ls 3 [(0, .ref oM), (1, .int x1), (2, .int x2)] → wp_X7_codeOf_4 FM AM x1 x2 Post → W p l e ({ frames := 0, cells := 0, slots := 0, locals := 0 } : Room) s m args below meth c s.heap [] 0 0 Q (F0 m 4 ls []) := by
    intro x1 x2 ls hl hw
    refine Lp_go (C := fun (t : Int32 × Int32) => ∀ (ls : Array Slot), lv_has ls 3 [(0, .ref oM), (1, .int (t.1)), (2, .int (t.2))] → W p l e ({ frames := 0, cells := 0, slots := 0, locals := 0 } : Room) s m args below meth c s.heap [] 0 0 Q (F0 m 4 ls [])) ?_ hw ls hl
    intro k_4 hk_4 t
    obtain ⟨x1, x2⟩ := t
    intro hw ls hl
    have hl : lv_has ls 3 [(0, .ref oM), (1, .int x1), (2, .int x2)] := hl
    have hw : st_X7_codeOf_4 FM AM Post k_4 x1 x2 := hw
    refine lv_iload_n hx hb dX7_codeOf_4 rfl (lv_at hl 2 rfl) ?_
    refine lv_aload_n hx hb dX7_codeOf_5 rfl (lv_at hl 0 rfl) ?_
    refine gz (q0 := 0) (v := .int (FM 3)) fx hK hP fl_X7_53 rfl rfl dX7_codeOf_6 ?_
    refine lv_icmp_ge (tgt := 34) hx hb dX7_codeOf_9 (by decide) (fun c_1 => ?_) (fun c_1 => ?_)
    · have hw := hw.1 c_1
      refine lv_iload_n hx hb dX7_codeOf_34 rfl (lv_at hl 1 rfl) ?_
      exact hret _ _ _ dX7_codeOf_35 rfl hw
    · have hw := hw.2 c_1
      refine lv_iload_n hx hb dX7_codeOf_12 rfl (lv_at hl 1 rfl) ?_
      refine lv_aload_n hx hb dX7_codeOf_13 rfl (lv_at hl 0 rfl) ?_
      refine gz (q0 := 0) (v := .ref (gM 24)) fx hK hP fl_X7_43 rfl rfl dX7_codeOf_14 ?_
      refine lv_iload_n hx hb dX7_codeOf_17 rfl (lv_at hl 2 rfl) ?_
      obtain ⟨hz, hw⟩ := hw
      refine va_iald hx hb hK hP 12 0 rfl rfl hz dX7_codeOf_18 ?_
      refine lv_aload_n hx hb dX7_codeOf_19 rfl (lv_at hl 0 rfl) ?_
      refine gz (q0 := 0) (v := .ref (gM 8)) fx hK hP fl_X7_16 rfl rfl dX7_codeOf_20 ?_
      refine lv_iload_n hx hb dX7_codeOf_23 rfl (lv_at hl 2 rfl) ?_
      obtain ⟨hz, hw⟩ := hw
      refine va_iald hx hb hK hP 3 0 rfl rfl hz dX7_codeOf_24 ?_
      refine lv_imul hx hb dX7_codeOf_25 ?_
      refine lv_iadd hx hb dX7_codeOf_26 ?_
      refine lv_istore_n (lv' := [(1, .int (x1 + (((AM 24) (ix x2)) * ((AM 8) (ix x2))))), (0, .ref oM), (2, .int x2)]) hx hb dX7_codeOf_27 rfl hl (by decide) rfl (fun ls hl => ?_)
      refine lv_iinc (v := (x2 + 1)) (lv' := [(2, .int (x2 + 1)), (1, .int (x1 + (((AM 24) (ix x2)) * ((AM 8) (ix x2))))), (0, .ref oM)]) hx hb dX7_codeOf_28 hl (k := 2) rfl rfl (by decide) rfl (fun ls hl => ?_)
      refine lv_goto (tgt := 4) hx hb dX7_codeOf_31 (by decide) ?_
      exact hk_4 ((x1 + (((AM 24) (ix x2)) * ((AM 8) (ix x2)))), (x2 + 1)) hw _ (lv_sub hl [2, 1, 0] rfl)
  refine lv_iconst (v := (0 : Int32)) hx hb dX7_codeOf_0 (by decide) ?_
  refine lv_istore_n (lv' := [(1, .int (0 : Int32)), (0, .ref oM)]) hx hb dX7_codeOf_1 rfl hl (by decide) rfl (fun ls hl => ?_)
  refine lv_iconst (v := (0 : Int32)) hx hb dX7_codeOf_2 (by decide) ?_
  refine lv_istore_n (lv' := [(2, .int (0 : Int32)), (1, .int (0 : Int32)), (0, .ref oM)]) hx hb dX7_codeOf_3 rfl hl (by decide) rfl (fun ls hl => ?_)
  exact b_4 (0 : Int32) (0 : Int32) _ (lv_sub hl [2, 1, 0] rfl) hw
set_option maxHeartbeats 4000000 in
set_option maxRecDepth 100000 in
theorem c_X7_keeps (l : Launch) (dC : Nat → ClassId) (dI : Nat → Nat → Nat) (cA : ClassId) (oM : Nat) (gM : Nat → Nat) (FM : Nat → Int32) (AM : Nat → Nat → Int32) (Post : (Nat → Int32) → (Nat → Nat → Int32) → Prop) (hw : wp_X7_keeps FM AM Post) : MuV (dC, dI) cA l yX7_keeps cX7_keeps 2 1 22 [.ref oM] (mW oM gM cA FM AM) (fun (u : (Nat → Int32) × (Nat → Nat → Int32)) => Post (u.1) (u.2)) (fun u => (mW oM gM cA (u.1) (u.2))) := by
  refine enMv (by decide) (Nat.le_of_ble_eq_true rfl) ?_
  intro p e s m args below meth c Q ls A fx hK hP hD hS hA hret hl
  obtain ⟨hx, hb, hml, hown, hts⟩ := id fx
  have hl : lv_has ls 2 [(0, .ref oM)] := hl
  have hP : va_P (dC, dI) vwCl (mW oM gM cA FM AM) s.heap := hP
  have b_61 : ∀ (FM : Nat → Int32) (AM : Nat → Nat → Int32) (H : Heap) (locs : List Loc) (ls : Array Slot), va_P (dC, dI) vwCl (mW oM gM cA FM AM) H → va_D A (mW oM gM cA FM AM) → va_S A s.heap H locs → lv_has ls 2 [(0, .ref oM)] → wp_X7_keeps_61 FM AM Post → W p l e ({ frames := 1, cells := 0, slots := 0, locals := 22 } : Room) s m args below meth c H locs 0 0 Q (F0 m 61 ls []) := by
    intro FM AM H locs ls hP hD hS hl hw
    refine lv_aload_n hx hb dX7_keeps_61 rfl (lv_at hl 0 rfl) ?_
    refine caMuVv (rest := []) (As := []) (w1 := ([] : va_W)) (w2 := ([] : va_W)) fx hK lk_X7_151 (c_X7_rowNow l dC dI cA oM gM FM AM _ hw) hP hD hS hA 0 rfl rfl ⟨(Nat.le_of_ble_eq_true rfl), (Nat.le_of_ble_eq_true rfl)⟩ rfl hl.1 rfl (Nat.le_of_ble_eq_true rfl) dX7_keeps_62 ?_
    intro u_4 H locs hw hP hD hS
    obtain ⟨FM_2, AM_3⟩ := u_4
    have hP : va_P (dC, dI) vwCl (mW oM gM cA FM_2 AM_3) H := hP
    have hD : va_D A (mW oM gM cA FM_2 AM_3) := hD
    try dsimp only at hw
    refine lv_aload_n hx hb dX7_keeps_65 rfl (lv_at hl 0 rfl) ?_
    refine gz (q0 := 0) (v := .ref (gM 18)) fx hK hP fl_X7_28 rfl rfl dX7_keeps_66 ?_
    refine lv_aload_n hx hb dX7_keeps_69 rfl (lv_at hl 0 rfl) ?_
    refine gz (q0 := 0) (v := .int (FM_2 17)) fx hK hP fl_X7_68 rfl rfl dX7_keeps_70 ?_
    refine lv_aload_n hx hb dX7_keeps_73 rfl (lv_at hl 0 rfl) ?_
    refine caRoV (rest := [.int (FM_2 17), .ref (gM 18)]) (As := []) fx hK lk_X7_154 (c_X7_codeOf l dC dI cA oM gM FM_2 AM_3 _ hw) (hP.sub [0, 1, 2, 3, 4, 5, 6, 7, 8, 9, 10, 11, 12, 13] rfl) 0 rfl rfl ⟨(Nat.le_of_ble_eq_true rfl), (Nat.le_of_ble_eq_true rfl)⟩ rfl hl.1 rfl (Nat.le_of_ble_eq_true rfl) dX7_keeps_74 ?_
    intro r_5 hw
    obtain ⟨hz, hw⟩ := hw
    refine az hx hb hK hP hD hS 7 rfl hz dX7_keeps_77 ?_
    intro g_6 H locs e_7 hP hD hS
    have hw := hw g_6 e_7
    have hP : va_P (dC, dI) vwCl (mW oM gM cA FM_2 (uA AM_3 18 g_6)) H := hP
    have hD : va_D A (mW oM gM cA FM_2 (uA AM_3 18 g_6)) := hD
    refine lv_aload_n hx hb dX7_keeps_78 rfl (lv_at hl 0 rfl) ?_
    refine gz (q0 := 0) (v := .ref (gM 19)) fx hK hP fl_X7_31 rfl rfl dX7_keeps_79 ?_
    refine lv_aload_n hx hb dX7_keeps_82 rfl (lv_at hl 0 rfl) ?_
    refine gz (q0 := 0) (v := .int (FM_2 17)) fx hK hP fl_X7_68 rfl rfl dX7_keeps_83 ?_
    refine lv_aload_n hx hb dX7_keeps_86 rfl (lv_at hl 0 rfl) ?_
    refine gz (q0 := 0) (v := .int (FM_2 10)) fx hK hP fl_X7_65 rfl rfl dX7_keeps_87 ?_
    obtain ⟨hz, hw⟩ := hw
    refine az hx hb hK hP hD hS 8 rfl hz dX7_keeps_90 ?_
    intro g_8 H locs e_9 hP hD hS
    have hw := hw g_8 e_9
    have hP : va_P (dC, dI) vwCl (mW oM gM cA FM_2 (uA (uA AM_3 18 g_6) 19 g_8)) H := hP
    have hD : va_D A (mW oM gM cA FM_2 (uA (uA AM_3 18 g_6) 19 g_8)) := hD
    refine lv_aload_n hx hb dX7_keeps_91 rfl (lv_at hl 0 rfl) ?_
    refine lv_dup hx hb dX7_keeps_92 rfl ?_
    refine gz (q0 := 0) (v := .int (FM_2 17)) fx hK hP fl_X7_68 rfl rfl dX7_keeps_93 ?_
    refine lv_iconst (v := (1 : Int32)) hx hb dX7_keeps_96 (by decide) ?_
    refine lv_iadd hx hb dX7_keeps_97 ?_
    refine pz (q0 := 0) (v := .int ((FM_2 17) + (1 : Int32))) fx hK hP hD hS fp_X7_68 rfl rfl rfl (Nat.le_of_ble_eq_true rfl) dX7_keeps_98 (fun H locs hP hD hS => ?_)
    have hP : va_P (dC, dI) vwCl (mW oM gM cA (uF FM_2 17 ((FM_2 17) + (1 : Int32))) (uA (uA AM_3 18 g_6) 19 g_8)) H := hP
    have hD : va_D A (mW oM gM cA (uF FM_2 17 ((FM_2 17) + (1 : Int32))) (uA (uA AM_3 18 g_6) 19 g_8)) := hD
    exact hret ((uF FM_2 17 ((FM_2 17) + (1 : Int32))), (uA (uA AM_3 18 g_6) 19 g_8)) _ _ _ _ dX7_keeps_101 hw hP hD hS
  have b_11 : ∀ (FM : Nat → Int32) (AM : Nat → Nat → Int32) (x1 : Int32) (H : Heap) (locs : List Loc) (ls : Array Slot), va_P (dC, dI) vwCl (mW oM gM cA FM AM) H → va_D A (mW oM gM cA FM AM) → va_S A s.heap H locs → lv_has ls 2 [(0, .ref oM), (1, .int x1)] → wp_X7_keeps_11 FM AM x1 Post → W p l e ({ frames := 1, cells := 0, slots := 0, locals := 22 } : Room) s m args below meth c H locs 0 0 Q (F0 m 11 ls []) := by
    intro FM AM x1 H locs ls hP hD hS hl hw
    refine Lp_go (C := fun (t : Int32 × (Nat → Int32) × (Nat → Nat → Int32)) => ∀ (H : Heap) (locs : List Loc) (ls : Array Slot), va_P (dC, dI) vwCl (mW oM gM cA (t.2.1) (t.2.2)) H → va_D A (mW oM gM cA (t.2.1) (t.2.2)) → va_S A s.heap H locs → lv_has ls 2 [(0, .ref oM), (1, .int (t.1))] → W p l e ({ frames := 1, cells := 0, slots := 0, locals := 22 } : Room) s m args below meth c H locs 0 0 Q (F0 m 11 ls [])) ?_ hw H locs ls hP hD hS hl
    intro k_11 hk_11 t
    obtain ⟨x1, FM, AM⟩ := t
    intro hw H locs ls hP hD hS hl
    have hP : va_P (dC, dI) vwCl (mW oM gM cA FM AM) H := hP
    have hD : va_D A (mW oM gM cA FM AM) := hD
    have hl : lv_has ls 2 [(0, .ref oM), (1, .int x1)] := hl
    have hw : st_X7_keeps_11 Post k_11 x1 FM AM := hw
    refine lv_iload_n hx hb dX7_keeps_11 rfl (lv_at hl 1 rfl) ?_
    refine lv_bipush (v := (6 : Int32)) hx hb dX7_keeps_12 (by decide) ?_
    refine lv_icmp_ge (tgt := 51) hx hb dX7_keeps_14 (by decide) (fun c_10 => ?_) (fun c_10 => ?_)
    · have hw := hw.1 c_10
      refine lv_aload_n hx hb dX7_keeps_51 rfl (lv_at hl 0 rfl) ?_
      refine lv_dup hx hb dX7_keeps_52 rfl ?_
      refine gz (q0 := 0) (v := .int (FM 17)) fx hK hP fl_X7_68 rfl rfl dX7_keeps_53 ?_
      refine lv_iconst (v := (1 : Int32)) hx hb dX7_keeps_56 (by decide) ?_
      refine lv_isub hx hb dX7_keeps_57 ?_
      refine pz (q0 := 0) (v := .int ((FM 17) - (1 : Int32))) fx hK hP hD hS fp_X7_68 rfl rfl rfl (Nat.le_of_ble_eq_true rfl) dX7_keeps_58 (fun H locs hP hD hS => ?_)
      have hP : va_P (dC, dI) vwCl (mW oM gM cA (uF FM 17 ((FM 17) - (1 : Int32))) AM) H := hP
      have hD : va_D A (mW oM gM cA (uF FM 17 ((FM 17) - (1 : Int32))) AM) := hD
      exact b_61 (uF FM 17 ((FM 17) - (1 : Int32))) AM _ _ _ hP hD hS (lv_sub hl [0] rfl) hw
    · have hw := hw.2 c_10
      refine lv_aload_n hx hb dX7_keeps_17 rfl (lv_at hl 0 rfl) ?_
      refine gz (q0 := 0) (v := .ref (gM 18)) fx hK hP fl_X7_28 rfl rfl dX7_keeps_18 ?_
      refine lv_iload_n hx hb dX7_keeps_21 rfl (lv_at hl 1 rfl) ?_
      refine lv_iconst (v := (1 : Int32)) hx hb dX7_keeps_22 (by decide) ?_
      refine lv_isub hx hb dX7_keeps_23 ?_
      refine lv_aload_n hx hb dX7_keeps_24 rfl (lv_at hl 0 rfl) ?_
      refine gz (q0 := 0) (v := .ref (gM 18)) fx hK hP fl_X7_28 rfl rfl dX7_keeps_25 ?_
      refine lv_iload_n hx hb dX7_keeps_28 rfl (lv_at hl 1 rfl) ?_
      obtain ⟨hz, hw⟩ := hw
      refine va_iald hx hb hK hP 7 0 rfl rfl hz dX7_keeps_29 ?_
      obtain ⟨hz, hw⟩ := hw
      refine az hx hb hK hP hD hS 7 rfl hz dX7_keeps_30 ?_
      intro g_11 H locs e_12 hP hD hS
      have hw := hw g_11 e_12
      have hP : va_P (dC, dI) vwCl (mW oM gM cA FM (uA AM 18 g_11)) H := hP
      have hD : va_D A (mW oM gM cA FM (uA AM 18 g_11)) := hD
      refine lv_aload_n hx hb dX7_keeps_31 rfl (lv_at hl 0 rfl) ?_
      refine gz (q0 := 0) (v := .ref (gM 19)) fx hK hP fl_X7_31 rfl rfl dX7_keeps_32 ?_
      refine lv_iload_n hx hb dX7_keeps_35 rfl (lv_at hl 1 rfl) ?_
      refine lv_iconst (v := (1 : Int32)) hx hb dX7_keeps_36 (by decide) ?_
      refine lv_isub hx hb dX7_keeps_37 ?_
      refine lv_aload_n hx hb dX7_keeps_38 rfl (lv_at hl 0 rfl) ?_
      refine gz (q0 := 0) (v := .ref (gM 19)) fx hK hP fl_X7_31 rfl rfl dX7_keeps_39 ?_
      refine lv_iload_n hx hb dX7_keeps_42 rfl (lv_at hl 1 rfl) ?_
      obtain ⟨hz, hw⟩ := hw
      refine va_iald hx hb hK hP 8 0 rfl rfl hz dX7_keeps_43 ?_
      obtain ⟨hz, hw⟩ := hw
      refine az hx hb hK hP hD hS 8 rfl hz dX7_keeps_44 ?_
      intro g_13 H locs e_14 hP hD hS
      have hw := hw g_13 e_14
      have hP : va_P (dC, dI) vwCl (mW oM gM cA FM (uA (uA AM 18 g_11) 19 g_13)) H := hP
      have hD : va_D A (mW oM gM cA FM (uA (uA AM 18 g_11) 19 g_13)) := hD
      refine lv_iinc (v := (x1 + 1)) (lv' := [(1, .int (x1 + 1)), (0, .ref oM)]) hx hb dX7_keeps_45 hl (k := 1) rfl rfl (by decide) rfl (fun ls hl => ?_)
      refine lv_goto (tgt := 11) hx hb dX7_keeps_48 (by decide) ?_
      exact hk_11 ((x1 + 1), FM, (uA (uA AM 18 g_11) 19 g_13)) hw _ _ _ hP hD hS (lv_sub hl [1, 0] rfl)
  refine lv_aload_n hx hb dX7_keeps_0 rfl (lv_at hl 0 rfl) ?_
  refine gz (q0 := 0) (v := .int (FM 17)) fx hK hP fl_X7_68 rfl rfl dX7_keeps_1 ?_
  refine lv_bipush (v := (6 : Int32)) hx hb dX7_keeps_4 (by decide) ?_
  refine lv_icmp_ne (tgt := 61) hx hb dX7_keeps_6 (by decide) (fun c_15 => ?_) (fun c_15 => ?_)
  · have hw := hw.1 c_15
    exact b_61 FM AM _ _ _ hP hD hS (lv_sub hl [0] rfl) hw
  · have hw := hw.2 c_15
    refine lv_iconst (v := (1 : Int32)) hx hb dX7_keeps_9 (by decide) ?_
    refine lv_istore_n (lv' := [(1, .int (1 : Int32)), (0, .ref oM)]) hx hb dX7_keeps_10 rfl hl (by decide) rfl (fun ls hl => ?_)
    exact b_11 FM AM (1 : Int32) _ _ _ hP hD hS (lv_sub hl [1, 0] rfl) hw
set_option maxHeartbeats 4000000 in
set_option maxRecDepth 100000 in
theorem c_X7_hit (l : Launch) (dC : Nat → ClassId) (dI : Nat → Nat → Nat) (cA : ClassId) (oM : Nat) (gM : Nat → Nat) (FM : Nat → Int32) (AM : Nat → Nat → Int32) (x1 : Int32) (x2 : Int32) (Post : Int32 → (Nat → Int32) → (Nat → Nat → Int32) → Prop) (hw : wp_X7_hit FM AM x1 x2 Post) : MuI (dC, dI) cA l yX7_hit cX7_hit 4 .int 2 43 [.ref oM, .int x1, .int x2] (mW oM gM cA FM AM) (fun r (u : (Nat → Int32) × (Nat → Nat → Int32)) => Post r (u.1) (u.2)) (fun u => (mW oM gM cA (u.1) (u.2))) := by
  refine enMu (by decide) (Nat.le_of_ble_eq_true rfl) ?_
  intro p e s m args below meth c Q ls A fx hK hP hD hS hA hret hl
  obtain ⟨hx, hb, hml, hown, hts⟩ := id fx
  have hl : lv_has ls 4 [(0, .ref oM), (1, .int x1), (2, .int x2)] := hl
  have hP : va_P (dC, dI) vwCl (mW oM gM cA FM AM) s.heap := hP
  refine lv_aload_n hx hb dX7_hit_0 rfl (lv_at hl 0 rfl) ?_
  refine lv_iload_n hx hb dX7_hit_1 rfl (lv_at hl 1 rfl) ?_
  refine caRoV (rest := []) (As := [.int x1]) fx hK lk_X7_148 (c_X7_isMachine l dC dI cA oM gM FM AM x1 _ hw) (hP.sub [0, 1, 2, 3, 4, 5, 6, 7, 8, 9, 10, 11, 12, 13] rfl) 0 rfl rfl ⟨(Nat.le_of_ble_eq_true rfl), (Nat.le_of_ble_eq_true rfl)⟩ rfl hl.1 rfl (Nat.le_of_ble_eq_true rfl) dX7_hit_2 ?_
  intro r_11 hw
  refine lv_if_eq (tgt := 22) hx hb dX7_hit_5 (by decide) (fun c_12 => ?_) (fun c_12 => ?_)
  · have hw := hw.1 c_12
    refine lv_iconst (v := (-1 : Int32)) hx hb dX7_hit_22 (by decide) ?_
    exact hret _ (FM, AM) _ _ _ _ dX7_hit_23 rfl hw hP hD hS
  · have hw := hw.2 c_12
    refine lv_iload_n hx hb dX7_hit_8 rfl (lv_at hl 2 rfl) ?_
    refine lv_iconst (v := (0 : Int32)) hx hb dX7_hit_9 (by decide) ?_
    refine lv_aload_n hx hb dX7_hit_10 rfl (lv_at hl 0 rfl) ?_
    refine gz (q0 := 0) (v := .int (FM 4)) fx hK hP fl_X7_56 rfl rfl dX7_hit_11 ?_
    refine lv_iconst (v := (1 : Int32)) hx hb dX7_hit_14 (by decide) ?_
    refine lv_isub hx hb dX7_hit_15 ?_
    refine caRoS (rest := []) (As := [.int x2, .int (0 : Int32), .int ((FM 4) - (1 : Int32))]) fx hK lk_X7_88 (c_X7_isIn l dC dI cA x2 (0 : Int32) ((FM 4) - (1 : Int32)) _ hw) (hP.sub [] rfl) ⟨(Nat.le_of_ble_eq_true rfl), (Nat.le_of_ble_eq_true rfl)⟩ rfl hl.1 rfl (Nat.le_of_ble_eq_true rfl) dX7_hit_16 ?_
    intro r_13 hw
    refine lv_if_ne (tgt := 24) hx hb dX7_hit_19 (by decide) (fun c_14 => ?_) (fun c_14 => ?_)
    · have hw := hw.1 c_14
      refine lv_aload_n hx hb dX7_hit_24 rfl (lv_at hl 0 rfl) ?_
      refine gz (q0 := 0) (v := .ref (gM 9)) fx hK hP fl_X7_19 rfl rfl dX7_hit_25 ?_
      refine lv_iload_n hx hb dX7_hit_28 rfl (lv_at hl 1 rfl) ?_
      obtain ⟨hz, hw⟩ := hw
      refine va_iald hx hb hK hP 4 0 rfl rfl hz dX7_hit_29 ?_
      refine lv_istore_n (lv' := [(3, .int ((AM 9) (ix x1))), (0, .ref oM), (1, .int x1), (2, .int x2)]) hx hb dX7_hit_30 rfl hl (by decide) rfl (fun ls hl => ?_)
      refine lv_iload_n hx hb dX7_hit_31 rfl (lv_at hl 0 rfl) ?_
      refine lv_iload_n hx hb dX7_hit_32 rfl (lv_at hl 3 rfl) ?_
      refine lv_icmp_ne (tgt := 39) hx hb dX7_hit_33 (by decide) (fun c_15 => ?_) (fun c_15 => ?_)
      · have hw := hw.1 c_15
        refine lv_aload_n hx hb dX7_hit_39 rfl (lv_at hl 1 rfl) ?_
        refine caMuVv (rest := []) (As := []) (w1 := ([] : va_W)) (w2 := ([] : va_W)) fx hK lk_X7_157 (c_X7_keeps l dC dI cA oM gM FM AM _ hw) hP hD hS hA 0 rfl rfl ⟨(Nat.le_of_ble_eq_true rfl), (Nat.le_of_ble_eq_true rfl)⟩ rfl hl.1 rfl (Nat.le_of_ble_eq_true rfl) dX7_hit_40 ?_
        intro u_18 H locs hw hP hD hS
        obtain ⟨FM_16, AM_17⟩ := u_18
        have hP : va_P (dC, dI) vwCl (mW oM gM cA FM_16 AM_17) H := hP
        have hD : va_D A (mW oM gM cA FM_16 AM_17) := hD
        try dsimp only at hw
        refine lv_aload_n hx hb dX7_hit_43 rfl (lv_at hl 1 rfl) ?_
        refine gz (q0 := 0) (v := .ref (gM 9)) fx hK hP fl_X7_19 rfl rfl dX7_hit_44 ?_
        refine lv_iload_n hx hb dX7_hit_47 rfl (lv_at hl 2 rfl) ?_
        refine lv_iload_n hx hb dX7_hit_48 rfl (lv_at hl 3 rfl) ?_
        obtain ⟨hz, hw⟩ := hw
        refine az hx hb hK hP hD hS 4 rfl hz dX7_hit_49 ?_
        intro g_19 H locs e_20 hP hD hS
        have hw := hw g_19 e_20
        have hP : va_P (dC, dI) vwCl (mW oM gM cA FM_16 (uA AM_17 9 g_19)) H := hP
        have hD : va_D A (mW oM gM cA FM_16 (uA AM_17 9 g_19)) := hD
        refine lv_iload_n hx hb dX7_hit_50 rfl (lv_at hl 0 rfl) ?_
        exact hret _ (FM_16, (uA AM_17 9 g_19)) _ _ _ _ dX7_hit_51 rfl hw hP hD hS
      · have hw := hw.2 c_15
        refine lv_bipush (v := (-2 : Int32)) hx hb dX7_hit_36 (by decide) ?_
        exact hret _ (FM, AM) _ _ _ _ dX7_hit_38 rfl hw hP hD hS
    · have hw := hw.2 c_14
      refine lv_iconst (v := (-1 : Int32)) hx hb dX7_hit_22 (by decide) ?_
      exact hret _ (FM, AM) _ _ _ _ dX7_hit_23 rfl hw hP hD hS
set_option maxHeartbeats 4000000 in
set_option maxRecDepth 100000 in
theorem c_X7_code (l : Launch) (dC : Nat → ClassId) (dI : Nat → Nat → Nat) (cA : ClassId) (oM : Nat) (gM : Nat → Nat) (FM : Nat → Int32) (AM : Nat → Nat → Int32) (Post : Int32 → (Nat → Int32) → (Nat → Nat → Int32) → Prop) (hw : wp_X7_code FM AM Post) : MuI (dC, dI) cA l yX7_code cX7_code 1 .int 1 22 [.ref oM] (mW oM gM cA FM AM) (fun r (u : (Nat → Int32) × (Nat → Nat → Int32)) => Post r (u.1) (u.2)) (fun u => (mW oM gM cA (u.1) (u.2))) := by
  refine enMu (by decide) (Nat.le_of_ble_eq_true rfl) ?_
  intro p e s m args below meth c Q ls A fx hK hP hD hS hA hret hl
  obtain ⟨hx, hb, hml, hown, hts⟩ := id fx
  have hl : lv_has ls 1 [(0, .ref oM)] := hl
  have hP : va_P (dC, dI) vwCl (mW oM gM cA FM AM) s.heap := hP
  refine lv_aload_n hx hb dX7_code_0 rfl (lv_at hl 0 rfl) ?_
  refine caMuVv (rest := []) (As := []) (w1 := ([] : va_W)) (w2 := ([] : va_W)) fx hK lk_X7_151 (c_X7_rowNow l dC dI cA oM gM FM AM _ hw) hP hD hS hA 0 rfl rfl ⟨(Nat.le_of_ble_eq_true rfl), (Nat.le_of_ble_eq_true rfl)⟩ rfl hl.1 rfl (Nat.le_of_ble_eq_true rfl) dX7_code_1 ?_
  intro u_7 H locs hw hP hD hS
  obtain ⟨FM_5, AM_6⟩ := u_7
  have hP : va_P (dC, dI) vwCl (mW oM gM cA FM_5 AM_6) H := hP
  have hD : va_D A (mW oM gM cA FM_5 AM_6) := hD
  try dsimp only at hw
  refine lv_aload_n hx hb dX7_code_4 rfl (lv_at hl 0 rfl) ?_
  refine caRoV (rest := []) (As := []) fx hK lk_X7_154 (c_X7_codeOf l dC dI cA oM gM FM_5 AM_6 _ hw) (hP.sub [0, 1, 2, 3, 4, 5, 6, 7, 8, 9, 10, 11, 12, 13] rfl) 0 rfl rfl ⟨(Nat.le_of_ble_eq_true rfl), (Nat.le_of_ble_eq_true rfl)⟩ rfl hl.1 rfl (Nat.le_of_ble_eq_true rfl) dX7_code_5 ?_
  intro r_8 hw
  exact hret _ (FM_5, AM_6) _ _ _ _ dX7_code_8 rfl hw hP hD hS
set_option maxHeartbeats 4000000 in
set_option maxRecDepth 100000 in
theorem c_X7_rowOf (l : Launch) (dC : Nat → ClassId) (dI : Nat → Nat → Nat) (cA : ClassId) (oM : Nat) (gM : Nat → Nat) (FM : Nat → Int32) (AM : Nat → Nat → Int32) (x1 : Int32) (Post : (Nat → Int32) → (Nat → Nat → Int32) → Prop) (hw : wp_X7_rowOf FM AM x1 Post) : MuV (dC, dI) cA l yX7_rowOf cX7_rowOf 4 0 0 [.ref oM, .int x1] (mW oM gM cA FM AM) (fun (u : (Nat → Int32) × (Nat → Nat → Int32)) => Post (u.1) (u.2)) (fun u => (mW oM gM cA (u.1) (u.2))) := by
  refine enMv (by decide) (Nat.le_of_ble_eq_true rfl) ?_
  intro p e s m args below meth c Q ls A fx hK hP hD hS hA hret hl
  obtain ⟨hx, hb, hml, hown, hts⟩ := id fx
  have hl : lv_has ls 4 [(0, .ref oM), (1, .int x1)] := hl
  have hP : va_P (dC, dI) vwCl (mW oM gM cA FM AM) s.heap := hP
  have b_4 : ∀ (FM : Nat → Int32) (AM : Nat → Nat → Int32) (x2 : Int32) (x3 : Int32) (H : Heap) (locs : List Loc) (ls : Array Slot), va_P (dC, dI) vwCl (mW oM gM cA FM AM) H → va_D A (mW oM gM cA FM AM) → va_S A s.heap H locs → lv_has ls 4 [(0, .ref oM), (2, .int x2), (3, .int x3)] → wp_X7_rowOf_4 FM AM x2 x3 Post → W p l e ({ frames := 0, cells := 0, slots := 0, locals := 0 } : Room) s m args below meth c H locs 0 0 Q (F0 m 4 ls []) := by
    intro FM AM x2 x3 H locs ls hP hD hS hl hw
    refine Lp_go (C := fun (t : Int32 × Int32 × (Nat → Int32) × (Nat → Nat → Int32)) => ∀ (H : Heap) (locs : List Loc) (ls : Array Slot), va_P (dC, dI) vwCl (mW oM gM cA (t.2.2.1) (t.2.2.2)) H → va_D A (mW oM gM cA (t.2.2.1) (t.2.2.2)) → va_S A s.heap H locs → lv_has ls 4 [(0, .ref oM), (2, .int (t.1)), (3, .int (t.2.1))] → W p l e ({ frames := 0, cells := 0, slots := 0, locals := 0 } : Room) s m args below meth c H locs 0 0 Q (F0 m 4 ls [])) ?_ hw H locs ls hP hD hS hl
    intro k_4 hk_4 t
    obtain ⟨x2, x3, FM, AM⟩ := t
    intro hw H locs ls hP hD hS hl
    have hP : va_P (dC, dI) vwCl (mW oM gM cA FM AM) H := hP
    have hD : va_D A (mW oM gM cA FM AM) := hD
    have hl : lv_has ls 4 [(0, .ref oM), (2, .int x2), (3, .int x3)] := hl
    have hw : st_X7_rowOf_4 Post k_4 x2 x3 FM AM := hw
    refine lv_iload_n hx hb dX7_rowOf_4 rfl (lv_at hl 2 rfl) ?_
    refine lv_aload_n hx hb dX7_rowOf_5 rfl (lv_at hl 0 rfl) ?_
    refine gz (q0 := 0) (v := .int (FM 3)) fx hK hP fl_X7_53 rfl rfl dX7_rowOf_6 ?_
    refine lv_icmp_ge (tgt := 37) hx hb dX7_rowOf_9 (by decide) (fun c_1 => ?_) (fun c_1 => ?_)
    · have hw := hw.1 c_1
      exact hret (FM, AM) _ _ _ _ dX7_rowOf_37 hw hP hD hS
    · have hw := hw.2 c_1
      refine lv_aload_n hx hb dX7_rowOf_12 rfl (lv_at hl 0 rfl) ?_
      refine gz (q0 := 0) (v := .ref (gM 24)) fx hK hP fl_X7_43 rfl rfl dX7_rowOf_13 ?_
      refine lv_iload_n hx hb dX7_rowOf_16 rfl (lv_at hl 2 rfl) ?_
      refine lv_iload_n hx hb dX7_rowOf_17 rfl (lv_at hl 1 rfl) ?_
      refine lv_aload_n hx hb dX7_rowOf_18 rfl (lv_at hl 0 rfl) ?_
      refine gz (q0 := 0) (v := .int (FM 4)) fx hK hP fl_X7_56 rfl rfl dX7_rowOf_19 ?_
      obtain ⟨hz, hw⟩ := hw
      refine lv_irem hx hb dX7_rowOf_22 hz ?_
      obtain ⟨hz, hw⟩ := hw
      refine az hx hb hK hP hD hS 12 rfl hz dX7_rowOf_23 ?_
      intro g_2 H locs e_3 hP hD hS
      have hw := hw g_2 e_3
      have hP : va_P (dC, dI) vwCl (mW oM gM cA FM (uA AM 24 g_2)) H := hP
      have hD : va_D A (mW oM gM cA FM (uA AM 24 g_2)) := hD
      refine lv_iload_n hx hb dX7_rowOf_24 rfl (lv_at hl 1 rfl) ?_
      refine lv_aload_n hx hb dX7_rowOf_25 rfl (lv_at hl 0 rfl) ?_
      refine gz (q0 := 0) (v := .int (FM 4)) fx hK hP fl_X7_56 rfl rfl dX7_rowOf_26 ?_
      obtain ⟨hz, hw⟩ := hw
      refine lv_idiv hx hb dX7_rowOf_29 hz ?_
      refine lv_istore_n (lv' := [(2, .int (x2 / (FM 4))), (0, .ref oM), (3, .int x3)]) hx hb dX7_rowOf_30 rfl hl (by decide) rfl (fun ls hl => ?_)
      refine lv_iinc (v := (x3 + 1)) (lv' := [(3, .int (x3 + 1)), (2, .int (x2 / (FM 4))), (0, .ref oM)]) hx hb dX7_rowOf_31 hl (k := 2) rfl rfl (by decide) rfl (fun ls hl => ?_)
      refine lv_goto (tgt := 4) hx hb dX7_rowOf_34 (by decide) ?_
      exact hk_4 ((x2 / (FM 4)), (x3 + 1), FM, (uA AM 24 g_2)) hw _ _ _ hP hD hS (lv_sub hl [2, 1, 0] rfl)
  refine lv_iload_n hx hb dX7_rowOf_0 rfl (lv_at hl 1 rfl) ?_
  refine lv_istore_n (lv' := [(2, .int x1), (0, .ref oM), (1, .int x1)]) hx hb dX7_rowOf_1 rfl hl (by decide) rfl (fun ls hl => ?_)
  refine lv_iconst (v := (0 : Int32)) hx hb dX7_rowOf_2 (by decide) ?_
  refine lv_istore_n (lv' := [(3, .int (0 : Int32)), (2, .int x1), (0, .ref oM), (1, .int x1)]) hx hb dX7_rowOf_3 rfl hl (by decide) rfl (fun ls hl => ?_)
  exact b_4 FM AM x1 (0 : Int32) _ _ _ hP hD hS (lv_sub hl [2, 1, 0] rfl) hw
set_option maxHeartbeats 4000000 in
set_option maxRecDepth 100000 in
theorem c_X7_valuesOf (l : Launch) (dC : Nat → ClassId) (dI : Nat → Nat → Nat) (cA : ClassId) (oM : Nat) (gM : Nat → Nat) (FM : Nat → Int32) (AM : Nat → Nat → Int32) (x1 : Int32) (Post : (Nat → Int32) → (Nat → Nat → Int32) → Prop) (hw : wp_X7_valuesOf FM AM x1 Post) : MuV (dC, dI) cA l yX7_valuesOf cX7_valuesOf 3 1 23 [.ref oM, .int x1] (mW oM gM cA FM AM) (fun (u : (Nat → Int32) × (Nat → Nat → Int32)) => Post (u.1) (u.2)) (fun u => (mW oM gM cA (u.1) (u.2))) := by
  refine enMv (by decide) (Nat.le_of_ble_eq_true rfl) ?_
  intro p e s m args below meth c Q ls A fx hK hP hD hS hA hret hl
  obtain ⟨hx, hb, hml, hown, hts⟩ := id fx
  have hl : lv_has ls 3 [(0, .ref oM), (1, .int x1)] := hl
  have hP : va_P (dC, dI) vwCl (mW oM gM cA FM AM) s.heap := hP
  have b_7 : ∀ (FM : Nat → Int32) (AM : Nat → Nat → Int32) (x2 : Int32) (H : Heap) (locs : List Loc) (ls : Array Slot), va_P (dC, dI) vwCl (mW oM gM cA FM AM) H → va_D A (mW oM gM cA FM AM) → va_S A s.heap H locs → lv_has ls 3 [(0, .ref oM), (2, .int x2)] → wp_X7_valuesOf_7 FM AM x2 Post → W p l e ({ frames := 1, cells := 0, slots := 0, locals := 23 } : Room) s m args below meth c H locs 0 0 Q (F0 m 7 ls []) := by
    intro FM AM x2 H locs ls hP hD hS hl hw
    refine Lp_go (C := fun (t : Int32 × (Nat → Int32) × (Nat → Nat → Int32)) => ∀ (H : Heap) (locs : List Loc) (ls : Array Slot), va_P (dC, dI) vwCl (mW oM gM cA (t.2.1) (t.2.2)) H → va_D A (mW oM gM cA (t.2.1) (t.2.2)) → va_S A s.heap H locs → lv_has ls 3 [(0, .ref oM), (2, .int (t.1))] → W p l e ({ frames := 1, cells := 0, slots := 0, locals := 23 } : Room) s m args below meth c H locs 0 0 Q (F0 m 7 ls [])) ?_ hw H locs ls hP hD hS hl
    intro k_7 hk_7 t
    obtain ⟨x2, FM, AM⟩ := t
    intro hw H locs ls hP hD hS hl
    have hP : va_P (dC, dI) vwCl (mW oM gM cA FM AM) H := hP
    have hD : va_D A (mW oM gM cA FM AM) := hD
    have hl : lv_has ls 3 [(0, .ref oM), (2, .int x2)] := hl
    have hw : st_X7_valuesOf_7 Post k_7 x2 FM AM := hw
    refine lv_iload_n hx hb dX7_valuesOf_7 rfl (lv_at hl 1 rfl) ?_
    refine lv_aload_n hx hb dX7_valuesOf_8 rfl (lv_at hl 0 rfl) ?_
    refine gz (q0 := 0) (v := .int (FM 3)) fx hK hP fl_X7_53 rfl rfl dX7_valuesOf_9 ?_
    refine lv_icmp_ge (tgt := 33) hx hb dX7_valuesOf_12 (by decide) (fun c_4 => ?_) (fun c_4 => ?_)
    · have hw := hw.1 c_4
      exact hret (FM, AM) _ _ _ _ dX7_valuesOf_33 hw hP hD hS
    · have hw := hw.2 c_4
      refine lv_aload_n hx hb dX7_valuesOf_15 rfl (lv_at hl 0 rfl) ?_
      refine gz (q0 := 0) (v := .ref (gM 9)) fx hK hP fl_X7_19 rfl rfl dX7_valuesOf_16 ?_
      refine lv_iload_n hx hb dX7_valuesOf_19 rfl (lv_at hl 1 rfl) ?_
      refine lv_aload_n hx hb dX7_valuesOf_20 rfl (lv_at hl 0 rfl) ?_
      refine gz (q0 := 0) (v := .ref (gM 24)) fx hK hP fl_X7_43 rfl rfl dX7_valuesOf_21 ?_
      refine lv_iload_n hx hb dX7_valuesOf_24 rfl (lv_at hl 1 rfl) ?_
      obtain ⟨hz, hw⟩ := hw
      refine va_iald hx hb hK hP 12 0 rfl rfl hz dX7_valuesOf_25 ?_
      obtain ⟨hz, hw⟩ := hw
      refine az hx hb hK hP hD hS 4 rfl hz dX7_valuesOf_26 ?_
      intro g_5 H locs e_6 hP hD hS
      have hw := hw g_5 e_6
      have hP : va_P (dC, dI) vwCl (mW oM gM cA FM (uA AM 9 g_5)) H := hP
      have hD : va_D A (mW oM gM cA FM (uA AM 9 g_5)) := hD
      refine lv_iinc (v := (x2 + 1)) (lv' := [(2, .int (x2 + 1)), (0, .ref oM)]) hx hb dX7_valuesOf_27 hl (k := 1) rfl rfl (by decide) rfl (fun ls hl => ?_)
      refine lv_goto (tgt := 7) hx hb dX7_valuesOf_30 (by decide) ?_
      exact hk_7 ((x2 + 1), FM, (uA AM 9 g_5)) hw _ _ _ hP hD hS (lv_sub hl [1, 0] rfl)
  refine lv_aload_n hx hb dX7_valuesOf_0 rfl (lv_at hl 0 rfl) ?_
  refine lv_iload_n hx hb dX7_valuesOf_1 rfl (lv_at hl 1 rfl) ?_
  refine caMuVv (rest := []) (As := [.int x1]) (w1 := ([] : va_W)) (w2 := ([] : va_W)) fx hK lk_X7_144 (c_X7_rowOf l dC dI cA oM gM FM AM x1 _ hw) hP hD hS hA 0 rfl rfl ⟨(Nat.le_of_ble_eq_true rfl), (Nat.le_of_ble_eq_true rfl)⟩ rfl hl.1 rfl (Nat.le_of_ble_eq_true rfl) dX7_valuesOf_2 ?_
  intro u_9 H locs hw hP hD hS
  obtain ⟨FM_7, AM_8⟩ := u_9
  have hP : va_P (dC, dI) vwCl (mW oM gM cA FM_7 AM_8) H := hP
  have hD : va_D A (mW oM gM cA FM_7 AM_8) := hD
  try dsimp only at hw
  refine lv_iconst (v := (0 : Int32)) hx hb dX7_valuesOf_5 (by decide) ?_
  refine lv_istore_n (lv' := [(2, .int (0 : Int32)), (0, .ref oM), (1, .int x1)]) hx hb dX7_valuesOf_6 rfl hl (by decide) rfl (fun ls hl => ?_)
  exact b_7 FM_7 AM_8 (0 : Int32) _ _ _ hP hD hS (lv_sub hl [1, 0] rfl) hw
set_option maxHeartbeats 4000000 in
set_option maxRecDepth 100000 in
theorem c_X7_turn (l : Launch) (dC : Nat → ClassId) (dI : Nat → Nat → Nat) (cA : ClassId) (oM : Nat) (gM : Nat → Nat) (FM : Nat → Int32) (AM : Nat → Nat → Int32) (x1 : Int32) (Post : Int32 → (Nat → Int32) → (Nat → Nat → Int32) → Prop) (hw : wp_X7_turn FM AM x1 Post) : MuI (dC, dI) cA l yX7_turn cX7_turn 3 .int 2 45 [.ref oM, .int x1] (mW oM gM cA FM AM) (fun r (u : (Nat → Int32) × (Nat → Nat → Int32)) => Post r (u.1) (u.2)) (fun u => (mW oM gM cA (u.1) (u.2))) := by
  refine enMu (by decide) (Nat.le_of_ble_eq_true rfl) ?_
  intro p e s m args below meth c Q ls A fx hK hP hD hS hA hret hl
  obtain ⟨hx, hb, hml, hown, hts⟩ := id fx
  have hl : lv_has ls 3 [(0, .ref oM), (1, .int x1)] := hl
  have hP : va_P (dC, dI) vwCl (mW oM gM cA FM AM) s.heap := hP
  refine lv_iload_n hx hb dX7_turn_0 rfl (lv_at hl 1 rfl) ?_
  refine lv_iconst (v := (0 : Int32)) hx hb dX7_turn_1 (by decide) ?_
  refine lv_aload_n hx hb dX7_turn_2 rfl (lv_at hl 0 rfl) ?_
  refine gz (q0 := 0) (v := .int (FM 5)) fx hK hP fl_X7_62 rfl rfl dX7_turn_3 ?_
  refine lv_iconst (v := (1 : Int32)) hx hb dX7_turn_6 (by decide) ?_
  refine lv_isub hx hb dX7_turn_7 ?_
  refine caRoS (rest := []) (As := [.int x1, .int (0 : Int32), .int ((FM 5) - (1 : Int32))]) fx hK lk_X7_88 (c_X7_isIn l dC dI cA x1 (0 : Int32) ((FM 5) - (1 : Int32)) _ hw) (hP.sub [] rfl) ⟨(Nat.le_of_ble_eq_true rfl), (Nat.le_of_ble_eq_true rfl)⟩ rfl hl.1 rfl (Nat.le_of_ble_eq_true rfl) dX7_turn_8 ?_
  intro r_14 hw
  refine lv_if_ne (tgt := 16) hx hb dX7_turn_11 (by decide) (fun c_15 => ?_) (fun c_15 => ?_)
  · have hw := hw.1 c_15
    refine lv_aload_n hx hb dX7_turn_16 rfl (lv_at hl 0 rfl) ?_
    refine caMuV (rest := []) (As := []) (w1 := ([] : va_W)) (w2 := ([] : va_W)) fx hK lk_X7_160 (c_X7_code l dC dI cA oM gM FM AM _ hw) hP hD hS hA 0 rfl rfl ⟨(Nat.le_of_ble_eq_true rfl), (Nat.le_of_ble_eq_true rfl)⟩ rfl hl.1 rfl (Nat.le_of_ble_eq_true rfl) dX7_turn_17 ?_
    intro r_19 u_18 H locs hw hP hD hS
    obtain ⟨FM_16, AM_17⟩ := u_18
    have hP : va_P (dC, dI) vwCl (mW oM gM cA FM_16 AM_17) H := hP
    have hD : va_D A (mW oM gM cA FM_16 AM_17) := hD
    try dsimp only at hw
    refine lv_istore_n (lv' := [(2, .int r_19), (0, .ref oM), (1, .int x1)]) hx hb dX7_turn_20 rfl hl (by decide) rfl (fun ls hl => ?_)
    refine lv_iload_n hx hb dX7_turn_21 rfl (lv_at hl 0 rfl) ?_
    refine lv_iload_n hx hb dX7_turn_22 rfl (lv_at hl 2 rfl) ?_
    refine lv_icmp_ne (tgt := 29) hx hb dX7_turn_23 (by decide) (fun c_20 => ?_) (fun c_20 => ?_)
    · have hw := hw.1 c_20
      refine lv_aload_n hx hb dX7_turn_29 rfl (lv_at hl 1 rfl) ?_
      refine caMuVv (rest := []) (As := []) (w1 := ([] : va_W)) (w2 := ([] : va_W)) fx hK lk_X7_157 (c_X7_keeps l dC dI cA oM gM FM_16 AM_17 _ hw) hP hD hS hA 0 rfl rfl ⟨(Nat.le_of_ble_eq_true rfl), (Nat.le_of_ble_eq_true rfl)⟩ rfl hl.1 rfl (Nat.le_of_ble_eq_true rfl) dX7_turn_30 ?_
      intro u_23 H locs hw hP hD hS
      obtain ⟨FM_21, AM_22⟩ := u_23
      have hP : va_P (dC, dI) vwCl (mW oM gM cA FM_21 AM_22) H := hP
      have hD : va_D A (mW oM gM cA FM_21 AM_22) := hD
      try dsimp only at hw
      refine lv_aload_n hx hb dX7_turn_33 rfl (lv_at hl 1 rfl) ?_
      refine lv_iload_n hx hb dX7_turn_34 rfl (lv_at hl 2 rfl) ?_
      refine caMuVv (rest := []) (As := [.int x1]) (w1 := ([] : va_W)) (w2 := ([] : va_W)) fx hK lk_X7_163 (c_X7_valuesOf l dC dI cA oM gM FM_21 AM_22 x1 _ hw) hP hD hS hA 0 rfl rfl ⟨(Nat.le_of_ble_eq_true rfl), (Nat.le_of_ble_eq_true rfl)⟩ rfl hl.1 rfl (Nat.le_of_ble_eq_true rfl) dX7_turn_35 ?_
      intro u_26 H locs hw hP hD hS
      obtain ⟨FM_24, AM_25⟩ := u_26
      have hP : va_P (dC, dI) vwCl (mW oM gM cA FM_24 AM_25) H := hP
      have hD : va_D A (mW oM gM cA FM_24 AM_25) := hD
      try dsimp only at hw
      refine lv_iload_n hx hb dX7_turn_38 rfl (lv_at hl 0 rfl) ?_
      exact hret _ (FM_24, AM_25) _ _ _ _ dX7_turn_39 rfl hw hP hD hS
    · have hw := hw.2 c_20
      refine lv_bipush (v := (-2 : Int32)) hx hb dX7_turn_26 (by decide) ?_
      exact hret _ (FM_16, AM_17) _ _ _ _ dX7_turn_28 rfl hw hP hD hS
  · have hw := hw.2 c_15
    refine lv_iconst (v := (-1 : Int32)) hx hb dX7_turn_14 (by decide) ?_
    exact hret _ (FM, AM) _ _ _ _ dX7_turn_15 rfl hw hP hD hS
set_option maxHeartbeats 4000000 in
set_option maxRecDepth 100000 in
theorem c_X7_wired (l : Launch) (dC : Nat → ClassId) (dI : Nat → Nat → Nat) (cA : ClassId) (oM : Nat) (gM : Nat → Nat) (FM : Nat → Int32) (AM : Nat → Nat → Int32) (x1 : Int32) (x2 : Int32) (Post : Int32 → Prop) (hw : wp_X7_wired FM AM x1 x2 Post) : RoI (dC, dI) cA l yX7_wired cX7_wired 3 .int 2 43 [.ref oM, .int x1, .int x2] (mW oM gM cA FM AM) Post := by
  refine enRo (by decide) (Nat.le_of_ble_eq_true rfl) ?_
  intro p e s m args below meth c Q ls fx hK hP hret hl
  obtain ⟨hx, hb, hml, hown, hts⟩ := id fx
  have hl : lv_has ls 3 [(0, .ref oM), (1, .int x1), (2, .int x2)] := hl
  refine lv_aload_n hx hb dX7_wired_0 rfl (lv_at hl 0 rfl) ?_
  refine lv_iload_n hx hb dX7_wired_1 rfl (lv_at hl 1 rfl) ?_
  refine caRoV (rest := []) (As := [.int x1]) fx hK lk_X7_148 (c_X7_isMachine l dC dI cA oM gM FM AM x1 _ hw) (hP.sub [0, 1, 2, 3, 4, 5, 6, 7, 8, 9, 10, 11, 12, 13] rfl) 0 rfl rfl ⟨(Nat.le_of_ble_eq_true rfl), (Nat.le_of_ble_eq_true rfl)⟩ rfl hl.1 rfl (Nat.le_of_ble_eq_true rfl) dX7_wired_2 ?_
  intro r_9 hw
  refine lv_if_eq (tgt := 21) hx hb dX7_wired_5 (by decide) (fun c_10 => ?_) (fun c_10 => ?_)
  · have hw := hw.1 c_10
    refine lv_iconst (v := (-1 : Int32)) hx hb dX7_wired_21 (by decide) ?_
    exact hret _ _ _ dX7_wired_22 rfl hw
  · have hw := hw.2 c_10
    refine lv_aload_n hx hb dX7_wired_8 rfl (lv_at hl 0 rfl) ?_
    refine lv_iload_n hx hb dX7_wired_9 rfl (lv_at hl 2 rfl) ?_
    refine caRoV (rest := []) (As := [.int x2]) fx hK lk_X7_148 (c_X7_isMachine l dC dI cA oM gM FM AM x2 _ hw) (hP.sub [0, 1, 2, 3, 4, 5, 6, 7, 8, 9, 10, 11, 12, 13] rfl) 0 rfl rfl ⟨(Nat.le_of_ble_eq_true rfl), (Nat.le_of_ble_eq_true rfl)⟩ rfl hl.1 rfl (Nat.le_of_ble_eq_true rfl) dX7_wired_10 ?_
    intro r_11 hw
    refine lv_if_eq (tgt := 21) hx hb dX7_wired_13 (by decide) (fun c_12 => ?_) (fun c_12 => ?_)
    · have hw := hw.1 c_12
      refine lv_iconst (v := (-1 : Int32)) hx hb dX7_wired_21 (by decide) ?_
      exact hret _ _ _ dX7_wired_22 rfl hw
    · have hw := hw.2 c_12
      refine lv_iload_n hx hb dX7_wired_16 rfl (lv_at hl 1 rfl) ?_
      refine lv_iload_n hx hb dX7_wired_17 rfl (lv_at hl 2 rfl) ?_
      refine lv_icmp_ne (tgt := 23) hx hb dX7_wired_18 (by decide) (fun c_13 => ?_) (fun c_13 => ?_)
      · have hw := hw.1 c_13
        refine lv_aload_n hx hb dX7_wired_23 rfl (lv_at hl 0 rfl) ?_
        refine gz (q0 := 0) (v := .int (FM 2)) fx hK hP fl_X7_49 rfl rfl dX7_wired_24 ?_
        refine lv_iconst (v := (1 : Int32)) hx hb dX7_wired_27 (by decide) ?_
        refine lv_icmp_ne (tgt := 61) hx hb dX7_wired_28 (by decide) (fun c_14 => ?_) (fun c_14 => ?_)
        · have hw := hw.1 c_14
          refine lv_aload_n hx hb dX7_wired_61 rfl (lv_at hl 0 rfl) ?_
          refine gz (q0 := 0) (v := .ref (gM 7)) fx hK hP fl_X7_13 rfl rfl dX7_wired_62 ?_
          refine lv_bipush (v := (6 : Int32)) hx hb dX7_wired_65 (by decide) ?_
          refine lv_iload_n hx hb dX7_wired_67 rfl (lv_at hl 1 rfl) ?_
          refine lv_imul hx hb dX7_wired_68 ?_
          refine lv_iload_n hx hb dX7_wired_69 rfl (lv_at hl 2 rfl) ?_
          refine lv_iadd hx hb dX7_wired_70 ?_
          obtain ⟨hz, hw⟩ := hw
          refine va_iald hx hb hK hP 2 0 rfl rfl hz dX7_wired_71 ?_
          exact hret _ _ _ dX7_wired_72 rfl hw
        · have hw := hw.2 c_14
          refine lv_iload_n hx hb dX7_wired_31 rfl (lv_at hl 1 rfl) ?_
          refine lv_iconst (v := (1 : Int32)) hx hb dX7_wired_32 (by decide) ?_
          refine lv_iadd hx hb dX7_wired_33 ?_
          refine lv_aload_n hx hb dX7_wired_34 rfl (lv_at hl 0 rfl) ?_
          refine gz (q0 := 0) (v := .int (FM 3)) fx hK hP fl_X7_53 rfl rfl dX7_wired_35 ?_
          obtain ⟨hz, hw⟩ := hw
          refine lv_irem hx hb dX7_wired_38 hz ?_
          refine lv_iload_n hx hb dX7_wired_39 rfl (lv_at hl 2 rfl) ?_
          refine lv_icmp_eq (tgt := 55) hx hb dX7_wired_40 (by decide) (fun c_15 => ?_) (fun c_15 => ?_)
          · have hw := hw.1 c_15
            refine lv_iconst (v := (1 : Int32)) hx hb dX7_wired_55 (by decide) ?_
            refine lv_goto (tgt := 60) hx hb dX7_wired_56 (by decide) ?_
            exact hret _ _ _ dX7_wired_60 rfl hw
          · have hw := hw.2 c_15
            refine lv_iload_n hx hb dX7_wired_43 rfl (lv_at hl 2 rfl) ?_
            refine lv_iconst (v := (1 : Int32)) hx hb dX7_wired_44 (by decide) ?_
            refine lv_iadd hx hb dX7_wired_45 ?_
            refine lv_aload_n hx hb dX7_wired_46 rfl (lv_at hl 0 rfl) ?_
            refine gz (q0 := 0) (v := .int (FM 3)) fx hK hP fl_X7_53 rfl rfl dX7_wired_47 ?_
            obtain ⟨hz, hw⟩ := hw
            refine lv_irem hx hb dX7_wired_50 hz ?_
            refine lv_iload_n hx hb dX7_wired_51 rfl (lv_at hl 1 rfl) ?_
            refine lv_icmp_ne (tgt := 59) hx hb dX7_wired_52 (by decide) (fun c_16 => ?_) (fun c_16 => ?_)
            · have hw := hw.1 c_16
              refine lv_iconst (v := (0 : Int32)) hx hb dX7_wired_59 (by decide) ?_
              exact hret _ _ _ dX7_wired_60 rfl hw
            · have hw := hw.2 c_16
              refine lv_iconst (v := (1 : Int32)) hx hb dX7_wired_55 (by decide) ?_
              refine lv_goto (tgt := 60) hx hb dX7_wired_56 (by decide) ?_
              exact hret _ _ _ dX7_wired_60 rfl hw
      · have hw := hw.2 c_13
        refine lv_iconst (v := (-1 : Int32)) hx hb dX7_wired_21 (by decide) ?_
        exact hret _ _ _ dX7_wired_22 rfl hw
set_option maxHeartbeats 4000000 in
set_option maxRecDepth 100000 in
theorem c_X7_counters (l : Launch) (dC : Nat → ClassId) (dI : Nat → Nat → Nat) (cA : ClassId) (oM : Nat) (gM : Nat → Nat) (FM : Nat → Int32) (AM : Nat → Nat → Int32) (x1 : Int32) (Post : Int32 → (Nat → Int32) → (Nat → Nat → Int32) → Prop) (hw : wp_X7_counters FM AM x1 Post) : MuI (dC, dI) cA l yX7_counters cX7_counters 3 .int 0 0 [.ref oM, .int x1] (mW oM gM cA FM AM) (fun r (u : (Nat → Int32) × (Nat → Nat → Int32)) => Post r (u.1) (u.2)) (fun u => (mW oM gM cA (u.1) (u.2))) := by
  refine enMu (by decide) (Nat.le_of_ble_eq_true rfl) ?_
  intro p e s m args below meth c Q ls A fx hK hP hD hS hA hret hl
  obtain ⟨hx, hb, hml, hown, hts⟩ := id fx
  have hl : lv_has ls 3 [(0, .ref oM), (1, .int x1)] := hl
  have hP : va_P (dC, dI) vwCl (mW oM gM cA FM AM) s.heap := hP
  have b_25 : ∀ (FM : Nat → Int32) (AM : Nat → Nat → Int32) (t1 : Int32) (H : Heap) (locs : List Loc) (ls : Array Slot), va_P (dC, dI) vwCl (mW oM gM cA FM AM) H → va_D A (mW oM gM cA FM AM) → va_S A s.heap H locs → lv_has ls 3 [(0, .ref oM), (1, .int x1)] → wp_X7_counters_25 FM AM x1 t1 Post → W p l e ({ frames := 0, cells := 0, slots := 0, locals := 0 } : Room) s m args below meth c H locs 0 0 Q (F0 m 25 ls [.int t1, .ref (gM 24)]) := by
    intro FM AM t1 H locs ls hP hD hS hl hw
    obtain ⟨hz, hw⟩ := hw
    refine va_iald hx hb hK hP 12 0 rfl rfl hz dX7_counters_25 ?_
    refine lv_istore_n (lv' := [(2, .int ((AM 24) (ix t1))), (0, .ref oM), (1, .int x1)]) hx hb dX7_counters_26 rfl hl (by decide) rfl (fun ls hl => ?_)
    refine lv_iload_n hx hb dX7_counters_27 rfl (lv_at hl 2 rfl) ?_
    refine lv_if_ne (tgt := 59) hx hb dX7_counters_28 (by decide) (fun c_2 => ?_) (fun c_2 => ?_)
    · have hw := hw.1 c_2
      refine lv_aload_n hx hb dX7_counters_59 rfl (lv_at hl 1 rfl) ?_
      refine gz (q0 := 0) (v := .ref (gM 24)) fx hK hP fl_X7_43 rfl rfl dX7_counters_60 ?_
      refine lv_iload_n hx hb dX7_counters_63 rfl (lv_at hl 2 rfl) ?_
      obtain ⟨hz, hw⟩ := hw
      refine va_iald hx hb hK hP 12 0 rfl rfl hz dX7_counters_64 ?_
      refine lv_iload_n hx hb dX7_counters_65 rfl (lv_at hl 0 rfl) ?_
      refine lv_icmp_ne (tgt := 73) hx hb dX7_counters_66 (by decide) (fun c_3 => ?_) (fun c_3 => ?_)
      · have hw := hw.1 c_3
        refine lv_iload_n hx hb dX7_counters_73 rfl (lv_at hl 0 rfl) ?_
        exact hret _ (FM, AM) _ _ _ _ dX7_counters_74 rfl hw hP hD hS
      · have hw := hw.2 c_3
        refine lv_iconst (v := (-1 : Int32)) hx hb dX7_counters_69 (by decide) ?_
        refine lv_goto (tgt := 74) hx hb dX7_counters_70 (by decide) ?_
        exact hret _ (FM, AM) _ _ _ _ dX7_counters_74 rfl hw hP hD hS
    · have hw := hw.2 c_2
      refine lv_aload_n hx hb dX7_counters_31 rfl (lv_at hl 1 rfl) ?_
      refine gz (q0 := 0) (v := .ref (gM 24)) fx hK hP fl_X7_43 rfl rfl dX7_counters_32 ?_
      refine lv_iconst (v := (0 : Int32)) hx hb dX7_counters_35 (by decide) ?_
      obtain ⟨hz, hw⟩ := hw
      refine va_iald hx hb hK hP 12 0 rfl rfl hz dX7_counters_36 ?_
      refine lv_iload_n hx hb dX7_counters_37 rfl (lv_at hl 0 rfl) ?_
      refine lv_icmp_ne (tgt := 57) hx hb dX7_counters_38 (by decide) (fun c_4 => ?_) (fun c_4 => ?_)
      · have hw := hw.1 c_4
        refine lv_iconst (v := (-1 : Int32)) hx hb dX7_counters_57 (by decide) ?_
        exact hret _ (FM, AM) _ _ _ _ dX7_counters_58 rfl hw hP hD hS
      · have hw := hw.2 c_4
        refine lv_aload_n hx hb dX7_counters_41 rfl (lv_at hl 1 rfl) ?_
        refine gz (q0 := 0) (v := .ref (gM 24)) fx hK hP fl_X7_43 rfl rfl dX7_counters_42 ?_
        refine lv_iconst (v := (0 : Int32)) hx hb dX7_counters_45 (by decide) ?_
        obtain ⟨hz, hw⟩ := hw
        refine va_iald hx hb hK hP 12 0 rfl rfl hz dX7_counters_46 ?_
        refine lv_iconst (v := (1 : Int32)) hx hb dX7_counters_47 (by decide) ?_
        refine lv_iadd hx hb dX7_counters_48 ?_
        refine lv_aload_n hx hb dX7_counters_49 rfl (lv_at hl 1 rfl) ?_
        refine gz (q0 := 0) (v := .int (FM 4)) fx hK hP fl_X7_56 rfl rfl dX7_counters_50 ?_
        obtain ⟨hz, hw⟩ := hw
        refine lv_irem hx hb dX7_counters_53 hz ?_
        refine lv_goto (tgt := 58) hx hb dX7_counters_54 (by decide) ?_
        exact hret _ (FM, AM) _ _ _ _ dX7_counters_58 rfl hw hP hD hS
  refine lv_aload_n hx hb dX7_counters_0 rfl (lv_at hl 0 rfl) ?_
  refine lv_iconst (v := (1 : Int32)) hx hb dX7_counters_1 (by decide) ?_
  refine pz (q0 := 0) (v := .int (1 : Int32)) fx hK hP hD hS fp_X7_120 rfl rfl rfl (Nat.le_of_ble_eq_true rfl) dX7_counters_2 (fun H locs hP hD hS => ?_)
  have hP : va_P (dC, dI) vwCl (mW oM gM cA (uF FM 26 (1 : Int32)) AM) H := hP
  have hD : va_D A (mW oM gM cA (uF FM 26 (1 : Int32)) AM) := hD
  refine lv_aload_n hx hb dX7_counters_5 rfl (lv_at hl 0 rfl) ?_
  refine gz (q0 := 0) (v := .ref (gM 24)) fx hK hP fl_X7_43 rfl rfl dX7_counters_6 ?_
  refine lv_iload_n hx hb dX7_counters_9 rfl (lv_at hl 1 rfl) ?_
  refine lv_if_ne (tgt := 22) hx hb dX7_counters_10 (by decide) (fun c_5 => ?_) (fun c_5 => ?_)
  · have hw := hw.1 c_5
    refine lv_iload_n hx hb dX7_counters_22 rfl (lv_at hl 1 rfl) ?_
    refine lv_iconst (v := (1 : Int32)) hx hb dX7_counters_23 (by decide) ?_
    refine lv_isub hx hb dX7_counters_24 ?_
    exact b_25 (uF FM 26 (1 : Int32)) AM (x1 - (1 : Int32)) _ _ _ hP hD hS (lv_sub hl [0, 1] rfl) hw
  · have hw := hw.2 c_5
    refine lv_aload_n hx hb dX7_counters_13 rfl (lv_at hl 0 rfl) ?_
    refine gz (q0 := 0) (v := .int (FM 3)) fx hK hP fl_X7_53 rfl rfl dX7_counters_14 ?_
    refine lv_iconst (v := (1 : Int32)) hx hb dX7_counters_17 (by decide) ?_
    refine lv_isub hx hb dX7_counters_18 ?_
    refine lv_goto (tgt := 25) hx hb dX7_counters_19 (by decide) ?_
    exact b_25 (uF FM 26 (1 : Int32)) AM ((FM 3) - (1 : Int32)) _ _ _ hP hD hS (lv_sub hl [0, 1] rfl) hw
set_option maxHeartbeats 4000000 in
set_option maxRecDepth 100000 in
theorem c_X7_isWired (l : Launch) (dC : Nat → ClassId) (dI : Nat → Nat → Nat) (cA : ClassId) (oM : Nat) (gM : Nat → Nat) (FM : Nat → Int32) (AM : Nat → Nat → Int32) (x1 : Int32) (x2 : Int32) (Post : Int32 → Prop) (hw : wp_X7_isWired FM AM x1 x2 Post) : RoI (dC, dI) cA l yX7_isWired cX7_isWired 3 .boolean 0 0 [.ref oM, .int x1, .int x2] (mW oM gM cA FM AM) Post := by
  refine enRo (by decide) (Nat.le_of_ble_eq_true rfl) ?_
  intro p e s m args below meth c Q ls fx hK hP hret hl
  obtain ⟨hx, hb, hml, hown, hts⟩ := id fx
  have hl : lv_has ls 3 [(0, .ref oM), (1, .int x1), (2, .int x2)] := hl
  refine lv_aload_n hx hb dX7_isWired_0 rfl (lv_at hl 0 rfl) ?_
  refine gz (q0 := 0) (v := .ref (gM 7)) fx hK hP fl_X7_13 rfl rfl dX7_isWired_1 ?_
  refine lv_bipush (v := (6 : Int32)) hx hb dX7_isWired_4 (by decide) ?_
  refine lv_iload_n hx hb dX7_isWired_6 rfl (lv_at hl 1 rfl) ?_
  refine lv_imul hx hb dX7_isWired_7 ?_
  refine lv_iload_n hx hb dX7_isWired_8 rfl (lv_at hl 2 rfl) ?_
  refine lv_iadd hx hb dX7_isWired_9 ?_
  obtain ⟨hz, hw⟩ := hw
  refine va_iald hx hb hK hP 2 0 rfl rfl hz dX7_isWired_10 ?_
  refine lv_iconst (v := (1 : Int32)) hx hb dX7_isWired_11 (by decide) ?_
  refine lv_icmp_ne (tgt := 19) hx hb dX7_isWired_12 (by decide) (fun c_2 => ?_) (fun c_2 => ?_)
  · have hw := hw.1 c_2
    refine lv_iconst (v := (0 : Int32)) hx hb dX7_isWired_19 (by decide) ?_
    exact hret _ _ _ dX7_isWired_20 rfl hw
  · have hw := hw.2 c_2
    refine lv_iconst (v := (1 : Int32)) hx hb dX7_isWired_15 (by decide) ?_
    refine lv_goto (tgt := 20) hx hb dX7_isWired_16 (by decide) ?_
    exact hret _ _ _ dX7_isWired_20 rfl hw
set_option maxHeartbeats 4000000 in
set_option maxRecDepth 100000 in
theorem c_X7_lowest (l : Launch) (dC : Nat → ClassId) (dI : Nat → Nat → Nat) (cA : ClassId) (oM : Nat) (gM : Nat → Nat) (FM : Nat → Int32) (AM : Nat → Nat → Int32) (x1 : Int32) (x2 : Int32) (Post : Int32 → Prop) (hw : wp_X7_lowest FM AM x1 x2 Post) : RoI (dC, dI) cA l yX7_lowest cX7_lowest 4 .int 1 22 [.ref oM, .int x1, .int x2] (mW oM gM cA FM AM) Post := by
  refine enRo (by decide) (Nat.le_of_ble_eq_true rfl) ?_
  intro p e s m args below meth c Q ls fx hK hP hret hl
  obtain ⟨hx, hb, hml, hown, hts⟩ := id fx
  have hl : lv_has ls 4 [(0, .ref oM), (1, .int x1), (2, .int x2)] := hl
  have b_2 : ∀ (x3 : Int32) (ls : Array Slot), lv_has ls 4 [(0, .ref oM), (1, .int x1), (2, .int x2), (3, .int x3)] → wp_X7_lowest_2 FM AM x1 x2 x3 Post → W p l e ({ frames := 1, cells := 0, slots := 0, locals := 22 } : Room) s m args below meth c s.heap [] 0 0 Q (F0 m 2 ls []) := by
    intro x3 ls hl hw
    refine Lp_go (C := fun (t : Int32) => ∀ (ls : Array Slot), lv_has ls 4 [(0, .ref oM), (1, .int x1), (2, .int x2), (3, .int t)] → W p l e ({ frames := 1, cells := 0, slots := 0, locals := 22 } : Room) s m args below meth c s.heap [] 0 0 Q (F0 m 2 ls [])) ?_ hw ls hl
    intro k_2 hk_2 t
    obtain ⟨x3, ht⟩ : ∃ z, z = t := ⟨_, rfl⟩
    subst ht
    intro hw ls hl
    have hl : lv_has ls 4 [(0, .ref oM), (1, .int x1), (2, .int x2), (3, .int x3)] := hl
    have hw : st_X7_lowest_2 FM AM x1 x2 Post k_2 x3 := hw
    refine lv_iload_n hx hb dX7_lowest_2 rfl (lv_at hl 3 rfl) ?_
    refine lv_aload_n hx hb dX7_lowest_3 rfl (lv_at hl 0 rfl) ?_
    refine gz (q0 := 0) (v := .int (FM 3)) fx hK hP fl_X7_53 rfl rfl dX7_lowest_4 ?_
    refine lv_icmp_ge (tgt := 37) hx hb dX7_lowest_7 (by decide) (fun c_1 => ?_) (fun c_1 => ?_)
    · have hw := hw.1 c_1
      refine lv_iconst (v := (-1 : Int32)) hx hb dX7_lowest_37 (by decide) ?_
      exact hret _ _ _ dX7_lowest_38 rfl hw
    · have hw := hw.2 c_1
      refine lv_aload_n hx hb dX7_lowest_10 rfl (lv_at hl 0 rfl) ?_
      refine lv_iload_n hx hb dX7_lowest_11 rfl (lv_at hl 1 rfl) ?_
      refine lv_iload_n hx hb dX7_lowest_12 rfl (lv_at hl 3 rfl) ?_
      refine caRoV (rest := []) (As := [.int x1, .int x3]) fx hK lk_X7_116 (c_X7_isWired l dC dI cA oM gM FM AM x1 x3 _ hw) (hP.sub [0, 1, 2, 3, 4, 5, 6, 7, 8, 9, 10, 11, 12, 13] rfl) 0 rfl rfl ⟨(Nat.le_of_ble_eq_true rfl), (Nat.le_of_ble_eq_true rfl)⟩ rfl hl.1 rfl (Nat.le_of_ble_eq_true rfl) dX7_lowest_13 ?_
      intro r_2 hw
      refine lv_if_eq (tgt := 31) hx hb dX7_lowest_16 (by decide) (fun c_3 => ?_) (fun c_3 => ?_)
      · have hw := hw.1 c_3
        refine lv_iinc (v := (x3 + 1)) (lv' := [(3, .int (x3 + 1)), (0, .ref oM), (1, .int x1), (2, .int x2)]) hx hb dX7_lowest_31 hl (k := 3) rfl rfl (by decide) rfl (fun ls hl => ?_)
        refine lv_goto (tgt := 2) hx hb dX7_lowest_34 (by decide) ?_
        exact hk_2 ((x3 + 1)) hw _ (lv_sub hl [1, 2, 3, 0] rfl)
      · have hw := hw.2 c_3
        refine lv_aload_n hx hb dX7_lowest_19 rfl (lv_at hl 0 rfl) ?_
        refine gz (q0 := 0) (v := .ref (gM 24)) fx hK hP fl_X7_43 rfl rfl dX7_lowest_20 ?_
        refine lv_iload_n hx hb dX7_lowest_23 rfl (lv_at hl 3 rfl) ?_
        obtain ⟨hz, hw⟩ := hw
        refine va_iald hx hb hK hP 12 0 rfl rfl hz dX7_lowest_24 ?_
        refine lv_iload_n hx hb dX7_lowest_25 rfl (lv_at hl 2 rfl) ?_
        refine lv_icmp_ne (tgt := 31) hx hb dX7_lowest_26 (by decide) (fun c_4 => ?_) (fun c_4 => ?_)
        · have hw := hw.1 c_4
          refine lv_iinc (v := (x3 + 1)) (lv' := [(3, .int (x3 + 1)), (0, .ref oM), (1, .int x1), (2, .int x2)]) hx hb dX7_lowest_31 hl (k := 3) rfl rfl (by decide) rfl (fun ls hl => ?_)
          refine lv_goto (tgt := 2) hx hb dX7_lowest_34 (by decide) ?_
          exact hk_2 ((x3 + 1)) hw _ (lv_sub hl [1, 2, 3, 0] rfl)
        · have hw := hw.2 c_4
          refine lv_iload_n hx hb dX7_lowest_29 rfl (lv_at hl 3 rfl) ?_
          exact hret _ _ _ dX7_lowest_30 rfl hw
  refine lv_iconst (v := (0 : Int32)) hx hb dX7_lowest_0 (by decide) ?_
  refine lv_istore_n (lv' := [(3, .int (0 : Int32)), (0, .ref oM), (1, .int x1), (2, .int x2)]) hx hb dX7_lowest_1 rfl hl (by decide) rfl (fun ls hl => ?_)
  exact b_2 (0 : Int32) _ (lv_sub hl [1, 2, 3, 0] rfl) hw
set_option maxHeartbeats 4000000 in
set_option maxRecDepth 100000 in
theorem c_X7_pointers (l : Launch) (dC : Nat → ClassId) (dI : Nat → Nat → Nat) (cA : ClassId) (oM : Nat) (gM : Nat → Nat) (FM : Nat → Int32) (AM : Nat → Nat → Int32) (x1 : Int32) (Post : Int32 → (Nat → Int32) → (Nat → Nat → Int32) → Prop) (hw : wp_X7_pointers FM AM x1 Post) : MuI (dC, dI) cA l yX7_pointers cX7_pointers 4 .int 2 45 [.ref oM, .int x1] (mW oM gM cA FM AM) (fun r (u : (Nat → Int32) × (Nat → Nat → Int32)) => Post r (u.1) (u.2)) (fun u => (mW oM gM cA (u.1) (u.2))) := by
  refine enMu (by decide) (Nat.le_of_ble_eq_true rfl) ?_
  intro p e s m args below meth c Q ls A fx hK hP hD hS hA hret hl
  obtain ⟨hx, hb, hml, hown, hts⟩ := id fx
  have hl : lv_has ls 4 [(0, .ref oM), (1, .int x1)] := hl
  have hP : va_P (dC, dI) vwCl (mW oM gM cA FM AM) s.heap := hP
  have b_89 : ∀ (FM : Nat → Int32) (AM : Nat → Nat → Int32) (x3 : Int32) (H : Heap) (locs : List Loc) (ls : Array Slot), va_P (dC, dI) vwCl (mW oM gM cA FM AM) H → va_D A (mW oM gM cA FM AM) → va_S A s.heap H locs → lv_has ls 4 [(3, .int x3)] → wp_X7_pointers_89 FM AM x3 Post → W p l e ({ frames := 2, cells := 0, slots := 0, locals := 45 } : Room) s m args below meth c H locs 0 0 Q (F0 m 89 ls []) := by
    intro FM AM x3 H locs ls hP hD hS hl hw
    refine lv_iload_n hx hb dX7_pointers_89 rfl (lv_at hl 0 rfl) ?_
    refine lv_if_ge (tgt := 97) hx hb dX7_pointers_90 (by decide) (fun c_10 => ?_) (fun c_10 => ?_)
    · have hw := hw.1 c_10
      refine lv_iload_n hx hb dX7_pointers_97 rfl (lv_at hl 0 rfl) ?_
      refine lv_iconst (v := (1 : Int32)) hx hb dX7_pointers_98 (by decide) ?_
      refine lv_iadd hx hb dX7_pointers_99 ?_
      exact hret _ (FM, AM) _ _ _ _ dX7_pointers_100 rfl hw hP hD hS
    · have hw := hw.2 c_10
      refine lv_iconst (v := (-1 : Int32)) hx hb dX7_pointers_93 (by decide) ?_
      refine lv_goto (tgt := 100) hx hb dX7_pointers_94 (by decide) ?_
      exact hret _ (FM, AM) _ _ _ _ dX7_pointers_100 rfl hw hP hD hS
  refine lv_aload_n hx hb dX7_pointers_0 rfl (lv_at hl 0 rfl) ?_
  refine gz (q0 := 0) (v := .ref (gM 24)) fx hK hP fl_X7_43 rfl rfl dX7_pointers_1 ?_
  refine lv_iload_n hx hb dX7_pointers_4 rfl (lv_at hl 1 rfl) ?_
  obtain ⟨hz, hw⟩ := hw
  refine va_iald hx hb hK hP 12 0 rfl rfl hz dX7_pointers_5 ?_
  refine lv_iconst (v := (1 : Int32)) hx hb dX7_pointers_6 (by decide) ?_
  refine lv_isub hx hb dX7_pointers_7 ?_
  refine lv_istore_n (lv' := [(2, .int (((AM 24) (ix x1)) - (1 : Int32))), (0, .ref oM), (1, .int x1)]) hx hb dX7_pointers_8 rfl hl (by decide) rfl (fun ls hl => ?_)
  refine lv_iload_n hx hb dX7_pointers_9 rfl (lv_at hl 0 rfl) ?_
  refine lv_if_lt (tgt := 59) hx hb dX7_pointers_10 (by decide) (fun c_11 => ?_) (fun c_11 => ?_)
  · have hw := hw.1 c_11
    refine lv_aload_n hx hb dX7_pointers_59 rfl (lv_at hl 1 rfl) ?_
    refine lv_iconst (v := (1 : Int32)) hx hb dX7_pointers_60 (by decide) ?_
    refine pz (q0 := 0) (v := .int (1 : Int32)) fx hK hP hD hS fp_X7_120 rfl rfl rfl (Nat.le_of_ble_eq_true rfl) dX7_pointers_61 (fun H locs hP hD hS => ?_)
    have hP : va_P (dC, dI) vwCl (mW oM gM cA (uF FM 26 (1 : Int32)) AM) H := hP
    have hD : va_D A (mW oM gM cA (uF FM 26 (1 : Int32)) AM) := hD
    refine lv_aload_n hx hb dX7_pointers_64 rfl (lv_at hl 1 rfl) ?_
    refine lv_iload_n hx hb dX7_pointers_65 rfl (lv_at hl 2 rfl) ?_
    refine lv_iload_n hx hb dX7_pointers_66 rfl (lv_at hl 2 rfl) ?_
    refine lv_iconst (v := (1 : Int32)) hx hb dX7_pointers_67 (by decide) ?_
    refine lv_iadd hx hb dX7_pointers_68 ?_
    refine caRoV (rest := []) (As := [.int x1, .int (x1 + (1 : Int32))]) fx hK lk_X7_123 (c_X7_lowest l dC dI cA oM gM (uF FM 26 (1 : Int32)) AM x1 (x1 + (1 : Int32)) _ hw) (hP.sub [0, 1, 2, 3, 4, 5, 6, 7, 8, 9, 10, 11, 12, 13] rfl) 0 rfl rfl ⟨(Nat.le_of_ble_eq_true rfl), (Nat.le_of_ble_eq_true rfl)⟩ rfl hl.1 rfl (Nat.le_of_ble_eq_true rfl) dX7_pointers_69 ?_
    intro r_12 hw
    refine lv_istore_n (lv' := [(3, .int r_12), (2, .int (((AM 24) (ix x1)) - (1 : Int32))), (0, .ref oM), (1, .int x1)]) hx hb dX7_pointers_72 rfl hl (by decide) rfl (fun ls hl => ?_)
    refine lv_iload_n hx hb dX7_pointers_73 rfl (lv_at hl 0 rfl) ?_
    refine lv_if_ge (tgt := 89) hx hb dX7_pointers_74 (by decide) (fun c_13 => ?_) (fun c_13 => ?_)
    · have hw := hw.1 c_13
      exact b_89 (uF FM 26 (1 : Int32)) AM r_12 _ _ _ hP hD hS (lv_sub hl [0] rfl) hw
    · have hw := hw.2 c_13
      refine lv_aload_n hx hb dX7_pointers_77 rfl (lv_at hl 2 rfl) ?_
      refine lv_iconst (v := (2 : Int32)) hx hb dX7_pointers_78 (by decide) ?_
      refine pz (q0 := 0) (v := .int (2 : Int32)) fx hK hP hD hS fp_X7_120 rfl rfl rfl (Nat.le_of_ble_eq_true rfl) dX7_pointers_79 (fun H locs hP hD hS => ?_)
      have hP : va_P (dC, dI) vwCl (mW oM gM cA (uF FM 26 (2 : Int32)) AM) H := hP
      have hD : va_D A (mW oM gM cA (uF FM 26 (2 : Int32)) AM) := hD
      refine lv_aload_n hx hb dX7_pointers_82 rfl (lv_at hl 2 rfl) ?_
      refine lv_iload_n hx hb dX7_pointers_83 rfl (lv_at hl 3 rfl) ?_
      refine lv_iconst (v := (0 : Int32)) hx hb dX7_pointers_84 (by decide) ?_
      refine caRoV (rest := []) (As := [.int x1, .int (0 : Int32)]) fx hK lk_X7_123 (c_X7_lowest l dC dI cA oM gM (uF FM 26 (2 : Int32)) AM x1 (0 : Int32) _ hw) (hP.sub [0, 1, 2, 3, 4, 5, 6, 7, 8, 9, 10, 11, 12, 13] rfl) 0 rfl rfl ⟨(Nat.le_of_ble_eq_true rfl), (Nat.le_of_ble_eq_true rfl)⟩ rfl hl.1 rfl (Nat.le_of_ble_eq_true rfl) dX7_pointers_85 ?_
      intro r_14 hw
      refine lv_istore_n (lv' := [(3, .int r_14), (2, .int (((AM 24) (ix x1)) - (1 : Int32))), (0, .ref oM), (1, .int x1)]) hx hb dX7_pointers_88 rfl hl (by decide) rfl (fun ls hl => ?_)
      exact b_89 (uF FM 26 (2 : Int32)) AM r_14 _ _ _ hP hD hS (lv_sub hl [0] rfl) hw
  · have hw := hw.2 c_11
    refine lv_aload_n hx hb dX7_pointers_13 rfl (lv_at hl 1 rfl) ?_
    refine lv_iconst (v := (3 : Int32)) hx hb dX7_pointers_14 (by decide) ?_
    refine pz (q0 := 0) (v := .int (3 : Int32)) fx hK hP hD hS fp_X7_120 rfl rfl rfl (Nat.le_of_ble_eq_true rfl) dX7_pointers_15 (fun H locs hP hD hS => ?_)
    have hP : va_P (dC, dI) vwCl (mW oM gM cA (uF FM 26 (3 : Int32)) AM) H := hP
    have hD : va_D A (mW oM gM cA (uF FM 26 (3 : Int32)) AM) := hD
    refine lv_iload_n hx hb dX7_pointers_18 rfl (lv_at hl 0 rfl) ?_
    refine lv_iload_n hx hb dX7_pointers_19 rfl (lv_at hl 2 rfl) ?_
    refine lv_icmp_eq (tgt := 53) hx hb dX7_pointers_20 (by decide) (fun c_15 => ?_) (fun c_15 => ?_)
    · have hw := hw.1 c_15
      refine lv_iconst (v := (0 : Int32)) hx hb dX7_pointers_53 (by decide) ?_
      refine lv_goto (tgt := 58) hx hb dX7_pointers_54 (by decide) ?_
      exact hret _ ((uF FM 26 (3 : Int32)), AM) _ _ _ _ dX7_pointers_58 rfl hw hP hD hS
    · have hw := hw.2 c_15
      refine lv_aload_n hx hb dX7_pointers_23 rfl (lv_at hl 1 rfl) ?_
      refine lv_iload_n hx hb dX7_pointers_24 rfl (lv_at hl 2 rfl) ?_
      refine lv_iload_n hx hb dX7_pointers_25 rfl (lv_at hl 0 rfl) ?_
      refine caRoV (rest := []) (As := [.int x1, .int (((AM 24) (ix x1)) - (1 : Int32))]) fx hK lk_X7_116 (c_X7_isWired l dC dI cA oM gM (uF FM 26 (3 : Int32)) AM x1 (((AM 24) (ix x1)) - (1 : Int32)) _ hw) (hP.sub [0, 1, 2, 3, 4, 5, 6, 7, 8, 9, 10, 11, 12, 13] rfl) 0 rfl rfl ⟨(Nat.le_of_ble_eq_true rfl), (Nat.le_of_ble_eq_true rfl)⟩ rfl hl.1 rfl (Nat.le_of_ble_eq_true rfl) dX7_pointers_26 ?_
      intro r_16 hw
      refine lv_if_eq (tgt := 53) hx hb dX7_pointers_29 (by decide) (fun c_17 => ?_) (fun c_17 => ?_)
      · have hw := hw.1 c_17
        refine lv_iconst (v := (0 : Int32)) hx hb dX7_pointers_53 (by decide) ?_
        refine lv_goto (tgt := 58) hx hb dX7_pointers_54 (by decide) ?_
        exact hret _ ((uF FM 26 (3 : Int32)), AM) _ _ _ _ dX7_pointers_58 rfl hw hP hD hS
      · have hw := hw.2 c_17
        refine lv_aload_n hx hb dX7_pointers_32 rfl (lv_at hl 1 rfl) ?_
        refine gz (q0 := 0) (v := .ref (gM 24)) fx hK hP fl_X7_43 rfl rfl dX7_pointers_33 ?_
        refine lv_iload_n hx hb dX7_pointers_36 rfl (lv_at hl 0 rfl) ?_
        obtain ⟨hz, hw⟩ := hw
        refine va_iald hx hb hK hP 12 0 rfl rfl hz dX7_pointers_37 ?_
        refine lv_if_eq (tgt := 57) hx hb dX7_pointers_38 (by decide) (fun c_18 => ?_) (fun c_18 => ?_)
        · have hw := hw.1 c_18
          refine lv_iconst (v := (-1 : Int32)) hx hb dX7_pointers_57 (by decide) ?_
          exact hret _ ((uF FM 26 (3 : Int32)), AM) _ _ _ _ dX7_pointers_58 rfl hw hP hD hS
        · have hw := hw.2 c_18
          refine lv_aload_n hx hb dX7_pointers_41 rfl (lv_at hl 1 rfl) ?_
          refine gz (q0 := 0) (v := .ref (gM 24)) fx hK hP fl_X7_43 rfl rfl dX7_pointers_42 ?_
          refine lv_iload_n hx hb dX7_pointers_45 rfl (lv_at hl 0 rfl) ?_
          obtain ⟨hz, hw⟩ := hw
          refine va_iald hx hb hK hP 12 0 rfl rfl hz dX7_pointers_46 ?_
          refine lv_iload_n hx hb dX7_pointers_47 rfl (lv_at hl 2 rfl) ?_
          refine lv_iconst (v := (1 : Int32)) hx hb dX7_pointers_48 (by decide) ?_
          refine lv_iadd hx hb dX7_pointers_49 ?_
          refine lv_icmp_eq (tgt := 57) hx hb dX7_pointers_50 (by decide) (fun c_19 => ?_) (fun c_19 => ?_)
          · have hw := hw.1 c_19
            refine lv_iconst (v := (-1 : Int32)) hx hb dX7_pointers_57 (by decide) ?_
            exact hret _ ((uF FM 26 (3 : Int32)), AM) _ _ _ _ dX7_pointers_58 rfl hw hP hD hS
          · have hw := hw.2 c_19
            refine lv_iconst (v := (0 : Int32)) hx hb dX7_pointers_53 (by decide) ?_
            refine lv_goto (tgt := 58) hx hb dX7_pointers_54 (by decide) ?_
            exact hret _ ((uF FM 26 (3 : Int32)), AM) _ _ _ _ dX7_pointers_58 rfl hw hP hD hS
set_option maxHeartbeats 4000000 in
set_option maxRecDepth 100000 in
theorem c_X7_distances (l : Launch) (dC : Nat → ClassId) (dI : Nat → Nat → Nat) (cA : ClassId) (oM : Nat) (gM : Nat → Nat) (FM : Nat → Int32) (AM : Nat → Nat → Int32) (x1 : Int32) (Post : Int32 → (Nat → Int32) → (Nat → Nat → Int32) → Prop) (hw : wp_X7_distances FM AM x1 Post) : MuI (dC, dI) cA l yX7_distances cX7_distances 4 .int 1 22 [.ref oM, .int x1] (mW oM gM cA FM AM) (fun r (u : (Nat → Int32) × (Nat → Nat → Int32)) => Post r (u.1) (u.2)) (fun u => (mW oM gM cA (u.1) (u.2))) := by
  refine enMu (by decide) (Nat.le_of_ble_eq_true rfl) ?_
  intro p e s m args below meth c Q ls A fx hK hP hD hS hA hret hl
  obtain ⟨hx, hb, hml, hown, hts⟩ := id fx
  have hl : lv_has ls 4 [(0, .ref oM), (1, .int x1)] := hl
  have hP : va_P (dC, dI) vwCl (mW oM gM cA FM AM) s.heap := hP
  have b_70 : ∀ (FM : Nat → Int32) (AM : Nat → Nat → Int32) (x2 : Int32) (H : Heap) (locs : List Loc) (ls : Array Slot), va_P (dC, dI) vwCl (mW oM gM cA FM AM) H → va_D A (mW oM gM cA FM AM) → va_S A s.heap H locs → lv_has ls 4 [(0, .ref oM), (1, .int x1), (2, .int x2)] → wp_X7_distances_70 FM AM x1 x2 Post → W p l e ({ frames := 1, cells := 0, slots := 0, locals := 22 } : Room) s m args below meth c H locs 0 0 Q (F0 m 70 ls []) := by
    intro FM AM x2 H locs ls hP hD hS hl hw
    refine lv_iload_n hx hb dX7_distances_70 rfl (lv_at hl 2 rfl) ?_
    refine lv_aload_n hx hb dX7_distances_71 rfl (lv_at hl 0 rfl) ?_
    refine gz (q0 := 0) (v := .ref (gM 24)) fx hK hP fl_X7_43 rfl rfl dX7_distances_72 ?_
    refine lv_iload_n hx hb dX7_distances_75 rfl (lv_at hl 1 rfl) ?_
    obtain ⟨hz, hw⟩ := hw
    refine va_iald hx hb hK hP 12 0 rfl rfl hz dX7_distances_76 ?_
    refine lv_icmp_ne (tgt := 84) hx hb dX7_distances_77 (by decide) (fun c_2 => ?_) (fun c_2 => ?_)
    · have hw := hw.1 c_2
      refine lv_iload_n hx hb dX7_distances_84 rfl (lv_at hl 2 rfl) ?_
      exact hret _ (FM, AM) _ _ _ _ dX7_distances_85 rfl hw hP hD hS
    · have hw := hw.2 c_2
      refine lv_iconst (v := (-1 : Int32)) hx hb dX7_distances_80 (by decide) ?_
      refine lv_goto (tgt := 85) hx hb dX7_distances_81 (by decide) ?_
      exact hret _ (FM, AM) _ _ _ _ dX7_distances_85 rfl hw hP hD hS
  have b_22 : ∀ (FM : Nat → Int32) (AM : Nat → Nat → Int32) (x2 : Int32) (x3 : Int32) (H : Heap) (locs : List Loc) (ls : Array Slot), va_P (dC, dI) vwCl (mW oM gM cA FM AM) H → va_D A (mW oM gM cA FM AM) → va_S A s.heap H locs → lv_has ls 4 [(0, .ref oM), (1, .int x1), (2, .int x2), (3, .int x3)] → wp_X7_distances_22 FM AM x1 x2 x3 Post → W p l e ({ frames := 1, cells := 0, slots := 0, locals := 22 } : Room) s m args below meth c H locs 0 0 Q (F0 m 22 ls []) := by
    intro FM AM x2 x3 H locs ls hP hD hS hl hw
    refine Lp_go (C := fun (t : Int32 × Int32) => ∀ (H : Heap) (locs : List Loc) (ls : Array Slot), va_P (dC, dI) vwCl (mW oM gM cA FM AM) H → va_D A (mW oM gM cA FM AM) → va_S A s.heap H locs → lv_has ls 4 [(0, .ref oM), (1, .int x1), (2, .int (t.1)), (3, .int (t.2))] → W p l e ({ frames := 1, cells := 0, slots := 0, locals := 22 } : Room) s m args below meth c H locs 0 0 Q (F0 m 22 ls [])) ?_ hw H locs ls hP hD hS hl
    intro k_22 hk_22 t
    obtain ⟨x2, x3⟩ := t
    intro hw H locs ls hP hD hS hl
    have hP : va_P (dC, dI) vwCl (mW oM gM cA FM AM) H := hP
    have hD : va_D A (mW oM gM cA FM AM) := hD
    have hl : lv_has ls 4 [(0, .ref oM), (1, .int x1), (2, .int x2), (3, .int x3)] := hl
    have hw : st_X7_distances_22 FM AM x1 Post k_22 x2 x3 := hw
    refine lv_iload_n hx hb dX7_distances_22 rfl (lv_at hl 3 rfl) ?_
    refine lv_aload_n hx hb dX7_distances_23 rfl (lv_at hl 0 rfl) ?_
    refine gz (q0 := 0) (v := .int (FM 3)) fx hK hP fl_X7_53 rfl rfl dX7_distances_24 ?_
    refine lv_icmp_ge (tgt := 70) hx hb dX7_distances_27 (by decide) (fun c_3 => ?_) (fun c_3 => ?_)
    · have hw := hw.1 c_3
      exact b_70 FM AM x2 _ _ _ hP hD hS (lv_sub hl [0, 1, 2] rfl) hw
    · have hw := hw.2 c_3
      refine lv_iload_n hx hb dX7_distances_30 rfl (lv_at hl 1 rfl) ?_
      refine lv_if_le (tgt := 70) hx hb dX7_distances_31 (by decide) (fun c_4 => ?_) (fun c_4 => ?_)
      · have hw := hw.1 c_4
        exact b_70 FM AM x2 _ _ _ hP hD hS (lv_sub hl [0, 1, 2] rfl) hw
      · have hw := hw.2 c_4
        refine lv_aload_n hx hb dX7_distances_34 rfl (lv_at hl 0 rfl) ?_
        refine lv_iload_n hx hb dX7_distances_35 rfl (lv_at hl 1 rfl) ?_
        refine lv_iload_n hx hb dX7_distances_36 rfl (lv_at hl 3 rfl) ?_
        refine caRoV (rest := []) (As := [.int x1, .int x3]) fx hK lk_X7_116 (c_X7_isWired l dC dI cA oM gM FM AM x1 x3 _ hw) (hP.sub [0, 1, 2, 3, 4, 5, 6, 7, 8, 9, 10, 11, 12, 13] rfl) 0 rfl rfl ⟨(Nat.le_of_ble_eq_true rfl), (Nat.le_of_ble_eq_true rfl)⟩ rfl hl.1 rfl (Nat.le_of_ble_eq_true rfl) dX7_distances_37 ?_
        intro r_5 hw
        refine lv_if_eq (tgt := 64) hx hb dX7_distances_40 (by decide) (fun c_6 => ?_) (fun c_6 => ?_)
        · have hw := hw.1 c_6
          refine lv_iinc (v := (x3 + 1)) (lv' := [(3, .int (x3 + 1)), (0, .ref oM), (1, .int x1), (2, .int x2)]) hx hb dX7_distances_64 hl (k := 3) rfl rfl (by decide) rfl (fun ls hl => ?_)
          refine lv_goto (tgt := 22) hx hb dX7_distances_67 (by decide) ?_
          exact hk_22 (x2, (x3 + 1)) hw _ _ _ hP hD hS (lv_sub hl [1, 2, 3, 0] rfl)
        · have hw := hw.2 c_6
          refine lv_aload_n hx hb dX7_distances_43 rfl (lv_at hl 0 rfl) ?_
          refine gz (q0 := 0) (v := .ref (gM 24)) fx hK hP fl_X7_43 rfl rfl dX7_distances_44 ?_
          refine lv_iload_n hx hb dX7_distances_47 rfl (lv_at hl 3 rfl) ?_
          obtain ⟨hz, hw⟩ := hw
          refine va_iald hx hb hK hP 12 0 rfl rfl hz dX7_distances_48 ?_
          refine lv_iconst (v := (1 : Int32)) hx hb dX7_distances_49 (by decide) ?_
          refine lv_iadd hx hb dX7_distances_50 ?_
          refine lv_iload_n hx hb dX7_distances_51 rfl (lv_at hl 2 rfl) ?_
          refine lv_icmp_ge (tgt := 64) hx hb dX7_distances_52 (by decide) (fun c_7 => ?_) (fun c_7 => ?_)
          · have hw := hw.1 c_7
            refine lv_iinc (v := (x3 + 1)) (lv' := [(3, .int (x3 + 1)), (0, .ref oM), (1, .int x1), (2, .int x2)]) hx hb dX7_distances_64 hl (k := 3) rfl rfl (by decide) rfl (fun ls hl => ?_)
            refine lv_goto (tgt := 22) hx hb dX7_distances_67 (by decide) ?_
            exact hk_22 (x2, (x3 + 1)) hw _ _ _ hP hD hS (lv_sub hl [1, 2, 3, 0] rfl)
          · have hw := hw.2 c_7
            refine lv_aload_n hx hb dX7_distances_55 rfl (lv_at hl 0 rfl) ?_
            refine gz (q0 := 0) (v := .ref (gM 24)) fx hK hP fl_X7_43 rfl rfl dX7_distances_56 ?_
            refine lv_iload_n hx hb dX7_distances_59 rfl (lv_at hl 3 rfl) ?_
            obtain ⟨hz, hw⟩ := hw
            refine va_iald hx hb hK hP 12 0 rfl rfl hz dX7_distances_60 ?_
            refine lv_iconst (v := (1 : Int32)) hx hb dX7_distances_61 (by decide) ?_
            refine lv_iadd hx hb dX7_distances_62 ?_
            refine lv_istore_n (lv' := [(2, .int (((AM 24) (ix x3)) + (1 : Int32))), (0, .ref oM), (1, .int x1), (3, .int x3)]) hx hb dX7_distances_63 rfl hl (by decide) rfl (fun ls hl => ?_)
            refine lv_iinc (v := (x3 + 1)) (lv' := [(3, .int (x3 + 1)), (2, .int (((AM 24) (ix x3)) + (1 : Int32))), (0, .ref oM), (1, .int x1)]) hx hb dX7_distances_64 hl (k := 3) rfl rfl (by decide) rfl (fun ls hl => ?_)
            refine lv_goto (tgt := 22) hx hb dX7_distances_67 (by decide) ?_
            exact hk_22 ((((AM 24) (ix x3)) + (1 : Int32)), (x3 + 1)) hw _ _ _ hP hD hS (lv_sub hl [2, 3, 1, 0] rfl)
  have b_19 : ∀ (FM : Nat → Int32) (AM : Nat → Nat → Int32) (t0 : Int32) (H : Heap) (locs : List Loc) (ls : Array Slot), va_P (dC, dI) vwCl (mW oM gM cA FM AM) H → va_D A (mW oM gM cA FM AM) → va_S A s.heap H locs → lv_has ls 4 [(0, .ref oM), (1, .int x1)] → wp_X7_distances_19 FM AM x1 t0 Post → W p l e ({ frames := 1, cells := 0, slots := 0, locals := 22 } : Room) s m args below meth c H locs 0 0 Q (F0 m 19 ls [.int t0]) := by
    intro FM AM t0 H locs ls hP hD hS hl hw
    refine lv_istore_n (lv' := [(2, .int t0), (0, .ref oM), (1, .int x1)]) hx hb dX7_distances_19 rfl hl (by decide) rfl (fun ls hl => ?_)
    refine lv_iconst (v := (0 : Int32)) hx hb dX7_distances_20 (by decide) ?_
    refine lv_istore_n (lv' := [(3, .int (0 : Int32)), (2, .int t0), (0, .ref oM), (1, .int x1)]) hx hb dX7_distances_21 rfl hl (by decide) rfl (fun ls hl => ?_)
    exact b_22 FM AM t0 (0 : Int32) _ _ _ hP hD hS (lv_sub hl [2, 3, 1, 0] rfl) hw
  refine lv_aload_n hx hb dX7_distances_0 rfl (lv_at hl 0 rfl) ?_
  refine lv_iconst (v := (1 : Int32)) hx hb dX7_distances_1 (by decide) ?_
  refine pz (q0 := 0) (v := .int (1 : Int32)) fx hK hP hD hS fp_X7_120 rfl rfl rfl (Nat.le_of_ble_eq_true rfl) dX7_distances_2 (fun H locs hP hD hS => ?_)
  have hP : va_P (dC, dI) vwCl (mW oM gM cA (uF FM 26 (1 : Int32)) AM) H := hP
  have hD : va_D A (mW oM gM cA (uF FM 26 (1 : Int32)) AM) := hD
  refine lv_iload_n hx hb dX7_distances_5 rfl (lv_at hl 1 rfl) ?_
  refine lv_if_ne (tgt := 13) hx hb dX7_distances_6 (by decide) (fun c_8 => ?_) (fun c_8 => ?_)
  · have hw := hw.1 c_8
    refine lv_aload_n hx hb dX7_distances_13 rfl (lv_at hl 0 rfl) ?_
    refine gz (q0 := 0) (v := .int (FM 4)) fx hK hP fl_X7_56 rfl rfl dX7_distances_14 ?_
    refine lv_iconst (v := (1 : Int32)) hx hb dX7_distances_17 (by decide) ?_
    refine lv_isub hx hb dX7_distances_18 ?_
    exact b_19 (uF FM 26 (1 : Int32)) AM ((FM 4) - (1 : Int32)) _ _ _ hP hD hS (lv_sub hl [0, 1] rfl) hw
  · have hw := hw.2 c_8
    refine lv_iconst (v := (0 : Int32)) hx hb dX7_distances_9 (by decide) ?_
    refine lv_goto (tgt := 19) hx hb dX7_distances_10 (by decide) ?_
    exact b_19 (uF FM 26 (1 : Int32)) AM (0 : Int32) _ _ _ hP hD hS (lv_sub hl [0, 1] rfl) hw
set_option maxHeartbeats 4000000 in
set_option maxRecDepth 100000 in
theorem c_X7_colours (l : Launch) (dC : Nat → ClassId) (dI : Nat → Nat → Nat) (cA : ClassId) (oM : Nat) (gM : Nat → Nat) (FM : Nat → Int32) (AM : Nat → Nat → Int32) (x1 : Int32) (Post : Int32 → (Nat → Int32) → (Nat → Nat → Int32) → Prop) (hw : wp_X7_colours FM AM x1 Post) : MuI (dC, dI) cA l yX7_colours cX7_colours 3 .int 2 45 [.ref oM, .int x1] (mW oM gM cA FM AM) (fun r (u : (Nat → Int32) × (Nat → Nat → Int32)) => Post r (u.1) (u.2)) (fun u => (mW oM gM cA (u.1) (u.2))) := by
  refine enMu (by decide) (Nat.le_of_ble_eq_true rfl) ?_
  intro p e s m args below meth c Q ls A fx hK hP hD hS hA hret hl
  obtain ⟨hx, hb, hml, hown, hts⟩ := id fx
  have hl : lv_has ls 3 [(0, .ref oM), (1, .int x1)] := hl
  have hP : va_P (dC, dI) vwCl (mW oM gM cA FM AM) s.heap := hP
  have b_23 : ∀ (FM : Nat → Int32) (AM : Nat → Nat → Int32) (x2 : Int32) (H : Heap) (locs : List Loc) (ls : Array Slot), va_P (dC, dI) vwCl (mW oM gM cA FM AM) H → va_D A (mW oM gM cA FM AM) → va_S A s.heap H locs → lv_has ls 3 [(0, .ref oM), (1, .int x1), (2, .int x2)] → wp_X7_colours_23 FM AM x1 x2 Post → W p l e ({ frames := 2, cells := 0, slots := 0, locals := 45 } : Room) s m args below meth c H locs 0 0 Q (F0 m 23 ls []) := by
    intro FM AM x2 H locs ls hP hD hS hl hw
    refine Lp_go (C := fun (t : Int32) => ∀ (H : Heap) (locs : List Loc) (ls : Array Slot), va_P (dC, dI) vwCl (mW oM gM cA FM AM) H → va_D A (mW oM gM cA FM AM) → va_S A s.heap H locs → lv_has ls 3 [(0, .ref oM), (1, .int x1), (2, .int t)] → W p l e ({ frames := 2, cells := 0, slots := 0, locals := 45 } : Room) s m args below meth c H locs 0 0 Q (F0 m 23 ls [])) ?_ hw H locs ls hP hD hS hl
    intro k_23 hk_23 t
    obtain ⟨x2, ht⟩ : ∃ z, z = t := ⟨_, rfl⟩
    subst ht
    intro hw H locs ls hP hD hS hl
    have hP : va_P (dC, dI) vwCl (mW oM gM cA FM AM) H := hP
    have hD : va_D A (mW oM gM cA FM AM) := hD
    have hl : lv_has ls 3 [(0, .ref oM), (1, .int x1), (2, .int x2)] := hl
    have hw : st_X7_colours_23 FM AM x1 Post k_23 x2 := hw
    refine lv_aload_n hx hb dX7_colours_23 rfl (lv_at hl 0 rfl) ?_
    refine lv_iload_n hx hb dX7_colours_24 rfl (lv_at hl 1 rfl) ?_
    refine lv_iload_n hx hb dX7_colours_25 rfl (lv_at hl 2 rfl) ?_
    refine caRoV (rest := []) (As := [.int x1, .int x2]) fx hK lk_X7_123 (c_X7_lowest l dC dI cA oM gM FM AM x1 x2 _ hw) (hP.sub [0, 1, 2, 3, 4, 5, 6, 7, 8, 9, 10, 11, 12, 13] rfl) 0 rfl rfl ⟨(Nat.le_of_ble_eq_true rfl), (Nat.le_of_ble_eq_true rfl)⟩ rfl hl.1 rfl (Nat.le_of_ble_eq_true rfl) dX7_colours_26 ?_
    intro r_3 hw
    refine lv_if_lt (tgt := 38) hx hb dX7_colours_29 (by decide) (fun c_4 => ?_) (fun c_4 => ?_)
    · have hw := hw.1 c_4
      refine lv_iload_n hx hb dX7_colours_38 rfl (lv_at hl 2 rfl) ?_
      exact hret _ (FM, AM) _ _ _ _ dX7_colours_39 rfl hw hP hD hS
    · have hw := hw.2 c_4
      refine lv_iinc (v := (x2 + 1)) (lv' := [(2, .int (x2 + 1)), (0, .ref oM), (1, .int x1)]) hx hb dX7_colours_32 hl (k := 2) rfl rfl (by decide) rfl (fun ls hl => ?_)
      refine lv_goto (tgt := 23) hx hb dX7_colours_35 (by decide) ?_
      exact hk_23 ((x2 + 1)) hw _ _ _ hP hD hS (lv_sub hl [1, 2, 0] rfl)
  refine lv_aload_n hx hb dX7_colours_0 rfl (lv_at hl 0 rfl) ?_
  refine lv_iconst (v := (1 : Int32)) hx hb dX7_colours_1 (by decide) ?_
  refine pz (q0 := 0) (v := .int (1 : Int32)) fx hK hP hD hS fp_X7_120 rfl rfl rfl (Nat.le_of_ble_eq_true rfl) dX7_colours_2 (fun H locs hP hD hS => ?_)
  have hP : va_P (dC, dI) vwCl (mW oM gM cA (uF FM 26 (1 : Int32)) AM) H := hP
  have hD : va_D A (mW oM gM cA (uF FM 26 (1 : Int32)) AM) := hD
  refine lv_aload_n hx hb dX7_colours_5 rfl (lv_at hl 0 rfl) ?_
  refine lv_iload_n hx hb dX7_colours_6 rfl (lv_at hl 1 rfl) ?_
  refine lv_aload_n hx hb dX7_colours_7 rfl (lv_at hl 0 rfl) ?_
  refine gz (q0 := 0) (v := .ref (gM 24)) fx hK hP fl_X7_43 rfl rfl dX7_colours_8 ?_
  refine lv_iload_n hx hb dX7_colours_11 rfl (lv_at hl 1 rfl) ?_
  obtain ⟨hz, hw⟩ := hw
  refine va_iald hx hb hK hP 12 0 rfl rfl hz dX7_colours_12 ?_
  refine caRoV (rest := []) (As := [.int x1, .int ((AM 24) (ix x1))]) fx hK lk_X7_123 (c_X7_lowest l dC dI cA oM gM (uF FM 26 (1 : Int32)) AM x1 ((AM 24) (ix x1)) _ hw) (hP.sub [0, 1, 2, 3, 4, 5, 6, 7, 8, 9, 10, 11, 12, 13] rfl) 0 rfl rfl ⟨(Nat.le_of_ble_eq_true rfl), (Nat.le_of_ble_eq_true rfl)⟩ rfl hl.1 rfl (Nat.le_of_ble_eq_true rfl) dX7_colours_13 ?_
  intro r_5 hw
  refine lv_if_ge (tgt := 21) hx hb dX7_colours_16 (by decide) (fun c_6 => ?_) (fun c_6 => ?_)
  · have hw := hw.1 c_6
    refine lv_iconst (v := (0 : Int32)) hx hb dX7_colours_21 (by decide) ?_
    refine lv_istore_n (lv' := [(2, .int (0 : Int32)), (0, .ref oM), (1, .int x1)]) hx hb dX7_colours_22 rfl hl (by decide) rfl (fun ls hl => ?_)
    exact b_23 (uF FM 26 (1 : Int32)) AM (0 : Int32) _ _ _ hP hD hS (lv_sub hl [1, 2, 0] rfl) hw
  · have hw := hw.2 c_6
    refine lv_iconst (v := (-1 : Int32)) hx hb dX7_colours_19 (by decide) ?_
    exact hret _ ((uF FM 26 (1 : Int32)), AM) _ _ _ _ dX7_colours_20 rfl hw hP hD hS
set_option maxHeartbeats 4000000 in
set_option maxRecDepth 100000 in
theorem c_X7_becomesOf (l : Launch) (dC : Nat → ClassId) (dI : Nat → Nat → Nat) (cA : ClassId) (oM : Nat) (gM : Nat → Nat) (FM : Nat → Int32) (AM : Nat → Nat → Int32) (x1 : Int32) (Post : Int32 → (Nat → Int32) → (Nat → Nat → Int32) → Prop) (hw : wp_X7_becomesOf FM AM x1 Post) : MuI (dC, dI) cA l yX7_becomesOf cX7_becomesOf 2 .int 3 68 [.ref oM, .int x1] (mW oM gM cA FM AM) (fun r (u : (Nat → Int32) × (Nat → Nat → Int32)) => Post r (u.1) (u.2)) (fun u => (mW oM gM cA (u.1) (u.2))) := by
  refine enMu (by decide) (Nat.le_of_ble_eq_true rfl) ?_
  intro p e s m args below meth c Q ls A fx hK hP hD hS hA hret hl
  obtain ⟨hx, hb, hml, hown, hts⟩ := id fx
  have hl : lv_has ls 2 [(0, .ref oM), (1, .int x1)] := hl
  have hP : va_P (dC, dI) vwCl (mW oM gM cA FM AM) s.heap := hP
  refine lv_aload_n hx hb dX7_becomesOf_0 rfl (lv_at hl 0 rfl) ?_
  refine gz (q0 := 0) (v := .int (FM 2)) fx hK hP fl_X7_49 rfl rfl dX7_becomesOf_1 ?_
  refine lv_iconst (v := (1 : Int32)) hx hb dX7_becomesOf_4 (by decide) ?_
  refine lv_icmp_ne (tgt := 16) hx hb dX7_becomesOf_5 (by decide) (fun c_20 => ?_) (fun c_20 => ?_)
  · have hw := hw.1 c_20
    refine lv_aload_n hx hb dX7_becomesOf_16 rfl (lv_at hl 0 rfl) ?_
    refine gz (q0 := 0) (v := .int (FM 2)) fx hK hP fl_X7_49 rfl rfl dX7_becomesOf_17 ?_
    refine lv_iconst (v := (2 : Int32)) hx hb dX7_becomesOf_20 (by decide) ?_
    refine lv_icmp_ne (tgt := 32) hx hb dX7_becomesOf_21 (by decide) (fun c_21 => ?_) (fun c_21 => ?_)
    · have hw := hw.1 c_21
      refine lv_aload_n hx hb dX7_becomesOf_32 rfl (lv_at hl 0 rfl) ?_
      refine gz (q0 := 0) (v := .int (FM 2)) fx hK hP fl_X7_49 rfl rfl dX7_becomesOf_33 ?_
      refine lv_iconst (v := (3 : Int32)) hx hb dX7_becomesOf_36 (by decide) ?_
      refine lv_icmp_ne (tgt := 48) hx hb dX7_becomesOf_37 (by decide) (fun c_22 => ?_) (fun c_22 => ?_)
      · have hw := hw.1 c_22
        refine lv_aload_n hx hb dX7_becomesOf_48 rfl (lv_at hl 0 rfl) ?_
        refine lv_iload_n hx hb dX7_becomesOf_49 rfl (lv_at hl 1 rfl) ?_
        refine caMuV (rest := []) (As := [.int x1]) (w1 := ([] : va_W)) (w2 := ([] : va_W)) fx hK lk_X7_135 (c_X7_colours l dC dI cA oM gM FM AM x1 _ hw) hP hD hS hA 0 rfl rfl ⟨(Nat.le_of_ble_eq_true rfl), (Nat.le_of_ble_eq_true rfl)⟩ rfl hl.1 rfl (Nat.le_of_ble_eq_true rfl) dX7_becomesOf_50 ?_
        intro r_26 u_25 H locs hw hP hD hS
        obtain ⟨FM_23, AM_24⟩ := u_25
        have hP : va_P (dC, dI) vwCl (mW oM gM cA FM_23 AM_24) H := hP
        have hD : va_D A (mW oM gM cA FM_23 AM_24) := hD
        try dsimp only at hw
        exact hret _ (FM_23, AM_24) _ _ _ _ dX7_becomesOf_53 rfl hw hP hD hS
      · have hw := hw.2 c_22
        refine lv_aload_n hx hb dX7_becomesOf_40 rfl (lv_at hl 0 rfl) ?_
        refine lv_iload_n hx hb dX7_becomesOf_41 rfl (lv_at hl 1 rfl) ?_
        refine caMuV (rest := []) (As := [.int x1]) (w1 := ([] : va_W)) (w2 := ([] : va_W)) fx hK lk_X7_132 (c_X7_distances l dC dI cA oM gM FM AM x1 _ hw) hP hD hS hA 0 rfl rfl ⟨(Nat.le_of_ble_eq_true rfl), (Nat.le_of_ble_eq_true rfl)⟩ rfl hl.1 rfl (Nat.le_of_ble_eq_true rfl) dX7_becomesOf_42 ?_
        intro r_30 u_29 H locs hw hP hD hS
        obtain ⟨FM_27, AM_28⟩ := u_29
        have hP : va_P (dC, dI) vwCl (mW oM gM cA FM_27 AM_28) H := hP
        have hD : va_D A (mW oM gM cA FM_27 AM_28) := hD
        try dsimp only at hw
        refine lv_goto (tgt := 53) hx hb dX7_becomesOf_45 (by decide) ?_
        exact hret _ (FM_27, AM_28) _ _ _ _ dX7_becomesOf_53 rfl hw hP hD hS
    · have hw := hw.2 c_21
      refine lv_aload_n hx hb dX7_becomesOf_24 rfl (lv_at hl 0 rfl) ?_
      refine lv_iload_n hx hb dX7_becomesOf_25 rfl (lv_at hl 1 rfl) ?_
      refine caMuV (rest := []) (As := [.int x1]) (w1 := ([] : va_W)) (w2 := ([] : va_W)) fx hK lk_X7_129 (c_X7_pointers l dC dI cA oM gM FM AM x1 _ hw) hP hD hS hA 0 rfl rfl ⟨(Nat.le_of_ble_eq_true rfl), (Nat.le_of_ble_eq_true rfl)⟩ rfl hl.1 rfl (Nat.le_of_ble_eq_true rfl) dX7_becomesOf_26 ?_
      intro r_34 u_33 H locs hw hP hD hS
      obtain ⟨FM_31, AM_32⟩ := u_33
      have hP : va_P (dC, dI) vwCl (mW oM gM cA FM_31 AM_32) H := hP
      have hD : va_D A (mW oM gM cA FM_31 AM_32) := hD
      try dsimp only at hw
      refine lv_goto (tgt := 53) hx hb dX7_becomesOf_29 (by decide) ?_
      exact hret _ (FM_31, AM_32) _ _ _ _ dX7_becomesOf_53 rfl hw hP hD hS
  · have hw := hw.2 c_20
    refine lv_aload_n hx hb dX7_becomesOf_8 rfl (lv_at hl 0 rfl) ?_
    refine lv_iload_n hx hb dX7_becomesOf_9 rfl (lv_at hl 1 rfl) ?_
    refine caMuV (rest := []) (As := [.int x1]) (w1 := ([] : va_W)) (w2 := ([] : va_W)) fx hK lk_X7_126 (c_X7_counters l dC dI cA oM gM FM AM x1 _ hw) hP hD hS hA 0 rfl rfl ⟨(Nat.le_of_ble_eq_true rfl), (Nat.le_of_ble_eq_true rfl)⟩ rfl hl.1 rfl (Nat.le_of_ble_eq_true rfl) dX7_becomesOf_10 ?_
    intro r_38 u_37 H locs hw hP hD hS
    obtain ⟨FM_35, AM_36⟩ := u_37
    have hP : va_P (dC, dI) vwCl (mW oM gM cA FM_35 AM_36) H := hP
    have hD : va_D A (mW oM gM cA FM_35 AM_36) := hD
    try dsimp only at hw
    refine lv_goto (tgt := 53) hx hb dX7_becomesOf_13 (by decide) ?_
    exact hret _ (FM_35, AM_36) _ _ _ _ dX7_becomesOf_53 rfl hw hP hD hS
set_option maxHeartbeats 4000000 in
set_option maxRecDepth 100000 in
theorem c_X7_may (l : Launch) (dC : Nat → ClassId) (dI : Nat → Nat → Nat) (cA : ClassId) (oM : Nat) (gM : Nat → Nat) (FM : Nat → Int32) (AM : Nat → Nat → Int32) (x1 : Int32) (Post : Int32 → (Nat → Int32) → (Nat → Nat → Int32) → Prop) (hw : wp_X7_may FM AM x1 Post) : MuI (dC, dI) cA l yX7_may cX7_may 2 .int 4 89 [.ref oM, .int x1] (mW oM gM cA FM AM) (fun r (u : (Nat → Int32) × (Nat → Nat → Int32)) => Post r (u.1) (u.2)) (fun u => (mW oM gM cA (u.1) (u.2))) := by
  refine enMu (by decide) (Nat.le_of_ble_eq_true rfl) ?_
  intro p e s m args below meth c Q ls A fx hK hP hD hS hA hret hl
  obtain ⟨hx, hb, hml, hown, hts⟩ := id fx
  have hl : lv_has ls 2 [(0, .ref oM), (1, .int x1)] := hl
  have hP : va_P (dC, dI) vwCl (mW oM gM cA FM AM) s.heap := hP
  refine lv_aload_n hx hb dX7_may_0 rfl (lv_at hl 0 rfl) ?_
  refine lv_iload_n hx hb dX7_may_1 rfl (lv_at hl 1 rfl) ?_
  refine caRoV (rest := []) (As := [.int x1]) fx hK lk_X7_148 (c_X7_isMachine l dC dI cA oM gM FM AM x1 _ hw) (hP.sub [0, 1, 2, 3, 4, 5, 6, 7, 8, 9, 10, 11, 12, 13] rfl) 0 rfl rfl ⟨(Nat.le_of_ble_eq_true rfl), (Nat.le_of_ble_eq_true rfl)⟩ rfl hl.1 rfl (Nat.le_of_ble_eq_true rfl) dX7_may_2 ?_
  intro r_11 hw
  refine lv_if_ne (tgt := 10) hx hb dX7_may_5 (by decide) (fun c_12 => ?_) (fun c_12 => ?_)
  · have hw := hw.1 c_12
    refine lv_aload_n hx hb dX7_may_10 rfl (lv_at hl 0 rfl) ?_
    refine caMuVv (rest := []) (As := []) (w1 := ([] : va_W)) (w2 := ([] : va_W)) fx hK lk_X7_151 (c_X7_rowNow l dC dI cA oM gM FM AM _ hw) hP hD hS hA 0 rfl rfl ⟨(Nat.le_of_ble_eq_true rfl), (Nat.le_of_ble_eq_true rfl)⟩ rfl hl.1 rfl (Nat.le_of_ble_eq_true rfl) dX7_may_11 ?_
    intro u_15 H locs hw hP hD hS
    obtain ⟨FM_13, AM_14⟩ := u_15
    have hP : va_P (dC, dI) vwCl (mW oM gM cA FM_13 AM_14) H := hP
    have hD : va_D A (mW oM gM cA FM_13 AM_14) := hD
    try dsimp only at hw
    refine lv_aload_n hx hb dX7_may_14 rfl (lv_at hl 0 rfl) ?_
    refine lv_iload_n hx hb dX7_may_15 rfl (lv_at hl 1 rfl) ?_
    refine caMuV (rest := []) (As := [.int x1]) (w1 := ([] : va_W)) (w2 := ([] : va_W)) fx hK lk_X7_138 (c_X7_becomesOf l dC dI cA oM gM FM_13 AM_14 x1 _ hw) hP hD hS hA 0 rfl rfl ⟨(Nat.le_of_ble_eq_true rfl), (Nat.le_of_ble_eq_true rfl)⟩ rfl hl.1 rfl (Nat.le_of_ble_eq_true rfl) dX7_may_16 ?_
    intro r_19 u_18 H locs hw hP hD hS
    obtain ⟨FM_16, AM_17⟩ := u_18
    have hP : va_P (dC, dI) vwCl (mW oM gM cA FM_16 AM_17) H := hP
    have hD : va_D A (mW oM gM cA FM_16 AM_17) := hD
    try dsimp only at hw
    refine lv_if_ge (tgt := 26) hx hb dX7_may_19 (by decide) (fun c_20 => ?_) (fun c_20 => ?_)
    · have hw := hw.1 c_20
      refine lv_aload_n hx hb dX7_may_26 rfl (lv_at hl 0 rfl) ?_
      refine gz (q0 := 0) (v := .int (FM_16 26)) fx hK hP fl_X7_120 rfl rfl dX7_may_27 ?_
      exact hret _ (FM_16, AM_17) _ _ _ _ dX7_may_30 rfl hw hP hD hS
    · have hw := hw.2 c_20
      refine lv_iconst (v := (0 : Int32)) hx hb dX7_may_22 (by decide) ?_
      refine lv_goto (tgt := 30) hx hb dX7_may_23 (by decide) ?_
      exact hret _ (FM_16, AM_17) _ _ _ _ dX7_may_30 rfl hw hP hD hS
  · have hw := hw.2 c_12
    refine lv_iconst (v := (-1 : Int32)) hx hb dX7_may_8 (by decide) ?_
    exact hret _ (FM, AM) _ _ _ _ dX7_may_9 rfl hw hP hD hS
set_option maxHeartbeats 4000000 in
set_option maxRecDepth 100000 in
theorem c_X7_becomes (l : Launch) (dC : Nat → ClassId) (dI : Nat → Nat → Nat) (cA : ClassId) (oM : Nat) (gM : Nat → Nat) (FM : Nat → Int32) (AM : Nat → Nat → Int32) (x1 : Int32) (Post : Int32 → (Nat → Int32) → (Nat → Nat → Int32) → Prop) (hw : wp_X7_becomes FM AM x1 Post) : MuI (dC, dI) cA l yX7_becomes cX7_becomes 3 .int 4 89 [.ref oM, .int x1] (mW oM gM cA FM AM) (fun r (u : (Nat → Int32) × (Nat → Nat → Int32)) => Post r (u.1) (u.2)) (fun u => (mW oM gM cA (u.1) (u.2))) := by
  refine enMu (by decide) (Nat.le_of_ble_eq_true rfl) ?_
  intro p e s m args below meth c Q ls A fx hK hP hD hS hA hret hl
  obtain ⟨hx, hb, hml, hown, hts⟩ := id fx
  have hl : lv_has ls 3 [(0, .ref oM), (1, .int x1)] := hl
  have hP : va_P (dC, dI) vwCl (mW oM gM cA FM AM) s.heap := hP
  refine lv_aload_n hx hb dX7_becomes_0 rfl (lv_at hl 0 rfl) ?_
  refine lv_iload_n hx hb dX7_becomes_1 rfl (lv_at hl 1 rfl) ?_
  refine caRoV (rest := []) (As := [.int x1]) fx hK lk_X7_148 (c_X7_isMachine l dC dI cA oM gM FM AM x1 _ hw) (hP.sub [0, 1, 2, 3, 4, 5, 6, 7, 8, 9, 10, 11, 12, 13] rfl) 0 rfl rfl ⟨(Nat.le_of_ble_eq_true rfl), (Nat.le_of_ble_eq_true rfl)⟩ rfl hl.1 rfl (Nat.le_of_ble_eq_true rfl) dX7_becomes_2 ?_
  intro r_11 hw
  refine lv_if_ne (tgt := 10) hx hb dX7_becomes_5 (by decide) (fun c_12 => ?_) (fun c_12 => ?_)
  · have hw := hw.1 c_12
    refine lv_aload_n hx hb dX7_becomes_10 rfl (lv_at hl 0 rfl) ?_
    refine caMuVv (rest := []) (As := []) (w1 := ([] : va_W)) (w2 := ([] : va_W)) fx hK lk_X7_151 (c_X7_rowNow l dC dI cA oM gM FM AM _ hw) hP hD hS hA 0 rfl rfl ⟨(Nat.le_of_ble_eq_true rfl), (Nat.le_of_ble_eq_true rfl)⟩ rfl hl.1 rfl (Nat.le_of_ble_eq_true rfl) dX7_becomes_11 ?_
    intro u_15 H locs hw hP hD hS
    obtain ⟨FM_13, AM_14⟩ := u_15
    have hP : va_P (dC, dI) vwCl (mW oM gM cA FM_13 AM_14) H := hP
    have hD : va_D A (mW oM gM cA FM_13 AM_14) := hD
    try dsimp only at hw
    refine lv_aload_n hx hb dX7_becomes_14 rfl (lv_at hl 0 rfl) ?_
    refine lv_iload_n hx hb dX7_becomes_15 rfl (lv_at hl 1 rfl) ?_
    refine caMuV (rest := []) (As := [.int x1]) (w1 := ([] : va_W)) (w2 := ([] : va_W)) fx hK lk_X7_138 (c_X7_becomesOf l dC dI cA oM gM FM_13 AM_14 x1 _ hw) hP hD hS hA 0 rfl rfl ⟨(Nat.le_of_ble_eq_true rfl), (Nat.le_of_ble_eq_true rfl)⟩ rfl hl.1 rfl (Nat.le_of_ble_eq_true rfl) dX7_becomes_16 ?_
    intro r_19 u_18 H locs hw hP hD hS
    obtain ⟨FM_16, AM_17⟩ := u_18
    have hP : va_P (dC, dI) vwCl (mW oM gM cA FM_16 AM_17) H := hP
    have hD : va_D A (mW oM gM cA FM_16 AM_17) := hD
    try dsimp only at hw
    refine lv_istore_n (lv' := [(2, .int r_19), (0, .ref oM), (1, .int x1)]) hx hb dX7_becomes_19 rfl hl (by decide) rfl (fun ls hl => ?_)
    refine lv_iload_n hx hb dX7_becomes_20 rfl (lv_at hl 0 rfl) ?_
    refine lv_if_ge (tgt := 29) hx hb dX7_becomes_21 (by decide) (fun c_20 => ?_) (fun c_20 => ?_)
    · have hw := hw.1 c_20
      refine lv_iload_n hx hb dX7_becomes_29 rfl (lv_at hl 0 rfl) ?_
      exact hret _ (FM_16, AM_17) _ _ _ _ dX7_becomes_30 rfl hw hP hD hS
    · have hw := hw.2 c_20
      refine lv_bipush (v := (-4 : Int32)) hx hb dX7_becomes_24 (by decide) ?_
      refine lv_goto (tgt := 30) hx hb dX7_becomes_26 (by decide) ?_
      exact hret _ (FM_16, AM_17) _ _ _ _ dX7_becomes_30 rfl hw hP hD hS
  · have hw := hw.2 c_12
    refine lv_iconst (v := (-1 : Int32)) hx hb dX7_becomes_8 (by decide) ?_
    exact hret _ (FM, AM) _ _ _ _ dX7_becomes_9 rfl hw hP hD hS
set_option maxHeartbeats 4000000 in
set_option maxRecDepth 100000 in
theorem c_X7_move (l : Launch) (dC : Nat → ClassId) (dI : Nat → Nat → Nat) (cA : ClassId) (oM : Nat) (gM : Nat → Nat) (FM : Nat → Int32) (AM : Nat → Nat → Int32) (x1 : Int32) (Post : Int32 → (Nat → Int32) → (Nat → Nat → Int32) → Prop) (hw : wp_X7_move FM AM x1 Post) : MuI (dC, dI) cA l yX7_move cX7_move 3 .int 4 89 [.ref oM, .int x1] (mW oM gM cA FM AM) (fun r (u : (Nat → Int32) × (Nat → Nat → Int32)) => Post r (u.1) (u.2)) (fun u => (mW oM gM cA (u.1) (u.2))) := by
  refine enMu (by decide) (Nat.le_of_ble_eq_true rfl) ?_
  intro p e s m args below meth c Q ls A fx hK hP hD hS hA hret hl
  obtain ⟨hx, hb, hml, hown, hts⟩ := id fx
  have hl : lv_has ls 3 [(0, .ref oM), (1, .int x1)] := hl
  have hP : va_P (dC, dI) vwCl (mW oM gM cA FM AM) s.heap := hP
  refine lv_aload_n hx hb dX7_move_0 rfl (lv_at hl 0 rfl) ?_
  refine lv_iload_n hx hb dX7_move_1 rfl (lv_at hl 1 rfl) ?_
  refine caRoV (rest := []) (As := [.int x1]) fx hK lk_X7_148 (c_X7_isMachine l dC dI cA oM gM FM AM x1 _ hw) (hP.sub [0, 1, 2, 3, 4, 5, 6, 7, 8, 9, 10, 11, 12, 13] rfl) 0 rfl rfl ⟨(Nat.le_of_ble_eq_true rfl), (Nat.le_of_ble_eq_true rfl)⟩ rfl hl.1 rfl (Nat.le_of_ble_eq_true rfl) dX7_move_2 ?_
  intro r_16 hw
  refine lv_if_ne (tgt := 10) hx hb dX7_move_5 (by decide) (fun c_17 => ?_) (fun c_17 => ?_)
  · have hw := hw.1 c_17
    refine lv_aload_n hx hb dX7_move_10 rfl (lv_at hl 0 rfl) ?_
    refine caMuVv (rest := []) (As := []) (w1 := ([] : va_W)) (w2 := ([] : va_W)) fx hK lk_X7_151 (c_X7_rowNow l dC dI cA oM gM FM AM _ hw) hP hD hS hA 0 rfl rfl ⟨(Nat.le_of_ble_eq_true rfl), (Nat.le_of_ble_eq_true rfl)⟩ rfl hl.1 rfl (Nat.le_of_ble_eq_true rfl) dX7_move_11 ?_
    intro u_20 H locs hw hP hD hS
    obtain ⟨FM_18, AM_19⟩ := u_20
    have hP : va_P (dC, dI) vwCl (mW oM gM cA FM_18 AM_19) H := hP
    have hD : va_D A (mW oM gM cA FM_18 AM_19) := hD
    try dsimp only at hw
    refine lv_aload_n hx hb dX7_move_14 rfl (lv_at hl 0 rfl) ?_
    refine lv_iload_n hx hb dX7_move_15 rfl (lv_at hl 1 rfl) ?_
    refine caMuV (rest := []) (As := [.int x1]) (w1 := ([] : va_W)) (w2 := ([] : va_W)) fx hK lk_X7_138 (c_X7_becomesOf l dC dI cA oM gM FM_18 AM_19 x1 _ hw) hP hD hS hA 0 rfl rfl ⟨(Nat.le_of_ble_eq_true rfl), (Nat.le_of_ble_eq_true rfl)⟩ rfl hl.1 rfl (Nat.le_of_ble_eq_true rfl) dX7_move_16 ?_
    intro r_24 u_23 H locs hw hP hD hS
    obtain ⟨FM_21, AM_22⟩ := u_23
    have hP : va_P (dC, dI) vwCl (mW oM gM cA FM_21 AM_22) H := hP
    have hD : va_D A (mW oM gM cA FM_21 AM_22) := hD
    try dsimp only at hw
    refine lv_istore_n (lv' := [(2, .int r_24), (0, .ref oM), (1, .int x1)]) hx hb dX7_move_19 rfl hl (by decide) rfl (fun ls hl => ?_)
    refine lv_iload_n hx hb dX7_move_20 rfl (lv_at hl 0 rfl) ?_
    refine lv_if_ge (tgt := 27) hx hb dX7_move_21 (by decide) (fun c_25 => ?_) (fun c_25 => ?_)
    · have hw := hw.1 c_25
      refine lv_aload_n hx hb dX7_move_27 rfl (lv_at hl 1 rfl) ?_
      refine caMuVv (rest := []) (As := []) (w1 := ([] : va_W)) (w2 := ([] : va_W)) fx hK lk_X7_157 (c_X7_keeps l dC dI cA oM gM FM_21 AM_22 _ hw) hP hD hS hA 0 rfl rfl ⟨(Nat.le_of_ble_eq_true rfl), (Nat.le_of_ble_eq_true rfl)⟩ rfl hl.1 rfl (Nat.le_of_ble_eq_true rfl) dX7_move_28 ?_
      intro u_28 H locs hw hP hD hS
      obtain ⟨FM_26, AM_27⟩ := u_28
      have hP : va_P (dC, dI) vwCl (mW oM gM cA FM_26 AM_27) H := hP
      have hD : va_D A (mW oM gM cA FM_26 AM_27) := hD
      try dsimp only at hw
      refine lv_aload_n hx hb dX7_move_31 rfl (lv_at hl 1 rfl) ?_
      refine gz (q0 := 0) (v := .ref (gM 9)) fx hK hP fl_X7_19 rfl rfl dX7_move_32 ?_
      refine lv_iload_n hx hb dX7_move_35 rfl (lv_at hl 2 rfl) ?_
      refine lv_iload_n hx hb dX7_move_36 rfl (lv_at hl 0 rfl) ?_
      obtain ⟨hz, hw⟩ := hw
      refine az hx hb hK hP hD hS 4 rfl hz dX7_move_37 ?_
      intro g_29 H locs e_30 hP hD hS
      have hw := hw g_29 e_30
      have hP : va_P (dC, dI) vwCl (mW oM gM cA FM_26 (uA AM_27 9 g_29)) H := hP
      have hD : va_D A (mW oM gM cA FM_26 (uA AM_27 9 g_29)) := hD
      refine lv_iload_n hx hb dX7_move_38 rfl (lv_at hl 0 rfl) ?_
      exact hret _ (FM_26, (uA AM_27 9 g_29)) _ _ _ _ dX7_move_39 rfl hw hP hD hS
    · have hw := hw.2 c_25
      refine lv_bipush (v := (-2 : Int32)) hx hb dX7_move_24 (by decide) ?_
      exact hret _ (FM_21, AM_22) _ _ _ _ dX7_move_26 rfl hw hP hD hS
  · have hw := hw.2 c_17
    refine lv_iconst (v := (-1 : Int32)) hx hb dX7_move_8 (by decide) ?_
    exact hret _ (FM, AM) _ _ _ _ dX7_move_9 rfl hw hP hD hS
set_option maxHeartbeats 4000000 in
set_option maxRecDepth 100000 in
theorem c_X7_tokensOf (l : Launch) (dC : Nat → ClassId) (dI : Nat → Nat → Nat) (cA : ClassId) (oM : Nat) (gM : Nat → Nat) (FM : Nat → Int32) (AM : Nat → Nat → Int32) (Post : Int32 → (Nat → Int32) → (Nat → Nat → Int32) → Prop) (hw : wp_X7_tokensOf FM AM Post) : MuI (dC, dI) cA l yX7_tokensOf cX7_tokensOf 3 .int 4 89 [.ref oM] (mW oM gM cA FM AM) (fun r (u : (Nat → Int32) × (Nat → Nat → Int32)) => Post r (u.1) (u.2)) (fun u => (mW oM gM cA (u.1) (u.2))) := by
  refine enMu (by decide) (Nat.le_of_ble_eq_true rfl) ?_
  intro p e s m args below meth c Q ls A fx hK hP hD hS hA hret hl
  obtain ⟨hx, hb, hml, hown, hts⟩ := id fx
  have hl : lv_has ls 3 [(0, .ref oM)] := hl
  have hP : va_P (dC, dI) vwCl (mW oM gM cA FM AM) s.heap := hP
  have b_4 : ∀ (FM : Nat → Int32) (AM : Nat → Nat → Int32) (x1 : Int32) (x2 : Int32) (H : Heap) (locs : List Loc) (ls : Array Slot), va_P (dC, dI) vwCl (mW oM gM cA FM AM) H → va_D A (mW oM gM cA FM AM) → va_S A s.heap H locs → lv_has ls 3 [(0, .ref oM), (1, .int x1), (2, .int x2)] → wp_X7_tokensOf_4 FM AM x1 x2 Post → W p l e ({ frames := 4, cells := 0, slots := 0, locals := 89 } : Room) s m args below meth c H locs 0 0 Q (F0 m 4 ls []) := by
    intro FM AM x1 x2 H locs ls hP hD hS hl hw
    refine Lp_go (C := fun (t : Int32 × Int32 × (Nat → Int32) × (Nat → Nat → Int32)) => ∀ (H : Heap) (locs : List Loc) (ls : Array Slot), va_P (dC, dI) vwCl (mW oM gM cA (t.2.2.1) (t.2.2.2)) H → va_D A (mW oM gM cA (t.2.2.1) (t.2.2.2)) → va_S A s.heap H locs → lv_has ls 3 [(0, .ref oM), (1, .int (t.1)), (2, .int (t.2.1))] → W p l e ({ frames := 4, cells := 0, slots := 0, locals := 89 } : Room) s m args below meth c H locs 0 0 Q (F0 m 4 ls [])) ?_ hw H locs ls hP hD hS hl
    intro k_4 hk_4 t
    obtain ⟨x1, x2, FM, AM⟩ := t
    intro hw H locs ls hP hD hS hl
    have hP : va_P (dC, dI) vwCl (mW oM gM cA FM AM) H := hP
    have hD : va_D A (mW oM gM cA FM AM) := hD
    have hl : lv_has ls 3 [(0, .ref oM), (1, .int x1), (2, .int x2)] := hl
    have hw : st_X7_tokensOf_4 Post k_4 x1 x2 FM AM := hw
    have b_28 : ∀ (FM : Nat → Int32) (AM : Nat → Nat → Int32) (x2 : Int32) (t0 : Int32) (t1 : Int32) (H : Heap) (locs : List Loc) (ls : Array Slot), va_P (dC, dI) vwCl (mW oM gM cA FM AM) H → va_D A (mW oM gM cA FM AM) → va_S A s.heap H locs → lv_has ls 3 [(0, .ref oM), (2, .int x2)] → wp_X7_tokensOf_28 FM AM x2 t0 t1 k_4 Post → W p l e ({ frames := 4, cells := 0, slots := 0, locals := 89 } : Room) s m args below meth c H locs 0 0 Q (F0 m 28 ls [.int t1, .int t0]) := by
      intro FM AM x2 t0 t1 H locs ls hP hD hS hl hw
      refine lv_ior hx hb dX7_tokensOf_28 ?_
      refine lv_istore_n (lv' := [(1, .int (t0 ||| t1)), (0, .ref oM), (2, .int x2)]) hx hb dX7_tokensOf_29 rfl hl (by decide) rfl (fun ls hl => ?_)
      refine lv_iinc (v := (x2 + 1)) (lv' := [(2, .int (x2 + 1)), (1, .int (t0 ||| t1)), (0, .ref oM)]) hx hb dX7_tokensOf_30 hl (k := 2) rfl rfl (by decide) rfl (fun ls hl => ?_)
      refine lv_goto (tgt := 4) hx hb dX7_tokensOf_33 (by decide) ?_
      exact hk_4 ((t0 ||| t1), (x2 + 1), FM, AM) hw _ _ _ hP hD hS (lv_sub hl [2, 1, 0] rfl)
    refine lv_iload_n hx hb dX7_tokensOf_4 rfl (lv_at hl 2 rfl) ?_
    refine lv_aload_n hx hb dX7_tokensOf_5 rfl (lv_at hl 0 rfl) ?_
    refine gz (q0 := 0) (v := .int (FM 3)) fx hK hP fl_X7_53 rfl rfl dX7_tokensOf_6 ?_
    refine lv_icmp_ge (tgt := 36) hx hb dX7_tokensOf_9 (by decide) (fun c_1 => ?_) (fun c_1 => ?_)
    · have hw := hw.1 c_1
      refine lv_iload_n hx hb dX7_tokensOf_36 rfl (lv_at hl 1 rfl) ?_
      exact hret _ (FM, AM) _ _ _ _ dX7_tokensOf_37 rfl hw hP hD hS
    · have hw := hw.2 c_1
      refine lv_iload_n hx hb dX7_tokensOf_12 rfl (lv_at hl 1 rfl) ?_
      refine lv_aload_n hx hb dX7_tokensOf_13 rfl (lv_at hl 0 rfl) ?_
      refine lv_iload_n hx hb dX7_tokensOf_14 rfl (lv_at hl 2 rfl) ?_
      refine caMuV (rest := [.int x1]) (As := [.int x2]) (w1 := ([] : va_W)) (w2 := ([] : va_W)) fx hK lk_X7_138 (c_X7_becomesOf l dC dI cA oM gM FM AM x2 _ hw) hP hD hS hA 0 rfl rfl ⟨(Nat.le_of_ble_eq_true rfl), (Nat.le_of_ble_eq_true rfl)⟩ rfl hl.1 rfl (Nat.le_of_ble_eq_true rfl) dX7_tokensOf_15 ?_
      intro r_5 u_4 H locs hw hP hD hS
      obtain ⟨FM_2, AM_3⟩ := u_4
      have hP : va_P (dC, dI) vwCl (mW oM gM cA FM_2 AM_3) H := hP
      have hD : va_D A (mW oM gM cA FM_2 AM_3) := hD
      try dsimp only at hw
      refine lv_if_lt (tgt := 27) hx hb dX7_tokensOf_18 (by decide) (fun c_6 => ?_) (fun c_6 => ?_)
      · have hw := hw.1 c_6
        refine lv_iconst (v := (0 : Int32)) hx hb dX7_tokensOf_27 (by decide) ?_
        exact b_28 FM_2 AM_3 x2 x1 (0 : Int32) _ _ _ hP hD hS (lv_sub hl [0, 2] rfl) hw
      · have hw := hw.2 c_6
        refine lv_iconst (v := (1 : Int32)) hx hb dX7_tokensOf_21 (by decide) ?_
        refine lv_iload_n hx hb dX7_tokensOf_22 rfl (lv_at hl 2 rfl) ?_
        refine lv_ishl hx hb dX7_tokensOf_23 ?_
        refine lv_goto (tgt := 28) hx hb dX7_tokensOf_24 (by decide) ?_
        exact b_28 FM_2 AM_3 x2 x1 ((1 : Int32) <<< (x2 &&& 31)) _ _ _ hP hD hS (lv_sub hl [0, 2] rfl) hw
  refine lv_iconst (v := (0 : Int32)) hx hb dX7_tokensOf_0 (by decide) ?_
  refine lv_istore_n (lv' := [(1, .int (0 : Int32)), (0, .ref oM)]) hx hb dX7_tokensOf_1 rfl hl (by decide) rfl (fun ls hl => ?_)
  refine lv_iconst (v := (0 : Int32)) hx hb dX7_tokensOf_2 (by decide) ?_
  refine lv_istore_n (lv' := [(2, .int (0 : Int32)), (1, .int (0 : Int32)), (0, .ref oM)]) hx hb dX7_tokensOf_3 rfl hl (by decide) rfl (fun ls hl => ?_)
  exact b_4 FM AM (0 : Int32) (0 : Int32) _ _ _ hP hD hS (lv_sub hl [2, 1, 0] rfl) hw
set_option maxHeartbeats 4000000 in
set_option maxRecDepth 100000 in
theorem c_X7_tokens (l : Launch) (dC : Nat → ClassId) (dI : Nat → Nat → Nat) (cA : ClassId) (oM : Nat) (gM : Nat → Nat) (FM : Nat → Int32) (AM : Nat → Nat → Int32) (Post : Int32 → (Nat → Int32) → (Nat → Nat → Int32) → Prop) (hw : wp_X7_tokens FM AM Post) : MuI (dC, dI) cA l yX7_tokens cX7_tokens 1 .int 5 111 [.ref oM] (mW oM gM cA FM AM) (fun r (u : (Nat → Int32) × (Nat → Nat → Int32)) => Post r (u.1) (u.2)) (fun u => (mW oM gM cA (u.1) (u.2))) := by
  refine enMu (by decide) (Nat.le_of_ble_eq_true rfl) ?_
  intro p e s m args below meth c Q ls A fx hK hP hD hS hA hret hl
  obtain ⟨hx, hb, hml, hown, hts⟩ := id fx
  have hl : lv_has ls 1 [(0, .ref oM)] := hl
  have hP : va_P (dC, dI) vwCl (mW oM gM cA FM AM) s.heap := hP
  refine lv_aload_n hx hb dX7_tokens_0 rfl (lv_at hl 0 rfl) ?_
  refine caMuVv (rest := []) (As := []) (w1 := ([] : va_W)) (w2 := ([] : va_W)) fx hK lk_X7_151 (c_X7_rowNow l dC dI cA oM gM FM AM _ hw) hP hD hS hA 0 rfl rfl ⟨(Nat.le_of_ble_eq_true rfl), (Nat.le_of_ble_eq_true rfl)⟩ rfl hl.1 rfl (Nat.le_of_ble_eq_true rfl) dX7_tokens_1 ?_
  intro u_10 H locs hw hP hD hS
  obtain ⟨FM_8, AM_9⟩ := u_10
  have hP : va_P (dC, dI) vwCl (mW oM gM cA FM_8 AM_9) H := hP
  have hD : va_D A (mW oM gM cA FM_8 AM_9) := hD
  try dsimp only at hw
  refine lv_aload_n hx hb dX7_tokens_4 rfl (lv_at hl 0 rfl) ?_
  refine caMuV (rest := []) (As := []) (w1 := ([] : va_W)) (w2 := ([] : va_W)) fx hK lk_X7_141 (c_X7_tokensOf l dC dI cA oM gM FM_8 AM_9 _ hw) hP hD hS hA 0 rfl rfl ⟨(Nat.le_of_ble_eq_true rfl), (Nat.le_of_ble_eq_true rfl)⟩ rfl hl.1 rfl (Nat.le_of_ble_eq_true rfl) dX7_tokens_5 ?_
  intro r_14 u_13 H locs hw hP hD hS
  obtain ⟨FM_11, AM_12⟩ := u_13
  have hP : va_P (dC, dI) vwCl (mW oM gM cA FM_11 AM_12) H := hP
  have hD : va_D A (mW oM gM cA FM_11 AM_12) := hD
  try dsimp only at hw
  exact hret _ (FM_11, AM_12) _ _ _ _ dX7_tokens_8 rfl hw hP hD hS
set_option maxHeartbeats 4000000 in
set_option maxRecDepth 100000 in
theorem c_X7_isLegal (l : Launch) (dC : Nat → ClassId) (dI : Nat → Nat → Nat) (cA : ClassId) (oM : Nat) (gM : Nat → Nat) (FM : Nat → Int32) (AM : Nat → Nat → Int32) (Post : Int32 → (Nat → Int32) → (Nat → Nat → Int32) → Prop) (hw : wp_X7_isLegal FM AM Post) : MuI (dC, dI) cA l yX7_isLegal cX7_isLegal 2 .boolean 5 111 [.ref oM] (mW oM gM cA FM AM) (fun r (u : (Nat → Int32) × (Nat → Nat → Int32)) => Post r (u.1) (u.2)) (fun u => (mW oM gM cA (u.1) (u.2))) := by
  refine enMu (by decide) (Nat.le_of_ble_eq_true rfl) ?_
  intro p e s m args below meth c Q ls A fx hK hP hD hS hA hret hl
  obtain ⟨hx, hb, hml, hown, hts⟩ := id fx
  have hl : lv_has ls 2 [(0, .ref oM)] := hl
  have hP : va_P (dC, dI) vwCl (mW oM gM cA FM AM) s.heap := hP
  refine lv_aload_n hx hb dX7_isLegal_0 rfl (lv_at hl 0 rfl) ?_
  refine caMuV (rest := []) (As := []) (w1 := ([] : va_W)) (w2 := ([] : va_W)) fx hK lk_X7_141 (c_X7_tokensOf l dC dI cA oM gM FM AM _ hw) hP hD hS hA 0 rfl rfl ⟨(Nat.le_of_ble_eq_true rfl), (Nat.le_of_ble_eq_true rfl)⟩ rfl hl.1 rfl (Nat.le_of_ble_eq_true rfl) dX7_isLegal_1 ?_
  intro r_12 u_11 H locs hw hP hD hS
  obtain ⟨FM_9, AM_10⟩ := u_11
  have hP : va_P (dC, dI) vwCl (mW oM gM cA FM_9 AM_10) H := hP
  have hD : va_D A (mW oM gM cA FM_9 AM_10) := hD
  try dsimp only at hw
  refine lv_istore_n (lv' := [(1, .int r_12), (0, .ref oM)]) hx hb dX7_isLegal_4 rfl hl (by decide) rfl (fun ls hl => ?_)
  refine lv_aload_n hx hb dX7_isLegal_5 rfl (lv_at hl 1 rfl) ?_
  refine gz (q0 := 0) (v := .int (FM_9 2)) fx hK hP fl_X7_49 rfl rfl dX7_isLegal_6 ?_
  refine lv_iconst (v := (1 : Int32)) hx hb dX7_isLegal_9 (by decide) ?_
  refine lv_icmp_ne (tgt := 33) hx hb dX7_isLegal_10 (by decide) (fun c_13 => ?_) (fun c_13 => ?_)
  · have hw := hw.1 c_13
    refine lv_iload_n hx hb dX7_isLegal_33 rfl (lv_at hl 0 rfl) ?_
    refine lv_if_ne (tgt := 41) hx hb dX7_isLegal_34 (by decide) (fun c_14 => ?_) (fun c_14 => ?_)
    · have hw := hw.1 c_14
      refine lv_iconst (v := (0 : Int32)) hx hb dX7_isLegal_41 (by decide) ?_
      exact hret _ (FM_9, AM_10) _ _ _ _ dX7_isLegal_42 rfl hw hP hD hS
    · have hw := hw.2 c_14
      refine lv_iconst (v := (1 : Int32)) hx hb dX7_isLegal_37 (by decide) ?_
      refine lv_goto (tgt := 42) hx hb dX7_isLegal_38 (by decide) ?_
      exact hret _ (FM_9, AM_10) _ _ _ _ dX7_isLegal_42 rfl hw hP hD hS
  · have hw := hw.2 c_13
    refine lv_iload_n hx hb dX7_isLegal_13 rfl (lv_at hl 0 rfl) ?_
    refine lv_if_eq (tgt := 29) hx hb dX7_isLegal_14 (by decide) (fun c_15 => ?_) (fun c_15 => ?_)
    · have hw := hw.1 c_15
      refine lv_iconst (v := (0 : Int32)) hx hb dX7_isLegal_29 (by decide) ?_
      refine lv_goto (tgt := 42) hx hb dX7_isLegal_30 (by decide) ?_
      exact hret _ (FM_9, AM_10) _ _ _ _ dX7_isLegal_42 rfl hw hP hD hS
    · have hw := hw.2 c_15
      refine lv_iload_n hx hb dX7_isLegal_17 rfl (lv_at hl 0 rfl) ?_
      refine lv_iload_n hx hb dX7_isLegal_18 rfl (lv_at hl 0 rfl) ?_
      refine lv_iconst (v := (1 : Int32)) hx hb dX7_isLegal_19 (by decide) ?_
      refine lv_isub hx hb dX7_isLegal_20 ?_
      refine lv_iand hx hb dX7_isLegal_21 ?_
      refine lv_if_ne (tgt := 29) hx hb dX7_isLegal_22 (by decide) (fun c_16 => ?_) (fun c_16 => ?_)
      · have hw := hw.1 c_16
        refine lv_iconst (v := (0 : Int32)) hx hb dX7_isLegal_29 (by decide) ?_
        refine lv_goto (tgt := 42) hx hb dX7_isLegal_30 (by decide) ?_
        exact hret _ (FM_9, AM_10) _ _ _ _ dX7_isLegal_42 rfl hw hP hD hS
      · have hw := hw.2 c_16
        refine lv_iconst (v := (1 : Int32)) hx hb dX7_isLegal_25 (by decide) ?_
        refine lv_goto (tgt := 42) hx hb dX7_isLegal_26 (by decide) ?_
        exact hret _ (FM_9, AM_10) _ _ _ _ dX7_isLegal_42 rfl hw hP hD hS
set_option maxHeartbeats 4000000 in
set_option maxRecDepth 100000 in
theorem c_X7_legal (l : Launch) (dC : Nat → ClassId) (dI : Nat → Nat → Nat) (cA : ClassId) (oM : Nat) (gM : Nat → Nat) (FM : Nat → Int32) (AM : Nat → Nat → Int32) (Post : Int32 → (Nat → Int32) → (Nat → Nat → Int32) → Prop) (hw : wp_X7_legal FM AM Post) : MuI (dC, dI) cA l yX7_legal cX7_legal 1 .int 6 132 [.ref oM] (mW oM gM cA FM AM) (fun r (u : (Nat → Int32) × (Nat → Nat → Int32)) => Post r (u.1) (u.2)) (fun u => (mW oM gM cA (u.1) (u.2))) := by
  refine enMu (by decide) (Nat.le_of_ble_eq_true rfl) ?_
  intro p e s m args below meth c Q ls A fx hK hP hD hS hA hret hl
  obtain ⟨hx, hb, hml, hown, hts⟩ := id fx
  have hl : lv_has ls 1 [(0, .ref oM)] := hl
  have hP : va_P (dC, dI) vwCl (mW oM gM cA FM AM) s.heap := hP
  refine lv_aload_n hx hb dX7_legal_0 rfl (lv_at hl 0 rfl) ?_
  refine caMuVv (rest := []) (As := []) (w1 := ([] : va_W)) (w2 := ([] : va_W)) fx hK lk_X7_151 (c_X7_rowNow l dC dI cA oM gM FM AM _ hw) hP hD hS hA 0 rfl rfl ⟨(Nat.le_of_ble_eq_true rfl), (Nat.le_of_ble_eq_true rfl)⟩ rfl hl.1 rfl (Nat.le_of_ble_eq_true rfl) dX7_legal_1 ?_
  intro u_11 H locs hw hP hD hS
  obtain ⟨FM_9, AM_10⟩ := u_11
  have hP : va_P (dC, dI) vwCl (mW oM gM cA FM_9 AM_10) H := hP
  have hD : va_D A (mW oM gM cA FM_9 AM_10) := hD
  try dsimp only at hw
  refine lv_aload_n hx hb dX7_legal_4 rfl (lv_at hl 0 rfl) ?_
  refine caMuV (rest := []) (As := []) (w1 := ([] : va_W)) (w2 := ([] : va_W)) fx hK lk_X7_166 (c_X7_isLegal l dC dI cA oM gM FM_9 AM_10 _ hw) hP hD hS hA 0 rfl rfl ⟨(Nat.le_of_ble_eq_true rfl), (Nat.le_of_ble_eq_true rfl)⟩ rfl hl.1 rfl (Nat.le_of_ble_eq_true rfl) dX7_legal_5 ?_
  intro r_15 u_14 H locs hw hP hD hS
  obtain ⟨FM_12, AM_13⟩ := u_14
  have hP : va_P (dC, dI) vwCl (mW oM gM cA FM_12 AM_13) H := hP
  have hD : va_D A (mW oM gM cA FM_12 AM_13) := hD
  try dsimp only at hw
  refine lv_if_eq (tgt := 15) hx hb dX7_legal_8 (by decide) (fun c_16 => ?_) (fun c_16 => ?_)
  · have hw := hw.1 c_16
    refine lv_iconst (v := (0 : Int32)) hx hb dX7_legal_15 (by decide) ?_
    exact hret _ (FM_12, AM_13) _ _ _ _ dX7_legal_16 rfl hw hP hD hS
  · have hw := hw.2 c_16
    refine lv_iconst (v := (1 : Int32)) hx hb dX7_legal_11 (by decide) ?_
    refine lv_goto (tgt := 16) hx hb dX7_legal_12 (by decide) ?_
    exact hret _ (FM_12, AM_13) _ _ _ _ dX7_legal_16 rfl hw hP hD hS
set_option maxHeartbeats 4000000 in
set_option maxRecDepth 100000 in
theorem c_X7_mate (l : Launch) (dC : Nat → ClassId) (dI : Nat → Nat → Nat) (cA : ClassId) (oM : Nat) (gM : Nat → Nat) (FM : Nat → Int32) (AM : Nat → Nat → Int32) (x1 : Int32) (Post : Int32 → (Nat → Int32) → (Nat → Nat → Int32) → Prop) (hw : wp_X7_mate FM AM x1 Post) : MuI (dC, dI) cA l yX7_mate cX7_mate 3 .int 2 45 [.ref oM, .int x1] (mW oM gM cA FM AM) (fun r (u : (Nat → Int32) × (Nat → Nat → Int32)) => Post r (u.1) (u.2)) (fun u => (mW oM gM cA (u.1) (u.2))) := by
  refine enMu (by decide) (Nat.le_of_ble_eq_true rfl) ?_
  intro p e s m args below meth c Q ls A fx hK hP hD hS hA hret hl
  obtain ⟨hx, hb, hml, hown, hts⟩ := id fx
  have hl : lv_has ls 3 [(0, .ref oM), (1, .int x1)] := hl
  have hP : va_P (dC, dI) vwCl (mW oM gM cA FM AM) s.heap := hP
  refine lv_aload_n hx hb dX7_mate_0 rfl (lv_at hl 0 rfl) ?_
  refine lv_iload_n hx hb dX7_mate_1 rfl (lv_at hl 1 rfl) ?_
  refine caRoV (rest := []) (As := [.int x1]) fx hK lk_X7_148 (c_X7_isMachine l dC dI cA oM gM FM AM x1 _ hw) (hP.sub [0, 1, 2, 3, 4, 5, 6, 7, 8, 9, 10, 11, 12, 13] rfl) 0 rfl rfl ⟨(Nat.le_of_ble_eq_true rfl), (Nat.le_of_ble_eq_true rfl)⟩ rfl hl.1 rfl (Nat.le_of_ble_eq_true rfl) dX7_mate_2 ?_
  intro r_14 hw
  refine lv_if_ne (tgt := 10) hx hb dX7_mate_5 (by decide) (fun c_15 => ?_) (fun c_15 => ?_)
  · have hw := hw.1 c_15
    refine lv_aload_n hx hb dX7_mate_10 rfl (lv_at hl 0 rfl) ?_
    refine gz (q0 := 0) (v := .int (FM 2)) fx hK hP fl_X7_49 rfl rfl dX7_mate_11 ?_
    refine lv_iconst (v := (2 : Int32)) hx hb dX7_mate_14 (by decide) ?_
    refine lv_icmp_ne (tgt := 59) hx hb dX7_mate_15 (by decide) (fun c_16 => ?_) (fun c_16 => ?_)
    · have hw := hw.1 c_16
      refine lv_aload_n hx hb dX7_mate_59 rfl (lv_at hl 0 rfl) ?_
      refine gz (q0 := 0) (v := .int (FM 2)) fx hK hP fl_X7_49 rfl rfl dX7_mate_60 ?_
      refine lv_iconst (v := (3 : Int32)) hx hb dX7_mate_63 (by decide) ?_
      refine lv_icmp_eq (tgt := 70) hx hb dX7_mate_64 (by decide) (fun c_17 => ?_) (fun c_17 => ?_)
      · have hw := hw.1 c_17
        refine lv_aload_n hx hb dX7_mate_70 rfl (lv_at hl 0 rfl) ?_
        refine caMuVv (rest := []) (As := []) (w1 := ([] : va_W)) (w2 := ([] : va_W)) fx hK lk_X7_151 (c_X7_rowNow l dC dI cA oM gM FM AM _ hw) hP hD hS hA 0 rfl rfl ⟨(Nat.le_of_ble_eq_true rfl), (Nat.le_of_ble_eq_true rfl)⟩ rfl hl.1 rfl (Nat.le_of_ble_eq_true rfl) dX7_mate_71 ?_
        intro u_20 H locs hw hP hD hS
        obtain ⟨FM_18, AM_19⟩ := u_20
        have hP : va_P (dC, dI) vwCl (mW oM gM cA FM_18 AM_19) H := hP
        have hD : va_D A (mW oM gM cA FM_18 AM_19) := hD
        try dsimp only at hw
        refine lv_aload_n hx hb dX7_mate_74 rfl (lv_at hl 0 rfl) ?_
        refine lv_iload_n hx hb dX7_mate_75 rfl (lv_at hl 1 rfl) ?_
        refine lv_aload_n hx hb dX7_mate_76 rfl (lv_at hl 0 rfl) ?_
        refine gz (q0 := 0) (v := .ref (gM 9)) fx hK hP fl_X7_19 rfl rfl dX7_mate_77 ?_
        refine lv_iload_n hx hb dX7_mate_80 rfl (lv_at hl 1 rfl) ?_
        obtain ⟨hz, hw⟩ := hw
        refine va_iald hx hb hK hP 4 0 rfl rfl hz dX7_mate_81 ?_
        refine lv_iconst (v := (1 : Int32)) hx hb dX7_mate_82 (by decide) ?_
        refine lv_isub hx hb dX7_mate_83 ?_
        refine caRoV (rest := []) (As := [.int x1, .int (((AM_19 9) (ix x1)) - (1 : Int32))]) fx hK lk_X7_123 (c_X7_lowest l dC dI cA oM gM FM_18 AM_19 x1 (((AM_19 9) (ix x1)) - (1 : Int32)) _ hw) (hP.sub [0, 1, 2, 3, 4, 5, 6, 7, 8, 9, 10, 11, 12, 13] rfl) 0 rfl rfl ⟨(Nat.le_of_ble_eq_true rfl), (Nat.le_of_ble_eq_true rfl)⟩ rfl hl.1 rfl (Nat.le_of_ble_eq_true rfl) dX7_mate_84 ?_
        intro r_21 hw
        refine lv_istore_n (lv' := [(2, .int r_21), (0, .ref oM), (1, .int x1)]) hx hb dX7_mate_87 rfl hl (by decide) rfl (fun ls hl => ?_)
        refine lv_iload_n hx hb dX7_mate_88 rfl (lv_at hl 0 rfl) ?_
        refine lv_if_ge (tgt := 97) hx hb dX7_mate_89 (by decide) (fun c_22 => ?_) (fun c_22 => ?_)
        · have hw := hw.1 c_22
          refine lv_iload_n hx hb dX7_mate_97 rfl (lv_at hl 0 rfl) ?_
          exact hret _ (FM_18, AM_19) _ _ _ _ dX7_mate_98 rfl hw hP hD hS
        · have hw := hw.2 c_22
          refine lv_bipush (v := (-4 : Int32)) hx hb dX7_mate_92 (by decide) ?_
          refine lv_goto (tgt := 98) hx hb dX7_mate_94 (by decide) ?_
          exact hret _ (FM_18, AM_19) _ _ _ _ dX7_mate_98 rfl hw hP hD hS
      · have hw := hw.2 c_17
        refine lv_bipush (v := (-2 : Int32)) hx hb dX7_mate_67 (by decide) ?_
        exact hret _ (FM, AM) _ _ _ _ dX7_mate_69 rfl hw hP hD hS
    · have hw := hw.2 c_16
      refine lv_aload_n hx hb dX7_mate_18 rfl (lv_at hl 0 rfl) ?_
      refine gz (q0 := 0) (v := .ref (gM 9)) fx hK hP fl_X7_19 rfl rfl dX7_mate_19 ?_
      refine lv_iload_n hx hb dX7_mate_22 rfl (lv_at hl 1 rfl) ?_
      obtain ⟨hz, hw⟩ := hw
      refine va_iald hx hb hK hP 4 0 rfl rfl hz dX7_mate_23 ?_
      refine lv_iconst (v := (1 : Int32)) hx hb dX7_mate_24 (by decide) ?_
      refine lv_isub hx hb dX7_mate_25 ?_
      refine lv_istore_n (lv' := [(2, .int (((AM 9) (ix x1)) - (1 : Int32))), (0, .ref oM), (1, .int x1)]) hx hb dX7_mate_26 rfl hl (by decide) rfl (fun ls hl => ?_)
      refine lv_iload_n hx hb dX7_mate_27 rfl (lv_at hl 0 rfl) ?_
      refine lv_if_lt (tgt := 56) hx hb dX7_mate_28 (by decide) (fun c_23 => ?_) (fun c_23 => ?_)
      · have hw := hw.1 c_23
        refine lv_bipush (v := (-4 : Int32)) hx hb dX7_mate_56 (by decide) ?_
        exact hret _ (FM, AM) _ _ _ _ dX7_mate_58 rfl hw hP hD hS
      · have hw := hw.2 c_23
        refine lv_aload_n hx hb dX7_mate_31 rfl (lv_at hl 1 rfl) ?_
        refine lv_iload_n hx hb dX7_mate_32 rfl (lv_at hl 2 rfl) ?_
        refine lv_iload_n hx hb dX7_mate_33 rfl (lv_at hl 0 rfl) ?_
        refine caRoV (rest := []) (As := [.int x1, .int (((AM 9) (ix x1)) - (1 : Int32))]) fx hK lk_X7_116 (c_X7_isWired l dC dI cA oM gM FM AM x1 (((AM 9) (ix x1)) - (1 : Int32)) _ hw) (hP.sub [0, 1, 2, 3, 4, 5, 6, 7, 8, 9, 10, 11, 12, 13] rfl) 0 rfl rfl ⟨(Nat.le_of_ble_eq_true rfl), (Nat.le_of_ble_eq_true rfl)⟩ rfl hl.1 rfl (Nat.le_of_ble_eq_true rfl) dX7_mate_34 ?_
        intro r_24 hw
        refine lv_if_eq (tgt := 56) hx hb dX7_mate_37 (by decide) (fun c_25 => ?_) (fun c_25 => ?_)
        · have hw := hw.1 c_25
          refine lv_bipush (v := (-4 : Int32)) hx hb dX7_mate_56 (by decide) ?_
          exact hret _ (FM, AM) _ _ _ _ dX7_mate_58 rfl hw hP hD hS
        · have hw := hw.2 c_25
          refine lv_aload_n hx hb dX7_mate_40 rfl (lv_at hl 1 rfl) ?_
          refine gz (q0 := 0) (v := .ref (gM 9)) fx hK hP fl_X7_19 rfl rfl dX7_mate_41 ?_
          refine lv_iload_n hx hb dX7_mate_44 rfl (lv_at hl 0 rfl) ?_
          obtain ⟨hz, hw⟩ := hw
          refine va_iald hx hb hK hP 4 0 rfl rfl hz dX7_mate_45 ?_
          refine lv_iload_n hx hb dX7_mate_46 rfl (lv_at hl 2 rfl) ?_
          refine lv_iconst (v := (1 : Int32)) hx hb dX7_mate_47 (by decide) ?_
          refine lv_iadd hx hb dX7_mate_48 ?_
          refine lv_icmp_ne (tgt := 56) hx hb dX7_mate_49 (by decide) (fun c_26 => ?_) (fun c_26 => ?_)
          · have hw := hw.1 c_26
            refine lv_bipush (v := (-4 : Int32)) hx hb dX7_mate_56 (by decide) ?_
            exact hret _ (FM, AM) _ _ _ _ dX7_mate_58 rfl hw hP hD hS
          · have hw := hw.2 c_26
            refine lv_iload_n hx hb dX7_mate_52 rfl (lv_at hl 0 rfl) ?_
            refine lv_goto (tgt := 58) hx hb dX7_mate_53 (by decide) ?_
            exact hret _ (FM, AM) _ _ _ _ dX7_mate_58 rfl hw hP hD hS
  · have hw := hw.2 c_15
    refine lv_iconst (v := (-1 : Int32)) hx hb dX7_mate_8 (by decide) ?_
    exact hret _ (FM, AM) _ _ _ _ dX7_mate_9 rfl hw hP hD hS
set_option maxHeartbeats 4000000 in
set_option maxRecDepth 100000 in
theorem c_X7_undo (l : Launch) (dC : Nat → ClassId) (dI : Nat → Nat → Nat) (cA : ClassId) (oM : Nat) (gM : Nat → Nat) (FM : Nat → Int32) (AM : Nat → Nat → Int32) (Post : Int32 → (Nat → Int32) → (Nat → Nat → Int32) → Prop) (hw : wp_X7_undo FM AM Post) : MuI (dC, dI) cA l yX7_undo cX7_undo 1 .int 2 45 [.ref oM] (mW oM gM cA FM AM) (fun r (u : (Nat → Int32) × (Nat → Nat → Int32)) => Post r (u.1) (u.2)) (fun u => (mW oM gM cA (u.1) (u.2))) := by
  refine enMu (by decide) (Nat.le_of_ble_eq_true rfl) ?_
  intro p e s m args below meth c Q ls A fx hK hP hD hS hA hret hl
  obtain ⟨hx, hb, hml, hown, hts⟩ := id fx
  have hl : lv_has ls 1 [(0, .ref oM)] := hl
  have hP : va_P (dC, dI) vwCl (mW oM gM cA FM AM) s.heap := hP
  refine lv_aload_n hx hb dX7_undo_0 rfl (lv_at hl 0 rfl) ?_
  refine gz (q0 := 0) (v := .int (FM 17)) fx hK hP fl_X7_68 rfl rfl dX7_undo_1 ?_
  refine lv_if_ne (tgt := 10) hx hb dX7_undo_4 (by decide) (fun c_5 => ?_) (fun c_5 => ?_)
  · have hw := hw.1 c_5
    refine lv_aload_n hx hb dX7_undo_10 rfl (lv_at hl 0 rfl) ?_
    refine lv_dup hx hb dX7_undo_11 rfl ?_
    refine gz (q0 := 0) (v := .int (FM 17)) fx hK hP fl_X7_68 rfl rfl dX7_undo_12 ?_
    refine lv_iconst (v := (1 : Int32)) hx hb dX7_undo_15 (by decide) ?_
    refine lv_isub hx hb dX7_undo_16 ?_
    refine pz (q0 := 0) (v := .int ((FM 17) - (1 : Int32))) fx hK hP hD hS fp_X7_68 rfl rfl rfl (Nat.le_of_ble_eq_true rfl) dX7_undo_17 (fun H locs hP hD hS => ?_)
    have hP : va_P (dC, dI) vwCl (mW oM gM cA (uF FM 17 ((FM 17) - (1 : Int32))) AM) H := hP
    have hD : va_D A (mW oM gM cA (uF FM 17 ((FM 17) - (1 : Int32))) AM) := hD
    refine lv_aload_n hx hb dX7_undo_20 rfl (lv_at hl 0 rfl) ?_
    refine lv_aload_n hx hb dX7_undo_21 rfl (lv_at hl 0 rfl) ?_
    refine gz (q0 := 0) (v := .ref (gM 18)) fx hK hP fl_X7_28 rfl rfl dX7_undo_22 ?_
    refine lv_aload_n hx hb dX7_undo_25 rfl (lv_at hl 0 rfl) ?_
    refine gz (q0 := 0) (v := .int ((FM 17) - (1 : Int32))) fx hK hP fl_X7_68 rfl rfl dX7_undo_26 ?_
    obtain ⟨hz, hw⟩ := hw
    refine va_iald hx hb hK hP 7 0 rfl rfl hz dX7_undo_29 ?_
    refine caMuVv (rest := []) (As := [.int ((AM 18) (ix ((FM 17) - (1 : Int32))))]) (w1 := ([] : va_W)) (w2 := ([] : va_W)) fx hK lk_X7_163 (c_X7_valuesOf l dC dI cA oM gM (uF FM 17 ((FM 17) - (1 : Int32))) AM ((AM 18) (ix ((FM 17) - (1 : Int32)))) _ hw) hP hD hS hA 0 rfl rfl ⟨(Nat.le_of_ble_eq_true rfl), (Nat.le_of_ble_eq_true rfl)⟩ rfl hl.1 rfl (Nat.le_of_ble_eq_true rfl) dX7_undo_30 ?_
    intro u_8 H locs hw hP hD hS
    obtain ⟨FM_6, AM_7⟩ := u_8
    have hP : va_P (dC, dI) vwCl (mW oM gM cA FM_6 AM_7) H := hP
    have hD : va_D A (mW oM gM cA FM_6 AM_7) := hD
    try dsimp only at hw
    refine lv_aload_n hx hb dX7_undo_33 rfl (lv_at hl 0 rfl) ?_
    refine lv_aload_n hx hb dX7_undo_34 rfl (lv_at hl 0 rfl) ?_
    refine gz (q0 := 0) (v := .ref (gM 19)) fx hK hP fl_X7_31 rfl rfl dX7_undo_35 ?_
    refine lv_aload_n hx hb dX7_undo_38 rfl (lv_at hl 0 rfl) ?_
    refine gz (q0 := 0) (v := .int (FM_6 17)) fx hK hP fl_X7_68 rfl rfl dX7_undo_39 ?_
    obtain ⟨hz, hw⟩ := hw
    refine va_iald hx hb hK hP 8 0 rfl rfl hz dX7_undo_42 ?_
    refine pz (q0 := 0) (v := .int ((AM_7 19) (ix (FM_6 17)))) fx hK hP hD hS fp_X7_65 rfl rfl rfl (Nat.le_of_ble_eq_true rfl) dX7_undo_43 (fun H locs hP hD hS => ?_)
    have hP : va_P (dC, dI) vwCl (mW oM gM cA (uF FM_6 10 ((AM_7 19) (ix (FM_6 17)))) AM_7) H := hP
    have hD : va_D A (mW oM gM cA (uF FM_6 10 ((AM_7 19) (ix (FM_6 17)))) AM_7) := hD
    refine lv_aload_n hx hb dX7_undo_46 rfl (lv_at hl 0 rfl) ?_
    refine gz (q0 := 0) (v := .int (FM_6 17)) fx hK hP fl_X7_68 rfl rfl dX7_undo_47 ?_
    exact hret _ ((uF FM_6 10 ((AM_7 19) (ix (FM_6 17)))), AM_7) _ _ _ _ dX7_undo_50 rfl hw hP hD hS
  · have hw := hw.2 c_5
    refine lv_bipush (v := (-2 : Int32)) hx hb dX7_undo_7 (by decide) ?_
    exact hret _ (FM, AM) _ _ _ _ dX7_undo_9 rfl hw hP hD hS
set_option maxHeartbeats 4000000 in
set_option maxRecDepth 100000 in
theorem c_X7_worstBehind (l : Launch) (dC : Nat → ClassId) (dI : Nat → Nat → Nat) (cA : ClassId) (oM : Nat) (gM : Nat → Nat) (FM : Nat → Int32) (AM : Nat → Nat → Int32) (Post : Int32 → (Nat → Int32) → (Nat → Nat → Int32) → Prop) (hw : wp_X7_worstBehind FM AM Post) : MuI (dC, dI) cA l yX7_worstBehind cX7_worstBehind 6 .int 4 89 [.ref oM] (mW oM gM cA FM AM) (fun r (u : (Nat → Int32) × (Nat → Nat → Int32)) => Post r (u.1) (u.2)) (fun u => (mW oM gM cA (u.1) (u.2))) := by
  refine enMu (by decide) (Nat.le_of_ble_eq_true rfl) ?_
  intro p e s m args below meth c Q ls A fx hK hP hD hS hA hret hl
  obtain ⟨hx, hb, hml, hown, hts⟩ := id fx
  have hl : lv_has ls 6 [(0, .ref oM)] := hl
  have hP : va_P (dC, dI) vwCl (mW oM gM cA FM AM) s.heap := hP
  have b_9 : ∀ (FM : Nat → Int32) (AM : Nat → Nat → Int32) (x1 : Int32) (x2 : Int32) (x3 : Int32) (H : Heap) (locs : List Loc) (ls : Array Slot), va_P (dC, dI) vwCl (mW oM gM cA FM AM) H → va_D A (mW oM gM cA FM AM) → va_S A s.heap H locs → lv_has ls 6 [(0, .ref oM), (1, .int x1), (2, .int x2), (3, .int x3)] → wp_X7_worstBehind_9 FM AM x1 x2 x3 Post → W p l e ({ frames := 4, cells := 0, slots := 0, locals := 89 } : Room) s m args below meth c H locs 0 0 Q (F0 m 9 ls []) := by
    intro FM AM x1 x2 x3 H locs ls hP hD hS hl hw
    refine Lp_go (C := fun (t : Int32 × Int32 × (Nat → Int32) × (Nat → Nat → Int32)) => ∀ (H : Heap) (locs : List Loc) (ls : Array Slot), va_P (dC, dI) vwCl (mW oM gM cA (t.2.2.1) (t.2.2.2)) H → va_D A (mW oM gM cA (t.2.2.1) (t.2.2.2)) → va_S A s.heap H locs → lv_has ls 6 [(0, .ref oM), (1, .int (t.1)), (2, .int x2), (3, .int (t.2.1))] → W p l e ({ frames := 4, cells := 0, slots := 0, locals := 89 } : Room) s m args below meth c H locs 0 0 Q (F0 m 9 ls [])) ?_ hw H locs ls hP hD hS hl
    intro k_9 hk_9 t
    obtain ⟨x1, x3, FM, AM⟩ := t
    intro hw H locs ls hP hD hS hl
    have hP : va_P (dC, dI) vwCl (mW oM gM cA FM AM) H := hP
    have hD : va_D A (mW oM gM cA FM AM) := hD
    have hl : lv_has ls 6 [(0, .ref oM), (1, .int x1), (2, .int x2), (3, .int x3)] := hl
    have hw : st_X7_worstBehind_9 x2 Post k_9 x1 x3 FM AM := hw
    have b_83 : ∀ (FM : Nat → Int32) (AM : Nat → Nat → Int32) (x3 : Int32) (t0 : Int32) (H : Heap) (locs : List Loc) (ls : Array Slot), va_P (dC, dI) vwCl (mW oM gM cA FM AM) H → va_D A (mW oM gM cA FM AM) → va_S A s.heap H locs → lv_has ls 6 [(0, .ref oM), (2, .int x2), (3, .int x3)] → wp_X7_worstBehind_83 FM AM x2 x3 t0 k_9 Post → W p l e ({ frames := 4, cells := 0, slots := 0, locals := 89 } : Room) s m args below meth c H locs 0 0 Q (F0 m 83 ls [.int t0]) := by
      intro FM AM x3 t0 H locs ls hP hD hS hl hw
      refine lv_istore_n (lv' := [(1, .int t0), (0, .ref oM), (2, .int x2), (3, .int x3)]) hx hb dX7_worstBehind_83 rfl hl (by decide) rfl (fun ls hl => ?_)
      refine lv_iinc (v := (x3 + 1)) (lv' := [(3, .int (x3 + 1)), (1, .int t0), (0, .ref oM), (2, .int x2)]) hx hb dX7_worstBehind_84 hl (k := 3) rfl rfl (by decide) rfl (fun ls hl => ?_)
      refine lv_goto (tgt := 9) hx hb dX7_worstBehind_87 (by decide) ?_
      exact hk_9 (t0, (x3 + 1), FM, AM) hw _ _ _ hP hD hS (lv_sub hl [2, 1, 3, 0] rfl)
    refine lv_iload_n hx hb dX7_worstBehind_9 rfl (lv_at hl 3 rfl) ?_
    refine lv_aload_n hx hb dX7_worstBehind_10 rfl (lv_at hl 0 rfl) ?_
    refine gz (q0 := 0) (v := .int (FM 3)) fx hK hP fl_X7_53 rfl rfl dX7_worstBehind_11 ?_
    refine lv_icmp_ge (tgt := 90) hx hb dX7_worstBehind_14 (by decide) (fun c_2 => ?_) (fun c_2 => ?_)
    · have hw := hw.1 c_2
      refine lv_iload_n hx hb dX7_worstBehind_90 rfl (lv_at hl 1 rfl) ?_
      exact hret _ (FM, AM) _ _ _ _ dX7_worstBehind_91 rfl hw hP hD hS
    · have hw := hw.2 c_2
      refine lv_aload_n hx hb dX7_worstBehind_17 rfl (lv_at hl 0 rfl) ?_
      refine lv_iload_n hx hb dX7_worstBehind_18 rfl (lv_at hl 3 rfl) ?_
      refine caMuV (rest := []) (As := [.int x3]) (w1 := ([] : va_W)) (w2 := ([] : va_W)) fx hK lk_X7_138 (c_X7_becomesOf l dC dI cA oM gM FM AM x3 _ hw) hP hD hS hA 0 rfl rfl ⟨(Nat.le_of_ble_eq_true rfl), (Nat.le_of_ble_eq_true rfl)⟩ rfl hl.1 rfl (Nat.le_of_ble_eq_true rfl) dX7_worstBehind_19 ?_
      intro r_6 u_5 H locs hw hP hD hS
      obtain ⟨FM_3, AM_4⟩ := u_5
      have hP : va_P (dC, dI) vwCl (mW oM gM cA FM_3 AM_4) H := hP
      have hD : va_D A (mW oM gM cA FM_3 AM_4) := hD
      try dsimp only at hw
      refine lv_istore (lv' := [(4, .int r_6), (0, .ref oM), (1, .int x1), (2, .int x2), (3, .int x3)]) hx hb dX7_worstBehind_22 hl (by decide) rfl (fun ls hl => ?_)
      refine lv_iload hx hb dX7_worstBehind_24 (lv_at hl 0 rfl) ?_
      refine lv_if_lt (tgt := 84) hx hb dX7_worstBehind_26 (by decide) (fun c_7 => ?_) (fun c_7 => ?_)
      · have hw := hw.1 c_7
        refine lv_iinc (v := (x3 + 1)) (lv' := [(3, .int (x3 + 1)), (4, .int r_6), (0, .ref oM), (1, .int x1), (2, .int x2)]) hx hb dX7_worstBehind_84 hl (k := 4) rfl rfl (by decide) rfl (fun ls hl => ?_)
        refine lv_goto (tgt := 9) hx hb dX7_worstBehind_87 (by decide) ?_
        exact hk_9 (x1, (x3 + 1), FM_3, AM_4) hw _ _ _ hP hD hS (lv_sub hl [2, 3, 4, 0] rfl)
      · have hw := hw.2 c_7
        refine lv_iload_n hx hb dX7_worstBehind_29 rfl (lv_at hl 3 rfl) ?_
        refine lv_iload hx hb dX7_worstBehind_30 (lv_at hl 0 rfl) ?_
        refine lv_aload_n hx hb dX7_worstBehind_32 rfl (lv_at hl 1 rfl) ?_
        refine gz (q0 := 0) (v := .ref (gM 24)) fx hK hP fl_X7_43 rfl rfl dX7_worstBehind_33 ?_
        refine lv_iload_n hx hb dX7_worstBehind_36 rfl (lv_at hl 4 rfl) ?_
        obtain ⟨hz, hw⟩ := hw
        refine va_iald hx hb hK hP 12 0 rfl rfl hz dX7_worstBehind_37 ?_
        refine lv_isub hx hb dX7_worstBehind_38 ?_
        refine lv_aload_n hx hb dX7_worstBehind_39 rfl (lv_at hl 1 rfl) ?_
        refine gz (q0 := 0) (v := .ref (gM 8)) fx hK hP fl_X7_16 rfl rfl dX7_worstBehind_40 ?_
        refine lv_iload_n hx hb dX7_worstBehind_43 rfl (lv_at hl 4 rfl) ?_
        obtain ⟨hz, hw⟩ := hw
        refine va_iald hx hb hK hP 3 0 rfl rfl hz dX7_worstBehind_44 ?_
        refine lv_imul hx hb dX7_worstBehind_45 ?_
        refine lv_iadd hx hb dX7_worstBehind_46 ?_
        refine lv_istore (lv' := [(5, .int (x2 + ((r_6 - ((AM_4 24) (ix x3))) * ((AM_4 8) (ix x3))))), (4, .int r_6), (0, .ref oM), (1, .int x1), (2, .int x2), (3, .int x3)]) hx hb dX7_worstBehind_47 hl (by decide) rfl (fun ls hl => ?_)
        refine lv_aload_n hx hb dX7_worstBehind_49 rfl (lv_at hl 2 rfl) ?_
        refine gz (q0 := 0) (v := .ref (gM 20)) fx hK hP fl_X7_34 rfl rfl dX7_worstBehind_50 ?_
        refine lv_iload hx hb dX7_worstBehind_53 (lv_at hl 0 rfl) ?_
        obtain ⟨hz, hw⟩ := hw
        refine va_iald hx hb hK hP 9 0 rfl rfl hz dX7_worstBehind_55 ?_
        refine lv_if_ge (tgt := 61) hx hb dX7_worstBehind_56 (by decide) (fun c_8 => ?_) (fun c_8 => ?_)
        · have hw := hw.1 c_8
          refine lv_aload_n hx hb dX7_worstBehind_61 rfl (lv_at hl 2 rfl) ?_
          refine gz (q0 := 0) (v := .ref (gM 20)) fx hK hP fl_X7_34 rfl rfl dX7_worstBehind_62 ?_
          refine lv_iload hx hb dX7_worstBehind_65 (lv_at hl 0 rfl) ?_
          obtain ⟨hz, hw⟩ := hw
          refine va_iald hx hb hK hP 9 0 rfl rfl hz dX7_worstBehind_67 ?_
          refine lv_iload_n hx hb dX7_worstBehind_68 rfl (lv_at hl 3 rfl) ?_
          refine lv_icmp_le (tgt := 82) hx hb dX7_worstBehind_69 (by decide) (fun c_9 => ?_) (fun c_9 => ?_)
          · have hw := hw.1 c_9
            refine lv_iload_n hx hb dX7_worstBehind_82 rfl (lv_at hl 3 rfl) ?_
            exact b_83 FM_3 AM_4 x3 x1 _ _ _ hP hD hS (lv_sub hl [2, 4, 5] rfl) hw
          · have hw := hw.2 c_9
            refine lv_aload_n hx hb dX7_worstBehind_72 rfl (lv_at hl 2 rfl) ?_
            refine gz (q0 := 0) (v := .ref (gM 20)) fx hK hP fl_X7_34 rfl rfl dX7_worstBehind_73 ?_
            refine lv_iload hx hb dX7_worstBehind_76 (lv_at hl 0 rfl) ?_
            obtain ⟨hz, hw⟩ := hw
            refine va_iald hx hb hK hP 9 0 rfl rfl hz dX7_worstBehind_78 ?_
            refine lv_goto (tgt := 83) hx hb dX7_worstBehind_79 (by decide) ?_
            exact b_83 FM_3 AM_4 x3 ((AM_4 20) (ix (x2 + ((r_6 - ((AM_4 24) (ix x3))) * ((AM_4 8) (ix x3)))))) _ _ _ hP hD hS (lv_sub hl [2, 4, 5] rfl) hw
        · have hw := hw.2 c_8
          refine lv_iconst (v := (-1 : Int32)) hx hb dX7_worstBehind_59 (by decide) ?_
          exact hret _ (FM_3, AM_4) _ _ _ _ dX7_worstBehind_60 rfl hw hP hD hS
  refine lv_iconst (v := (-1 : Int32)) hx hb dX7_worstBehind_0 (by decide) ?_
  refine lv_istore_n (lv' := [(1, .int (-1 : Int32)), (0, .ref oM)]) hx hb dX7_worstBehind_1 rfl hl (by decide) rfl (fun ls hl => ?_)
  refine lv_aload_n hx hb dX7_worstBehind_2 rfl (lv_at hl 1 rfl) ?_
  refine caRoV (rest := []) (As := []) fx hK lk_X7_154 (c_X7_codeOf l dC dI cA oM gM FM AM _ hw) (hP.sub [0, 1, 2, 3, 4, 5, 6, 7, 8, 9, 10, 11, 12, 13] rfl) 0 rfl rfl ⟨(Nat.le_of_ble_eq_true rfl), (Nat.le_of_ble_eq_true rfl)⟩ rfl hl.1 rfl (Nat.le_of_ble_eq_true rfl) dX7_worstBehind_3 ?_
  intro r_10 hw
  refine lv_istore_n (lv' := [(2, .int r_10), (1, .int (-1 : Int32)), (0, .ref oM)]) hx hb dX7_worstBehind_6 rfl hl (by decide) rfl (fun ls hl => ?_)
  refine lv_iconst (v := (0 : Int32)) hx hb dX7_worstBehind_7 (by decide) ?_
  refine lv_istore_n (lv' := [(3, .int (0 : Int32)), (2, .int r_10), (1, .int (-1 : Int32)), (0, .ref oM)]) hx hb dX7_worstBehind_8 rfl hl (by decide) rfl (fun ls hl => ?_)
  exact b_9 FM AM (-1 : Int32) r_10 (0 : Int32) _ _ _ hP hD hS (lv_sub hl [3, 2, 1, 0] rfl) hw
set_option maxHeartbeats 4000000 in
set_option maxRecDepth 100000 in
theorem c_X7_worsts (l : Launch) (dC : Nat → ClassId) (dI : Nat → Nat → Nat) (cA : ClassId) (oM : Nat) (gM : Nat → Nat) (FM : Nat → Int32) (AM : Nat → Nat → Int32) (Post : (Nat → Int32) → (Nat → Nat → Int32) → Prop) (hw : wp_X7_worsts FM AM Post) : MuV (dC, dI) cA l yX7_worsts cX7_worsts 4 6 132 [.ref oM] (mW oM gM cA FM AM) (fun (u : (Nat → Int32) × (Nat → Nat → Int32)) => Post (u.1) (u.2)) (fun u => (mW oM gM cA (u.1) (u.2))) := by
  refine enMv (by decide) (Nat.le_of_ble_eq_true rfl) ?_
  intro p e s m args below meth c Q ls A fx hK hP hD hS hA hret hl
  obtain ⟨hx, hb, hml, hown, hts⟩ := id fx
  have hl : lv_has ls 4 [(0, .ref oM)] := hl
  have hP : va_P (dC, dI) vwCl (mW oM gM cA FM AM) s.heap := hP
  have b_42 : ∀ (FM : Nat → Int32) (AM : Nat → Nat → Int32) (x1 : Int32) (H : Heap) (locs : List Loc) (ls : Array Slot), va_P (dC, dI) vwCl (mW oM gM cA FM AM) H → va_D A (mW oM gM cA FM AM) → va_S A s.heap H locs → lv_has ls 4 [(0, .ref oM), (1, .int x1)] → wp_X7_worsts_42 FM AM x1 Post → W p l e ({ frames := 6, cells := 0, slots := 0, locals := 132 } : Room) s m args below meth c H locs 0 0 Q (F0 m 42 ls []) := by
    intro FM AM x1 H locs ls hP hD hS hl hw
    refine Lp_go (C := fun (t : Int32 × (Nat → Int32) × (Nat → Nat → Int32)) => ∀ (H : Heap) (locs : List Loc) (ls : Array Slot), va_P (dC, dI) vwCl (mW oM gM cA (t.2.1) (t.2.2)) H → va_D A (mW oM gM cA (t.2.1) (t.2.2)) → va_S A s.heap H locs → lv_has ls 4 [(0, .ref oM), (1, .int (t.1))] → W p l e ({ frames := 6, cells := 0, slots := 0, locals := 132 } : Room) s m args below meth c H locs 0 0 Q (F0 m 42 ls [])) ?_ hw H locs ls hP hD hS hl
    intro k_42 hk_42 t
    obtain ⟨x1, FM, AM⟩ := t
    intro hw H locs ls hP hD hS hl
    have hP : va_P (dC, dI) vwCl (mW oM gM cA FM AM) H := hP
    have hD : va_D A (mW oM gM cA FM AM) := hD
    have hl : lv_has ls 4 [(0, .ref oM), (1, .int x1)] := hl
    have hw : st_X7_worsts_42 Post k_42 x1 FM AM := hw
    have b_50 : ∀ (FM : Nat → Int32) (AM : Nat → Nat → Int32) (x1 : Int32) (x2 : Int32) (H : Heap) (locs : List Loc) (ls : Array Slot), va_P (dC, dI) vwCl (mW oM gM cA FM AM) H → va_D A (mW oM gM cA FM AM) → va_S A s.heap H locs → lv_has ls 4 [(0, .ref oM), (1, .int x1), (2, .int x2)] → wp_X7_worsts_50 FM AM x1 x2 k_42 Post → W p l e ({ frames := 6, cells := 0, slots := 0, locals := 132 } : Room) s m args below meth c H locs 0 0 Q (F0 m 50 ls []) := by
      intro FM AM x1 x2 H locs ls hP hD hS hl hw
      refine Lp_go (C := fun (t : Int32 × Int32 × (Nat → Int32) × (Nat → Nat → Int32)) => ∀ (H : Heap) (locs : List Loc) (ls : Array Slot), va_P (dC, dI) vwCl (mW oM gM cA (t.2.2.1) (t.2.2.2)) H → va_D A (mW oM gM cA (t.2.2.1) (t.2.2.2)) → va_S A s.heap H locs → lv_has ls 4 [(0, .ref oM), (1, .int (t.1)), (2, .int (t.2.1))] → W p l e ({ frames := 6, cells := 0, slots := 0, locals := 132 } : Room) s m args below meth c H locs 0 0 Q (F0 m 50 ls [])) ?_ hw H locs ls hP hD hS hl
      intro k_50 hk_50 t
      obtain ⟨x1, x2, FM, AM⟩ := t
      intro hw H locs ls hP hD hS hl
      have hP : va_P (dC, dI) vwCl (mW oM gM cA FM AM) H := hP
      have hD : va_D A (mW oM gM cA FM AM) := hD
      have hl : lv_has ls 4 [(0, .ref oM), (1, .int x1), (2, .int x2)] := hl
      have hw : st_X7_worsts_50 k_42 Post k_50 x1 x2 FM AM := hw
      refine lv_iload_n hx hb dX7_worsts_50 rfl (lv_at hl 2 rfl) ?_
      refine lv_aload_n hx hb dX7_worsts_51 rfl (lv_at hl 0 rfl) ?_
      refine gz (q0 := 0) (v := .int (FM 5)) fx hK hP fl_X7_62 rfl rfl dX7_worsts_52 ?_
      refine lv_icmp_ge (tgt := 98) hx hb dX7_worsts_55 (by decide) (fun c_1 => ?_) (fun c_1 => ?_)
      · have hw := hw.1 c_1
        refine lv_goto (tgt := 42) hx hb dX7_worsts_98 (by decide) ?_
        exact hk_42 (x1, FM, AM) hw _ _ _ hP hD hS (lv_sub hl [0, 1] rfl)
      · have hw := hw.2 c_1
        refine lv_aload_n hx hb dX7_worsts_58 rfl (lv_at hl 0 rfl) ?_
        refine gz (q0 := 0) (v := .ref (gM 20)) fx hK hP fl_X7_34 rfl rfl dX7_worsts_59 ?_
        refine lv_iload_n hx hb dX7_worsts_62 rfl (lv_at hl 2 rfl) ?_
        obtain ⟨hz, hw⟩ := hw
        refine va_iald hx hb hK hP 9 0 rfl rfl hz dX7_worsts_63 ?_
        refine lv_if_ge (tgt := 92) hx hb dX7_worsts_64 (by decide) (fun c_2 => ?_) (fun c_2 => ?_)
        · have hw := hw.1 c_2
          refine lv_iinc (v := (x2 + 1)) (lv' := [(2, .int (x2 + 1)), (0, .ref oM), (1, .int x1)]) hx hb dX7_worsts_92 hl (k := 2) rfl rfl (by decide) rfl (fun ls hl => ?_)
          refine lv_goto (tgt := 50) hx hb dX7_worsts_95 (by decide) ?_
          exact hk_50 (x1, (x2 + 1), FM, AM) hw _ _ _ hP hD hS (lv_sub hl [1, 2, 0] rfl)
        · have hw := hw.2 c_2
          refine lv_aload_n hx hb dX7_worsts_67 rfl (lv_at hl 0 rfl) ?_
          refine lv_iload_n hx hb dX7_worsts_68 rfl (lv_at hl 2 rfl) ?_
          refine caMuVv (rest := []) (As := [.int x2]) (w1 := ([] : va_W)) (w2 := ([] : va_W)) fx hK lk_X7_144 (c_X7_rowOf l dC dI cA oM gM FM AM x2 _ hw) hP hD hS hA 0 rfl rfl ⟨(Nat.le_of_ble_eq_true rfl), (Nat.le_of_ble_eq_true rfl)⟩ rfl hl.1 rfl (Nat.le_of_ble_eq_true rfl) dX7_worsts_69 ?_
          intro u_5 H locs hw hP hD hS
          obtain ⟨FM_3, AM_4⟩ := u_5
          have hP : va_P (dC, dI) vwCl (mW oM gM cA FM_3 AM_4) H := hP
          have hD : va_D A (mW oM gM cA FM_3 AM_4) := hD
          try dsimp only at hw
          refine lv_aload_n hx hb dX7_worsts_72 rfl (lv_at hl 0 rfl) ?_
          refine caMuV (rest := []) (As := []) (w1 := ([] : va_W)) (w2 := ([] : va_W)) fx hK lk_X7_170 (c_X7_worstBehind l dC dI cA oM gM FM_3 AM_4 _ hw) hP hD hS hA 0 rfl rfl ⟨(Nat.le_of_ble_eq_true rfl), (Nat.le_of_ble_eq_true rfl)⟩ rfl hl.1 rfl (Nat.le_of_ble_eq_true rfl) dX7_worsts_73 ?_
          intro r_9 u_8 H locs hw hP hD hS
          obtain ⟨FM_6, AM_7⟩ := u_8
          have hP : va_P (dC, dI) vwCl (mW oM gM cA FM_6 AM_7) H := hP
          have hD : va_D A (mW oM gM cA FM_6 AM_7) := hD
          try dsimp only at hw
          refine lv_istore_n (lv' := [(3, .int r_9), (0, .ref oM), (1, .int x1), (2, .int x2)]) hx hb dX7_worsts_76 rfl hl (by decide) rfl (fun ls hl => ?_)
          refine lv_iload_n hx hb dX7_worsts_77 rfl (lv_at hl 0 rfl) ?_
          refine lv_if_lt (tgt := 92) hx hb dX7_worsts_78 (by decide) (fun c_10 => ?_) (fun c_10 => ?_)
          · have hw := hw.1 c_10
            refine lv_iinc (v := (x2 + 1)) (lv' := [(2, .int (x2 + 1)), (3, .int r_9), (0, .ref oM), (1, .int x1)]) hx hb dX7_worsts_92 hl (k := 3) rfl rfl (by decide) rfl (fun ls hl => ?_)
            refine lv_goto (tgt := 50) hx hb dX7_worsts_95 (by decide) ?_
            exact hk_50 (x1, (x2 + 1), FM_6, AM_7) hw _ _ _ hP hD hS (lv_sub hl [2, 3, 0] rfl)
          · have hw := hw.2 c_10
            refine lv_aload_n hx hb dX7_worsts_81 rfl (lv_at hl 1 rfl) ?_
            refine gz (q0 := 0) (v := .ref (gM 20)) fx hK hP fl_X7_34 rfl rfl dX7_worsts_82 ?_
            refine lv_iload_n hx hb dX7_worsts_85 rfl (lv_at hl 3 rfl) ?_
            refine lv_iload_n hx hb dX7_worsts_86 rfl (lv_at hl 0 rfl) ?_
            refine lv_iconst (v := (1 : Int32)) hx hb dX7_worsts_87 (by decide) ?_
            refine lv_iadd hx hb dX7_worsts_88 ?_
            obtain ⟨hz, hw⟩ := hw
            refine az hx hb hK hP hD hS 9 rfl hz dX7_worsts_89 ?_
            intro g_11 H locs e_12 hP hD hS
            have hw := hw g_11 e_12
            have hP : va_P (dC, dI) vwCl (mW oM gM cA FM_6 (uA AM_7 20 g_11)) H := hP
            have hD : va_D A (mW oM gM cA FM_6 (uA AM_7 20 g_11)) := hD
            refine lv_iconst (v := (1 : Int32)) hx hb dX7_worsts_90 (by decide) ?_
            refine lv_istore_n (lv' := [(1, .int (1 : Int32)), (3, .int r_9), (0, .ref oM), (2, .int x2)]) hx hb dX7_worsts_91 rfl hl (by decide) rfl (fun ls hl => ?_)
            refine lv_iinc (v := (x2 + 1)) (lv' := [(2, .int (x2 + 1)), (1, .int (1 : Int32)), (3, .int r_9), (0, .ref oM)]) hx hb dX7_worsts_92 hl (k := 3) rfl rfl (by decide) rfl (fun ls hl => ?_)
            refine lv_goto (tgt := 50) hx hb dX7_worsts_95 (by decide) ?_
            exact hk_50 ((1 : Int32), (x2 + 1), FM_6, (uA AM_7 20 g_11)) hw _ _ _ hP hD hS (lv_sub hl [3, 1, 0] rfl)
    refine lv_iload_n hx hb dX7_worsts_42 rfl (lv_at hl 1 rfl) ?_
    refine lv_if_eq (tgt := 101) hx hb dX7_worsts_43 (by decide) (fun c_13 => ?_) (fun c_13 => ?_)
    · have hw := hw.1 c_13
      exact hret (FM, AM) _ _ _ _ dX7_worsts_101 hw hP hD hS
    · have hw := hw.2 c_13
      refine lv_iconst (v := (0 : Int32)) hx hb dX7_worsts_46 (by decide) ?_
      refine lv_istore_n (lv' := [(1, .int (0 : Int32)), (0, .ref oM)]) hx hb dX7_worsts_47 rfl hl (by decide) rfl (fun ls hl => ?_)
      refine lv_iconst (v := (0 : Int32)) hx hb dX7_worsts_48 (by decide) ?_
      refine lv_istore_n (lv' := [(2, .int (0 : Int32)), (1, .int (0 : Int32)), (0, .ref oM)]) hx hb dX7_worsts_49 rfl hl (by decide) rfl (fun ls hl => ?_)
      exact b_50 FM AM (0 : Int32) (0 : Int32) _ _ _ hP hD hS (lv_sub hl [2, 1, 0] rfl) hw
  have b_2 : ∀ (FM : Nat → Int32) (AM : Nat → Nat → Int32) (x1 : Int32) (H : Heap) (locs : List Loc) (ls : Array Slot), va_P (dC, dI) vwCl (mW oM gM cA FM AM) H → va_D A (mW oM gM cA FM AM) → va_S A s.heap H locs → lv_has ls 4 [(0, .ref oM), (1, .int x1)] → wp_X7_worsts_2 FM AM x1 Post → W p l e ({ frames := 6, cells := 0, slots := 0, locals := 132 } : Room) s m args below meth c H locs 0 0 Q (F0 m 2 ls []) := by
    intro FM AM x1 H locs ls hP hD hS hl hw
    refine Lp_go (C := fun (t : Int32 × (Nat → Int32) × (Nat → Nat → Int32)) => ∀ (H : Heap) (locs : List Loc) (ls : Array Slot), va_P (dC, dI) vwCl (mW oM gM cA (t.2.1) (t.2.2)) H → va_D A (mW oM gM cA (t.2.1) (t.2.2)) → va_S A s.heap H locs → lv_has ls 4 [(0, .ref oM), (1, .int (t.1))] → W p l e ({ frames := 6, cells := 0, slots := 0, locals := 132 } : Room) s m args below meth c H locs 0 0 Q (F0 m 2 ls [])) ?_ hw H locs ls hP hD hS hl
    intro k_2 hk_2 t
    obtain ⟨x1, FM, AM⟩ := t
    intro hw H locs ls hP hD hS hl
    have hP : va_P (dC, dI) vwCl (mW oM gM cA FM AM) H := hP
    have hD : va_D A (mW oM gM cA FM AM) := hD
    have hl : lv_has ls 4 [(0, .ref oM), (1, .int x1)] := hl
    have hw : st_X7_worsts_2 Post k_2 x1 FM AM := hw
    have b_33 : ∀ (FM : Nat → Int32) (AM : Nat → Nat → Int32) (x1 : Int32) (t1 : Int32) (t2 : Int32) (H : Heap) (locs : List Loc) (ls : Array Slot), va_P (dC, dI) vwCl (mW oM gM cA FM AM) H → va_D A (mW oM gM cA FM AM) → va_S A s.heap H locs → lv_has ls 4 [(0, .ref oM), (1, .int x1)] → wp_X7_worsts_33 FM AM x1 t1 t2 k_2 Post → W p l e ({ frames := 6, cells := 0, slots := 0, locals := 132 } : Room) s m args below meth c H locs 0 0 Q (F0 m 33 ls [.int t2, .int t1, .ref (gM 20)]) := by
      intro FM AM x1 t1 t2 H locs ls hP hD hS hl hw
      obtain ⟨hz, hw⟩ := hw
      refine az hx hb hK hP hD hS 9 rfl hz dX7_worsts_33 ?_
      intro g_14 H locs e_15 hP hD hS
      have hw := hw g_14 e_15
      have hP : va_P (dC, dI) vwCl (mW oM gM cA FM (uA AM 20 g_14)) H := hP
      have hD : va_D A (mW oM gM cA FM (uA AM 20 g_14)) := hD
      refine lv_iinc (v := (x1 + 1)) (lv' := [(1, .int (x1 + 1)), (0, .ref oM)]) hx hb dX7_worsts_34 hl (k := 1) rfl rfl (by decide) rfl (fun ls hl => ?_)
      refine lv_goto (tgt := 2) hx hb dX7_worsts_37 (by decide) ?_
      exact hk_2 ((x1 + 1), FM, (uA AM 20 g_14)) hw _ _ _ hP hD hS (lv_sub hl [1, 0] rfl)
    refine lv_iload_n hx hb dX7_worsts_2 rfl (lv_at hl 1 rfl) ?_
    refine lv_aload_n hx hb dX7_worsts_3 rfl (lv_at hl 0 rfl) ?_
    refine gz (q0 := 0) (v := .int (FM 5)) fx hK hP fl_X7_62 rfl rfl dX7_worsts_4 ?_
    refine lv_icmp_ge (tgt := 40) hx hb dX7_worsts_7 (by decide) (fun c_16 => ?_) (fun c_16 => ?_)
    · have hw := hw.1 c_16
      refine lv_iconst (v := (1 : Int32)) hx hb dX7_worsts_40 (by decide) ?_
      refine lv_istore_n (lv' := [(1, .int (1 : Int32)), (0, .ref oM)]) hx hb dX7_worsts_41 rfl hl (by decide) rfl (fun ls hl => ?_)
      exact b_42 FM AM (1 : Int32) _ _ _ hP hD hS (lv_sub hl [1, 0] rfl) hw
    · have hw := hw.2 c_16
      refine lv_aload_n hx hb dX7_worsts_10 rfl (lv_at hl 0 rfl) ?_
      refine lv_iload_n hx hb dX7_worsts_11 rfl (lv_at hl 1 rfl) ?_
      refine caMuVv (rest := []) (As := [.int x1]) (w1 := ([] : va_W)) (w2 := ([] : va_W)) fx hK lk_X7_144 (c_X7_rowOf l dC dI cA oM gM FM AM x1 _ hw) hP hD hS hA 0 rfl rfl ⟨(Nat.le_of_ble_eq_true rfl), (Nat.le_of_ble_eq_true rfl)⟩ rfl hl.1 rfl (Nat.le_of_ble_eq_true rfl) dX7_worsts_12 ?_
      intro u_19 H locs hw hP hD hS
      obtain ⟨FM_17, AM_18⟩ := u_19
      have hP : va_P (dC, dI) vwCl (mW oM gM cA FM_17 AM_18) H := hP
      have hD : va_D A (mW oM gM cA FM_17 AM_18) := hD
      try dsimp only at hw
      refine lv_aload_n hx hb dX7_worsts_15 rfl (lv_at hl 0 rfl) ?_
      refine gz (q0 := 0) (v := .ref (gM 20)) fx hK hP fl_X7_34 rfl rfl dX7_worsts_16 ?_
      refine lv_iload_n hx hb dX7_worsts_19 rfl (lv_at hl 1 rfl) ?_
      refine lv_aload_n hx hb dX7_worsts_20 rfl (lv_at hl 0 rfl) ?_
      refine caMuV (rest := [.int x1, .ref (gM 20)]) (As := []) (w1 := ([] : va_W)) (w2 := ([] : va_W)) fx hK lk_X7_166 (c_X7_isLegal l dC dI cA oM gM FM_17 AM_18 _ hw) hP hD hS hA 0 rfl rfl ⟨(Nat.le_of_ble_eq_true rfl), (Nat.le_of_ble_eq_true rfl)⟩ rfl hl.1 rfl (Nat.le_of_ble_eq_true rfl) dX7_worsts_21 ?_
      intro r_23 u_22 H locs hw hP hD hS
      obtain ⟨FM_20, AM_21⟩ := u_22
      have hP : va_P (dC, dI) vwCl (mW oM gM cA FM_20 AM_21) H := hP
      have hD : va_D A (mW oM gM cA FM_20 AM_21) := hD
      try dsimp only at hw
      refine lv_if_eq (tgt := 31) hx hb dX7_worsts_24 (by decide) (fun c_24 => ?_) (fun c_24 => ?_)
      · have hw := hw.1 c_24
        refine lv_bipush (v := (-5 : Int32)) hx hb dX7_worsts_31 (by decide) ?_
        exact b_33 FM_20 AM_21 x1 x1 (-5 : Int32) _ _ _ hP hD hS (lv_sub hl [0, 1] rfl) hw
      · have hw := hw.2 c_24
        refine lv_iconst (v := (0 : Int32)) hx hb dX7_worsts_27 (by decide) ?_
        refine lv_goto (tgt := 33) hx hb dX7_worsts_28 (by decide) ?_
        exact b_33 FM_20 AM_21 x1 x1 (0 : Int32) _ _ _ hP hD hS (lv_sub hl [0, 1] rfl) hw
  refine lv_iconst (v := (0 : Int32)) hx hb dX7_worsts_0 (by decide) ?_
  refine lv_istore_n (lv' := [(1, .int (0 : Int32)), (0, .ref oM)]) hx hb dX7_worsts_1 rfl hl (by decide) rfl (fun ls hl => ?_)
  exact b_2 FM AM (0 : Int32) _ _ _ hP hD hS (lv_sub hl [1, 0] rfl) hw
set_option maxHeartbeats 4000000 in
set_option maxRecDepth 100000 in
theorem c_X7_leadsTo (l : Launch) (dC : Nat → ClassId) (dI : Nat → Nat → Nat) (cA : ClassId) (oM : Nat) (gM : Nat → Nat) (FM : Nat → Int32) (AM : Nat → Nat → Int32) (x1 : Int32) (x2 : Int32) (Post : Int32 → (Nat → Int32) → (Nat → Nat → Int32) → Prop) (hw : wp_X7_leadsTo FM AM x1 x2 Post) : MuI (dC, dI) cA l yX7_leadsTo cX7_leadsTo 5 .boolean 4 89 [.ref oM, .int x1, .int x2] (mW oM gM cA FM AM) (fun r (u : (Nat → Int32) × (Nat → Nat → Int32)) => Post r (u.1) (u.2)) (fun u => (mW oM gM cA (u.1) (u.2))) := by
  refine enMu (by decide) (Nat.le_of_ble_eq_true rfl) ?_
  intro p e s m args below meth c Q ls A fx hK hP hD hS hA hret hl
  obtain ⟨hx, hb, hml, hown, hts⟩ := id fx
  have hl : lv_has ls 5 [(0, .ref oM), (1, .int x1), (2, .int x2)] := hl
  have hP : va_P (dC, dI) vwCl (mW oM gM cA FM AM) s.heap := hP
  have b_7 : ∀ (FM : Nat → Int32) (AM : Nat → Nat → Int32) (x3 : Int32) (H : Heap) (locs : List Loc) (ls : Array Slot), va_P (dC, dI) vwCl (mW oM gM cA FM AM) H → va_D A (mW oM gM cA FM AM) → va_S A s.heap H locs → lv_has ls 5 [(0, .ref oM), (1, .int x1), (2, .int x2), (3, .int x3)] → wp_X7_leadsTo_7 FM AM x1 x2 x3 Post → W p l e ({ frames := 4, cells := 0, slots := 0, locals := 89 } : Room) s m args below meth c H locs 0 0 Q (F0 m 7 ls []) := by
    intro FM AM x3 H locs ls hP hD hS hl hw
    refine Lp_go (C := fun (t : Int32 × (Nat → Int32) × (Nat → Nat → Int32)) => ∀ (H : Heap) (locs : List Loc) (ls : Array Slot), va_P (dC, dI) vwCl (mW oM gM cA (t.2.1) (t.2.2)) H → va_D A (mW oM gM cA (t.2.1) (t.2.2)) → va_S A s.heap H locs → lv_has ls 5 [(0, .ref oM), (1, .int x1), (2, .int x2), (3, .int (t.1))] → W p l e ({ frames := 4, cells := 0, slots := 0, locals := 89 } : Room) s m args below meth c H locs 0 0 Q (F0 m 7 ls [])) ?_ hw H locs ls hP hD hS hl
    intro k_7 hk_7 t
    obtain ⟨x3, FM, AM⟩ := t
    intro hw H locs ls hP hD hS hl
    have hP : va_P (dC, dI) vwCl (mW oM gM cA FM AM) H := hP
    have hD : va_D A (mW oM gM cA FM AM) := hD
    have hl : lv_has ls 5 [(0, .ref oM), (1, .int x1), (2, .int x2), (3, .int x3)] := hl
    have hw : st_X7_leadsTo_7 x1 x2 Post k_7 x3 FM AM := hw
    refine lv_iload_n hx hb dX7_leadsTo_7 rfl (lv_at hl 3 rfl) ?_
    refine lv_aload_n hx hb dX7_leadsTo_8 rfl (lv_at hl 0 rfl) ?_
    refine gz (q0 := 0) (v := .int (FM 3)) fx hK hP fl_X7_53 rfl rfl dX7_leadsTo_9 ?_
    refine lv_icmp_ge (tgt := 62) hx hb dX7_leadsTo_12 (by decide) (fun c_4 => ?_) (fun c_4 => ?_)
    · have hw := hw.1 c_4
      refine lv_iconst (v := (0 : Int32)) hx hb dX7_leadsTo_62 (by decide) ?_
      exact hret _ (FM, AM) _ _ _ _ dX7_leadsTo_63 rfl hw hP hD hS
    · have hw := hw.2 c_4
      refine lv_aload_n hx hb dX7_leadsTo_15 rfl (lv_at hl 0 rfl) ?_
      refine lv_iload_n hx hb dX7_leadsTo_16 rfl (lv_at hl 3 rfl) ?_
      refine caMuV (rest := []) (As := [.int x3]) (w1 := ([] : va_W)) (w2 := ([] : va_W)) fx hK lk_X7_138 (c_X7_becomesOf l dC dI cA oM gM FM AM x3 _ hw) hP hD hS hA 0 rfl rfl ⟨(Nat.le_of_ble_eq_true rfl), (Nat.le_of_ble_eq_true rfl)⟩ rfl hl.1 rfl (Nat.le_of_ble_eq_true rfl) dX7_leadsTo_17 ?_
      intro r_8 u_7 H locs hw hP hD hS
      obtain ⟨FM_5, AM_6⟩ := u_7
      have hP : va_P (dC, dI) vwCl (mW oM gM cA FM_5 AM_6) H := hP
      have hD : va_D A (mW oM gM cA FM_5 AM_6) := hD
      try dsimp only at hw
      refine lv_istore (lv' := [(4, .int r_8), (0, .ref oM), (1, .int x1), (2, .int x2), (3, .int x3)]) hx hb dX7_leadsTo_20 hl (by decide) rfl (fun ls hl => ?_)
      refine lv_iload hx hb dX7_leadsTo_22 (lv_at hl 0 rfl) ?_
      refine lv_if_lt (tgt := 56) hx hb dX7_leadsTo_24 (by decide) (fun c_9 => ?_) (fun c_9 => ?_)
      · have hw := hw.1 c_9
        refine lv_iinc (v := (x3 + 1)) (lv' := [(3, .int (x3 + 1)), (4, .int r_8), (0, .ref oM), (1, .int x1), (2, .int x2)]) hx hb dX7_leadsTo_56 hl (k := 4) rfl rfl (by decide) rfl (fun ls hl => ?_)
        refine lv_goto (tgt := 7) hx hb dX7_leadsTo_59 (by decide) ?_
        exact hk_7 ((x3 + 1), FM_5, AM_6) hw _ _ _ hP hD hS (lv_sub hl [2, 3, 4, 0] rfl)
      · have hw := hw.2 c_9
        refine lv_aload_n hx hb dX7_leadsTo_27 rfl (lv_at hl 1 rfl) ?_
        refine gz (q0 := 0) (v := .ref (gM 21)) fx hK hP fl_X7_37 rfl rfl dX7_leadsTo_28 ?_
        refine lv_iload_n hx hb dX7_leadsTo_31 rfl (lv_at hl 2 rfl) ?_
        refine lv_iload hx hb dX7_leadsTo_32 (lv_at hl 0 rfl) ?_
        refine lv_aload_n hx hb dX7_leadsTo_34 rfl (lv_at hl 1 rfl) ?_
        refine gz (q0 := 0) (v := .ref (gM 24)) fx hK hP fl_X7_43 rfl rfl dX7_leadsTo_35 ?_
        refine lv_iload_n hx hb dX7_leadsTo_38 rfl (lv_at hl 4 rfl) ?_
        obtain ⟨hz, hw⟩ := hw
        refine va_iald hx hb hK hP 12 0 rfl rfl hz dX7_leadsTo_39 ?_
        refine lv_isub hx hb dX7_leadsTo_40 ?_
        refine lv_aload_n hx hb dX7_leadsTo_41 rfl (lv_at hl 1 rfl) ?_
        refine gz (q0 := 0) (v := .ref (gM 8)) fx hK hP fl_X7_16 rfl rfl dX7_leadsTo_42 ?_
        refine lv_iload_n hx hb dX7_leadsTo_45 rfl (lv_at hl 4 rfl) ?_
        obtain ⟨hz, hw⟩ := hw
        refine va_iald hx hb hK hP 3 0 rfl rfl hz dX7_leadsTo_46 ?_
        refine lv_imul hx hb dX7_leadsTo_47 ?_
        refine lv_iadd hx hb dX7_leadsTo_48 ?_
        obtain ⟨hz, hw⟩ := hw
        refine va_iald hx hb hK hP 10 0 rfl rfl hz dX7_leadsTo_49 ?_
        refine lv_iload_n hx hb dX7_leadsTo_50 rfl (lv_at hl 3 rfl) ?_
        refine lv_icmp_ne (tgt := 56) hx hb dX7_leadsTo_51 (by decide) (fun c_10 => ?_) (fun c_10 => ?_)
        · have hw := hw.1 c_10
          refine lv_iinc (v := (x3 + 1)) (lv' := [(3, .int (x3 + 1)), (4, .int r_8), (0, .ref oM), (1, .int x1), (2, .int x2)]) hx hb dX7_leadsTo_56 hl (k := 4) rfl rfl (by decide) rfl (fun ls hl => ?_)
          refine lv_goto (tgt := 7) hx hb dX7_leadsTo_59 (by decide) ?_
          exact hk_7 ((x3 + 1), FM_5, AM_6) hw _ _ _ hP hD hS (lv_sub hl [2, 3, 4, 0] rfl)
        · have hw := hw.2 c_10
          refine lv_iconst (v := (1 : Int32)) hx hb dX7_leadsTo_54 (by decide) ?_
          exact hret _ (FM_5, AM_6) _ _ _ _ dX7_leadsTo_55 rfl hw hP hD hS
  refine lv_aload_n hx hb dX7_leadsTo_0 rfl (lv_at hl 0 rfl) ?_
  refine lv_iload_n hx hb dX7_leadsTo_1 rfl (lv_at hl 1 rfl) ?_
  refine caMuVv (rest := []) (As := [.int x1]) (w1 := ([] : va_W)) (w2 := ([] : va_W)) fx hK lk_X7_144 (c_X7_rowOf l dC dI cA oM gM FM AM x1 _ hw) hP hD hS hA 0 rfl rfl ⟨(Nat.le_of_ble_eq_true rfl), (Nat.le_of_ble_eq_true rfl)⟩ rfl hl.1 rfl (Nat.le_of_ble_eq_true rfl) dX7_leadsTo_2 ?_
  intro u_13 H locs hw hP hD hS
  obtain ⟨FM_11, AM_12⟩ := u_13
  have hP : va_P (dC, dI) vwCl (mW oM gM cA FM_11 AM_12) H := hP
  have hD : va_D A (mW oM gM cA FM_11 AM_12) := hD
  try dsimp only at hw
  refine lv_iconst (v := (0 : Int32)) hx hb dX7_leadsTo_5 (by decide) ?_
  refine lv_istore_n (lv' := [(3, .int (0 : Int32)), (0, .ref oM), (1, .int x1), (2, .int x2)]) hx hb dX7_leadsTo_6 rfl hl (by decide) rfl (fun ls hl => ?_)
  exact b_7 FM_11 AM_12 (0 : Int32) _ _ _ hP hD hS (lv_sub hl [1, 2, 3, 0] rfl) hw
set_option maxHeartbeats 4000000 in
set_option maxRecDepth 100000 in
theorem c_X7_bests (l : Launch) (dC : Nat → ClassId) (dI : Nat → Nat → Nat) (cA : ClassId) (oM : Nat) (gM : Nat → Nat) (FM : Nat → Int32) (AM : Nat → Nat → Int32) (Post : (Nat → Int32) → (Nat → Nat → Int32) → Prop) (hw : wp_X7_bests FM AM Post) : MuV (dC, dI) cA l yX7_bests cX7_bests 4 5 113 [.ref oM] (mW oM gM cA FM AM) (fun (u : (Nat → Int32) × (Nat → Nat → Int32)) => Post (u.1) (u.2)) (fun u => (mW oM gM cA (u.1) (u.2))) := by
  refine enMv (by decide) (Nat.le_of_ble_eq_true rfl) ?_
  intro p e s m args below meth c Q ls A fx hK hP hD hS hA hret hl
  obtain ⟨hx, hb, hml, hown, hts⟩ := id fx
  have hl : lv_has ls 4 [(0, .ref oM)] := hl
  have hP : va_P (dC, dI) vwCl (mW oM gM cA FM AM) s.heap := hP
  have b_41 : ∀ (FM : Nat → Int32) (AM : Nat → Nat → Int32) (x1 : Int32) (x2 : Int32) (H : Heap) (locs : List Loc) (ls : Array Slot), va_P (dC, dI) vwCl (mW oM gM cA FM AM) H → va_D A (mW oM gM cA FM AM) → va_S A s.heap H locs → lv_has ls 4 [(0, .ref oM), (1, .int x1), (2, .int x2)] → wp_X7_bests_41 FM AM x1 x2 Post → W p l e ({ frames := 5, cells := 0, slots := 0, locals := 113 } : Room) s m args below meth c H locs 0 0 Q (F0 m 41 ls []) := by
    intro FM AM x1 x2 H locs ls hP hD hS hl hw
    refine Lp_go (C := fun (t : Int32 × Int32 × (Nat → Int32) × (Nat → Nat → Int32)) => ∀ (H : Heap) (locs : List Loc) (ls : Array Slot), va_P (dC, dI) vwCl (mW oM gM cA (t.2.2.1) (t.2.2.2)) H → va_D A (mW oM gM cA (t.2.2.1) (t.2.2.2)) → va_S A s.heap H locs → lv_has ls 4 [(0, .ref oM), (1, .int (t.1)), (2, .int (t.2.1))] → W p l e ({ frames := 5, cells := 0, slots := 0, locals := 113 } : Room) s m args below meth c H locs 0 0 Q (F0 m 41 ls [])) ?_ hw H locs ls hP hD hS hl
    intro k_41 hk_41 t
    obtain ⟨x1, x2, FM, AM⟩ := t
    intro hw H locs ls hP hD hS hl
    have hP : va_P (dC, dI) vwCl (mW oM gM cA FM AM) H := hP
    have hD : va_D A (mW oM gM cA FM AM) := hD
    have hl : lv_has ls 4 [(0, .ref oM), (1, .int x1), (2, .int x2)] := hl
    have hw : st_X7_bests_41 Post k_41 x1 x2 FM AM := hw
    have b_49 : ∀ (FM : Nat → Int32) (AM : Nat → Nat → Int32) (x1 : Int32) (x2 : Int32) (x3 : Int32) (H : Heap) (locs : List Loc) (ls : Array Slot), va_P (dC, dI) vwCl (mW oM gM cA FM AM) H → va_D A (mW oM gM cA FM AM) → va_S A s.heap H locs → lv_has ls 4 [(0, .ref oM), (1, .int x1), (2, .int x2), (3, .int x3)] → wp_X7_bests_49 FM AM x1 x2 x3 k_41 Post → W p l e ({ frames := 5, cells := 0, slots := 0, locals := 113 } : Room) s m args below meth c H locs 0 0 Q (F0 m 49 ls []) := by
      intro FM AM x1 x2 x3 H locs ls hP hD hS hl hw
      refine Lp_go (C := fun (t : Int32 × Int32 × (Nat → Int32) × (Nat → Nat → Int32)) => ∀ (H : Heap) (locs : List Loc) (ls : Array Slot), va_P (dC, dI) vwCl (mW oM gM cA (t.2.2.1) (t.2.2.2)) H → va_D A (mW oM gM cA (t.2.2.1) (t.2.2.2)) → va_S A s.heap H locs → lv_has ls 4 [(0, .ref oM), (1, .int (t.1)), (2, .int x2), (3, .int (t.2.1))] → W p l e ({ frames := 5, cells := 0, slots := 0, locals := 113 } : Room) s m args below meth c H locs 0 0 Q (F0 m 49 ls [])) ?_ hw H locs ls hP hD hS hl
      intro k_49 hk_49 t
      obtain ⟨x1, x3, FM, AM⟩ := t
      intro hw H locs ls hP hD hS hl
      have hP : va_P (dC, dI) vwCl (mW oM gM cA FM AM) H := hP
      have hD : va_D A (mW oM gM cA FM AM) := hD
      have hl : lv_has ls 4 [(0, .ref oM), (1, .int x1), (2, .int x2), (3, .int x3)] := hl
      have hw : st_X7_bests_49 x2 k_41 Post k_49 x1 x3 FM AM := hw
      refine lv_iload_n hx hb dX7_bests_49 rfl (lv_at hl 3 rfl) ?_
      refine lv_aload_n hx hb dX7_bests_50 rfl (lv_at hl 0 rfl) ?_
      refine gz (q0 := 0) (v := .int (FM 5)) fx hK hP fl_X7_62 rfl rfl dX7_bests_51 ?_
      refine lv_icmp_ge (tgt := 92) hx hb dX7_bests_54 (by decide) (fun c_1 => ?_) (fun c_1 => ?_)
      · have hw := hw.1 c_1
        refine lv_iinc (v := (x2 + 1)) (lv' := [(2, .int (x2 + 1)), (0, .ref oM), (1, .int x1), (3, .int x3)]) hx hb dX7_bests_92 hl (k := 2) rfl rfl (by decide) rfl (fun ls hl => ?_)
        refine lv_goto (tgt := 41) hx hb dX7_bests_95 (by decide) ?_
        exact hk_41 (x1, (x2 + 1), FM, AM) hw _ _ _ hP hD hS (lv_sub hl [1, 2, 0] rfl)
      · have hw := hw.2 c_1
        refine lv_aload_n hx hb dX7_bests_57 rfl (lv_at hl 0 rfl) ?_
        refine gz (q0 := 0) (v := .ref (gM 21)) fx hK hP fl_X7_37 rfl rfl dX7_bests_58 ?_
        refine lv_iload_n hx hb dX7_bests_61 rfl (lv_at hl 3 rfl) ?_
        obtain ⟨hz, hw⟩ := hw
        refine va_iald hx hb hK hP 10 0 rfl rfl hz dX7_bests_62 ?_
        refine lv_if_ge (tgt := 86) hx hb dX7_bests_63 (by decide) (fun c_2 => ?_) (fun c_2 => ?_)
        · have hw := hw.1 c_2
          refine lv_iinc (v := (x3 + 1)) (lv' := [(3, .int (x3 + 1)), (0, .ref oM), (1, .int x1), (2, .int x2)]) hx hb dX7_bests_86 hl (k := 3) rfl rfl (by decide) rfl (fun ls hl => ?_)
          refine lv_goto (tgt := 49) hx hb dX7_bests_89 (by decide) ?_
          exact hk_49 (x1, (x3 + 1), FM, AM) hw _ _ _ hP hD hS (lv_sub hl [1, 2, 3, 0] rfl)
        · have hw := hw.2 c_2
          refine lv_aload_n hx hb dX7_bests_66 rfl (lv_at hl 0 rfl) ?_
          refine lv_iload_n hx hb dX7_bests_67 rfl (lv_at hl 3 rfl) ?_
          refine lv_iload_n hx hb dX7_bests_68 rfl (lv_at hl 2 rfl) ?_
          refine lv_iconst (v := (1 : Int32)) hx hb dX7_bests_69 (by decide) ?_
          refine lv_isub hx hb dX7_bests_70 ?_
          refine caMuV (rest := []) (As := [.int x3, .int (x2 - (1 : Int32))]) (w1 := ([] : va_W)) (w2 := ([] : va_W)) fx hK lk_X7_173 (c_X7_leadsTo l dC dI cA oM gM FM AM x3 (x2 - (1 : Int32)) _ hw) hP hD hS hA 0 rfl rfl ⟨(Nat.le_of_ble_eq_true rfl), (Nat.le_of_ble_eq_true rfl)⟩ rfl hl.1 rfl (Nat.le_of_ble_eq_true rfl) dX7_bests_71 ?_
          intro r_6 u_5 H locs hw hP hD hS
          obtain ⟨FM_3, AM_4⟩ := u_5
          have hP : va_P (dC, dI) vwCl (mW oM gM cA FM_3 AM_4) H := hP
          have hD : va_D A (mW oM gM cA FM_3 AM_4) := hD
          try dsimp only at hw
          refine lv_if_eq (tgt := 86) hx hb dX7_bests_74 (by decide) (fun c_7 => ?_) (fun c_7 => ?_)
          · have hw := hw.1 c_7
            refine lv_iinc (v := (x3 + 1)) (lv' := [(3, .int (x3 + 1)), (0, .ref oM), (1, .int x1), (2, .int x2)]) hx hb dX7_bests_86 hl (k := 3) rfl rfl (by decide) rfl (fun ls hl => ?_)
            refine lv_goto (tgt := 49) hx hb dX7_bests_89 (by decide) ?_
            exact hk_49 (x1, (x3 + 1), FM_3, AM_4) hw _ _ _ hP hD hS (lv_sub hl [1, 2, 3, 0] rfl)
          · have hw := hw.2 c_7
            refine lv_aload_n hx hb dX7_bests_77 rfl (lv_at hl 0 rfl) ?_
            refine gz (q0 := 0) (v := .ref (gM 21)) fx hK hP fl_X7_37 rfl rfl dX7_bests_78 ?_
            refine lv_iload_n hx hb dX7_bests_81 rfl (lv_at hl 3 rfl) ?_
            refine lv_iload_n hx hb dX7_bests_82 rfl (lv_at hl 2 rfl) ?_
            obtain ⟨hz, hw⟩ := hw
            refine az hx hb hK hP hD hS 10 rfl hz dX7_bests_83 ?_
            intro g_8 H locs e_9 hP hD hS
            have hw := hw g_8 e_9
            have hP : va_P (dC, dI) vwCl (mW oM gM cA FM_3 (uA AM_4 21 g_8)) H := hP
            have hD : va_D A (mW oM gM cA FM_3 (uA AM_4 21 g_8)) := hD
            refine lv_iconst (v := (1 : Int32)) hx hb dX7_bests_84 (by decide) ?_
            refine lv_istore_n (lv' := [(1, .int (1 : Int32)), (0, .ref oM), (2, .int x2), (3, .int x3)]) hx hb dX7_bests_85 rfl hl (by decide) rfl (fun ls hl => ?_)
            refine lv_iinc (v := (x3 + 1)) (lv' := [(3, .int (x3 + 1)), (1, .int (1 : Int32)), (0, .ref oM), (2, .int x2)]) hx hb dX7_bests_86 hl (k := 3) rfl rfl (by decide) rfl (fun ls hl => ?_)
            refine lv_goto (tgt := 49) hx hb dX7_bests_89 (by decide) ?_
            exact hk_49 ((1 : Int32), (x3 + 1), FM_3, (uA AM_4 21 g_8)) hw _ _ _ hP hD hS (lv_sub hl [2, 1, 3, 0] rfl)
    refine lv_iload_n hx hb dX7_bests_41 rfl (lv_at hl 1 rfl) ?_
    refine lv_if_eq (tgt := 98) hx hb dX7_bests_42 (by decide) (fun c_10 => ?_) (fun c_10 => ?_)
    · have hw := hw.1 c_10
      exact hret (FM, AM) _ _ _ _ dX7_bests_98 hw hP hD hS
    · have hw := hw.2 c_10
      refine lv_iconst (v := (0 : Int32)) hx hb dX7_bests_45 (by decide) ?_
      refine lv_istore_n (lv' := [(1, .int (0 : Int32)), (0, .ref oM), (2, .int x2)]) hx hb dX7_bests_46 rfl hl (by decide) rfl (fun ls hl => ?_)
      refine lv_iconst (v := (0 : Int32)) hx hb dX7_bests_47 (by decide) ?_
      refine lv_istore_n (lv' := [(3, .int (0 : Int32)), (1, .int (0 : Int32)), (0, .ref oM), (2, .int x2)]) hx hb dX7_bests_48 rfl hl (by decide) rfl (fun ls hl => ?_)
      exact b_49 FM AM (0 : Int32) x2 (0 : Int32) _ _ _ hP hD hS (lv_sub hl [2, 1, 3, 0] rfl) hw
  have b_2 : ∀ (FM : Nat → Int32) (AM : Nat → Nat → Int32) (x1 : Int32) (H : Heap) (locs : List Loc) (ls : Array Slot), va_P (dC, dI) vwCl (mW oM gM cA FM AM) H → va_D A (mW oM gM cA FM AM) → va_S A s.heap H locs → lv_has ls 4 [(0, .ref oM), (1, .int x1)] → wp_X7_bests_2 FM AM x1 Post → W p l e ({ frames := 5, cells := 0, slots := 0, locals := 113 } : Room) s m args below meth c H locs 0 0 Q (F0 m 2 ls []) := by
    intro FM AM x1 H locs ls hP hD hS hl hw
    refine Lp_go (C := fun (t : Int32 × (Nat → Int32) × (Nat → Nat → Int32)) => ∀ (H : Heap) (locs : List Loc) (ls : Array Slot), va_P (dC, dI) vwCl (mW oM gM cA (t.2.1) (t.2.2)) H → va_D A (mW oM gM cA (t.2.1) (t.2.2)) → va_S A s.heap H locs → lv_has ls 4 [(0, .ref oM), (1, .int (t.1))] → W p l e ({ frames := 5, cells := 0, slots := 0, locals := 113 } : Room) s m args below meth c H locs 0 0 Q (F0 m 2 ls [])) ?_ hw H locs ls hP hD hS hl
    intro k_2 hk_2 t
    obtain ⟨x1, FM, AM⟩ := t
    intro hw H locs ls hP hD hS hl
    have hP : va_P (dC, dI) vwCl (mW oM gM cA FM AM) H := hP
    have hD : va_D A (mW oM gM cA FM AM) := hD
    have hl : lv_has ls 4 [(0, .ref oM), (1, .int x1)] := hl
    have hw : st_X7_bests_2 Post k_2 x1 FM AM := hw
    have b_30 : ∀ (FM : Nat → Int32) (AM : Nat → Nat → Int32) (x1 : Int32) (t1 : Int32) (t2 : Int32) (H : Heap) (locs : List Loc) (ls : Array Slot), va_P (dC, dI) vwCl (mW oM gM cA FM AM) H → va_D A (mW oM gM cA FM AM) → va_S A s.heap H locs → lv_has ls 4 [(0, .ref oM), (1, .int x1)] → wp_X7_bests_30 FM AM x1 t1 t2 k_2 Post → W p l e ({ frames := 5, cells := 0, slots := 0, locals := 113 } : Room) s m args below meth c H locs 0 0 Q (F0 m 30 ls [.int t2, .int t1, .ref (gM 21)]) := by
      intro FM AM x1 t1 t2 H locs ls hP hD hS hl hw
      obtain ⟨hz, hw⟩ := hw
      refine az hx hb hK hP hD hS 10 rfl hz dX7_bests_30 ?_
      intro g_11 H locs e_12 hP hD hS
      have hw := hw g_11 e_12
      have hP : va_P (dC, dI) vwCl (mW oM gM cA FM (uA AM 21 g_11)) H := hP
      have hD : va_D A (mW oM gM cA FM (uA AM 21 g_11)) := hD
      refine lv_iinc (v := (x1 + 1)) (lv' := [(1, .int (x1 + 1)), (0, .ref oM)]) hx hb dX7_bests_31 hl (k := 1) rfl rfl (by decide) rfl (fun ls hl => ?_)
      refine lv_goto (tgt := 2) hx hb dX7_bests_34 (by decide) ?_
      exact hk_2 ((x1 + 1), FM, (uA AM 21 g_11)) hw _ _ _ hP hD hS (lv_sub hl [1, 0] rfl)
    refine lv_iload_n hx hb dX7_bests_2 rfl (lv_at hl 1 rfl) ?_
    refine lv_aload_n hx hb dX7_bests_3 rfl (lv_at hl 0 rfl) ?_
    refine gz (q0 := 0) (v := .int (FM 5)) fx hK hP fl_X7_62 rfl rfl dX7_bests_4 ?_
    refine lv_icmp_ge (tgt := 37) hx hb dX7_bests_7 (by decide) (fun c_13 => ?_) (fun c_13 => ?_)
    · have hw := hw.1 c_13
      refine lv_iconst (v := (1 : Int32)) hx hb dX7_bests_37 (by decide) ?_
      refine lv_istore_n (lv' := [(1, .int (1 : Int32)), (0, .ref oM)]) hx hb dX7_bests_38 rfl hl (by decide) rfl (fun ls hl => ?_)
      refine lv_iconst (v := (1 : Int32)) hx hb dX7_bests_39 (by decide) ?_
      refine lv_istore_n (lv' := [(2, .int (1 : Int32)), (1, .int (1 : Int32)), (0, .ref oM)]) hx hb dX7_bests_40 rfl hl (by decide) rfl (fun ls hl => ?_)
      exact b_41 FM AM (1 : Int32) (1 : Int32) _ _ _ hP hD hS (lv_sub hl [2, 1, 0] rfl) hw
    · have hw := hw.2 c_13
      refine lv_aload_n hx hb dX7_bests_10 rfl (lv_at hl 0 rfl) ?_
      refine gz (q0 := 0) (v := .ref (gM 21)) fx hK hP fl_X7_37 rfl rfl dX7_bests_11 ?_
      refine lv_iload_n hx hb dX7_bests_14 rfl (lv_at hl 1 rfl) ?_
      refine lv_aload_n hx hb dX7_bests_15 rfl (lv_at hl 0 rfl) ?_
      refine gz (q0 := 0) (v := .ref (gM 20)) fx hK hP fl_X7_34 rfl rfl dX7_bests_16 ?_
      refine lv_iload_n hx hb dX7_bests_19 rfl (lv_at hl 1 rfl) ?_
      obtain ⟨hz, hw⟩ := hw
      refine va_iald hx hb hK hP 9 0 rfl rfl hz dX7_bests_20 ?_
      refine lv_if_ne (tgt := 28) hx hb dX7_bests_21 (by decide) (fun c_14 => ?_) (fun c_14 => ?_)
      · have hw := hw.1 c_14
        refine lv_bipush (v := (-5 : Int32)) hx hb dX7_bests_28 (by decide) ?_
        exact b_30 FM AM x1 x1 (-5 : Int32) _ _ _ hP hD hS (lv_sub hl [0, 1] rfl) hw
      · have hw := hw.2 c_14
        refine lv_iconst (v := (0 : Int32)) hx hb dX7_bests_24 (by decide) ?_
        refine lv_goto (tgt := 30) hx hb dX7_bests_25 (by decide) ?_
        exact b_30 FM AM x1 x1 (0 : Int32) _ _ _ hP hD hS (lv_sub hl [0, 1] rfl) hw
  refine lv_iconst (v := (0 : Int32)) hx hb dX7_bests_0 (by decide) ?_
  refine lv_istore_n (lv' := [(1, .int (0 : Int32)), (0, .ref oM)]) hx hb dX7_bests_1 rfl hl (by decide) rfl (fun ls hl => ?_)
  exact b_2 FM AM (0 : Int32) _ _ _ hP hD hS (lv_sub hl [1, 0] rfl) hw
set_option maxHeartbeats 4000000 in
set_option maxRecDepth 100000 in
theorem c_X7_isHitTo (l : Launch) (dC : Nat → ClassId) (dI : Nat → Nat → Nat) (cA : ClassId) (oM : Nat) (gM : Nat → Nat) (FM : Nat → Int32) (AM : Nat → Nat → Int32) (x1 : Int32) (x2 : Int32) (Post : Int32 → Prop) (hw : wp_X7_isHitTo FM AM x1 x2 Post) : RoI (dC, dI) cA l yX7_isHitTo cX7_isHitTo 6 .boolean 0 0 [.ref oM, .int x1, .int x2] (mW oM gM cA FM AM) Post := by
  refine enRo (by decide) (Nat.le_of_ble_eq_true rfl) ?_
  intro p e s m args below meth c Q ls fx hK hP hret hl
  obtain ⟨hx, hb, hml, hown, hts⟩ := id fx
  have hl : lv_has ls 6 [(0, .ref oM), (1, .int x1), (2, .int x2)] := hl
  have b_2 : ∀ (x3 : Int32) (ls : Array Slot), lv_has ls 6 [(0, .ref oM), (1, .int x1), (2, .int x2), (3, .int x3)] → wp_X7_isHitTo_2 FM AM x1 x2 x3 Post → W p l e ({ frames := 0, cells := 0, slots := 0, locals := 0 } : Room) s m args below meth c s.heap [] 0 0 Q (F0 m 2 ls []) := by
    intro x3 ls hl hw
    refine Lp_go (C := fun (t : Int32) => ∀ (ls : Array Slot), lv_has ls 6 [(0, .ref oM), (1, .int x1), (2, .int x2), (3, .int t)] → W p l e ({ frames := 0, cells := 0, slots := 0, locals := 0 } : Room) s m args below meth c s.heap [] 0 0 Q (F0 m 2 ls [])) ?_ hw ls hl
    intro k_2 hk_2 t
    obtain ⟨x3, ht⟩ : ∃ z, z = t := ⟨_, rfl⟩
    subst ht
    intro hw ls hl
    have hl : lv_has ls 6 [(0, .ref oM), (1, .int x1), (2, .int x2), (3, .int x3)] := hl
    have hw : st_X7_isHitTo_2 FM AM x1 x2 Post k_2 x3 := hw
    have b_28 : ∀ (x3 : Int32) (x4 : Int32) (x5 : Int32) (ls : Array Slot), lv_has ls 6 [(0, .ref oM), (1, .int x1), (2, .int x2), (3, .int x3), (4, .int x4), (5, .int x5)] → wp_X7_isHitTo_28 FM AM x1 x2 x3 x4 x5 k_2 Post → W p l e ({ frames := 0, cells := 0, slots := 0, locals := 0 } : Room) s m args below meth c s.heap [] 0 0 Q (F0 m 28 ls []) := by
      intro x3 x4 x5 ls hl hw
      refine Lp_go (C := fun (t : Int32) => ∀ (ls : Array Slot), lv_has ls 6 [(0, .ref oM), (1, .int x1), (2, .int x2), (3, .int x3), (4, .int x4), (5, .int t)] → W p l e ({ frames := 0, cells := 0, slots := 0, locals := 0 } : Room) s m args below meth c s.heap [] 0 0 Q (F0 m 28 ls [])) ?_ hw ls hl
      intro k_28 hk_28 t
      obtain ⟨x5, ht⟩ : ∃ z, z = t := ⟨_, rfl⟩
      subst ht
      intro hw ls hl
      have hl : lv_has ls 6 [(0, .ref oM), (1, .int x1), (2, .int x2), (3, .int x3), (4, .int x4), (5, .int x5)] := hl
      have hw : st_X7_isHitTo_28 FM AM x1 x2 x3 x4 k_2 Post k_28 x5 := hw
      refine lv_iload hx hb dX7_isHitTo_28 (lv_at hl 5 rfl) ?_
      refine lv_aload_n hx hb dX7_isHitTo_30 rfl (lv_at hl 0 rfl) ?_
      refine gz (q0 := 0) (v := .int (FM 4)) fx hK hP fl_X7_56 rfl rfl dX7_isHitTo_31 ?_
      refine lv_icmp_ge (tgt := 68) hx hb dX7_isHitTo_34 (by decide) (fun c_1 => ?_) (fun c_1 => ?_)
      · have hw := hw.1 c_1
        refine lv_iinc (v := (x3 + 1)) (lv' := [(3, .int (x3 + 1)), (0, .ref oM), (1, .int x1), (2, .int x2), (4, .int x4), (5, .int x5)]) hx hb dX7_isHitTo_68 hl (k := 3) rfl rfl (by decide) rfl (fun ls hl => ?_)
        refine lv_goto (tgt := 2) hx hb dX7_isHitTo_71 (by decide) ?_
        exact hk_2 ((x3 + 1)) hw _ (lv_sub hl [1, 2, 3, 0] rfl)
      · have hw := hw.2 c_1
        refine lv_aload_n hx hb dX7_isHitTo_37 rfl (lv_at hl 0 rfl) ?_
        refine gz (q0 := 0) (v := .ref (gM 22)) fx hK hP fl_X7_40 rfl rfl dX7_isHitTo_38 ?_
        refine lv_iload_n hx hb dX7_isHitTo_41 rfl (lv_at hl 1 rfl) ?_
        refine lv_iload hx hb dX7_isHitTo_42 (lv_at hl 5 rfl) ?_
        refine lv_iload hx hb dX7_isHitTo_44 (lv_at hl 4 rfl) ?_
        refine lv_isub hx hb dX7_isHitTo_46 ?_
        refine lv_aload_n hx hb dX7_isHitTo_47 rfl (lv_at hl 0 rfl) ?_
        refine gz (q0 := 0) (v := .ref (gM 8)) fx hK hP fl_X7_16 rfl rfl dX7_isHitTo_48 ?_
        refine lv_iload_n hx hb dX7_isHitTo_51 rfl (lv_at hl 3 rfl) ?_
        obtain ⟨hz, hw⟩ := hw
        refine va_iald hx hb hK hP 3 0 rfl rfl hz dX7_isHitTo_52 ?_
        refine lv_imul hx hb dX7_isHitTo_53 ?_
        refine lv_iadd hx hb dX7_isHitTo_54 ?_
        obtain ⟨hz, hw⟩ := hw
        refine va_iald hx hb hK hP 11 0 rfl rfl hz dX7_isHitTo_55 ?_
        refine lv_iload_n hx hb dX7_isHitTo_56 rfl (lv_at hl 2 rfl) ?_
        refine lv_icmp_ne (tgt := 62) hx hb dX7_isHitTo_57 (by decide) (fun c_2 => ?_) (fun c_2 => ?_)
        · have hw := hw.1 c_2
          refine lv_iinc (v := (x5 + 1)) (lv' := [(5, .int (x5 + 1)), (0, .ref oM), (1, .int x1), (2, .int x2), (3, .int x3), (4, .int x4)]) hx hb dX7_isHitTo_62 hl (k := 5) rfl rfl (by decide) rfl (fun ls hl => ?_)
          refine lv_goto (tgt := 28) hx hb dX7_isHitTo_65 (by decide) ?_
          exact hk_28 ((x5 + 1)) hw _ (lv_sub hl [1, 2, 3, 4, 5, 0] rfl)
        · have hw := hw.2 c_2
          refine lv_iconst (v := (1 : Int32)) hx hb dX7_isHitTo_60 (by decide) ?_
          exact hret _ _ _ dX7_isHitTo_61 rfl hw
    refine lv_iload_n hx hb dX7_isHitTo_2 rfl (lv_at hl 3 rfl) ?_
    refine lv_aload_n hx hb dX7_isHitTo_3 rfl (lv_at hl 0 rfl) ?_
    refine gz (q0 := 0) (v := .int (FM 3)) fx hK hP fl_X7_53 rfl rfl dX7_isHitTo_4 ?_
    refine lv_icmp_ge (tgt := 74) hx hb dX7_isHitTo_7 (by decide) (fun c_3 => ?_) (fun c_3 => ?_)
    · have hw := hw.1 c_3
      refine lv_iconst (v := (0 : Int32)) hx hb dX7_isHitTo_74 (by decide) ?_
      exact hret _ _ _ dX7_isHitTo_75 rfl hw
    · have hw := hw.2 c_3
      refine lv_iload_n hx hb dX7_isHitTo_10 rfl (lv_at hl 1 rfl) ?_
      refine lv_aload_n hx hb dX7_isHitTo_11 rfl (lv_at hl 0 rfl) ?_
      refine gz (q0 := 0) (v := .ref (gM 8)) fx hK hP fl_X7_16 rfl rfl dX7_isHitTo_12 ?_
      refine lv_iload_n hx hb dX7_isHitTo_15 rfl (lv_at hl 3 rfl) ?_
      obtain ⟨hz, hw⟩ := hw
      refine va_iald hx hb hK hP 3 0 rfl rfl hz dX7_isHitTo_16 ?_
      obtain ⟨hz, hw⟩ := hw
      refine lv_idiv hx hb dX7_isHitTo_17 hz ?_
      refine lv_aload_n hx hb dX7_isHitTo_18 rfl (lv_at hl 0 rfl) ?_
      refine gz (q0 := 0) (v := .int (FM 4)) fx hK hP fl_X7_56 rfl rfl dX7_isHitTo_19 ?_
      obtain ⟨hz, hw⟩ := hw
      refine lv_irem hx hb dX7_isHitTo_22 hz ?_
      refine lv_istore (lv' := [(4, .int ((x1 / ((AM 8) (ix x3))) - (x1 / ((AM 8) (ix x3))) / (FM 4) * (FM 4))), (0, .ref oM), (1, .int x1), (2, .int x2), (3, .int x3)]) hx hb dX7_isHitTo_23 hl (by decide) rfl (fun ls hl => ?_)
      refine lv_iconst (v := (0 : Int32)) hx hb dX7_isHitTo_25 (by decide) ?_
      refine lv_istore (lv' := [(5, .int (0 : Int32)), (4, .int ((x1 / ((AM 8) (ix x3))) - (x1 / ((AM 8) (ix x3))) / (FM 4) * (FM 4))), (0, .ref oM), (1, .int x1), (2, .int x2), (3, .int x3)]) hx hb dX7_isHitTo_26 hl (by decide) rfl (fun ls hl => ?_)
      exact b_28 x3 ((x1 / ((AM 8) (ix x3))) - (x1 / ((AM 8) (ix x3))) / (FM 4) * (FM 4)) (0 : Int32) _ (lv_sub hl [2, 3, 4, 5, 1, 0] rfl) hw
  refine lv_iconst (v := (0 : Int32)) hx hb dX7_isHitTo_0 (by decide) ?_
  refine lv_istore_n (lv' := [(3, .int (0 : Int32)), (0, .ref oM), (1, .int x1), (2, .int x2)]) hx hb dX7_isHitTo_1 rfl hl (by decide) rfl (fun ls hl => ?_)
  exact b_2 (0 : Int32) _ (lv_sub hl [1, 2, 3, 0] rfl) hw
set_option maxHeartbeats 4000000 in
set_option maxRecDepth 100000 in
theorem c_X7_measures (l : Launch) (dC : Nat → ClassId) (dI : Nat → Nat → Nat) (cA : ClassId) (oM : Nat) (gM : Nat → Nat) (FM : Nat → Int32) (AM : Nat → Nat → Int32) (Post : (Nat → Int32) → (Nat → Nat → Int32) → Prop) (hw : wp_X7_measures FM AM Post) : MuV (dC, dI) cA l yX7_measures cX7_measures 3 7 155 [.ref oM] (mW oM gM cA FM AM) (fun (u : (Nat → Int32) × (Nat → Nat → Int32)) => Post (u.1) (u.2)) (fun u => (mW oM gM cA (u.1) (u.2))) := by
  refine enMv (by decide) (Nat.le_of_ble_eq_true rfl) ?_
  intro p e s m args below meth c Q ls A fx hK hP hD hS hA hret hl
  obtain ⟨hx, hb, hml, hown, hts⟩ := id fx
  have hl : lv_has ls 3 [(0, .ref oM)] := hl
  have hP : va_P (dC, dI) vwCl (mW oM gM cA FM AM) s.heap := hP
  have b_55 : ∀ (FM : Nat → Int32) (AM : Nat → Nat → Int32) (x1 : Int32) (H : Heap) (locs : List Loc) (ls : Array Slot), va_P (dC, dI) vwCl (mW oM gM cA FM AM) H → va_D A (mW oM gM cA FM AM) → va_S A s.heap H locs → lv_has ls 3 [(0, .ref oM), (1, .int x1)] → wp_X7_measures_55 FM AM x1 Post → W p l e ({ frames := 7, cells := 0, slots := 0, locals := 155 } : Room) s m args below meth c H locs 0 0 Q (F0 m 55 ls []) := by
    intro FM AM x1 H locs ls hP hD hS hl hw
    refine Lp_go (C := fun (t : Int32 × (Nat → Int32) × (Nat → Nat → Int32)) => ∀ (H : Heap) (locs : List Loc) (ls : Array Slot), va_P (dC, dI) vwCl (mW oM gM cA (t.2.1) (t.2.2)) H → va_D A (mW oM gM cA (t.2.1) (t.2.2)) → va_S A s.heap H locs → lv_has ls 3 [(0, .ref oM), (1, .int (t.1))] → W p l e ({ frames := 7, cells := 0, slots := 0, locals := 155 } : Room) s m args below meth c H locs 0 0 Q (F0 m 55 ls [])) ?_ hw H locs ls hP hD hS hl
    intro k_55 hk_55 t
    obtain ⟨x1, FM, AM⟩ := t
    intro hw H locs ls hP hD hS hl
    have hP : va_P (dC, dI) vwCl (mW oM gM cA FM AM) H := hP
    have hD : va_D A (mW oM gM cA FM AM) := hD
    have hl : lv_has ls 3 [(0, .ref oM), (1, .int x1)] := hl
    have hw : st_X7_measures_55 Post k_55 x1 FM AM := hw
    have b_65 : ∀ (FM : Nat → Int32) (AM : Nat → Nat → Int32) (x1 : Int32) (x2 : Int32) (H : Heap) (locs : List Loc) (ls : Array Slot), va_P (dC, dI) vwCl (mW oM gM cA FM AM) H → va_D A (mW oM gM cA FM AM) → va_S A s.heap H locs → lv_has ls 3 [(0, .ref oM), (1, .int x1), (2, .int x2)] → wp_X7_measures_65 FM AM x1 x2 k_55 Post → W p l e ({ frames := 7, cells := 0, slots := 0, locals := 155 } : Room) s m args below meth c H locs 0 0 Q (F0 m 65 ls []) := by
      intro FM AM x1 x2 H locs ls hP hD hS hl hw
      refine Lp_go (C := fun (t : Int32 × (Nat → Int32) × (Nat → Nat → Int32)) => ∀ (H : Heap) (locs : List Loc) (ls : Array Slot), va_P (dC, dI) vwCl (mW oM gM cA (t.2.1) (t.2.2)) H → va_D A (mW oM gM cA (t.2.1) (t.2.2)) → va_S A s.heap H locs → lv_has ls 3 [(0, .ref oM), (1, .int x1), (2, .int (t.1))] → W p l e ({ frames := 7, cells := 0, slots := 0, locals := 155 } : Room) s m args below meth c H locs 0 0 Q (F0 m 65 ls [])) ?_ hw H locs ls hP hD hS hl
      intro k_65 hk_65 t
      obtain ⟨x2, FM, AM⟩ := t
      intro hw H locs ls hP hD hS hl
      have hP : va_P (dC, dI) vwCl (mW oM gM cA FM AM) H := hP
      have hD : va_D A (mW oM gM cA FM AM) := hD
      have hl : lv_has ls 3 [(0, .ref oM), (1, .int x1), (2, .int x2)] := hl
      have hw : st_X7_measures_65 x1 k_55 Post k_65 x2 FM AM := hw
      refine lv_iload_n hx hb dX7_measures_65 rfl (lv_at hl 2 rfl) ?_
      refine lv_aload_n hx hb dX7_measures_66 rfl (lv_at hl 0 rfl) ?_
      refine gz (q0 := 0) (v := .int (FM 5)) fx hK hP fl_X7_62 rfl rfl dX7_measures_67 ?_
      refine lv_icmp_ge (tgt := 106) hx hb dX7_measures_70 (by decide) (fun c_8 => ?_) (fun c_8 => ?_)
      · have hw := hw.1 c_8
        refine lv_iinc (v := (x1 + 1)) (lv' := [(1, .int (x1 + 1)), (0, .ref oM), (2, .int x2)]) hx hb dX7_measures_106 hl (k := 1) rfl rfl (by decide) rfl (fun ls hl => ?_)
        refine lv_goto (tgt := 55) hx hb dX7_measures_109 (by decide) ?_
        exact hk_55 ((x1 + 1), FM, AM) hw _ _ _ hP hD hS (lv_sub hl [1, 0] rfl)
      · have hw := hw.2 c_8
        refine lv_aload_n hx hb dX7_measures_73 rfl (lv_at hl 0 rfl) ?_
        refine gz (q0 := 0) (v := .ref (gM 22)) fx hK hP fl_X7_40 rfl rfl dX7_measures_74 ?_
        refine lv_iload_n hx hb dX7_measures_77 rfl (lv_at hl 2 rfl) ?_
        obtain ⟨hz, hw⟩ := hw
        refine va_iald hx hb hK hP 11 0 rfl rfl hz dX7_measures_78 ?_
        refine lv_if_ge (tgt := 100) hx hb dX7_measures_79 (by decide) (fun c_9 => ?_) (fun c_9 => ?_)
        · have hw := hw.1 c_9
          refine lv_iinc (v := (x2 + 1)) (lv' := [(2, .int (x2 + 1)), (0, .ref oM), (1, .int x1)]) hx hb dX7_measures_100 hl (k := 2) rfl rfl (by decide) rfl (fun ls hl => ?_)
          refine lv_goto (tgt := 65) hx hb dX7_measures_103 (by decide) ?_
          exact hk_65 ((x2 + 1), FM, AM) hw _ _ _ hP hD hS (lv_sub hl [1, 2, 0] rfl)
        · have hw := hw.2 c_9
          refine lv_aload_n hx hb dX7_measures_82 rfl (lv_at hl 0 rfl) ?_
          refine lv_iload_n hx hb dX7_measures_83 rfl (lv_at hl 2 rfl) ?_
          refine lv_iload_n hx hb dX7_measures_84 rfl (lv_at hl 1 rfl) ?_
          refine lv_iconst (v := (1 : Int32)) hx hb dX7_measures_85 (by decide) ?_
          refine lv_isub hx hb dX7_measures_86 ?_
          refine caRoV (rest := []) (As := [.int x2, .int (x1 - (1 : Int32))]) fx hK lk_X7_182 (c_X7_isHitTo l dC dI cA oM gM FM AM x2 (x1 - (1 : Int32)) _ hw) (hP.sub [0, 1, 2, 3, 4, 5, 6, 7, 8, 9, 10, 11, 12, 13] rfl) 0 rfl rfl ⟨(Nat.le_of_ble_eq_true rfl), (Nat.le_of_ble_eq_true rfl)⟩ rfl hl.1 rfl (Nat.le_of_ble_eq_true rfl) dX7_measures_87 ?_
          intro r_10 hw
          refine lv_if_eq (tgt := 100) hx hb dX7_measures_90 (by decide) (fun c_11 => ?_) (fun c_11 => ?_)
          · have hw := hw.1 c_11
            refine lv_iinc (v := (x2 + 1)) (lv' := [(2, .int (x2 + 1)), (0, .ref oM), (1, .int x1)]) hx hb dX7_measures_100 hl (k := 2) rfl rfl (by decide) rfl (fun ls hl => ?_)
            refine lv_goto (tgt := 65) hx hb dX7_measures_103 (by decide) ?_
            exact hk_65 ((x2 + 1), FM, AM) hw _ _ _ hP hD hS (lv_sub hl [1, 2, 0] rfl)
          · have hw := hw.2 c_11
            refine lv_aload_n hx hb dX7_measures_93 rfl (lv_at hl 0 rfl) ?_
            refine gz (q0 := 0) (v := .ref (gM 22)) fx hK hP fl_X7_40 rfl rfl dX7_measures_94 ?_
            refine lv_iload_n hx hb dX7_measures_97 rfl (lv_at hl 2 rfl) ?_
            refine lv_iload_n hx hb dX7_measures_98 rfl (lv_at hl 1 rfl) ?_
            obtain ⟨hz, hw⟩ := hw
            refine az hx hb hK hP hD hS 11 rfl hz dX7_measures_99 ?_
            intro g_12 H locs e_13 hP hD hS
            have hw := hw g_12 e_13
            have hP : va_P (dC, dI) vwCl (mW oM gM cA FM (uA AM 22 g_12)) H := hP
            have hD : va_D A (mW oM gM cA FM (uA AM 22 g_12)) := hD
            refine lv_iinc (v := (x2 + 1)) (lv' := [(2, .int (x2 + 1)), (0, .ref oM), (1, .int x1)]) hx hb dX7_measures_100 hl (k := 2) rfl rfl (by decide) rfl (fun ls hl => ?_)
            refine lv_goto (tgt := 65) hx hb dX7_measures_103 (by decide) ?_
            exact hk_65 ((x2 + 1), FM, (uA AM 22 g_12)) hw _ _ _ hP hD hS (lv_sub hl [1, 2, 0] rfl)
    refine lv_iload_n hx hb dX7_measures_55 rfl (lv_at hl 1 rfl) ?_
    refine lv_aload_n hx hb dX7_measures_56 rfl (lv_at hl 0 rfl) ?_
    refine gz (q0 := 0) (v := .int (FM 3)) fx hK hP fl_X7_53 rfl rfl dX7_measures_57 ?_
    refine lv_icmp_gt (tgt := 112) hx hb dX7_measures_60 (by decide) (fun c_14 => ?_) (fun c_14 => ?_)
    · have hw := hw.1 c_14
      refine lv_aload_n hx hb dX7_measures_112 rfl (lv_at hl 0 rfl) ?_
      refine lv_iconst (v := (1 : Int32)) hx hb dX7_measures_113 (by decide) ?_
      refine pz (q0 := 0) (v := .int (1 : Int32)) fx hK hP hD hS fp_X7_71 rfl rfl rfl (Nat.le_of_ble_eq_true rfl) dX7_measures_114 (fun H locs hP hD hS => ?_)
      have hP : va_P (dC, dI) vwCl (mW oM gM cA (uF FM 23 (1 : Int32)) AM) H := hP
      have hD : va_D A (mW oM gM cA (uF FM 23 (1 : Int32)) AM) := hD
      exact hret ((uF FM 23 (1 : Int32)), AM) _ _ _ _ dX7_measures_117 hw hP hD hS
    · have hw := hw.2 c_14
      refine lv_iconst (v := (0 : Int32)) hx hb dX7_measures_63 (by decide) ?_
      refine lv_istore_n (lv' := [(2, .int (0 : Int32)), (0, .ref oM), (1, .int x1)]) hx hb dX7_measures_64 rfl hl (by decide) rfl (fun ls hl => ?_)
      exact b_65 FM AM x1 (0 : Int32) _ _ _ hP hD hS (lv_sub hl [1, 2, 0] rfl) hw
  have b_18 : ∀ (FM : Nat → Int32) (AM : Nat → Nat → Int32) (x1 : Int32) (H : Heap) (locs : List Loc) (ls : Array Slot), va_P (dC, dI) vwCl (mW oM gM cA FM AM) H → va_D A (mW oM gM cA FM AM) → va_S A s.heap H locs → lv_has ls 3 [(0, .ref oM), (1, .int x1)] → wp_X7_measures_18 FM AM x1 Post → W p l e ({ frames := 7, cells := 0, slots := 0, locals := 155 } : Room) s m args below meth c H locs 0 0 Q (F0 m 18 ls []) := by
    intro FM AM x1 H locs ls hP hD hS hl hw
    refine Lp_go (C := fun (t : Int32 × (Nat → Int32) × (Nat → Nat → Int32)) => ∀ (H : Heap) (locs : List Loc) (ls : Array Slot), va_P (dC, dI) vwCl (mW oM gM cA (t.2.1) (t.2.2)) H → va_D A (mW oM gM cA (t.2.1) (t.2.2)) → va_S A s.heap H locs → lv_has ls 3 [(0, .ref oM), (1, .int (t.1))] → W p l e ({ frames := 7, cells := 0, slots := 0, locals := 155 } : Room) s m args below meth c H locs 0 0 Q (F0 m 18 ls [])) ?_ hw H locs ls hP hD hS hl
    intro k_18 hk_18 t
    obtain ⟨x1, FM, AM⟩ := t
    intro hw H locs ls hP hD hS hl
    have hP : va_P (dC, dI) vwCl (mW oM gM cA FM AM) H := hP
    have hD : va_D A (mW oM gM cA FM AM) := hD
    have hl : lv_has ls 3 [(0, .ref oM), (1, .int x1)] := hl
    have hw : st_X7_measures_18 Post k_18 x1 FM AM := hw
    have b_46 : ∀ (FM : Nat → Int32) (AM : Nat → Nat → Int32) (x1 : Int32) (t1 : Int32) (t2 : Int32) (H : Heap) (locs : List Loc) (ls : Array Slot), va_P (dC, dI) vwCl (mW oM gM cA FM AM) H → va_D A (mW oM gM cA FM AM) → va_S A s.heap H locs → lv_has ls 3 [(0, .ref oM), (1, .int x1)] → wp_X7_measures_46 FM AM x1 t1 t2 k_18 Post → W p l e ({ frames := 7, cells := 0, slots := 0, locals := 155 } : Room) s m args below meth c H locs 0 0 Q (F0 m 46 ls [.int t2, .int t1, .ref (gM 22)]) := by
      intro FM AM x1 t1 t2 H locs ls hP hD hS hl hw
      obtain ⟨hz, hw⟩ := hw
      refine az hx hb hK hP hD hS 11 rfl hz dX7_measures_46 ?_
      intro g_15 H locs e_16 hP hD hS
      have hw := hw g_15 e_16
      have hP : va_P (dC, dI) vwCl (mW oM gM cA FM (uA AM 22 g_15)) H := hP
      have hD : va_D A (mW oM gM cA FM (uA AM 22 g_15)) := hD
      refine lv_iinc (v := (x1 + 1)) (lv' := [(1, .int (x1 + 1)), (0, .ref oM)]) hx hb dX7_measures_47 hl (k := 1) rfl rfl (by decide) rfl (fun ls hl => ?_)
      refine lv_goto (tgt := 18) hx hb dX7_measures_50 (by decide) ?_
      exact hk_18 ((x1 + 1), FM, (uA AM 22 g_15)) hw _ _ _ hP hD hS (lv_sub hl [1, 0] rfl)
    refine lv_iload_n hx hb dX7_measures_18 rfl (lv_at hl 1 rfl) ?_
    refine lv_aload_n hx hb dX7_measures_19 rfl (lv_at hl 0 rfl) ?_
    refine gz (q0 := 0) (v := .int (FM 5)) fx hK hP fl_X7_62 rfl rfl dX7_measures_20 ?_
    refine lv_icmp_ge (tgt := 53) hx hb dX7_measures_23 (by decide) (fun c_17 => ?_) (fun c_17 => ?_)
    · have hw := hw.1 c_17
      refine lv_iconst (v := (1 : Int32)) hx hb dX7_measures_53 (by decide) ?_
      refine lv_istore_n (lv' := [(1, .int (1 : Int32)), (0, .ref oM)]) hx hb dX7_measures_54 rfl hl (by decide) rfl (fun ls hl => ?_)
      exact b_55 FM AM (1 : Int32) _ _ _ hP hD hS (lv_sub hl [1, 0] rfl) hw
    · have hw := hw.2 c_17
      refine lv_aload_n hx hb dX7_measures_26 rfl (lv_at hl 0 rfl) ?_
      refine gz (q0 := 0) (v := .ref (gM 22)) fx hK hP fl_X7_40 rfl rfl dX7_measures_27 ?_
      refine lv_iload_n hx hb dX7_measures_30 rfl (lv_at hl 1 rfl) ?_
      refine lv_aload_n hx hb dX7_measures_31 rfl (lv_at hl 0 rfl) ?_
      refine gz (q0 := 0) (v := .ref (gM 20)) fx hK hP fl_X7_34 rfl rfl dX7_measures_32 ?_
      refine lv_iload_n hx hb dX7_measures_35 rfl (lv_at hl 1 rfl) ?_
      obtain ⟨hz, hw⟩ := hw
      refine va_iald hx hb hK hP 9 0 rfl rfl hz dX7_measures_36 ?_
      refine lv_if_ne (tgt := 44) hx hb dX7_measures_37 (by decide) (fun c_18 => ?_) (fun c_18 => ?_)
      · have hw := hw.1 c_18
        refine lv_bipush (v := (-4 : Int32)) hx hb dX7_measures_44 (by decide) ?_
        exact b_46 FM AM x1 x1 (-4 : Int32) _ _ _ hP hD hS (lv_sub hl [0, 1] rfl) hw
      · have hw := hw.2 c_18
        refine lv_iconst (v := (0 : Int32)) hx hb dX7_measures_40 (by decide) ?_
        refine lv_goto (tgt := 46) hx hb dX7_measures_41 (by decide) ?_
        exact b_46 FM AM x1 x1 (0 : Int32) _ _ _ hP hD hS (lv_sub hl [0, 1] rfl) hw
  refine lv_aload_n hx hb dX7_measures_0 rfl (lv_at hl 0 rfl) ?_
  refine gz (q0 := 0) (v := .int (FM 23)) fx hK hP fl_X7_71 rfl rfl dX7_measures_1 ?_
  refine lv_if_eq (tgt := 8) hx hb dX7_measures_4 (by decide) (fun c_19 => ?_) (fun c_19 => ?_)
  · have hw := hw.1 c_19
    refine lv_aload_n hx hb dX7_measures_8 rfl (lv_at hl 0 rfl) ?_
    refine caMuVv (rest := []) (As := []) (w1 := ([] : va_W)) (w2 := ([] : va_W)) fx hK lk_X7_176 (c_X7_worsts l dC dI cA oM gM FM AM _ hw) hP hD hS hA 0 rfl rfl ⟨(Nat.le_of_ble_eq_true rfl), (Nat.le_of_ble_eq_true rfl)⟩ rfl hl.1 rfl (Nat.le_of_ble_eq_true rfl) dX7_measures_9 ?_
    intro u_22 H locs hw hP hD hS
    obtain ⟨FM_20, AM_21⟩ := u_22
    have hP : va_P (dC, dI) vwCl (mW oM gM cA FM_20 AM_21) H := hP
    have hD : va_D A (mW oM gM cA FM_20 AM_21) := hD
    try dsimp only at hw
    refine lv_aload_n hx hb dX7_measures_12 rfl (lv_at hl 0 rfl) ?_
    refine caMuVv (rest := []) (As := []) (w1 := ([] : va_W)) (w2 := ([] : va_W)) fx hK lk_X7_179 (c_X7_bests l dC dI cA oM gM FM_20 AM_21 _ hw) hP hD hS hA 0 rfl rfl ⟨(Nat.le_of_ble_eq_true rfl), (Nat.le_of_ble_eq_true rfl)⟩ rfl hl.1 rfl (Nat.le_of_ble_eq_true rfl) dX7_measures_13 ?_
    intro u_25 H locs hw hP hD hS
    obtain ⟨FM_23, AM_24⟩ := u_25
    have hP : va_P (dC, dI) vwCl (mW oM gM cA FM_23 AM_24) H := hP
    have hD : va_D A (mW oM gM cA FM_23 AM_24) := hD
    try dsimp only at hw
    refine lv_iconst (v := (0 : Int32)) hx hb dX7_measures_16 (by decide) ?_
    refine lv_istore_n (lv' := [(1, .int (0 : Int32)), (0, .ref oM)]) hx hb dX7_measures_17 rfl hl (by decide) rfl (fun ls hl => ?_)
    exact b_18 FM_23 AM_24 (0 : Int32) _ _ _ hP hD hS (lv_sub hl [1, 0] rfl) hw
  · have hw := hw.2 c_19
    exact hret (FM, AM) _ _ _ _ dX7_measures_7 hw hP hD hS
set_option maxHeartbeats 4000000 in
set_option maxRecDepth 100000 in
theorem c_X7_cruel (l : Launch) (dC : Nat → ClassId) (dI : Nat → Nat → Nat) (cA : ClassId) (oM : Nat) (gM : Nat → Nat) (FM : Nat → Int32) (AM : Nat → Nat → Int32) (Post : Int32 → (Nat → Int32) → (Nat → Nat → Int32) → Prop) (hw : wp_X7_cruel FM AM Post) : MuI (dC, dI) cA l yX7_cruel cX7_cruel 7 .int 8 177 [.ref oM] (mW oM gM cA FM AM) (fun r (u : (Nat → Int32) × (Nat → Nat → Int32)) => Post r (u.1) (u.2)) (fun u => (mW oM gM cA (u.1) (u.2))) := by
  refine enMu (by decide) (Nat.le_of_ble_eq_true rfl) ?_
  intro p e s m args below meth c Q ls A fx hK hP hD hS hA hret hl
  obtain ⟨hx, hb, hml, hown, hts⟩ := id fx
  have hl : lv_has ls 7 [(0, .ref oM)] := hl
  have hP : va_P (dC, dI) vwCl (mW oM gM cA FM AM) s.heap := hP
  have b_21 : ∀ (FM : Nat → Int32) (AM : Nat → Nat → Int32) (x1 : Int32) (x2 : Int32) (x3 : Int32) (x4 : Int32) (H : Heap) (locs : List Loc) (ls : Array Slot), va_P (dC, dI) vwCl (mW oM gM cA FM AM) H → va_D A (mW oM gM cA FM AM) → va_S A s.heap H locs → lv_has ls 7 [(0, .ref oM), (1, .int x1), (2, .int x2), (3, .int x3), (4, .int x4)] → wp_X7_cruel_21 FM AM x1 x2 x3 x4 Post → W p l e ({ frames := 8, cells := 0, slots := 0, locals := 177 } : Room) s m args below meth c H locs 0 0 Q (F0 m 21 ls []) := by
    intro FM AM x1 x2 x3 x4 H locs ls hP hD hS hl hw
    refine Lp_go (C := fun (t : Int32 × Int32 × Int32 × (Nat → Int32) × (Nat → Nat → Int32)) => ∀ (H : Heap) (locs : List Loc) (ls : Array Slot), va_P (dC, dI) vwCl (mW oM gM cA (t.2.2.2.1) (t.2.2.2.2)) H → va_D A (mW oM gM cA (t.2.2.2.1) (t.2.2.2.2)) → va_S A s.heap H locs → lv_has ls 7 [(0, .ref oM), (1, .int x1), (2, .int (t.1)), (3, .int (t.2.1)), (4, .int (t.2.2.1))] → W p l e ({ frames := 8, cells := 0, slots := 0, locals := 177 } : Room) s m args below meth c H locs 0 0 Q (F0 m 21 ls [])) ?_ hw H locs ls hP hD hS hl
    intro k_21 hk_21 t
    obtain ⟨x2, x3, x4, FM, AM⟩ := t
    intro hw H locs ls hP hD hS hl
    have hP : va_P (dC, dI) vwCl (mW oM gM cA FM AM) H := hP
    have hD : va_D A (mW oM gM cA FM AM) := hD
    have hl : lv_has ls 7 [(0, .ref oM), (1, .int x1), (2, .int x2), (3, .int x3), (4, .int x4)] := hl
    have hw : st_X7_cruel_21 x1 Post k_21 x2 x3 x4 FM AM := hw
    have b_94 : ∀ (FM : Nat → Int32) (AM : Nat → Nat → Int32) (x4 : Int32) (x6 : Int32) (H : Heap) (locs : List Loc) (ls : Array Slot), va_P (dC, dI) vwCl (mW oM gM cA FM AM) H → va_D A (mW oM gM cA FM AM) → va_S A s.heap H locs → lv_has ls 7 [(0, .ref oM), (1, .int x1), (4, .int x4), (6, .int x6)] → wp_X7_cruel_94 FM AM x1 x4 x6 k_21 Post → W p l e ({ frames := 8, cells := 0, slots := 0, locals := 177 } : Room) s m args below meth c H locs 0 0 Q (F0 m 94 ls []) := by
      intro FM AM x4 x6 H locs ls hP hD hS hl hw
      refine lv_iload hx hb dX7_cruel_94 (lv_at hl 2 rfl) ?_
      refine lv_istore_n (lv' := [(2, .int x4), (0, .ref oM), (1, .int x1), (4, .int x4), (6, .int x6)]) hx hb dX7_cruel_96 rfl hl (by decide) rfl (fun ls hl => ?_)
      refine lv_iload hx hb dX7_cruel_97 (lv_at hl 4 rfl) ?_
      refine lv_istore_n (lv' := [(3, .int x6), (2, .int x4), (0, .ref oM), (1, .int x1), (4, .int x4), (6, .int x6)]) hx hb dX7_cruel_99 rfl hl (by decide) rfl (fun ls hl => ?_)
      refine lv_iinc (v := (x4 + 1)) (lv' := [(4, .int (x4 + 1)), (3, .int x6), (2, .int x4), (0, .ref oM), (1, .int x1), (6, .int x6)]) hx hb dX7_cruel_100 hl (k := 4) rfl rfl (by decide) rfl (fun ls hl => ?_)
      refine lv_goto (tgt := 21) hx hb dX7_cruel_103 (by decide) ?_
      exact hk_21 (x4, x6, (x4 + 1), FM, AM) hw _ _ _ hP hD hS (lv_sub hl [3, 4, 2, 1, 0] rfl)
    have b_82 : ∀ (FM : Nat → Int32) (AM : Nat → Nat → Int32) (x2 : Int32) (x3 : Int32) (x4 : Int32) (t0 : Int32) (H : Heap) (locs : List Loc) (ls : Array Slot), va_P (dC, dI) vwCl (mW oM gM cA FM AM) H → va_D A (mW oM gM cA FM AM) → va_S A s.heap H locs → lv_has ls 7 [(0, .ref oM), (1, .int x1), (2, .int x2), (3, .int x3), (4, .int x4)] → wp_X7_cruel_82 FM AM x1 x2 x3 x4 t0 k_21 Post → W p l e ({ frames := 8, cells := 0, slots := 0, locals := 177 } : Room) s m args below meth c H locs 0 0 Q (F0 m 82 ls [.int t0]) := by
      intro FM AM x2 x3 x4 t0 H locs ls hP hD hS hl hw
      refine lv_istore (lv' := [(6, .int t0), (0, .ref oM), (1, .int x1), (2, .int x2), (3, .int x3), (4, .int x4)]) hx hb dX7_cruel_82 hl (by decide) rfl (fun ls hl => ?_)
      refine lv_iload_n hx hb dX7_cruel_84 rfl (lv_at hl 3 rfl) ?_
      refine lv_if_lt (tgt := 94) hx hb dX7_cruel_85 (by decide) (fun c_8 => ?_) (fun c_8 => ?_)
      · have hw := hw.1 c_8
        exact b_94 FM AM x4 t0 _ _ _ hP hD hS (lv_sub hl [1, 2, 5, 0] rfl) hw
      · have hw := hw.2 c_8
        refine lv_iload hx hb dX7_cruel_88 (lv_at hl 0 rfl) ?_
        refine lv_iload_n hx hb dX7_cruel_90 rfl (lv_at hl 4 rfl) ?_
        refine lv_icmp_le (tgt := 100) hx hb dX7_cruel_91 (by decide) (fun c_9 => ?_) (fun c_9 => ?_)
        · have hw := hw.1 c_9
          refine lv_iinc (v := (x4 + 1)) (lv' := [(4, .int (x4 + 1)), (6, .int t0), (0, .ref oM), (1, .int x1), (2, .int x2), (3, .int x3)]) hx hb dX7_cruel_100 hl (k := 5) rfl rfl (by decide) rfl (fun ls hl => ?_)
          refine lv_goto (tgt := 21) hx hb dX7_cruel_103 (by decide) ?_
          exact hk_21 (x2, x3, (x4 + 1), FM, AM) hw _ _ _ hP hD hS (lv_sub hl [2, 3, 4, 5, 0] rfl)
        · have hw := hw.2 c_9
          exact b_94 FM AM x4 t0 _ _ _ hP hD hS (lv_sub hl [1, 2, 5, 0] rfl) hw
    refine lv_iload hx hb dX7_cruel_21 (lv_at hl 4 rfl) ?_
    refine lv_aload_n hx hb dX7_cruel_23 rfl (lv_at hl 0 rfl) ?_
    refine gz (q0 := 0) (v := .int (FM 3)) fx hK hP fl_X7_53 rfl rfl dX7_cruel_24 ?_
    refine lv_icmp_ge (tgt := 106) hx hb dX7_cruel_27 (by decide) (fun c_10 => ?_) (fun c_10 => ?_)
    · have hw := hw.1 c_10
      refine lv_iload_n hx hb dX7_cruel_106 rfl (lv_at hl 2 rfl) ?_
      exact hret _ (FM, AM) _ _ _ _ dX7_cruel_107 rfl hw hP hD hS
    · have hw := hw.2 c_10
      refine lv_aload_n hx hb dX7_cruel_30 rfl (lv_at hl 0 rfl) ?_
      refine lv_iload hx hb dX7_cruel_31 (lv_at hl 4 rfl) ?_
      refine caMuV (rest := []) (As := [.int x4]) (w1 := ([] : va_W)) (w2 := ([] : va_W)) fx hK lk_X7_138 (c_X7_becomesOf l dC dI cA oM gM FM AM x4 _ hw) hP hD hS hA 0 rfl rfl ⟨(Nat.le_of_ble_eq_true rfl), (Nat.le_of_ble_eq_true rfl)⟩ rfl hl.1 rfl (Nat.le_of_ble_eq_true rfl) dX7_cruel_33 ?_
      intro r_14 u_13 H locs hw hP hD hS
      obtain ⟨FM_11, AM_12⟩ := u_13
      have hP : va_P (dC, dI) vwCl (mW oM gM cA FM_11 AM_12) H := hP
      have hD : va_D A (mW oM gM cA FM_11 AM_12) := hD
      try dsimp only at hw
      refine lv_istore (lv' := [(5, .int r_14), (0, .ref oM), (1, .int x1), (2, .int x2), (3, .int x3), (4, .int x4)]) hx hb dX7_cruel_36 hl (by decide) rfl (fun ls hl => ?_)
      refine lv_iload hx hb dX7_cruel_38 (lv_at hl 0 rfl) ?_
      refine lv_if_lt (tgt := 100) hx hb dX7_cruel_40 (by decide) (fun c_15 => ?_) (fun c_15 => ?_)
      · have hw := hw.1 c_15
        refine lv_iinc (v := (x4 + 1)) (lv' := [(4, .int (x4 + 1)), (5, .int r_14), (0, .ref oM), (1, .int x1), (2, .int x2), (3, .int x3)]) hx hb dX7_cruel_100 hl (k := 5) rfl rfl (by decide) rfl (fun ls hl => ?_)
        refine lv_goto (tgt := 21) hx hb dX7_cruel_103 (by decide) ?_
        exact hk_21 (x2, x3, (x4 + 1), FM_11, AM_12) hw _ _ _ hP hD hS (lv_sub hl [2, 3, 4, 5, 0] rfl)
      · have hw := hw.2 c_15
        refine lv_aload_n hx hb dX7_cruel_43 rfl (lv_at hl 1 rfl) ?_
        refine gz (q0 := 0) (v := .ref (gM 20)) fx hK hP fl_X7_34 rfl rfl dX7_cruel_44 ?_
        refine lv_iload_n hx hb dX7_cruel_47 rfl (lv_at hl 2 rfl) ?_
        refine lv_iload hx hb dX7_cruel_48 (lv_at hl 0 rfl) ?_
        refine lv_aload_n hx hb dX7_cruel_50 rfl (lv_at hl 1 rfl) ?_
        refine gz (q0 := 0) (v := .ref (gM 24)) fx hK hP fl_X7_43 rfl rfl dX7_cruel_51 ?_
        refine lv_iload hx hb dX7_cruel_54 (lv_at hl 5 rfl) ?_
        obtain ⟨hz, hw⟩ := hw
        refine va_iald hx hb hK hP 12 0 rfl rfl hz dX7_cruel_56 ?_
        refine lv_isub hx hb dX7_cruel_57 ?_
        refine lv_aload_n hx hb dX7_cruel_58 rfl (lv_at hl 1 rfl) ?_
        refine gz (q0 := 0) (v := .ref (gM 8)) fx hK hP fl_X7_16 rfl rfl dX7_cruel_59 ?_
        refine lv_iload hx hb dX7_cruel_62 (lv_at hl 5 rfl) ?_
        obtain ⟨hz, hw⟩ := hw
        refine va_iald hx hb hK hP 3 0 rfl rfl hz dX7_cruel_64 ?_
        refine lv_imul hx hb dX7_cruel_65 ?_
        refine lv_iadd hx hb dX7_cruel_66 ?_
        obtain ⟨hz, hw⟩ := hw
        refine va_iald hx hb hK hP 9 0 rfl rfl hz dX7_cruel_67 ?_
        refine lv_istore (lv' := [(6, .int ((AM_12 20) (ix (x1 + ((r_14 - ((AM_12 24) (ix x4))) * ((AM_12 8) (ix x4))))))), (5, .int r_14), (0, .ref oM), (1, .int x1), (2, .int x2), (3, .int x3), (4, .int x4)]) hx hb dX7_cruel_68 hl (by decide) rfl (fun ls hl => ?_)
        refine lv_iload hx hb dX7_cruel_70 (lv_at hl 0 rfl) ?_
        refine lv_if_ge (tgt := 80) hx hb dX7_cruel_72 (by decide) (fun c_16 => ?_) (fun c_16 => ?_)
        · have hw := hw.1 c_16
          refine lv_iload hx hb dX7_cruel_80 (lv_at hl 0 rfl) ?_
          exact b_82 FM_11 AM_12 x2 x3 x4 ((AM_12 20) (ix (x1 + ((r_14 - ((AM_12 24) (ix x4))) * ((AM_12 8) (ix x4)))))) _ _ _ hP hD hS (lv_sub hl [2, 3, 4, 5, 6] rfl) hw
        · have hw := hw.2 c_16
          refine lv_ldc (v := (1000000 : Int32)) hx hb hown (hts _ (List.mem_cons_of_mem _ q_28_16)) dX7_cruel_75 ?_
          refine lv_goto (tgt := 82) hx hb dX7_cruel_77 (by decide) ?_
          exact b_82 FM_11 AM_12 x2 x3 x4 (1000000 : Int32) _ _ _ hP hD hS (lv_sub hl [2, 3, 4, 5, 6] rfl) hw
  refine lv_aload_n hx hb dX7_cruel_0 rfl (lv_at hl 0 rfl) ?_
  refine caRoV (rest := []) (As := []) fx hK lk_X7_154 (c_X7_codeOf l dC dI cA oM gM FM AM _ hw) (hP.sub [0, 1, 2, 3, 4, 5, 6, 7, 8, 9, 10, 11, 12, 13] rfl) 0 rfl rfl ⟨(Nat.le_of_ble_eq_true rfl), (Nat.le_of_ble_eq_true rfl)⟩ rfl hl.1 rfl (Nat.le_of_ble_eq_true rfl) dX7_cruel_1 ?_
  intro r_17 hw
  refine lv_istore_n (lv' := [(1, .int r_17), (0, .ref oM)]) hx hb dX7_cruel_4 rfl hl (by decide) rfl (fun ls hl => ?_)
  refine lv_aload_n hx hb dX7_cruel_5 rfl (lv_at hl 1 rfl) ?_
  refine caMuVv (rest := []) (As := []) (w1 := ([] : va_W)) (w2 := ([] : va_W)) fx hK lk_X7_185 (c_X7_measures l dC dI cA oM gM FM AM _ hw) hP hD hS hA 0 rfl rfl ⟨(Nat.le_of_ble_eq_true rfl), (Nat.le_of_ble_eq_true rfl)⟩ rfl hl.1 rfl (Nat.le_of_ble_eq_true rfl) dX7_cruel_6 ?_
  intro u_20 H locs hw hP hD hS
  obtain ⟨FM_18, AM_19⟩ := u_20
  have hP : va_P (dC, dI) vwCl (mW oM gM cA FM_18 AM_19) H := hP
  have hD : va_D A (mW oM gM cA FM_18 AM_19) := hD
  try dsimp only at hw
  refine lv_aload_n hx hb dX7_cruel_9 rfl (lv_at hl 1 rfl) ?_
  refine lv_iload_n hx hb dX7_cruel_10 rfl (lv_at hl 0 rfl) ?_
  refine caMuVv (rest := []) (As := [.int r_17]) (w1 := ([] : va_W)) (w2 := ([] : va_W)) fx hK lk_X7_144 (c_X7_rowOf l dC dI cA oM gM FM_18 AM_19 r_17 _ hw) hP hD hS hA 0 rfl rfl ⟨(Nat.le_of_ble_eq_true rfl), (Nat.le_of_ble_eq_true rfl)⟩ rfl hl.1 rfl (Nat.le_of_ble_eq_true rfl) dX7_cruel_11 ?_
  intro u_23 H locs hw hP hD hS
  obtain ⟨FM_21, AM_22⟩ := u_23
  have hP : va_P (dC, dI) vwCl (mW oM gM cA FM_21 AM_22) H := hP
  have hD : va_D A (mW oM gM cA FM_21 AM_22) := hD
  try dsimp only at hw
  refine lv_iconst (v := (-1 : Int32)) hx hb dX7_cruel_14 (by decide) ?_
  refine lv_istore_n (lv' := [(2, .int (-1 : Int32)), (1, .int r_17), (0, .ref oM)]) hx hb dX7_cruel_15 rfl hl (by decide) rfl (fun ls hl => ?_)
  refine lv_iconst (v := (0 : Int32)) hx hb dX7_cruel_16 (by decide) ?_
  refine lv_istore_n (lv' := [(3, .int (0 : Int32)), (2, .int (-1 : Int32)), (1, .int r_17), (0, .ref oM)]) hx hb dX7_cruel_17 rfl hl (by decide) rfl (fun ls hl => ?_)
  refine lv_iconst (v := (0 : Int32)) hx hb dX7_cruel_18 (by decide) ?_
  refine lv_istore (lv' := [(4, .int (0 : Int32)), (3, .int (0 : Int32)), (2, .int (-1 : Int32)), (1, .int r_17), (0, .ref oM)]) hx hb dX7_cruel_19 hl (by decide) rfl (fun ls hl => ?_)
  exact b_21 FM_21 AM_22 r_17 (-1 : Int32) (0 : Int32) (0 : Int32) _ _ _ hP hD hS (lv_sub hl [4, 3, 2, 1, 0] rfl) hw
set_option maxHeartbeats 4000000 in
set_option maxRecDepth 100000 in
theorem c_X7_drawn (l : Launch) (dC : Nat → ClassId) (dI : Nat → Nat → Nat) (cA : ClassId) (x0 : Int32) (x1 : Int32) (Post : Int64 → Prop) (hw : wp_X7_drawn x0 x1 Post) : RoL (dC, dI) cA l yX7_drawn cX7_drawn 4 0 0 [.int x0, .int x1] ([] : va_W) Post := by
  refine enRoL (by decide) (Nat.le_of_ble_eq_true rfl) ?_
  intro p e s m args below meth c Q ls fx hK hP hret hl
  obtain ⟨hx, hb, hml, hown, hts⟩ := id fx
  have hl : lv_has ls 4 [(0, .int x0), (1, .int x1)] := hl
  refine lv_ldc2 (v := (7919 : Int64)) hx hb hown (hts _ (List.mem_cons_of_mem _ q_29_20)) dX7_drawn_0 ?_
  refine lv_iload_n hx hb dX7_drawn_3 rfl (lv_at hl 0 rfl) ?_
  refine lv_i2l (v := (Int32.toInt64 x0)) hx hb dX7_drawn_4 rfl ?_
  refine lv_lmul hx hb dX7_drawn_5 ?_
  refine lv_ldc2 (v := (6151 : Int64)) hx hb hown (hts _ (List.mem_cons_of_mem _ q_29_21)) dX7_drawn_6 ?_
  refine lv_iload_n hx hb dX7_drawn_9 rfl (lv_at hl 1 rfl) ?_
  refine lv_i2l (v := (Int32.toInt64 x1)) hx hb dX7_drawn_10 rfl ?_
  refine lv_lmul hx hb dX7_drawn_11 ?_
  refine lv_ladd hx hb dX7_drawn_12 ?_
  refine lv_lconst (v := (1 : Int64)) hx hb dX7_drawn_13 (by decide) ?_
  refine lv_ladd hx hb dX7_drawn_14 ?_
  refine lv_lstore_n (lv' := [(2, .long ((((7919 : Int64) * (Int32.toInt64 x0)) + ((6151 : Int64) * (Int32.toInt64 x1))) + (1 : Int64))), (0, .int x0), (1, .int x1)]) hx hb dX7_drawn_15 rfl hl (by decide) rfl (fun ls hl => ?_)
  refine lv_lload_n hx hb dX7_drawn_16 rfl (lv_at hl 0 rfl) ?_
  refine lv_lload_n hx hb dX7_drawn_17 rfl (lv_at hl 0 rfl) ?_
  refine lv_lmul hx hb dX7_drawn_18 ?_
  refine lv_ldc2 (v := (65521 : Int64)) hx hb hown (hts _ (List.mem_cons_of_mem _ q_29_22)) dX7_drawn_19 ?_
  refine lv_lrem hx hb dX7_drawn_22 (by decide) ?_
  exact hret _ _ _ dX7_drawn_23 hw
set_option maxHeartbeats 4000000 in
set_option maxRecDepth 100000 in
theorem c_X7_chooses (l : Launch) (dC : Nat → ClassId) (dI : Nat → Nat → Nat) (cA : ClassId) (oM : Nat) (gM : Nat → Nat) (FM : Nat → Int32) (AM : Nat → Nat → Int32) (x1 : Int32) (x2 : Int32) (x3 : Int32) (x4 : Int32) (Post : Int32 → (Nat → Int32) → (Nat → Nat → Int32) → Prop) (hw : wp_X7_chooses FM AM x1 x2 x3 x4 Post) : MuI (dC, dI) cA l yX7_chooses cX7_chooses 9 .int 9 203 [.ref oM, .int x1, .int x2, .int x3, .int x4] (mW oM gM cA FM AM) (fun r (u : (Nat → Int32) × (Nat → Nat → Int32)) => Post r (u.1) (u.2)) (fun u => (mW oM gM cA (u.1) (u.2))) := by
  refine enMu (by decide) (Nat.le_of_ble_eq_true rfl) ?_
  intro p e s m args below meth c Q ls A fx hK hP hD hS hA hret hl
  obtain ⟨hx, hb, hml, hown, hts⟩ := id fx
  have hl : lv_has ls 9 [(0, .ref oM), (1, .int x1), (2, .int x2), (3, .int x3), (4, .int x4)] := hl
  have hP : va_P (dC, dI) vwCl (mW oM gM cA FM AM) s.heap := hP
  have b_113 : ∀ (FM : Nat → Int32) (AM : Nat → Nat → Int32) (x5 : Int32) (x6 : Int32) (x8 : Int32) (H : Heap) (locs : List Loc) (ls : Array Slot), va_P (dC, dI) vwCl (mW oM gM cA FM AM) H → va_D A (mW oM gM cA FM AM) → va_S A s.heap H locs → lv_has ls 9 [(0, .ref oM), (5, .int x5), (6, .int x6), (8, .int x8)] → wp_X7_chooses_113 FM AM x5 x6 x8 Post → W p l e ({ frames := 9, cells := 0, slots := 0, locals := 203 } : Room) s m args below meth c H locs 0 0 Q (F0 m 113 ls []) := by
    intro FM AM x5 x6 x8 H locs ls hP hD hS hl hw
    refine Lp_go (C := fun (t : Int32 × Int32) => ∀ (H : Heap) (locs : List Loc) (ls : Array Slot), va_P (dC, dI) vwCl (mW oM gM cA FM AM) H → va_D A (mW oM gM cA FM AM) → va_S A s.heap H locs → lv_has ls 9 [(0, .ref oM), (5, .int x5), (6, .int (t.1)), (8, .int (t.2))] → W p l e ({ frames := 9, cells := 0, slots := 0, locals := 203 } : Room) s m args below meth c H locs 0 0 Q (F0 m 113 ls [])) ?_ hw H locs ls hP hD hS hl
    intro k_113 hk_113 t
    obtain ⟨x6, x8⟩ := t
    intro hw H locs ls hP hD hS hl
    have hP : va_P (dC, dI) vwCl (mW oM gM cA FM AM) H := hP
    have hD : va_D A (mW oM gM cA FM AM) := hD
    have hl : lv_has ls 9 [(0, .ref oM), (5, .int x5), (6, .int x6), (8, .int x8)] := hl
    have hw : st_X7_chooses_113 FM AM x5 Post k_113 x6 x8 := hw
    have b_128 : ∀ (x6 : Int32) (x8 : Int32) (H : Heap) (locs : List Loc) (ls : Array Slot), va_P (dC, dI) vwCl (mW oM gM cA FM AM) H → va_D A (mW oM gM cA FM AM) → va_S A s.heap H locs → lv_has ls 9 [(0, .ref oM), (5, .int x5), (6, .int x6), (8, .int x8)] → wp_X7_chooses_128 FM AM x5 x6 x8 k_113 Post → W p l e ({ frames := 9, cells := 0, slots := 0, locals := 203 } : Room) s m args below meth c H locs 0 0 Q (F0 m 128 ls []) := by
      intro x6 x8 H locs ls hP hD hS hl hw
      refine lv_iload hx hb dX7_chooses_128 (lv_at hl 2 rfl) ?_
      refine lv_iload hx hb dX7_chooses_130 (lv_at hl 1 rfl) ?_
      refine lv_iload hx hb dX7_chooses_132 (lv_at hl 3 rfl) ?_
      refine lv_ishr hx hb dX7_chooses_134 ?_
      refine lv_iconst (v := (1 : Int32)) hx hb dX7_chooses_135 (by decide) ?_
      refine lv_iand hx hb dX7_chooses_136 ?_
      refine lv_isub hx hb dX7_chooses_137 ?_
      refine lv_istore (lv' := [(6, .int (x6 - ((x5 >>> (x8 &&& 31)) &&& (1 : Int32)))), (0, .ref oM), (5, .int x5), (8, .int x8)]) hx hb dX7_chooses_138 hl (by decide) rfl (fun ls hl => ?_)
      refine lv_iload hx hb dX7_chooses_140 (lv_at hl 3 rfl) ?_
      refine lv_iconst (v := (1 : Int32)) hx hb dX7_chooses_142 (by decide) ?_
      refine lv_iadd hx hb dX7_chooses_143 ?_
      refine lv_aload_n hx hb dX7_chooses_144 rfl (lv_at hl 1 rfl) ?_
      refine gz (q0 := 0) (v := .int (FM 3)) fx hK hP fl_X7_53 rfl rfl dX7_chooses_145 ?_
      obtain ⟨hz, hw⟩ := hw
      refine lv_irem hx hb dX7_chooses_148 hz ?_
      refine lv_istore (lv' := [(8, .int ((x8 + (1 : Int32)) - (x8 + (1 : Int32)) / (FM 3) * (FM 3))), (6, .int (x6 - ((x5 >>> (x8 &&& 31)) &&& (1 : Int32)))), (0, .ref oM), (5, .int x5)]) hx hb dX7_chooses_149 hl (by decide) rfl (fun ls hl => ?_)
      refine lv_goto (tgt := 113) hx hb dX7_chooses_151 (by decide) ?_
      exact hk_113 ((x6 - ((x5 >>> (x8 &&& 31)) &&& (1 : Int32))), ((x8 + (1 : Int32)) - (x8 + (1 : Int32)) / (FM 3) * (FM 3))) hw _ _ _ hP hD hS (lv_sub hl [2, 3, 1, 0] rfl)
    refine lv_iload hx hb dX7_chooses_113 (lv_at hl 1 rfl) ?_
    refine lv_iload hx hb dX7_chooses_115 (lv_at hl 3 rfl) ?_
    refine lv_ishr hx hb dX7_chooses_117 ?_
    refine lv_iconst (v := (1 : Int32)) hx hb dX7_chooses_118 (by decide) ?_
    refine lv_iand hx hb dX7_chooses_119 ?_
    refine lv_if_eq (tgt := 128) hx hb dX7_chooses_120 (by decide) (fun c_13 => ?_) (fun c_13 => ?_)
    · have hw := hw.1 c_13
      exact b_128 x6 x8 _ _ _ hP hD hS (lv_sub hl [0, 1, 2, 3] rfl) hw
    · have hw := hw.2 c_13
      refine lv_iload hx hb dX7_chooses_123 (lv_at hl 2 rfl) ?_
      refine lv_if_le (tgt := 154) hx hb dX7_chooses_125 (by decide) (fun c_14 => ?_) (fun c_14 => ?_)
      · have hw := hw.1 c_14
        refine lv_iconst (v := (1 : Int32)) hx hb dX7_chooses_154 (by decide) ?_
        refine lv_iload hx hb dX7_chooses_155 (lv_at hl 3 rfl) ?_
        refine lv_ishl hx hb dX7_chooses_157 ?_
        exact hret _ (FM, AM) _ _ _ _ dX7_chooses_158 rfl hw hP hD hS
      · have hw := hw.2 c_14
        exact b_128 x6 x8 _ _ _ hP hD hS (lv_sub hl [0, 1, 2, 3] rfl) hw
  have b_102 : ∀ (FM : Nat → Int32) (AM : Nat → Nat → Int32) (x5 : Int32) (x6 : Int32) (t0 : Int32) (H : Heap) (locs : List Loc) (ls : Array Slot), va_P (dC, dI) vwCl (mW oM gM cA FM AM) H → va_D A (mW oM gM cA FM AM) → va_S A s.heap H locs → lv_has ls 9 [(0, .ref oM), (5, .int x5), (6, .int x6)] → wp_X7_chooses_102 FM AM x5 x6 t0 Post → W p l e ({ frames := 9, cells := 0, slots := 0, locals := 203 } : Room) s m args below meth c H locs 0 0 Q (F0 m 102 ls [.int t0]) := by
    intro FM AM x5 x6 t0 H locs ls hP hD hS hl hw
    refine lv_istore (lv' := [(7, .int t0), (0, .ref oM), (5, .int x5), (6, .int x6)]) hx hb dX7_chooses_102 hl (by decide) rfl (fun ls hl => ?_)
    refine lv_iload hx hb dX7_chooses_104 (lv_at hl 0 rfl) ?_
    refine lv_aload_n hx hb dX7_chooses_106 rfl (lv_at hl 1 rfl) ?_
    refine gz (q0 := 0) (v := .int (FM 3)) fx hK hP fl_X7_53 rfl rfl dX7_chooses_107 ?_
    obtain ⟨hz, hw⟩ := hw
    refine lv_irem hx hb dX7_chooses_110 hz ?_
    refine lv_istore (lv' := [(8, .int (t0 - t0 / (FM 3) * (FM 3))), (7, .int t0), (0, .ref oM), (5, .int x5), (6, .int x6)]) hx hb dX7_chooses_111 hl (by decide) rfl (fun ls hl => ?_)
    exact b_113 FM AM x5 x6 (t0 - t0 / (FM 3) * (FM 3)) _ _ _ hP hD hS (lv_sub hl [2, 3, 4, 0] rfl) hw
  have b_101 : ∀ (FM : Nat → Int32) (AM : Nat → Nat → Int32) (x5 : Int32) (x6 : Int32) (H : Heap) (locs : List Loc) (ls : Array Slot), va_P (dC, dI) vwCl (mW oM gM cA FM AM) H → va_D A (mW oM gM cA FM AM) → va_S A s.heap H locs → lv_has ls 9 [(0, .ref oM), (5, .int x5), (6, .int x6)] → wp_X7_chooses_101 FM AM x5 x6 Post → W p l e ({ frames := 9, cells := 0, slots := 0, locals := 203 } : Room) s m args below meth c H locs 0 0 Q (F0 m 101 ls []) := by
    intro FM AM x5 x6 H locs ls hP hD hS hl hw
    refine lv_iconst (v := (0 : Int32)) hx hb dX7_chooses_101 (by decide) ?_
    exact b_102 FM AM x5 x6 (0 : Int32) _ _ _ hP hD hS (lv_sub hl [0, 1, 2] rfl) hw
  have b_84 : ∀ (FM : Nat → Int32) (AM : Nat → Nat → Int32) (x5 : Int32) (x6 : Int32) (H : Heap) (locs : List Loc) (ls : Array Slot), va_P (dC, dI) vwCl (mW oM gM cA FM AM) H → va_D A (mW oM gM cA FM AM) → va_S A s.heap H locs → lv_has ls 9 [(0, .ref oM), (1, .int x1), (4, .int x4), (5, .int x5), (6, .int x6)] → wp_X7_chooses_84 FM AM x1 x4 x5 x6 Post → W p l e ({ frames := 9, cells := 0, slots := 0, locals := 203 } : Room) s m args below meth c H locs 0 0 Q (F0 m 84 ls []) := by
    intro FM AM x5 x6 H locs ls hP hD hS hl hw
    refine lv_iload_n hx hb dX7_chooses_84 rfl (lv_at hl 1 rfl) ?_
    refine lv_iconst (v := (1 : Int32)) hx hb dX7_chooses_85 (by decide) ?_
    refine lv_icmp_ne (tgt := 101) hx hb dX7_chooses_86 (by decide) (fun c_15 => ?_) (fun c_15 => ?_)
    · have hw := hw.1 c_15
      exact b_101 FM AM x5 x6 _ _ _ hP hD hS (lv_sub hl [0, 3, 4] rfl) hw
    · have hw := hw.2 c_15
      refine lv_iload hx hb dX7_chooses_89 (lv_at hl 2 rfl) ?_
      refine lv_if_lt (tgt := 101) hx hb dX7_chooses_91 (by decide) (fun c_16 => ?_) (fun c_16 => ?_)
      · have hw := hw.1 c_16
        exact b_101 FM AM x5 x6 _ _ _ hP hD hS (lv_sub hl [0, 3, 4] rfl) hw
      · have hw := hw.2 c_16
        refine lv_iload hx hb dX7_chooses_94 (lv_at hl 2 rfl) ?_
        refine lv_iconst (v := (1 : Int32)) hx hb dX7_chooses_96 (by decide) ?_
        refine lv_iadd hx hb dX7_chooses_97 ?_
        refine lv_goto (tgt := 102) hx hb dX7_chooses_98 (by decide) ?_
        exact b_102 FM AM x5 x6 (x4 + (1 : Int32)) _ _ _ hP hD hS (lv_sub hl [0, 3, 4] rfl) hw
  have b_45 : ∀ (FM : Nat → Int32) (AM : Nat → Nat → Int32) (x5 : Int32) (x7 : Int32) (x8 : Int32) (H : Heap) (locs : List Loc) (ls : Array Slot), va_P (dC, dI) vwCl (mW oM gM cA FM AM) H → va_D A (mW oM gM cA FM AM) → va_S A s.heap H locs → lv_has ls 9 [(0, .ref oM), (1, .int x1), (2, .int x2), (3, .int x3), (4, .int x4), (5, .int x5), (7, .int x7), (8, .int x8)] → wp_X7_chooses_45 FM AM x1 x2 x3 x4 x5 x7 x8 Post → W p l e ({ frames := 9, cells := 0, slots := 0, locals := 203 } : Room) s m args below meth c H locs 0 0 Q (F0 m 45 ls []) := by
    intro FM AM x5 x7 x8 H locs ls hP hD hS hl hw
    refine Lp_go (C := fun (t : Int32 × Int32) => ∀ (H : Heap) (locs : List Loc) (ls : Array Slot), va_P (dC, dI) vwCl (mW oM gM cA FM AM) H → va_D A (mW oM gM cA FM AM) → va_S A s.heap H locs → lv_has ls 9 [(0, .ref oM), (1, .int x1), (2, .int x2), (3, .int x3), (4, .int x4), (5, .int x5), (7, .int (t.1)), (8, .int (t.2))] → W p l e ({ frames := 9, cells := 0, slots := 0, locals := 203 } : Room) s m args below meth c H locs 0 0 Q (F0 m 45 ls [])) ?_ hw H locs ls hP hD hS hl
    intro k_45 hk_45 t
    obtain ⟨x7, x8⟩ := t
    intro hw H locs ls hP hD hS hl
    have hP : va_P (dC, dI) vwCl (mW oM gM cA FM AM) H := hP
    have hD : va_D A (mW oM gM cA FM AM) := hD
    have hl : lv_has ls 9 [(0, .ref oM), (1, .int x1), (2, .int x2), (3, .int x3), (4, .int x4), (5, .int x5), (7, .int x7), (8, .int x8)] := hl
    have hw : st_X7_chooses_45 FM AM x1 x2 x3 x4 x5 Post k_45 x7 x8 := hw
    refine lv_iload hx hb dX7_chooses_45 (lv_at hl 7 rfl) ?_
    refine lv_aload_n hx hb dX7_chooses_47 rfl (lv_at hl 0 rfl) ?_
    refine gz (q0 := 0) (v := .int (FM 3)) fx hK hP fl_X7_53 rfl rfl dX7_chooses_48 ?_
    refine lv_icmp_ge (tgt := 72) hx hb dX7_chooses_51 (by decide) (fun c_17 => ?_) (fun c_17 => ?_)
    · have hw := hw.1 c_17
      refine lv_iload_n hx hb dX7_chooses_72 rfl (lv_at hl 2 rfl) ?_
      refine lv_iload_n hx hb dX7_chooses_73 rfl (lv_at hl 3 rfl) ?_
      refine caRoLS (rest := []) (As := [.int x2, .int x3]) fx hK lk_X7_201 (c_X7_drawn l dC dI cA x2 x3 _ hw) (hP.sub [] rfl) ⟨(Nat.le_of_ble_eq_true rfl), (Nat.le_of_ble_eq_true rfl)⟩ rfl hl.1 rfl (Nat.le_of_ble_eq_true rfl) dX7_chooses_74 ?_
      intro r_18 hw
      refine lv_iload hx hb dX7_chooses_77 (lv_at hl 6 rfl) ?_
      refine lv_i2l (v := (Int32.toInt64 x7)) hx hb dX7_chooses_79 rfl ?_
      obtain ⟨hz, hw⟩ := hw
      refine lv_lrem hx hb dX7_chooses_80 hz ?_
      refine lv_l2i (v := (Int64.toInt32 (r_18 - r_18 / (Int32.toInt64 x7) * (Int32.toInt64 x7)))) hx hb dX7_chooses_81 rfl ?_
      refine lv_istore (lv' := [(6, .int (Int64.toInt32 (r_18 - r_18 / (Int32.toInt64 x7) * (Int32.toInt64 x7)))), (0, .ref oM), (1, .int x1), (2, .int x2), (3, .int x3), (4, .int x4), (5, .int x5), (7, .int x7), (8, .int x8)]) hx hb dX7_chooses_82 hl (by decide) rfl (fun ls hl => ?_)
      exact b_84 FM AM x5 (Int64.toInt32 (r_18 - r_18 / (Int32.toInt64 x7) * (Int32.toInt64 x7))) _ _ _ hP hD hS (lv_sub hl [1, 2, 5, 6, 0] rfl) hw
    · have hw := hw.2 c_17
      refine lv_iload hx hb dX7_chooses_54 (lv_at hl 6 rfl) ?_
      refine lv_iload hx hb dX7_chooses_56 (lv_at hl 5 rfl) ?_
      refine lv_iload hx hb dX7_chooses_58 (lv_at hl 7 rfl) ?_
      refine lv_ishr hx hb dX7_chooses_60 ?_
      refine lv_iconst (v := (1 : Int32)) hx hb dX7_chooses_61 (by decide) ?_
      refine lv_iand hx hb dX7_chooses_62 ?_
      refine lv_iadd hx hb dX7_chooses_63 ?_
      refine lv_istore (lv' := [(7, .int (x7 + ((x5 >>> (x8 &&& 31)) &&& (1 : Int32)))), (0, .ref oM), (1, .int x1), (2, .int x2), (3, .int x3), (4, .int x4), (5, .int x5), (8, .int x8)]) hx hb dX7_chooses_64 hl (by decide) rfl (fun ls hl => ?_)
      refine lv_iinc (v := (x8 + 1)) (lv' := [(8, .int (x8 + 1)), (7, .int (x7 + ((x5 >>> (x8 &&& 31)) &&& (1 : Int32)))), (0, .ref oM), (1, .int x1), (2, .int x2), (3, .int x3), (4, .int x4), (5, .int x5)]) hx hb dX7_chooses_66 hl (k := 7) rfl rfl (by decide) rfl (fun ls hl => ?_)
      refine lv_goto (tgt := 45) hx hb dX7_chooses_69 (by decide) ?_
      exact hk_45 ((x7 + ((x5 >>> (x8 &&& 31)) &&& (1 : Int32))), (x8 + 1)) hw _ _ _ hP hD hS (lv_sub hl [2, 3, 4, 5, 6, 7, 1, 0] rfl)
  refine lv_aload_n hx hb dX7_chooses_0 rfl (lv_at hl 0 rfl) ?_
  refine caMuV (rest := []) (As := []) (w1 := ([] : va_W)) (w2 := ([] : va_W)) fx hK lk_X7_141 (c_X7_tokensOf l dC dI cA oM gM FM AM _ hw) hP hD hS hA 0 rfl rfl ⟨(Nat.le_of_ble_eq_true rfl), (Nat.le_of_ble_eq_true rfl)⟩ rfl hl.1 rfl (Nat.le_of_ble_eq_true rfl) dX7_chooses_1 ?_
  intro r_22 u_21 H locs hw hP hD hS
  obtain ⟨FM_19, AM_20⟩ := u_21
  have hP : va_P (dC, dI) vwCl (mW oM gM cA FM_19 AM_20) H := hP
  have hD : va_D A (mW oM gM cA FM_19 AM_20) := hD
  try dsimp only at hw
  refine lv_istore (lv' := [(5, .int r_22), (0, .ref oM), (1, .int x1), (2, .int x2), (3, .int x3), (4, .int x4)]) hx hb dX7_chooses_4 hl (by decide) rfl (fun ls hl => ?_)
  refine lv_iload hx hb dX7_chooses_6 (lv_at hl 0 rfl) ?_
  refine lv_if_eq (tgt := 16) hx hb dX7_chooses_8 (by decide) (fun c_23 => ?_) (fun c_23 => ?_)
  · have hw := hw.1 c_23
    refine lv_iload hx hb dX7_chooses_16 (lv_at hl 0 rfl) ?_
    exact hret _ (FM_19, AM_20) _ _ _ _ dX7_chooses_18 rfl hw hP hD hS
  · have hw := hw.2 c_23
    refine lv_iload_n hx hb dX7_chooses_11 rfl (lv_at hl 2 rfl) ?_
    refine lv_iconst (v := (2 : Int32)) hx hb dX7_chooses_12 (by decide) ?_
    refine lv_icmp_ne (tgt := 19) hx hb dX7_chooses_13 (by decide) (fun c_24 => ?_) (fun c_24 => ?_)
    · have hw := hw.1 c_24
      refine lv_iload_n hx hb dX7_chooses_19 rfl (lv_at hl 2 rfl) ?_
      refine lv_iconst (v := (4 : Int32)) hx hb dX7_chooses_20 (by decide) ?_
      refine lv_icmp_ne (tgt := 31) hx hb dX7_chooses_21 (by decide) (fun c_25 => ?_) (fun c_25 => ?_)
      · have hw := hw.1 c_25
        refine lv_iconst (v := (0 : Int32)) hx hb dX7_chooses_31 (by decide) ?_
        refine lv_istore (lv' := [(6, .int (0 : Int32)), (5, .int r_22), (0, .ref oM), (1, .int x1), (2, .int x2), (3, .int x3), (4, .int x4)]) hx hb dX7_chooses_32 hl (by decide) rfl (fun ls hl => ?_)
        refine lv_iload_n hx hb dX7_chooses_34 rfl (lv_at hl 3 rfl) ?_
        refine lv_iconst (v := (3 : Int32)) hx hb dX7_chooses_35 (by decide) ?_
        refine lv_icmp_ne (tgt := 84) hx hb dX7_chooses_36 (by decide) (fun c_26 => ?_) (fun c_26 => ?_)
        · have hw := hw.1 c_26
          exact b_84 FM_19 AM_20 r_22 (0 : Int32) _ _ _ hP hD hS (lv_sub hl [2, 3, 6, 1, 0] rfl) hw
        · have hw := hw.2 c_26
          refine lv_iconst (v := (0 : Int32)) hx hb dX7_chooses_39 (by decide) ?_
          refine lv_istore (lv' := [(7, .int (0 : Int32)), (6, .int (0 : Int32)), (5, .int r_22), (0, .ref oM), (1, .int x1), (2, .int x2), (3, .int x3), (4, .int x4)]) hx hb dX7_chooses_40 hl (by decide) rfl (fun ls hl => ?_)
          refine lv_iconst (v := (0 : Int32)) hx hb dX7_chooses_42 (by decide) ?_
          refine lv_istore (lv' := [(8, .int (0 : Int32)), (7, .int (0 : Int32)), (6, .int (0 : Int32)), (5, .int r_22), (0, .ref oM), (1, .int x1), (2, .int x2), (3, .int x3), (4, .int x4)]) hx hb dX7_chooses_43 hl (by decide) rfl (fun ls hl => ?_)
          exact b_45 FM_19 AM_20 r_22 (0 : Int32) (0 : Int32) _ _ _ hP hD hS (lv_sub hl [4, 5, 6, 7, 8, 3, 1, 0] rfl) hw
      · have hw := hw.2 c_25
        refine lv_iconst (v := (1 : Int32)) hx hb dX7_chooses_24 (by decide) ?_
        refine lv_aload_n hx hb dX7_chooses_25 rfl (lv_at hl 1 rfl) ?_
        refine caMuV (rest := [.int (1 : Int32)]) (As := []) (w1 := ([] : va_W)) (w2 := ([] : va_W)) fx hK lk_X7_198 (c_X7_cruel l dC dI cA oM gM FM_19 AM_20 _ hw) hP hD hS hA 0 rfl rfl ⟨(Nat.le_of_ble_eq_true rfl), (Nat.le_of_ble_eq_true rfl)⟩ rfl hl.1 rfl (Nat.le_of_ble_eq_true rfl) dX7_chooses_26 ?_
        intro r_30 u_29 H locs hw hP hD hS
        obtain ⟨FM_27, AM_28⟩ := u_29
        have hP : va_P (dC, dI) vwCl (mW oM gM cA FM_27 AM_28) H := hP
        have hD : va_D A (mW oM gM cA FM_27 AM_28) := hD
        try dsimp only at hw
        refine lv_ishl hx hb dX7_chooses_29 ?_
        exact hret _ (FM_27, AM_28) _ _ _ _ dX7_chooses_30 rfl hw hP hD hS
    · have hw := hw.2 c_24
      refine lv_iload hx hb dX7_chooses_16 (lv_at hl 0 rfl) ?_
      exact hret _ (FM_19, AM_20) _ _ _ _ dX7_chooses_18 rfl hw hP hD hS
set_option maxHeartbeats 4000000 in
set_option maxRecDepth 100000 in
theorem c_X7_lowestBit (l : Launch) (dC : Nat → ClassId) (dI : Nat → Nat → Nat) (cA : ClassId) (x0 : Int32) (Post : Int32 → Prop) (hw : wp_X7_lowestBit x0 Post) : RoI (dC, dI) cA l yX7_lowestBit cX7_lowestBit 2 .int 0 0 [.int x0] ([] : va_W) Post := by
  refine enRo (by decide) (Nat.le_of_ble_eq_true rfl) ?_
  intro p e s m args below meth c Q ls fx hK hP hret hl
  obtain ⟨hx, hb, hml, hown, hts⟩ := id fx
  have hl : lv_has ls 2 [(0, .int x0)] := hl
  have b_2 : ∀ (x1 : Int32) (ls : Array Slot), lv_has ls 2 [(0, .int x0), (1, .int x1)] → wp_X7_lowestBit_2 x0 x1 Post → W p l e ({ frames := 0, cells := 0, slots := 0, locals := 0 } : Room) s m args below meth c s.heap [] 0 0 Q (F0 m 2 ls []) := by
    intro x1 ls hl hw
    refine Lp_go (C := fun (t : Int32) => ∀ (ls : Array Slot), lv_has ls 2 [(0, .int x0), (1, .int t)] → W p l e ({ frames := 0, cells := 0, slots := 0, locals := 0 } : Room) s m args below meth c s.heap [] 0 0 Q (F0 m 2 ls [])) ?_ hw ls hl
    intro k_2 hk_2 t
    obtain ⟨x1, ht⟩ : ∃ z, z = t := ⟨_, rfl⟩
    subst ht
    intro hw ls hl
    have hl : lv_has ls 2 [(0, .int x0), (1, .int x1)] := hl
    have hw : st_X7_lowestBit_2 x0 Post k_2 x1 := hw
    refine lv_iload_n hx hb dX7_lowestBit_2 rfl (lv_at hl 0 rfl) ?_
    refine lv_iload_n hx hb dX7_lowestBit_3 rfl (lv_at hl 1 rfl) ?_
    refine lv_ishr hx hb dX7_lowestBit_4 ?_
    refine lv_iconst (v := (1 : Int32)) hx hb dX7_lowestBit_5 (by decide) ?_
    refine lv_iand hx hb dX7_lowestBit_6 ?_
    refine lv_if_ne (tgt := 16) hx hb dX7_lowestBit_7 (by decide) (fun c_1 => ?_) (fun c_1 => ?_)
    · have hw := hw.1 c_1
      refine lv_iload_n hx hb dX7_lowestBit_16 rfl (lv_at hl 1 rfl) ?_
      exact hret _ _ _ dX7_lowestBit_17 rfl hw
    · have hw := hw.2 c_1
      refine lv_iinc (v := (x1 + 1)) (lv' := [(1, .int (x1 + 1)), (0, .int x0)]) hx hb dX7_lowestBit_10 hl (k := 1) rfl rfl (by decide) rfl (fun ls hl => ?_)
      refine lv_goto (tgt := 2) hx hb dX7_lowestBit_13 (by decide) ?_
      exact hk_2 ((x1 + 1)) hw _ (lv_sub hl [1, 0] rfl)
  refine lv_iconst (v := (0 : Int32)) hx hb dX7_lowestBit_0 (by decide) ?_
  refine lv_istore_n (lv' := [(1, .int (0 : Int32)), (0, .int x0)]) hx hb dX7_lowestBit_1 rfl hl (by decide) rfl (fun ls hl => ?_)
  exact b_2 (0 : Int32) _ (lv_sub hl [1, 0] rfl) hw
set_option maxHeartbeats 4000000 in
set_option maxRecDepth 100000 in
theorem c_X7_moves (l : Launch) (dC : Nat → ClassId) (dI : Nat → Nat → Nat) (cA : ClassId) (oM : Nat) (gM : Nat → Nat) (FM : Nat → Int32) (AM : Nat → Nat → Int32) (x1 : Int32) (Post : (Nat → Int32) → (Nat → Nat → Int32) → Prop) (hw : wp_X7_moves FM AM x1 Post) : MuV (dC, dI) cA l yX7_moves cX7_moves 3 4 89 [.ref oM, .int x1] (mW oM gM cA FM AM) (fun (u : (Nat → Int32) × (Nat → Nat → Int32)) => Post (u.1) (u.2)) (fun u => (mW oM gM cA (u.1) (u.2))) := by
  refine enMv (by decide) (Nat.le_of_ble_eq_true rfl) ?_
  intro p e s m args below meth c Q ls A fx hK hP hD hS hA hret hl
  obtain ⟨hx, hb, hml, hown, hts⟩ := id fx
  have hl : lv_has ls 3 [(0, .ref oM), (1, .int x1)] := hl
  have hP : va_P (dC, dI) vwCl (mW oM gM cA FM AM) s.heap := hP
  have b_47 : ∀ (FM : Nat → Int32) (AM : Nat → Nat → Int32) (x2 : Int32) (H : Heap) (locs : List Loc) (ls : Array Slot), va_P (dC, dI) vwCl (mW oM gM cA FM AM) H → va_D A (mW oM gM cA FM AM) → va_S A s.heap H locs → lv_has ls 3 [(0, .ref oM), (2, .int x2)] → wp_X7_moves_47 FM AM x2 Post → W p l e ({ frames := 4, cells := 0, slots := 0, locals := 89 } : Room) s m args below meth c H locs 0 0 Q (F0 m 47 ls []) := by
    intro FM AM x2 H locs ls hP hD hS hl hw
    refine Lp_go (C := fun (t : Int32 × (Nat → Int32) × (Nat → Nat → Int32)) => ∀ (H : Heap) (locs : List Loc) (ls : Array Slot), va_P (dC, dI) vwCl (mW oM gM cA (t.2.1) (t.2.2)) H → va_D A (mW oM gM cA (t.2.1) (t.2.2)) → va_S A s.heap H locs → lv_has ls 3 [(0, .ref oM), (2, .int (t.1))] → W p l e ({ frames := 4, cells := 0, slots := 0, locals := 89 } : Room) s m args below meth c H locs 0 0 Q (F0 m 47 ls [])) ?_ hw H locs ls hP hD hS hl
    intro k_47 hk_47 t
    obtain ⟨x2, FM, AM⟩ := t
    intro hw H locs ls hP hD hS hl
    have hP : va_P (dC, dI) vwCl (mW oM gM cA FM AM) H := hP
    have hD : va_D A (mW oM gM cA FM AM) := hD
    have hl : lv_has ls 3 [(0, .ref oM), (2, .int x2)] := hl
    have hw : st_X7_moves_47 Post k_47 x2 FM AM := hw
    refine lv_iload_n hx hb dX7_moves_47 rfl (lv_at hl 1 rfl) ?_
    refine lv_aload_n hx hb dX7_moves_48 rfl (lv_at hl 0 rfl) ?_
    refine gz (q0 := 0) (v := .int (FM 3)) fx hK hP fl_X7_53 rfl rfl dX7_moves_49 ?_
    refine lv_icmp_ge (tgt := 73) hx hb dX7_moves_52 (by decide) (fun c_1 => ?_) (fun c_1 => ?_)
    · have hw := hw.1 c_1
      exact hret (FM, AM) _ _ _ _ dX7_moves_73 hw hP hD hS
    · have hw := hw.2 c_1
      refine lv_aload_n hx hb dX7_moves_55 rfl (lv_at hl 0 rfl) ?_
      refine gz (q0 := 0) (v := .ref (gM 24)) fx hK hP fl_X7_43 rfl rfl dX7_moves_56 ?_
      refine lv_iload_n hx hb dX7_moves_59 rfl (lv_at hl 1 rfl) ?_
      refine lv_aload_n hx hb dX7_moves_60 rfl (lv_at hl 0 rfl) ?_
      refine gz (q0 := 0) (v := .ref (gM 25)) fx hK hP fl_X7_46 rfl rfl dX7_moves_61 ?_
      refine lv_iload_n hx hb dX7_moves_64 rfl (lv_at hl 1 rfl) ?_
      obtain ⟨hz, hw⟩ := hw
      refine va_iald hx hb hK hP 13 0 rfl rfl hz dX7_moves_65 ?_
      obtain ⟨hz, hw⟩ := hw
      refine az hx hb hK hP hD hS 12 rfl hz dX7_moves_66 ?_
      intro g_2 H locs e_3 hP hD hS
      have hw := hw g_2 e_3
      have hP : va_P (dC, dI) vwCl (mW oM gM cA FM (uA AM 24 g_2)) H := hP
      have hD : va_D A (mW oM gM cA FM (uA AM 24 g_2)) := hD
      refine lv_iinc (v := (x2 + 1)) (lv' := [(2, .int (x2 + 1)), (0, .ref oM)]) hx hb dX7_moves_67 hl (k := 1) rfl rfl (by decide) rfl (fun ls hl => ?_)
      refine lv_goto (tgt := 47) hx hb dX7_moves_70 (by decide) ?_
      exact hk_47 ((x2 + 1), FM, (uA AM 24 g_2)) hw _ _ _ hP hD hS (lv_sub hl [1, 0] rfl)
  have b_2 : ∀ (FM : Nat → Int32) (AM : Nat → Nat → Int32) (x2 : Int32) (H : Heap) (locs : List Loc) (ls : Array Slot), va_P (dC, dI) vwCl (mW oM gM cA FM AM) H → va_D A (mW oM gM cA FM AM) → va_S A s.heap H locs → lv_has ls 3 [(0, .ref oM), (1, .int x1), (2, .int x2)] → wp_X7_moves_2 FM AM x1 x2 Post → W p l e ({ frames := 4, cells := 0, slots := 0, locals := 89 } : Room) s m args below meth c H locs 0 0 Q (F0 m 2 ls []) := by
    intro FM AM x2 H locs ls hP hD hS hl hw
    refine Lp_go (C := fun (t : Int32 × (Nat → Int32) × (Nat → Nat → Int32)) => ∀ (H : Heap) (locs : List Loc) (ls : Array Slot), va_P (dC, dI) vwCl (mW oM gM cA (t.2.1) (t.2.2)) H → va_D A (mW oM gM cA (t.2.1) (t.2.2)) → va_S A s.heap H locs → lv_has ls 3 [(0, .ref oM), (1, .int x1), (2, .int (t.1))] → W p l e ({ frames := 4, cells := 0, slots := 0, locals := 89 } : Room) s m args below meth c H locs 0 0 Q (F0 m 2 ls [])) ?_ hw H locs ls hP hD hS hl
    intro k_2 hk_2 t
    obtain ⟨x2, FM, AM⟩ := t
    intro hw H locs ls hP hD hS hl
    have hP : va_P (dC, dI) vwCl (mW oM gM cA FM AM) H := hP
    have hD : va_D A (mW oM gM cA FM AM) := hD
    have hl : lv_has ls 3 [(0, .ref oM), (1, .int x1), (2, .int x2)] := hl
    have hw : st_X7_moves_2 x1 Post k_2 x2 FM AM := hw
    have b_38 : ∀ (FM : Nat → Int32) (AM : Nat → Nat → Int32) (x2 : Int32) (t1 : Int32) (t2 : Int32) (H : Heap) (locs : List Loc) (ls : Array Slot), va_P (dC, dI) vwCl (mW oM gM cA FM AM) H → va_D A (mW oM gM cA FM AM) → va_S A s.heap H locs → lv_has ls 3 [(0, .ref oM), (1, .int x1), (2, .int x2)] → wp_X7_moves_38 FM AM x1 x2 t1 t2 k_2 Post → W p l e ({ frames := 4, cells := 0, slots := 0, locals := 89 } : Room) s m args below meth c H locs 0 0 Q (F0 m 38 ls [.int t2, .int t1, .ref (gM 25)]) := by
      intro FM AM x2 t1 t2 H locs ls hP hD hS hl hw
      obtain ⟨hz, hw⟩ := hw
      refine az hx hb hK hP hD hS 13 rfl hz dX7_moves_38 ?_
      intro g_4 H locs e_5 hP hD hS
      have hw := hw g_4 e_5
      have hP : va_P (dC, dI) vwCl (mW oM gM cA FM (uA AM 25 g_4)) H := hP
      have hD : va_D A (mW oM gM cA FM (uA AM 25 g_4)) := hD
      refine lv_iinc (v := (x2 + 1)) (lv' := [(2, .int (x2 + 1)), (0, .ref oM), (1, .int x1)]) hx hb dX7_moves_39 hl (k := 2) rfl rfl (by decide) rfl (fun ls hl => ?_)
      refine lv_goto (tgt := 2) hx hb dX7_moves_42 (by decide) ?_
      exact hk_2 ((x2 + 1), FM, (uA AM 25 g_4)) hw _ _ _ hP hD hS (lv_sub hl [1, 2, 0] rfl)
    refine lv_iload_n hx hb dX7_moves_2 rfl (lv_at hl 2 rfl) ?_
    refine lv_aload_n hx hb dX7_moves_3 rfl (lv_at hl 0 rfl) ?_
    refine gz (q0 := 0) (v := .int (FM 3)) fx hK hP fl_X7_53 rfl rfl dX7_moves_4 ?_
    refine lv_icmp_ge (tgt := 45) hx hb dX7_moves_7 (by decide) (fun c_6 => ?_) (fun c_6 => ?_)
    · have hw := hw.1 c_6
      refine lv_iconst (v := (0 : Int32)) hx hb dX7_moves_45 (by decide) ?_
      refine lv_istore_n (lv' := [(2, .int (0 : Int32)), (0, .ref oM), (1, .int x1)]) hx hb dX7_moves_46 rfl hl (by decide) rfl (fun ls hl => ?_)
      exact b_47 FM AM (0 : Int32) _ _ _ hP hD hS (lv_sub hl [1, 0] rfl) hw
    · have hw := hw.2 c_6
      refine lv_aload_n hx hb dX7_moves_10 rfl (lv_at hl 0 rfl) ?_
      refine gz (q0 := 0) (v := .ref (gM 25)) fx hK hP fl_X7_46 rfl rfl dX7_moves_11 ?_
      refine lv_iload_n hx hb dX7_moves_14 rfl (lv_at hl 2 rfl) ?_
      refine lv_iload_n hx hb dX7_moves_15 rfl (lv_at hl 1 rfl) ?_
      refine lv_iload_n hx hb dX7_moves_16 rfl (lv_at hl 2 rfl) ?_
      refine lv_ishr hx hb dX7_moves_17 ?_
      refine lv_iconst (v := (1 : Int32)) hx hb dX7_moves_18 (by decide) ?_
      refine lv_iand hx hb dX7_moves_19 ?_
      refine lv_iconst (v := (1 : Int32)) hx hb dX7_moves_20 (by decide) ?_
      refine lv_icmp_ne (tgt := 32) hx hb dX7_moves_21 (by decide) (fun c_7 => ?_) (fun c_7 => ?_)
      · have hw := hw.1 c_7
        refine lv_aload_n hx hb dX7_moves_32 rfl (lv_at hl 0 rfl) ?_
        refine gz (q0 := 0) (v := .ref (gM 24)) fx hK hP fl_X7_43 rfl rfl dX7_moves_33 ?_
        refine lv_iload_n hx hb dX7_moves_36 rfl (lv_at hl 2 rfl) ?_
        obtain ⟨hz, hw⟩ := hw
        refine va_iald hx hb hK hP 12 0 rfl rfl hz dX7_moves_37 ?_
        exact b_38 FM AM x2 x2 ((AM 24) (ix x2)) _ _ _ hP hD hS (lv_sub hl [0, 1, 2] rfl) hw
      · have hw := hw.2 c_7
        refine lv_aload_n hx hb dX7_moves_24 rfl (lv_at hl 0 rfl) ?_
        refine lv_iload_n hx hb dX7_moves_25 rfl (lv_at hl 2 rfl) ?_
        refine caMuV (rest := [.int x2, .ref (gM 25)]) (As := [.int x2]) (w1 := ([] : va_W)) (w2 := ([] : va_W)) fx hK lk_X7_138 (c_X7_becomesOf l dC dI cA oM gM FM AM x2 _ hw) hP hD hS hA 0 rfl rfl ⟨(Nat.le_of_ble_eq_true rfl), (Nat.le_of_ble_eq_true rfl)⟩ rfl hl.1 rfl (Nat.le_of_ble_eq_true rfl) dX7_moves_26 ?_
        intro r_11 u_10 H locs hw hP hD hS
        obtain ⟨FM_8, AM_9⟩ := u_10
        have hP : va_P (dC, dI) vwCl (mW oM gM cA FM_8 AM_9) H := hP
        have hD : va_D A (mW oM gM cA FM_8 AM_9) := hD
        try dsimp only at hw
        refine lv_goto (tgt := 38) hx hb dX7_moves_29 (by decide) ?_
        exact b_38 FM_8 AM_9 x2 x2 r_11 _ _ _ hP hD hS (lv_sub hl [0, 1, 2] rfl) hw
  refine lv_iconst (v := (0 : Int32)) hx hb dX7_moves_0 (by decide) ?_
  refine lv_istore_n (lv' := [(2, .int (0 : Int32)), (0, .ref oM), (1, .int x1)]) hx hb dX7_moves_1 rfl hl (by decide) rfl (fun ls hl => ?_)
  exact b_2 FM AM (0 : Int32) _ _ _ hP hD hS (lv_sub hl [1, 2, 0] rfl) hw
set_option maxHeartbeats 4000000 in
set_option maxRecDepth 100000 in
theorem c_X7_run (l : Launch) (dC : Nat → ClassId) (dI : Nat → Nat → Nat) (cA : ClassId) (oM : Nat) (gM : Nat → Nat) (FM : Nat → Int32) (AM : Nat → Nat → Int32) (x1 : Int32) (x2 : Int32) (x3 : Int32) (Post : Int32 → (Nat → Int32) → (Nat → Nat → Int32) → Prop) (hw : wp_X7_run FM AM x1 x2 x3 Post) : MuI (dC, dI) cA l yX7_run cX7_run 7 .int 10 231 [.ref oM, .int x1, .int x2, .int x3] (mW oM gM cA FM AM) (fun r (u : (Nat → Int32) × (Nat → Nat → Int32)) => Post r (u.1) (u.2)) (fun u => (mW oM gM cA (u.1) (u.2))) := by
  refine enMu (by decide) (Nat.le_of_ble_eq_true rfl) ?_
  intro p e s m args below meth c Q ls A fx hK hP hD hS hA hret hl
  obtain ⟨hx, hb, hml, hown, hts⟩ := id fx
  have hl : lv_has ls 7 [(0, .ref oM), (1, .int x1), (2, .int x2), (3, .int x3)] := hl
  have hP : va_P (dC, dI) vwCl (mW oM gM cA FM AM) s.heap := hP
  have b_107 : ∀ (FM : Nat → Int32) (AM : Nat → Nat → Int32) (x4 : Int32) (x5 : Int32) (H : Heap) (locs : List Loc) (ls : Array Slot), va_P (dC, dI) vwCl (mW oM gM cA FM AM) H → va_D A (mW oM gM cA FM AM) → va_S A s.heap H locs → lv_has ls 7 [(0, .ref oM), (4, .int x4), (5, .int x5)] → wp_X7_run_107 FM AM x4 x5 Post → W p l e ({ frames := 10, cells := 0, slots := 0, locals := 231 } : Room) s m args below meth c H locs 0 0 Q (F0 m 107 ls []) := by
    intro FM AM x4 x5 H locs ls hP hD hS hl hw
    refine lv_iload hx hb dX7_run_107 (lv_at hl 1 rfl) ?_
    refine lv_if_le (tgt := 134) hx hb dX7_run_109 (by decide) (fun c_10 => ?_) (fun c_10 => ?_)
    · have hw := hw.1 c_10
      refine lv_iload hx hb dX7_run_134 (lv_at hl 1 rfl) ?_
      exact hret _ (FM, AM) _ _ _ _ dX7_run_136 rfl hw hP hD hS
    · have hw := hw.2 c_10
      refine lv_aload_n hx hb dX7_run_112 rfl (lv_at hl 0 rfl) ?_
      refine caRoV (rest := []) (As := []) fx hK lk_X7_154 (c_X7_codeOf l dC dI cA oM gM FM AM _ hw) (hP.sub [0, 1, 2, 3, 4, 5, 6, 7, 8, 9, 10, 11, 12, 13] rfl) 0 rfl rfl ⟨(Nat.le_of_ble_eq_true rfl), (Nat.le_of_ble_eq_true rfl)⟩ rfl hl.1 rfl (Nat.le_of_ble_eq_true rfl) dX7_run_113 ?_
      intro r_11 hw
      refine lv_istore (lv' := [(6, .int r_11), (0, .ref oM), (4, .int x4), (5, .int x5)]) hx hb dX7_run_116 hl (by decide) rfl (fun ls hl => ?_)
      refine lv_aload_n hx hb dX7_run_118 rfl (lv_at hl 1 rfl) ?_
      refine caMuVv (rest := []) (As := []) (w1 := ([] : va_W)) (w2 := ([] : va_W)) fx hK lk_X7_157 (c_X7_keeps l dC dI cA oM gM FM AM _ hw) hP hD hS hA 0 rfl rfl ⟨(Nat.le_of_ble_eq_true rfl), (Nat.le_of_ble_eq_true rfl)⟩ rfl hl.1 rfl (Nat.le_of_ble_eq_true rfl) dX7_run_119 ?_
      intro u_14 H locs hw hP hD hS
      obtain ⟨FM_12, AM_13⟩ := u_14
      have hP : va_P (dC, dI) vwCl (mW oM gM cA FM_12 AM_13) H := hP
      have hD : va_D A (mW oM gM cA FM_12 AM_13) := hD
      try dsimp only at hw
      refine lv_aload_n hx hb dX7_run_122 rfl (lv_at hl 1 rfl) ?_
      refine lv_iload hx hb dX7_run_123 (lv_at hl 0 rfl) ?_
      refine caMuVv (rest := []) (As := [.int r_11]) (w1 := ([] : va_W)) (w2 := ([] : va_W)) fx hK lk_X7_163 (c_X7_valuesOf l dC dI cA oM gM FM_12 AM_13 r_11 _ hw) hP hD hS hA 0 rfl rfl ⟨(Nat.le_of_ble_eq_true rfl), (Nat.le_of_ble_eq_true rfl)⟩ rfl hl.1 rfl (Nat.le_of_ble_eq_true rfl) dX7_run_125 ?_
      intro u_17 H locs hw hP hD hS
      obtain ⟨FM_15, AM_16⟩ := u_17
      have hP : va_P (dC, dI) vwCl (mW oM gM cA FM_15 AM_16) H := hP
      have hD : va_D A (mW oM gM cA FM_15 AM_16) := hD
      try dsimp only at hw
      refine lv_aload_n hx hb dX7_run_128 rfl (lv_at hl 1 rfl) ?_
      refine lv_iload hx hb dX7_run_129 (lv_at hl 3 rfl) ?_
      refine pz (q0 := 0) (v := .int x5) fx hK hP hD hS fp_X7_65 rfl rfl rfl (Nat.le_of_ble_eq_true rfl) dX7_run_131 (fun H locs hP hD hS => ?_)
      have hP : va_P (dC, dI) vwCl (mW oM gM cA (uF FM_15 10 x5) AM_16) H := hP
      have hD : va_D A (mW oM gM cA (uF FM_15 10 x5) AM_16) := hD
      refine lv_iload hx hb dX7_run_134 (lv_at hl 2 rfl) ?_
      exact hret _ ((uF FM_15 10 x5), AM_16) _ _ _ _ dX7_run_136 rfl hw hP hD hS
  have b_46 : ∀ (FM : Nat → Int32) (AM : Nat → Nat → Int32) (x4 : Int32) (x5 : Int32) (H : Heap) (locs : List Loc) (ls : Array Slot), va_P (dC, dI) vwCl (mW oM gM cA FM AM) H → va_D A (mW oM gM cA FM AM) → va_S A s.heap H locs → lv_has ls 7 [(0, .ref oM), (1, .int x1), (2, .int x2), (3, .int x3), (4, .int x4), (5, .int x5)] → wp_X7_run_46 FM AM x1 x2 x3 x4 x5 Post → W p l e ({ frames := 10, cells := 0, slots := 0, locals := 231 } : Room) s m args below meth c H locs 0 0 Q (F0 m 46 ls []) := by
    intro FM AM x4 x5 H locs ls hP hD hS hl hw
    refine Lp_go (C := fun (t : Int32 × Int32 × (Nat → Int32) × (Nat → Nat → Int32)) => ∀ (H : Heap) (locs : List Loc) (ls : Array Slot), va_P (dC, dI) vwCl (mW oM gM cA (t.2.2.1) (t.2.2.2)) H → va_D A (mW oM gM cA (t.2.2.1) (t.2.2.2)) → va_S A s.heap H locs → lv_has ls 7 [(0, .ref oM), (1, .int x1), (2, .int x2), (3, .int x3), (4, .int (t.1)), (5, .int (t.2.1))] → W p l e ({ frames := 10, cells := 0, slots := 0, locals := 231 } : Room) s m args below meth c H locs 0 0 Q (F0 m 46 ls [])) ?_ hw H locs ls hP hD hS hl
    intro k_46 hk_46 t
    obtain ⟨x4, x5, FM, AM⟩ := t
    intro hw H locs ls hP hD hS hl
    have hP : va_P (dC, dI) vwCl (mW oM gM cA FM AM) H := hP
    have hD : va_D A (mW oM gM cA FM AM) := hD
    have hl : lv_has ls 7 [(0, .ref oM), (1, .int x1), (2, .int x2), (3, .int x3), (4, .int x4), (5, .int x5)] := hl
    have hw : st_X7_run_46 x1 x2 x3 Post k_46 x4 x5 FM AM := hw
    have b_93 : ∀ (FM : Nat → Int32) (AM : Nat → Nat → Int32) (x4 : Int32) (x6 : Int32) (t0 : Int32) (H : Heap) (locs : List Loc) (ls : Array Slot), va_P (dC, dI) vwCl (mW oM gM cA FM AM) H → va_D A (mW oM gM cA FM AM) → va_S A s.heap H locs → lv_has ls 7 [(0, .ref oM), (1, .int x1), (2, .int x2), (3, .int x3), (4, .int x4), (6, .int x6)] → wp_X7_run_93 FM AM x1 x2 x3 x4 x6 t0 k_46 Post → W p l e ({ frames := 10, cells := 0, slots := 0, locals := 231 } : Room) s m args below meth c H locs 0 0 Q (F0 m 93 ls [.int t0]) := by
      intro FM AM x4 x6 t0 H locs ls hP hD hS hl hw
      refine lv_istore (lv' := [(5, .int t0), (0, .ref oM), (1, .int x1), (2, .int x2), (3, .int x3), (4, .int x4), (6, .int x6)]) hx hb dX7_run_93 hl (by decide) rfl (fun ls hl => ?_)
      refine lv_aload_n hx hb dX7_run_95 rfl (lv_at hl 1 rfl) ?_
      refine lv_iload hx hb dX7_run_96 (lv_at hl 6 rfl) ?_
      refine caMuVv (rest := []) (As := [.int x6]) (w1 := ([] : va_W)) (w2 := ([] : va_W)) fx hK lk_X7_212 (c_X7_moves l dC dI cA oM gM FM AM x6 _ hw) hP hD hS hA 0 rfl rfl ⟨(Nat.le_of_ble_eq_true rfl), (Nat.le_of_ble_eq_true rfl)⟩ rfl hl.1 rfl (Nat.le_of_ble_eq_true rfl) dX7_run_98 ?_
      intro u_20 H locs hw hP hD hS
      obtain ⟨FM_18, AM_19⟩ := u_20
      have hP : va_P (dC, dI) vwCl (mW oM gM cA FM_18 AM_19) H := hP
      have hD : va_D A (mW oM gM cA FM_18 AM_19) := hD
      try dsimp only at hw
      refine lv_iinc (v := (x4 + 1)) (lv' := [(4, .int (x4 + 1)), (5, .int t0), (0, .ref oM), (1, .int x1), (2, .int x2), (3, .int x3), (6, .int x6)]) hx hb dX7_run_101 hl (k := 5) rfl rfl (by decide) rfl (fun ls hl => ?_)
      refine lv_goto (tgt := 46) hx hb dX7_run_104 (by decide) ?_
      exact hk_46 ((x4 + 1), t0, FM_18, AM_19) hw _ _ _ hP hD hS (lv_sub hl [2, 3, 4, 5, 0, 1] rfl)
    refine lv_iload hx hb dX7_run_46 (lv_at hl 4 rfl) ?_
    refine lv_iload_n hx hb dX7_run_48 rfl (lv_at hl 3 rfl) ?_
    refine lv_icmp_ge (tgt := 107) hx hb dX7_run_49 (by decide) (fun c_21 => ?_) (fun c_21 => ?_)
    · have hw := hw.1 c_21
      exact b_107 FM AM x4 x5 _ _ _ hP hD hS (lv_sub hl [0, 4, 5] rfl) hw
    · have hw := hw.2 c_21
      refine lv_aload_n hx hb dX7_run_52 rfl (lv_at hl 0 rfl) ?_
      refine caMuV (rest := []) (As := []) (w1 := ([] : va_W)) (w2 := ([] : va_W)) fx hK lk_X7_166 (c_X7_isLegal l dC dI cA oM gM FM AM _ hw) hP hD hS hA 0 rfl rfl ⟨(Nat.le_of_ble_eq_true rfl), (Nat.le_of_ble_eq_true rfl)⟩ rfl hl.1 rfl (Nat.le_of_ble_eq_true rfl) dX7_run_53 ?_
      intro r_25 u_24 H locs hw hP hD hS
      obtain ⟨FM_22, AM_23⟩ := u_24
      have hP : va_P (dC, dI) vwCl (mW oM gM cA FM_22 AM_23) H := hP
      have hD : va_D A (mW oM gM cA FM_22 AM_23) := hD
      try dsimp only at hw
      refine lv_if_ne (tgt := 107) hx hb dX7_run_56 (by decide) (fun c_26 => ?_) (fun c_26 => ?_)
      · have hw := hw.1 c_26
        exact b_107 FM_22 AM_23 x4 x5 _ _ _ hP hD hS (lv_sub hl [0, 4, 5] rfl) hw
      · have hw := hw.2 c_26
        refine lv_aload_n hx hb dX7_run_59 rfl (lv_at hl 0 rfl) ?_
        refine caMuV (rest := []) (As := []) (w1 := ([] : va_W)) (w2 := ([] : va_W)) fx hK lk_X7_141 (c_X7_tokensOf l dC dI cA oM gM FM_22 AM_23 _ hw) hP hD hS hA 0 rfl rfl ⟨(Nat.le_of_ble_eq_true rfl), (Nat.le_of_ble_eq_true rfl)⟩ rfl hl.1 rfl (Nat.le_of_ble_eq_true rfl) dX7_run_60 ?_
        intro r_30 u_29 H locs hw hP hD hS
        obtain ⟨FM_27, AM_28⟩ := u_29
        have hP : va_P (dC, dI) vwCl (mW oM gM cA FM_27 AM_28) H := hP
        have hD : va_D A (mW oM gM cA FM_27 AM_28) := hD
        try dsimp only at hw
        refine lv_if_eq (tgt := 107) hx hb dX7_run_63 (by decide) (fun c_31 => ?_) (fun c_31 => ?_)
        · have hw := hw.1 c_31
          exact b_107 FM_27 AM_28 x4 x5 _ _ _ hP hD hS (lv_sub hl [0, 4, 5] rfl) hw
        · have hw := hw.2 c_31
          refine lv_aload_n hx hb dX7_run_66 rfl (lv_at hl 0 rfl) ?_
          refine lv_iload_n hx hb dX7_run_67 rfl (lv_at hl 1 rfl) ?_
          refine lv_iload_n hx hb dX7_run_68 rfl (lv_at hl 2 rfl) ?_
          refine lv_iload hx hb dX7_run_69 (lv_at hl 4 rfl) ?_
          refine lv_iload hx hb dX7_run_71 (lv_at hl 5 rfl) ?_
          refine caMuV (rest := []) (As := [.int x1, .int x2, .int x4, .int x5]) (w1 := ([] : va_W)) (w2 := ([] : va_W)) fx hK lk_X7_205 (c_X7_chooses l dC dI cA oM gM FM_27 AM_28 x1 x2 x4 x5 _ hw) hP hD hS hA 0 rfl rfl ⟨(Nat.le_of_ble_eq_true rfl), (Nat.le_of_ble_eq_true rfl)⟩ rfl hl.1 rfl (Nat.le_of_ble_eq_true rfl) dX7_run_73 ?_
          intro r_35 u_34 H locs hw hP hD hS
          obtain ⟨FM_32, AM_33⟩ := u_34
          have hP : va_P (dC, dI) vwCl (mW oM gM cA FM_32 AM_33) H := hP
          have hD : va_D A (mW oM gM cA FM_32 AM_33) := hD
          try dsimp only at hw
          refine lv_istore (lv' := [(6, .int r_35), (0, .ref oM), (1, .int x1), (2, .int x2), (3, .int x3), (4, .int x4), (5, .int x5)]) hx hb dX7_run_76 hl (by decide) rfl (fun ls hl => ?_)
          refine lv_iload_n hx hb dX7_run_78 rfl (lv_at hl 2 rfl) ?_
          refine lv_iconst (v := (1 : Int32)) hx hb dX7_run_79 (by decide) ?_
          refine lv_icmp_ne (tgt := 91) hx hb dX7_run_80 (by decide) (fun c_36 => ?_) (fun c_36 => ?_)
          · have hw := hw.1 c_36
            refine lv_iload hx hb dX7_run_91 (lv_at hl 6 rfl) ?_
            exact b_93 FM_32 AM_33 x4 r_35 x5 _ _ _ hP hD hS (lv_sub hl [1, 2, 3, 4, 5, 0] rfl) hw
          · have hw := hw.2 c_36
            refine lv_iload hx hb dX7_run_83 (lv_at hl 0 rfl) ?_
            refine caRoS (rest := []) (As := [.int r_35]) fx hK lk_X7_209 (c_X7_lowestBit l dC dI cA r_35 _ hw) (hP.sub [] rfl) ⟨(Nat.le_of_ble_eq_true rfl), (Nat.le_of_ble_eq_true rfl)⟩ rfl hl.1 rfl (Nat.le_of_ble_eq_true rfl) dX7_run_85 ?_
            intro r_37 hw
            refine lv_goto (tgt := 93) hx hb dX7_run_88 (by decide) ?_
            exact b_93 FM_32 AM_33 x4 r_35 r_37 _ _ _ hP hD hS (lv_sub hl [1, 2, 3, 4, 5, 0] rfl) hw
  refine lv_iload_n hx hb dX7_run_0 rfl (lv_at hl 1 rfl) ?_
  refine lv_iconst (v := (0 : Int32)) hx hb dX7_run_1 (by decide) ?_
  refine lv_iconst (v := (4 : Int32)) hx hb dX7_run_2 (by decide) ?_
  refine caRoS (rest := []) (As := [.int x1, .int (0 : Int32), .int (4 : Int32)]) fx hK lk_X7_88 (c_X7_isIn l dC dI cA x1 (0 : Int32) (4 : Int32) _ hw) (hP.sub [] rfl) ⟨(Nat.le_of_ble_eq_true rfl), (Nat.le_of_ble_eq_true rfl)⟩ rfl hl.1 rfl (Nat.le_of_ble_eq_true rfl) dX7_run_3 ?_
  intro r_38 hw
  refine lv_if_eq (tgt := 31) hx hb dX7_run_6 (by decide) (fun c_39 => ?_) (fun c_39 => ?_)
  · have hw := hw.1 c_39
    refine lv_iconst (v := (-1 : Int32)) hx hb dX7_run_31 (by decide) ?_
    exact hret _ (FM, AM) _ _ _ _ dX7_run_32 rfl hw hP hD hS
  · have hw := hw.2 c_39
    refine lv_iload_n hx hb dX7_run_9 rfl (lv_at hl 2 rfl) ?_
    refine lv_iconst (v := (0 : Int32)) hx hb dX7_run_10 (by decide) ?_
    refine lv_sipush (v := (9999 : Int32)) hx hb dX7_run_11 (by decide) ?_
    refine caRoS (rest := []) (As := [.int x2, .int (0 : Int32), .int (9999 : Int32)]) fx hK lk_X7_88 (c_X7_isIn l dC dI cA x2 (0 : Int32) (9999 : Int32) _ hw) (hP.sub [] rfl) ⟨(Nat.le_of_ble_eq_true rfl), (Nat.le_of_ble_eq_true rfl)⟩ rfl hl.1 rfl (Nat.le_of_ble_eq_true rfl) dX7_run_14 ?_
    intro r_40 hw
    refine lv_if_eq (tgt := 31) hx hb dX7_run_17 (by decide) (fun c_41 => ?_) (fun c_41 => ?_)
    · have hw := hw.1 c_41
      refine lv_iconst (v := (-1 : Int32)) hx hb dX7_run_31 (by decide) ?_
      exact hret _ (FM, AM) _ _ _ _ dX7_run_32 rfl hw hP hD hS
    · have hw := hw.2 c_41
      refine lv_iload_n hx hb dX7_run_20 rfl (lv_at hl 3 rfl) ?_
      refine lv_iconst (v := (1 : Int32)) hx hb dX7_run_21 (by decide) ?_
      refine lv_sipush (v := (300 : Int32)) hx hb dX7_run_22 (by decide) ?_
      refine caRoS (rest := []) (As := [.int x3, .int (1 : Int32), .int (300 : Int32)]) fx hK lk_X7_88 (c_X7_isIn l dC dI cA x3 (1 : Int32) (300 : Int32) _ hw) (hP.sub [] rfl) ⟨(Nat.le_of_ble_eq_true rfl), (Nat.le_of_ble_eq_true rfl)⟩ rfl hl.1 rfl (Nat.le_of_ble_eq_true rfl) dX7_run_25 ?_
      intro r_42 hw
      refine lv_if_ne (tgt := 33) hx hb dX7_run_28 (by decide) (fun c_43 => ?_) (fun c_43 => ?_)
      · have hw := hw.1 c_43
        refine lv_aload_n hx hb dX7_run_33 rfl (lv_at hl 0 rfl) ?_
        refine caMuVv (rest := []) (As := []) (w1 := ([] : va_W)) (w2 := ([] : va_W)) fx hK lk_X7_151 (c_X7_rowNow l dC dI cA oM gM FM AM _ hw) hP hD hS hA 0 rfl rfl ⟨(Nat.le_of_ble_eq_true rfl), (Nat.le_of_ble_eq_true rfl)⟩ rfl hl.1 rfl (Nat.le_of_ble_eq_true rfl) dX7_run_34 ?_
        intro u_46 H locs hw hP hD hS
        obtain ⟨FM_44, AM_45⟩ := u_46
        have hP : va_P (dC, dI) vwCl (mW oM gM cA FM_44 AM_45) H := hP
        have hD : va_D A (mW oM gM cA FM_44 AM_45) := hD
        try dsimp only at hw
        refine lv_iconst (v := (0 : Int32)) hx hb dX7_run_37 (by decide) ?_
        refine lv_istore (lv' := [(4, .int (0 : Int32)), (0, .ref oM), (1, .int x1), (2, .int x2), (3, .int x3)]) hx hb dX7_run_38 hl (by decide) rfl (fun ls hl => ?_)
        refine lv_aload_n hx hb dX7_run_40 rfl (lv_at hl 1 rfl) ?_
        refine gz (q0 := 0) (v := .int (FM_44 10)) fx hK hP fl_X7_65 rfl rfl dX7_run_41 ?_
        refine lv_istore (lv' := [(5, .int (FM_44 10)), (4, .int (0 : Int32)), (0, .ref oM), (1, .int x1), (2, .int x2), (3, .int x3)]) hx hb dX7_run_44 hl (by decide) rfl (fun ls hl => ?_)
        exact b_46 FM_44 AM_45 (0 : Int32) (FM_44 10) _ _ _ hP hD hS (lv_sub hl [2, 3, 4, 5, 1, 0] rfl) hw
      · have hw := hw.2 c_43
        refine lv_iconst (v := (-1 : Int32)) hx hb dX7_run_31 (by decide) ?_
        exact hret _ (FM, AM) _ _ _ _ dX7_run_32 rfl hw hP hD hS
set_option maxHeartbeats 4000000 in
set_option maxRecDepth 100000 in
theorem c_X7_next (l : Launch) (dC : Nat → ClassId) (dI : Nat → Nat → Nat) (cA : ClassId) (oM : Nat) (gM : Nat → Nat) (FM : Nat → Int32) (AM : Nat → Nat → Int32) (x1 : Int32) (Post : Int32 → (Nat → Int32) → (Nat → Nat → Int32) → Prop) (hw : wp_X7_next FM AM x1 Post) : MuI (dC, dI) cA l yX7_next cX7_next 2 .int 10 231 [.ref oM, .int x1] (mW oM gM cA FM AM) (fun r (u : (Nat → Int32) × (Nat → Nat → Int32)) => Post r (u.1) (u.2)) (fun u => (mW oM gM cA (u.1) (u.2))) := by
  refine enMu (by decide) (Nat.le_of_ble_eq_true rfl) ?_
  intro p e s m args below meth c Q ls A fx hK hP hD hS hA hret hl
  obtain ⟨hx, hb, hml, hown, hts⟩ := id fx
  have hl : lv_has ls 2 [(0, .ref oM), (1, .int x1)] := hl
  have hP : va_P (dC, dI) vwCl (mW oM gM cA FM AM) s.heap := hP
  refine lv_iload_n hx hb dX7_next_0 rfl (lv_at hl 1 rfl) ?_
  refine lv_iconst (v := (0 : Int32)) hx hb dX7_next_1 (by decide) ?_
  refine lv_iconst (v := (4 : Int32)) hx hb dX7_next_2 (by decide) ?_
  refine caRoS (rest := []) (As := [.int x1, .int (0 : Int32), .int (4 : Int32)]) fx hK lk_X7_88 (c_X7_isIn l dC dI cA x1 (0 : Int32) (4 : Int32) _ hw) (hP.sub [] rfl) ⟨(Nat.le_of_ble_eq_true rfl), (Nat.le_of_ble_eq_true rfl)⟩ rfl hl.1 rfl (Nat.le_of_ble_eq_true rfl) dX7_next_3 ?_
  intro r_11 hw
  refine lv_if_eq (tgt := 14) hx hb dX7_next_6 (by decide) (fun c_12 => ?_) (fun c_12 => ?_)
  · have hw := hw.1 c_12
    refine lv_iconst (v := (-1 : Int32)) hx hb dX7_next_14 (by decide) ?_
    exact hret _ (FM, AM) _ _ _ _ dX7_next_15 rfl hw hP hD hS
  · have hw := hw.2 c_12
    refine lv_iload_n hx hb dX7_next_9 rfl (lv_at hl 1 rfl) ?_
    refine lv_iconst (v := (3 : Int32)) hx hb dX7_next_10 (by decide) ?_
    refine lv_icmp_ne (tgt := 16) hx hb dX7_next_11 (by decide) (fun c_13 => ?_) (fun c_13 => ?_)
    · have hw := hw.1 c_13
      refine lv_aload_n hx hb dX7_next_16 rfl (lv_at hl 0 rfl) ?_
      refine caMuVv (rest := []) (As := []) (w1 := ([] : va_W)) (w2 := ([] : va_W)) fx hK lk_X7_151 (c_X7_rowNow l dC dI cA oM gM FM AM _ hw) hP hD hS hA 0 rfl rfl ⟨(Nat.le_of_ble_eq_true rfl), (Nat.le_of_ble_eq_true rfl)⟩ rfl hl.1 rfl (Nat.le_of_ble_eq_true rfl) dX7_next_17 ?_
      intro u_16 H locs hw hP hD hS
      obtain ⟨FM_14, AM_15⟩ := u_16
      have hP : va_P (dC, dI) vwCl (mW oM gM cA FM_14 AM_15) H := hP
      have hD : va_D A (mW oM gM cA FM_14 AM_15) := hD
      try dsimp only at hw
      refine lv_aload_n hx hb dX7_next_20 rfl (lv_at hl 0 rfl) ?_
      refine lv_iload_n hx hb dX7_next_21 rfl (lv_at hl 1 rfl) ?_
      refine lv_iconst (v := (0 : Int32)) hx hb dX7_next_22 (by decide) ?_
      refine lv_iconst (v := (0 : Int32)) hx hb dX7_next_23 (by decide) ?_
      refine lv_aload_n hx hb dX7_next_24 rfl (lv_at hl 0 rfl) ?_
      refine gz (q0 := 0) (v := .int (FM_14 10)) fx hK hP fl_X7_65 rfl rfl dX7_next_25 ?_
      refine caMuV (rest := []) (As := [.int x1, .int (0 : Int32), .int (0 : Int32), .int (FM_14 10)]) (w1 := ([] : va_W)) (w2 := ([] : va_W)) fx hK lk_X7_205 (c_X7_chooses l dC dI cA oM gM FM_14 AM_15 x1 (0 : Int32) (0 : Int32) (FM_14 10) _ hw) hP hD hS hA 0 rfl rfl ⟨(Nat.le_of_ble_eq_true rfl), (Nat.le_of_ble_eq_true rfl)⟩ rfl hl.1 rfl (Nat.le_of_ble_eq_true rfl) dX7_next_28 ?_
      intro r_20 u_19 H locs hw hP hD hS
      obtain ⟨FM_17, AM_18⟩ := u_19
      have hP : va_P (dC, dI) vwCl (mW oM gM cA FM_17 AM_18) H := hP
      have hD : va_D A (mW oM gM cA FM_17 AM_18) := hD
      try dsimp only at hw
      exact hret _ (FM_17, AM_18) _ _ _ _ dX7_next_31 rfl hw hP hD hS
    · have hw := hw.2 c_13
      refine lv_iconst (v := (-1 : Int32)) hx hb dX7_next_14 (by decide) ?_
      exact hret _ (FM, AM) _ _ _ _ dX7_next_15 rfl hw hP hD hS
set_option maxHeartbeats 4000000 in
set_option maxRecDepth 100000 in
theorem c_X7_follows (l : Launch) (dC : Nat → ClassId) (dI : Nat → Nat → Nat) (cA : ClassId) (oM : Nat) (gM : Nat → Nat) (FM : Nat → Int32) (AM : Nat → Nat → Int32) (x1 : Int32) (x2 : Int32) (Post : Int32 → (Nat → Int32) → (Nat → Nat → Int32) → Prop) (hw : wp_X7_follows FM AM x1 x2 Post) : MuI (dC, dI) cA l yX7_follows cX7_follows 3 .int 10 231 [.ref oM, .int x1, .int x2] (mW oM gM cA FM AM) (fun r (u : (Nat → Int32) × (Nat → Nat → Int32)) => Post r (u.1) (u.2)) (fun u => (mW oM gM cA (u.1) (u.2))) := by
  refine enMu (by decide) (Nat.le_of_ble_eq_true rfl) ?_
  intro p e s m args below meth c Q ls A fx hK hP hD hS hA hret hl
  obtain ⟨hx, hb, hml, hown, hts⟩ := id fx
  have hl : lv_has ls 3 [(0, .ref oM), (1, .int x1), (2, .int x2)] := hl
  have hP : va_P (dC, dI) vwCl (mW oM gM cA FM AM) s.heap := hP
  refine lv_aload_n hx hb dX7_follows_0 rfl (lv_at hl 0 rfl) ?_
  refine lv_iload_n hx hb dX7_follows_1 rfl (lv_at hl 2 rfl) ?_
  refine caMuVv (rest := []) (As := [.int x2]) (w1 := ([] : va_W)) (w2 := ([] : va_W)) fx hK lk_X7_144 (c_X7_rowOf l dC dI cA oM gM FM AM x2 _ hw) hP hD hS hA 0 rfl rfl ⟨(Nat.le_of_ble_eq_true rfl), (Nat.le_of_ble_eq_true rfl)⟩ rfl hl.1 rfl (Nat.le_of_ble_eq_true rfl) dX7_follows_2 ?_
  intro u_14 H locs hw hP hD hS
  obtain ⟨FM_12, AM_13⟩ := u_14
  have hP : va_P (dC, dI) vwCl (mW oM gM cA FM_12 AM_13) H := hP
  have hD : va_D A (mW oM gM cA FM_12 AM_13) := hD
  try dsimp only at hw
  refine lv_aload_n hx hb dX7_follows_5 rfl (lv_at hl 0 rfl) ?_
  refine lv_aload_n hx hb dX7_follows_6 rfl (lv_at hl 0 rfl) ?_
  refine lv_iload_n hx hb dX7_follows_7 rfl (lv_at hl 1 rfl) ?_
  refine lv_iconst (v := (0 : Int32)) hx hb dX7_follows_8 (by decide) ?_
  refine lv_iconst (v := (0 : Int32)) hx hb dX7_follows_9 (by decide) ?_
  refine lv_bipush (v := (-4 : Int32)) hx hb dX7_follows_10 (by decide) ?_
  refine caMuV (rest := [.ref oM]) (As := [.int x1, .int (0 : Int32), .int (0 : Int32), .int (-4 : Int32)]) (w1 := ([] : va_W)) (w2 := ([] : va_W)) fx hK lk_X7_205 (c_X7_chooses l dC dI cA oM gM FM_12 AM_13 x1 (0 : Int32) (0 : Int32) (-4 : Int32) _ hw) hP hD hS hA 0 rfl rfl ⟨(Nat.le_of_ble_eq_true rfl), (Nat.le_of_ble_eq_true rfl)⟩ rfl hl.1 rfl (Nat.le_of_ble_eq_true rfl) dX7_follows_12 ?_
  intro r_18 u_17 H locs hw hP hD hS
  obtain ⟨FM_15, AM_16⟩ := u_17
  have hP : va_P (dC, dI) vwCl (mW oM gM cA FM_15 AM_16) H := hP
  have hD : va_D A (mW oM gM cA FM_15 AM_16) := hD
  try dsimp only at hw
  refine caMuVv (rest := []) (As := [.int r_18]) (w1 := ([] : va_W)) (w2 := ([] : va_W)) fx hK lk_X7_212 (c_X7_moves l dC dI cA oM gM FM_15 AM_16 r_18 _ hw) hP hD hS hA 0 rfl rfl ⟨(Nat.le_of_ble_eq_true rfl), (Nat.le_of_ble_eq_true rfl)⟩ rfl hl.1 rfl (Nat.le_of_ble_eq_true rfl) dX7_follows_15 ?_
  intro u_21 H locs hw hP hD hS
  obtain ⟨FM_19, AM_20⟩ := u_21
  have hP : va_P (dC, dI) vwCl (mW oM gM cA FM_19 AM_20) H := hP
  have hD : va_D A (mW oM gM cA FM_19 AM_20) := hD
  try dsimp only at hw
  refine lv_aload_n hx hb dX7_follows_18 rfl (lv_at hl 0 rfl) ?_
  refine caRoV (rest := []) (As := []) fx hK lk_X7_154 (c_X7_codeOf l dC dI cA oM gM FM_19 AM_20 _ hw) (hP.sub [0, 1, 2, 3, 4, 5, 6, 7, 8, 9, 10, 11, 12, 13] rfl) 0 rfl rfl ⟨(Nat.le_of_ble_eq_true rfl), (Nat.le_of_ble_eq_true rfl)⟩ rfl hl.1 rfl (Nat.le_of_ble_eq_true rfl) dX7_follows_19 ?_
  intro r_22 hw
  exact hret _ (FM_19, AM_20) _ _ _ _ dX7_follows_22 rfl hw hP hD hS
set_option maxHeartbeats 4000000 in
set_option maxRecDepth 100000 in
theorem c_X7_loop (l : Launch) (dC : Nat → ClassId) (dI : Nat → Nat → Nat) (cA : ClassId) (oM : Nat) (gM : Nat → Nat) (FM : Nat → Int32) (AM : Nat → Nat → Int32) (x1 : Int32) (x2 : Int32) (Post : Int32 → (Nat → Int32) → (Nat → Nat → Int32) → Prop) (hw : wp_X7_loop FM AM x1 x2 Post) : MuI (dC, dI) cA l yX7_loop cX7_loop 10 .int 11 253 [.ref oM, .int x1, .int x2] (mW oM gM cA FM AM) (fun r (u : (Nat → Int32) × (Nat → Nat → Int32)) => Post r (u.1) (u.2)) (fun u => (mW oM gM cA (u.1) (u.2))) := by
  refine enMu (by decide) (Nat.le_of_ble_eq_true rfl) ?_
  intro p e s m args below meth c Q ls A fx hK hP hD hS hA hret hl
  obtain ⟨hx, hb, hml, hown, hts⟩ := id fx
  have hl : lv_has ls 10 [(0, .ref oM), (1, .int x1), (2, .int x2)] := hl
  have hP : va_P (dC, dI) vwCl (mW oM gM cA FM AM) s.heap := hP
  have b_129 : ∀ (FM : Nat → Int32) (AM : Nat → Nat → Int32) (x6 : Int32) (x7 : Int32) (x8 : Int32) (x9 : Int32) (H : Heap) (locs : List Loc) (ls : Array Slot), va_P (dC, dI) vwCl (mW oM gM cA FM AM) H → va_D A (mW oM gM cA FM AM) → va_S A s.heap H locs → lv_has ls 10 [(0, .ref oM), (1, .int x1), (2, .int x2), (6, .int x6), (7, .int x7), (8, .int x8), (9, .int x9)] → wp_X7_loop_129 FM AM x1 x2 x6 x7 x8 x9 Post → W p l e ({ frames := 11, cells := 0, slots := 0, locals := 253 } : Room) s m args below meth c H locs 0 0 Q (F0 m 129 ls []) := by
    intro FM AM x6 x7 x8 x9 H locs ls hP hD hS hl hw
    refine Lp_go (C := fun (t : Int32 × Int32 × (Nat → Int32) × (Nat → Nat → Int32)) => ∀ (H : Heap) (locs : List Loc) (ls : Array Slot), va_P (dC, dI) vwCl (mW oM gM cA (t.2.2.1) (t.2.2.2)) H → va_D A (mW oM gM cA (t.2.2.1) (t.2.2.2)) → va_S A s.heap H locs → lv_has ls 10 [(0, .ref oM), (1, .int x1), (2, .int x2), (6, .int x6), (7, .int x7), (8, .int (t.1)), (9, .int (t.2.1))] → W p l e ({ frames := 11, cells := 0, slots := 0, locals := 253 } : Room) s m args below meth c H locs 0 0 Q (F0 m 129 ls [])) ?_ hw H locs ls hP hD hS hl
    intro k_129 hk_129 t
    obtain ⟨x8, x9, FM, AM⟩ := t
    intro hw H locs ls hP hD hS hl
    have hP : va_P (dC, dI) vwCl (mW oM gM cA FM AM) H := hP
    have hD : va_D A (mW oM gM cA FM AM) := hD
    have hl : lv_has ls 10 [(0, .ref oM), (1, .int x1), (2, .int x2), (6, .int x6), (7, .int x7), (8, .int x8), (9, .int x9)] := hl
    have hw : st_X7_loop_129 x1 x2 x6 x7 Post k_129 x8 x9 FM AM := hw
    refine lv_iload hx hb dX7_loop_129 (lv_at hl 6 rfl) ?_
    refine lv_iload hx hb dX7_loop_131 (lv_at hl 4 rfl) ?_
    refine lv_icmp_eq (tgt := 151) hx hb dX7_loop_133 (by decide) (fun c_4 => ?_) (fun c_4 => ?_)
    · have hw := hw.1 c_4
      refine lv_iload_n hx hb dX7_loop_151 rfl (lv_at hl 2 rfl) ?_
      refine lv_if_ne (tgt := 160) hx hb dX7_loop_152 (by decide) (fun c_5 => ?_) (fun c_5 => ?_)
      · have hw := hw.1 c_5
        refine lv_iload hx hb dX7_loop_160 (lv_at hl 5 rfl) ?_
        exact hret _ (FM, AM) _ _ _ _ dX7_loop_162 rfl hw hP hD hS
      · have hw := hw.2 c_5
        refine lv_iload hx hb dX7_loop_155 (lv_at hl 3 rfl) ?_
        refine lv_goto (tgt := 162) hx hb dX7_loop_157 (by decide) ?_
        exact hret _ (FM, AM) _ _ _ _ dX7_loop_162 rfl hw hP hD hS
    · have hw := hw.2 c_4
      refine lv_aload_n hx hb dX7_loop_136 rfl (lv_at hl 0 rfl) ?_
      refine lv_iload_n hx hb dX7_loop_137 rfl (lv_at hl 1 rfl) ?_
      refine lv_iload hx hb dX7_loop_138 (lv_at hl 6 rfl) ?_
      refine caMuV (rest := []) (As := [.int x1, .int x9]) (w1 := ([] : va_W)) (w2 := ([] : va_W)) fx hK lk_X7_215 (c_X7_follows l dC dI cA oM gM FM AM x1 x9 _ hw) hP hD hS hA 0 rfl rfl ⟨(Nat.le_of_ble_eq_true rfl), (Nat.le_of_ble_eq_true rfl)⟩ rfl hl.1 rfl (Nat.le_of_ble_eq_true rfl) dX7_loop_140 ?_
      intro r_9 u_8 H locs hw hP hD hS
      obtain ⟨FM_6, AM_7⟩ := u_8
      have hP : va_P (dC, dI) vwCl (mW oM gM cA FM_6 AM_7) H := hP
      have hD : va_D A (mW oM gM cA FM_6 AM_7) := hD
      try dsimp only at hw
      refine lv_istore (lv' := [(9, .int r_9), (0, .ref oM), (1, .int x1), (2, .int x2), (6, .int x6), (7, .int x7), (8, .int x8)]) hx hb dX7_loop_143 hl (by decide) rfl (fun ls hl => ?_)
      refine lv_iinc (v := (x8 + 1)) (lv' := [(8, .int (x8 + 1)), (9, .int r_9), (0, .ref oM), (1, .int x1), (2, .int x2), (6, .int x6), (7, .int x7)]) hx hb dX7_loop_145 hl (k := 6) rfl rfl (by decide) rfl (fun ls hl => ?_)
      refine lv_goto (tgt := 129) hx hb dX7_loop_148 (by decide) ?_
      exact hk_129 ((x8 + 1), r_9, FM_6, AM_7) hw _ _ _ hP hD hS (lv_sub hl [2, 3, 4, 5, 6, 0, 1] rfl)
  have b_86 : ∀ (FM : Nat → Int32) (AM : Nat → Nat → Int32) (x5 : Int32) (x6 : Int32) (x7 : Int32) (H : Heap) (locs : List Loc) (ls : Array Slot), va_P (dC, dI) vwCl (mW oM gM cA FM AM) H → va_D A (mW oM gM cA FM AM) → va_S A s.heap H locs → lv_has ls 10 [(0, .ref oM), (1, .int x1), (2, .int x2), (5, .int x5), (6, .int x6), (7, .int x7)] → wp_X7_loop_86 FM AM x1 x2 x5 x6 x7 Post → W p l e ({ frames := 11, cells := 0, slots := 0, locals := 253 } : Room) s m args below meth c H locs 0 0 Q (F0 m 86 ls []) := by
    intro FM AM x5 x6 x7 H locs ls hP hD hS hl hw
    refine Lp_go (C := fun (t : Int32 × Int32 × Int32 × (Nat → Int32) × (Nat → Nat → Int32)) => ∀ (H : Heap) (locs : List Loc) (ls : Array Slot), va_P (dC, dI) vwCl (mW oM gM cA (t.2.2.2.1) (t.2.2.2.2)) H → va_D A (mW oM gM cA (t.2.2.2.1) (t.2.2.2.2)) → va_S A s.heap H locs → lv_has ls 10 [(0, .ref oM), (1, .int x1), (2, .int x2), (5, .int (t.1)), (6, .int (t.2.1)), (7, .int (t.2.2.1))] → W p l e ({ frames := 11, cells := 0, slots := 0, locals := 253 } : Room) s m args below meth c H locs 0 0 Q (F0 m 86 ls [])) ?_ hw H locs ls hP hD hS hl
    intro k_86 hk_86 t
    obtain ⟨x5, x6, x7, FM, AM⟩ := t
    intro hw H locs ls hP hD hS hl
    have hP : va_P (dC, dI) vwCl (mW oM gM cA FM AM) H := hP
    have hD : va_D A (mW oM gM cA FM AM) := hD
    have hl : lv_has ls 10 [(0, .ref oM), (1, .int x1), (2, .int x2), (5, .int x5), (6, .int x6), (7, .int x7)] := hl
    have hw : st_X7_loop_86 x1 x2 Post k_86 x5 x6 x7 FM AM := hw
    refine lv_iload hx hb dX7_loop_86 (lv_at hl 5 rfl) ?_
    refine lv_iload hx hb dX7_loop_88 (lv_at hl 3 rfl) ?_
    refine lv_icmp_eq (tgt := 117) hx hb dX7_loop_90 (by decide) (fun c_10 => ?_) (fun c_10 => ?_)
    · have hw := hw.1 c_10
      refine lv_iconst (v := (1 : Int32)) hx hb dX7_loop_117 (by decide) ?_
      refine lv_istore (lv' := [(8, .int (1 : Int32)), (0, .ref oM), (1, .int x1), (2, .int x2), (5, .int x5), (6, .int x6), (7, .int x7)]) hx hb dX7_loop_118 hl (by decide) rfl (fun ls hl => ?_)
      refine lv_aload_n hx hb dX7_loop_120 rfl (lv_at hl 1 rfl) ?_
      refine lv_iload_n hx hb dX7_loop_121 rfl (lv_at hl 2 rfl) ?_
      refine lv_iload hx hb dX7_loop_122 (lv_at hl 6 rfl) ?_
      refine caMuV (rest := []) (As := [.int x1, .int x7]) (w1 := ([] : va_W)) (w2 := ([] : va_W)) fx hK lk_X7_215 (c_X7_follows l dC dI cA oM gM FM AM x1 x7 _ hw) hP hD hS hA 0 rfl rfl ⟨(Nat.le_of_ble_eq_true rfl), (Nat.le_of_ble_eq_true rfl)⟩ rfl hl.1 rfl (Nat.le_of_ble_eq_true rfl) dX7_loop_124 ?_
      intro r_14 u_13 H locs hw hP hD hS
      obtain ⟨FM_11, AM_12⟩ := u_13
      have hP : va_P (dC, dI) vwCl (mW oM gM cA FM_11 AM_12) H := hP
      have hD : va_D A (mW oM gM cA FM_11 AM_12) := hD
      try dsimp only at hw
      refine lv_istore (lv' := [(9, .int r_14), (8, .int (1 : Int32)), (0, .ref oM), (1, .int x1), (2, .int x2), (5, .int x5), (6, .int x6), (7, .int x7)]) hx hb dX7_loop_127 hl (by decide) rfl (fun ls hl => ?_)
      exact b_129 FM_11 AM_12 x6 x7 (1 : Int32) r_14 _ _ _ hP hD hS (lv_sub hl [2, 3, 4, 6, 7, 1, 0] rfl) hw
    · have hw := hw.2 c_10
      refine lv_aload_n hx hb dX7_loop_93 rfl (lv_at hl 0 rfl) ?_
      refine lv_iload_n hx hb dX7_loop_94 rfl (lv_at hl 1 rfl) ?_
      refine lv_iload hx hb dX7_loop_95 (lv_at hl 5 rfl) ?_
      refine caMuV (rest := []) (As := [.int x1, .int x7]) (w1 := ([] : va_W)) (w2 := ([] : va_W)) fx hK lk_X7_215 (c_X7_follows l dC dI cA oM gM FM AM x1 x7 _ hw) hP hD hS hA 0 rfl rfl ⟨(Nat.le_of_ble_eq_true rfl), (Nat.le_of_ble_eq_true rfl)⟩ rfl hl.1 rfl (Nat.le_of_ble_eq_true rfl) dX7_loop_97 ?_
      intro r_18 u_17 H locs hw hP hD hS
      obtain ⟨FM_15, AM_16⟩ := u_17
      have hP : va_P (dC, dI) vwCl (mW oM gM cA FM_15 AM_16) H := hP
      have hD : va_D A (mW oM gM cA FM_15 AM_16) := hD
      try dsimp only at hw
      refine lv_istore (lv' := [(7, .int r_18), (0, .ref oM), (1, .int x1), (2, .int x2), (5, .int x5), (6, .int x6)]) hx hb dX7_loop_100 hl (by decide) rfl (fun ls hl => ?_)
      refine lv_aload_n hx hb dX7_loop_102 rfl (lv_at hl 1 rfl) ?_
      refine lv_iload_n hx hb dX7_loop_103 rfl (lv_at hl 2 rfl) ?_
      refine lv_iload hx hb dX7_loop_104 (lv_at hl 4 rfl) ?_
      refine caMuV (rest := []) (As := [.int x1, .int x5]) (w1 := ([] : va_W)) (w2 := ([] : va_W)) fx hK lk_X7_215 (c_X7_follows l dC dI cA oM gM FM_15 AM_16 x1 x5 _ hw) hP hD hS hA 0 rfl rfl ⟨(Nat.le_of_ble_eq_true rfl), (Nat.le_of_ble_eq_true rfl)⟩ rfl hl.1 rfl (Nat.le_of_ble_eq_true rfl) dX7_loop_106 ?_
      intro r_22 u_21 H locs hw hP hD hS
      obtain ⟨FM_19, AM_20⟩ := u_21
      have hP : va_P (dC, dI) vwCl (mW oM gM cA FM_19 AM_20) H := hP
      have hD : va_D A (mW oM gM cA FM_19 AM_20) := hD
      try dsimp only at hw
      refine lv_istore (lv' := [(5, .int r_22), (7, .int r_18), (0, .ref oM), (1, .int x1), (2, .int x2), (6, .int x6)]) hx hb dX7_loop_109 hl (by decide) rfl (fun ls hl => ?_)
      refine lv_iinc (v := (x6 + 1)) (lv' := [(6, .int (x6 + 1)), (5, .int r_22), (7, .int r_18), (0, .ref oM), (1, .int x1), (2, .int x2)]) hx hb dX7_loop_111 hl (k := 5) rfl rfl (by decide) rfl (fun ls hl => ?_)
      refine lv_goto (tgt := 86) hx hb dX7_loop_114 (by decide) ?_
      exact hk_86 (r_22, (x6 + 1), r_18, FM_19, AM_20) hw _ _ _ hP hD hS (lv_sub hl [3, 4, 5, 1, 0, 2] rfl)
  have b_47 : ∀ (FM : Nat → Int32) (AM : Nat → Nat → Int32) (x3 : Int32) (x4 : Int32) (x5 : Int32) (H : Heap) (locs : List Loc) (ls : Array Slot), va_P (dC, dI) vwCl (mW oM gM cA FM AM) H → va_D A (mW oM gM cA FM AM) → va_S A s.heap H locs → lv_has ls 10 [(0, .ref oM), (1, .int x1), (2, .int x2), (3, .int x3), (4, .int x4), (5, .int x5)] → wp_X7_loop_47 FM AM x1 x2 x3 x4 x5 Post → W p l e ({ frames := 11, cells := 0, slots := 0, locals := 253 } : Room) s m args below meth c H locs 0 0 Q (F0 m 47 ls []) := by
    intro FM AM x3 x4 x5 H locs ls hP hD hS hl hw
    refine Lp_go (C := fun (t : Int32 × Int32 × (Nat → Int32) × (Nat → Nat → Int32)) => ∀ (H : Heap) (locs : List Loc) (ls : Array Slot), va_P (dC, dI) vwCl (mW oM gM cA (t.2.2.1) (t.2.2.2)) H → va_D A (mW oM gM cA (t.2.2.1) (t.2.2.2)) → va_S A s.heap H locs → lv_has ls 10 [(0, .ref oM), (1, .int x1), (2, .int x2), (3, .int x3), (4, .int (t.1)), (5, .int (t.2.1))] → W p l e ({ frames := 11, cells := 0, slots := 0, locals := 253 } : Room) s m args below meth c H locs 0 0 Q (F0 m 47 ls [])) ?_ hw H locs ls hP hD hS hl
    intro k_47 hk_47 t
    obtain ⟨x4, x5, FM, AM⟩ := t
    intro hw H locs ls hP hD hS hl
    have hP : va_P (dC, dI) vwCl (mW oM gM cA FM AM) H := hP
    have hD : va_D A (mW oM gM cA FM AM) := hD
    have hl : lv_has ls 10 [(0, .ref oM), (1, .int x1), (2, .int x2), (3, .int x3), (4, .int x4), (5, .int x5)] := hl
    have hw : st_X7_loop_47 x1 x2 x3 Post k_47 x4 x5 FM AM := hw
    refine lv_iload hx hb dX7_loop_47 (lv_at hl 4 rfl) ?_
    refine lv_iload hx hb dX7_loop_49 (lv_at hl 5 rfl) ?_
    refine lv_icmp_eq (tgt := 80) hx hb dX7_loop_51 (by decide) (fun c_23 => ?_) (fun c_23 => ?_)
    · have hw := hw.1 c_23
      refine lv_iconst (v := (0 : Int32)) hx hb dX7_loop_80 (by decide) ?_
      refine lv_istore (lv' := [(6, .int (0 : Int32)), (0, .ref oM), (1, .int x1), (2, .int x2), (3, .int x3), (4, .int x4), (5, .int x5)]) hx hb dX7_loop_81 hl (by decide) rfl (fun ls hl => ?_)
      refine lv_iload_n hx hb dX7_loop_83 rfl (lv_at hl 4 rfl) ?_
      refine lv_istore (lv' := [(7, .int x3), (6, .int (0 : Int32)), (0, .ref oM), (1, .int x1), (2, .int x2), (3, .int x3), (4, .int x4), (5, .int x5)]) hx hb dX7_loop_84 hl (by decide) rfl (fun ls hl => ?_)
      exact b_86 FM AM x5 (0 : Int32) x3 _ _ _ hP hD hS (lv_sub hl [2, 3, 4, 7, 1, 0] rfl) hw
    · have hw := hw.2 c_23
      refine lv_aload_n hx hb dX7_loop_54 rfl (lv_at hl 0 rfl) ?_
      refine lv_iload_n hx hb dX7_loop_55 rfl (lv_at hl 1 rfl) ?_
      refine lv_iload hx hb dX7_loop_56 (lv_at hl 4 rfl) ?_
      refine caMuV (rest := []) (As := [.int x1, .int x4]) (w1 := ([] : va_W)) (w2 := ([] : va_W)) fx hK lk_X7_215 (c_X7_follows l dC dI cA oM gM FM AM x1 x4 _ hw) hP hD hS hA 0 rfl rfl ⟨(Nat.le_of_ble_eq_true rfl), (Nat.le_of_ble_eq_true rfl)⟩ rfl hl.1 rfl (Nat.le_of_ble_eq_true rfl) dX7_loop_58 ?_
      intro r_27 u_26 H locs hw hP hD hS
      obtain ⟨FM_24, AM_25⟩ := u_26
      have hP : va_P (dC, dI) vwCl (mW oM gM cA FM_24 AM_25) H := hP
      have hD : va_D A (mW oM gM cA FM_24 AM_25) := hD
      try dsimp only at hw
      refine lv_istore (lv' := [(4, .int r_27), (0, .ref oM), (1, .int x1), (2, .int x2), (3, .int x3), (5, .int x5)]) hx hb dX7_loop_61 hl (by decide) rfl (fun ls hl => ?_)
      refine lv_aload_n hx hb dX7_loop_63 rfl (lv_at hl 1 rfl) ?_
      refine lv_iload_n hx hb dX7_loop_64 rfl (lv_at hl 2 rfl) ?_
      refine lv_aload_n hx hb dX7_loop_65 rfl (lv_at hl 1 rfl) ?_
      refine lv_iload_n hx hb dX7_loop_66 rfl (lv_at hl 2 rfl) ?_
      refine lv_iload hx hb dX7_loop_67 (lv_at hl 5 rfl) ?_
      refine caMuV (rest := [.int x1, .ref oM]) (As := [.int x1, .int x5]) (w1 := ([] : va_W)) (w2 := ([] : va_W)) fx hK lk_X7_215 (c_X7_follows l dC dI cA oM gM FM_24 AM_25 x1 x5 _ hw) hP hD hS hA 0 rfl rfl ⟨(Nat.le_of_ble_eq_true rfl), (Nat.le_of_ble_eq_true rfl)⟩ rfl hl.1 rfl (Nat.le_of_ble_eq_true rfl) dX7_loop_69 ?_
      intro r_31 u_30 H locs hw hP hD hS
      obtain ⟨FM_28, AM_29⟩ := u_30
      have hP : va_P (dC, dI) vwCl (mW oM gM cA FM_28 AM_29) H := hP
      have hD : va_D A (mW oM gM cA FM_28 AM_29) := hD
      try dsimp only at hw
      refine caMuV (rest := []) (As := [.int x1, .int r_31]) (w1 := ([] : va_W)) (w2 := ([] : va_W)) fx hK lk_X7_215 (c_X7_follows l dC dI cA oM gM FM_28 AM_29 x1 r_31 _ hw) hP hD hS hA 0 rfl rfl ⟨(Nat.le_of_ble_eq_true rfl), (Nat.le_of_ble_eq_true rfl)⟩ rfl hl.1 rfl (Nat.le_of_ble_eq_true rfl) dX7_loop_72 ?_
      intro r_35 u_34 H locs hw hP hD hS
      obtain ⟨FM_32, AM_33⟩ := u_34
      have hP : va_P (dC, dI) vwCl (mW oM gM cA FM_32 AM_33) H := hP
      have hD : va_D A (mW oM gM cA FM_32 AM_33) := hD
      try dsimp only at hw
      refine lv_istore (lv' := [(5, .int r_35), (4, .int r_27), (0, .ref oM), (1, .int x1), (2, .int x2), (3, .int x3)]) hx hb dX7_loop_75 hl (by decide) rfl (fun ls hl => ?_)
      refine lv_goto (tgt := 47) hx hb dX7_loop_77 (by decide) ?_
      exact hk_47 (r_27, r_35, FM_32, AM_33) hw _ _ _ hP hD hS (lv_sub hl [2, 3, 4, 5, 1, 0] rfl)
  have b_14 : ∀ (FM : Nat → Int32) (AM : Nat → Nat → Int32) (H : Heap) (locs : List Loc) (ls : Array Slot), va_P (dC, dI) vwCl (mW oM gM cA FM AM) H → va_D A (mW oM gM cA FM AM) → va_S A s.heap H locs → lv_has ls 10 [(0, .ref oM), (1, .int x1), (2, .int x2)] → wp_X7_loop_14 FM AM x1 x2 Post → W p l e ({ frames := 11, cells := 0, slots := 0, locals := 253 } : Room) s m args below meth c H locs 0 0 Q (F0 m 14 ls []) := by
    intro FM AM H locs ls hP hD hS hl hw
    refine lv_iload_n hx hb dX7_loop_14 rfl (lv_at hl 2 rfl) ?_
    refine lv_iconst (v := (0 : Int32)) hx hb dX7_loop_15 (by decide) ?_
    refine lv_iconst (v := (1 : Int32)) hx hb dX7_loop_16 (by decide) ?_
    refine caRoS (rest := []) (As := [.int x2, .int (0 : Int32), .int (1 : Int32)]) fx hK lk_X7_88 (c_X7_isIn l dC dI cA x2 (0 : Int32) (1 : Int32) _ hw) (hP.sub [] rfl) ⟨(Nat.le_of_ble_eq_true rfl), (Nat.le_of_ble_eq_true rfl)⟩ rfl hl.1 rfl (Nat.le_of_ble_eq_true rfl) dX7_loop_17 ?_
    intro r_36 hw
    refine lv_if_ne (tgt := 25) hx hb dX7_loop_20 (by decide) (fun c_37 => ?_) (fun c_37 => ?_)
    · have hw := hw.1 c_37
      refine lv_aload_n hx hb dX7_loop_25 rfl (lv_at hl 0 rfl) ?_
      refine caMuV (rest := []) (As := []) (w1 := ([] : va_W)) (w2 := ([] : va_W)) fx hK lk_X7_160 (c_X7_code l dC dI cA oM gM FM AM _ hw) hP hD hS hA 0 rfl rfl ⟨(Nat.le_of_ble_eq_true rfl), (Nat.le_of_ble_eq_true rfl)⟩ rfl hl.1 rfl (Nat.le_of_ble_eq_true rfl) dX7_loop_26 ?_
      intro r_41 u_40 H locs hw hP hD hS
      obtain ⟨FM_38, AM_39⟩ := u_40
      have hP : va_P (dC, dI) vwCl (mW oM gM cA FM_38 AM_39) H := hP
      have hD : va_D A (mW oM gM cA FM_38 AM_39) := hD
      try dsimp only at hw
      refine lv_istore_n (lv' := [(3, .int r_41), (0, .ref oM), (1, .int x1), (2, .int x2)]) hx hb dX7_loop_29 rfl hl (by decide) rfl (fun ls hl => ?_)
      refine lv_aload_n hx hb dX7_loop_30 rfl (lv_at hl 1 rfl) ?_
      refine lv_iload_n hx hb dX7_loop_31 rfl (lv_at hl 2 rfl) ?_
      refine lv_iload_n hx hb dX7_loop_32 rfl (lv_at hl 0 rfl) ?_
      refine caMuV (rest := []) (As := [.int x1, .int r_41]) (w1 := ([] : va_W)) (w2 := ([] : va_W)) fx hK lk_X7_215 (c_X7_follows l dC dI cA oM gM FM_38 AM_39 x1 r_41 _ hw) hP hD hS hA 0 rfl rfl ⟨(Nat.le_of_ble_eq_true rfl), (Nat.le_of_ble_eq_true rfl)⟩ rfl hl.1 rfl (Nat.le_of_ble_eq_true rfl) dX7_loop_33 ?_
      intro r_45 u_44 H locs hw hP hD hS
      obtain ⟨FM_42, AM_43⟩ := u_44
      have hP : va_P (dC, dI) vwCl (mW oM gM cA FM_42 AM_43) H := hP
      have hD : va_D A (mW oM gM cA FM_42 AM_43) := hD
      try dsimp only at hw
      refine lv_istore (lv' := [(4, .int r_45), (3, .int r_41), (0, .ref oM), (1, .int x1), (2, .int x2)]) hx hb dX7_loop_36 hl (by decide) rfl (fun ls hl => ?_)
      refine lv_aload_n hx hb dX7_loop_38 rfl (lv_at hl 2 rfl) ?_
      refine lv_iload_n hx hb dX7_loop_39 rfl (lv_at hl 3 rfl) ?_
      refine lv_iload hx hb dX7_loop_40 (lv_at hl 0 rfl) ?_
      refine caMuV (rest := []) (As := [.int x1, .int r_45]) (w1 := ([] : va_W)) (w2 := ([] : va_W)) fx hK lk_X7_215 (c_X7_follows l dC dI cA oM gM FM_42 AM_43 x1 r_45 _ hw) hP hD hS hA 0 rfl rfl ⟨(Nat.le_of_ble_eq_true rfl), (Nat.le_of_ble_eq_true rfl)⟩ rfl hl.1 rfl (Nat.le_of_ble_eq_true rfl) dX7_loop_42 ?_
      intro r_49 u_48 H locs hw hP hD hS
      obtain ⟨FM_46, AM_47⟩ := u_48
      have hP : va_P (dC, dI) vwCl (mW oM gM cA FM_46 AM_47) H := hP
      have hD : va_D A (mW oM gM cA FM_46 AM_47) := hD
      try dsimp only at hw
      refine lv_istore (lv' := [(5, .int r_49), (4, .int r_45), (3, .int r_41), (0, .ref oM), (1, .int x1), (2, .int x2)]) hx hb dX7_loop_45 hl (by decide) rfl (fun ls hl => ?_)
      exact b_47 FM_46 AM_47 r_41 r_45 r_49 _ _ _ hP hD hS (lv_sub hl [3, 4, 5, 2, 1, 0] rfl) hw
    · have hw := hw.2 c_37
      refine lv_iconst (v := (-1 : Int32)) hx hb dX7_loop_23 (by decide) ?_
      exact hret _ (FM, AM) _ _ _ _ dX7_loop_24 rfl hw hP hD hS
  refine lv_iload_n hx hb dX7_loop_0 rfl (lv_at hl 1 rfl) ?_
  refine lv_if_eq (tgt := 14) hx hb dX7_loop_1 (by decide) (fun c_50 => ?_) (fun c_50 => ?_)
  · have hw := hw.1 c_50
    exact b_14 FM AM _ _ _ hP hD hS (lv_sub hl [0, 1, 2] rfl) hw
  · have hw := hw.2 c_50
    refine lv_iload_n hx hb dX7_loop_4 rfl (lv_at hl 1 rfl) ?_
    refine lv_iconst (v := (2 : Int32)) hx hb dX7_loop_5 (by decide) ?_
    refine lv_icmp_eq (tgt := 14) hx hb dX7_loop_6 (by decide) (fun c_51 => ?_) (fun c_51 => ?_)
    · have hw := hw.1 c_51
      exact b_14 FM AM _ _ _ hP hD hS (lv_sub hl [0, 1, 2] rfl) hw
    · have hw := hw.2 c_51
      refine lv_iload_n hx hb dX7_loop_9 rfl (lv_at hl 1 rfl) ?_
      refine lv_iconst (v := (4 : Int32)) hx hb dX7_loop_10 (by decide) ?_
      refine lv_icmp_ne (tgt := 23) hx hb dX7_loop_11 (by decide) (fun c_52 => ?_) (fun c_52 => ?_)
      · have hw := hw.1 c_52
        refine lv_iconst (v := (-1 : Int32)) hx hb dX7_loop_23 (by decide) ?_
        exact hret _ (FM, AM) _ _ _ _ dX7_loop_24 rfl hw hP hD hS
      · have hw := hw.2 c_52
        exact b_14 FM AM _ _ _ hP hD hS (lv_sub hl [0, 1, 2] rfl) hw
set_option maxHeartbeats 4000000 in
set_option maxRecDepth 100000 in
theorem c_X7_storm (l : Launch) (dC : Nat → ClassId) (dI : Nat → Nat → Nat) (cA : ClassId) (oM : Nat) (gM : Nat → Nat) (FM : Nat → Int32) (AM : Nat → Nat → Int32) (x1 : Int32) (x2 : Int32) (x3 : Int32) (x4 : Int32) (Post : Int32 → (Nat → Int32) → (Nat → Nat → Int32) → Prop) (hw : wp_X7_storm FM AM x1 x2 x3 x4 Post) : MuI (dC, dI) cA l yX7_storm cX7_storm 12 .int 10 231 [.ref oM, .int x1, .int x2, .int x3, .int x4] (mW oM gM cA FM AM) (fun r (u : (Nat → Int32) × (Nat → Nat → Int32)) => Post r (u.1) (u.2)) (fun u => (mW oM gM cA (u.1) (u.2))) := by
  refine enMu (by decide) (Nat.le_of_ble_eq_true rfl) ?_
  intro p e s m args below meth c Q ls A fx hK hP hD hS hA hret hl
  obtain ⟨hx, hb, hml, hown, hts⟩ := id fx
  have hl : lv_has ls 12 [(0, .ref oM), (1, .int x1), (2, .int x2), (3, .int x3), (4, .int x4)] := hl
  have hP : va_P (dC, dI) vwCl (mW oM gM cA FM AM) s.heap := hP
  have b_65 : ∀ (FM : Nat → Int32) (AM : Nat → Nat → Int32) (x5 : Int32) (x6 : Int32) (x7 : Int32) (x8 : Int32) (x9 : Int32) (H : Heap) (locs : List Loc) (ls : Array Slot), va_P (dC, dI) vwCl (mW oM gM cA FM AM) H → va_D A (mW oM gM cA FM AM) → va_S A s.heap H locs → lv_has ls 12 [(0, .ref oM), (1, .int x1), (2, .int x2), (3, .int x3), (4, .int x4), (5, .int x5), (6, .int x6), (7, .int x7), (8, .int x8), (9, .int x9)] → wp_X7_storm_65 FM AM x1 x2 x3 x4 x5 x6 x7 x8 x9 Post → W p l e ({ frames := 10, cells := 0, slots := 0, locals := 231 } : Room) s m args below meth c H locs 0 0 Q (F0 m 65 ls []) := by
    intro FM AM x5 x6 x7 x8 x9 H locs ls hP hD hS hl hw
    refine Lp_go (C := fun (t : Int32 × Int32 × Int32 × Int32 × Int32 × (Nat → Int32) × (Nat → Nat → Int32)) => ∀ (H : Heap) (locs : List Loc) (ls : Array Slot), va_P (dC, dI) vwCl (mW oM gM cA (t.2.2.2.2.2.1) (t.2.2.2.2.2.2)) H → va_D A (mW oM gM cA (t.2.2.2.2.2.1) (t.2.2.2.2.2.2)) → va_S A s.heap H locs → lv_has ls 12 [(0, .ref oM), (1, .int x1), (2, .int x2), (3, .int x3), (4, .int x4), (5, .int (t.1)), (6, .int (t.2.1)), (7, .int (t.2.2.1)), (8, .int (t.2.2.2.1)), (9, .int (t.2.2.2.2.1))] → W p l e ({ frames := 10, cells := 0, slots := 0, locals := 231 } : Room) s m args below meth c H locs 0 0 Q (F0 m 65 ls [])) ?_ hw H locs ls hP hD hS hl
    intro k_65 hk_65 t
    obtain ⟨x5, x6, x7, x8, x9, FM, AM⟩ := t
    intro hw H locs ls hP hD hS hl
    have hP : va_P (dC, dI) vwCl (mW oM gM cA FM AM) H := hP
    have hD : va_D A (mW oM gM cA FM AM) := hD
    have hl : lv_has ls 12 [(0, .ref oM), (1, .int x1), (2, .int x2), (3, .int x3), (4, .int x4), (5, .int x5), (6, .int x6), (7, .int x7), (8, .int x8), (9, .int x9)] := hl
    have hw : st_X7_storm_65 x1 x2 x3 x4 Post k_65 x5 x6 x7 x8 x9 FM AM := hw
    have b_208 : ∀ (FM : Nat → Int32) (AM : Nat → Nat → Int32) (x5 : Int32) (x6 : Int32) (x7 : Int32) (x9 : Int32) (t0 : Int32) (H : Heap) (locs : List Loc) (ls : Array Slot), va_P (dC, dI) vwCl (mW oM gM cA FM AM) H → va_D A (mW oM gM cA FM AM) → va_S A s.heap H locs → lv_has ls 12 [(0, .ref oM), (1, .int x1), (2, .int x2), (3, .int x3), (4, .int x4), (5, .int x5), (6, .int x6), (7, .int x7), (9, .int x9)] → wp_X7_storm_208 FM AM x1 x2 x3 x4 x5 x6 x7 x9 t0 k_65 Post → W p l e ({ frames := 10, cells := 0, slots := 0, locals := 231 } : Room) s m args below meth c H locs 0 0 Q (F0 m 208 ls [.int t0]) := by
      intro FM AM x5 x6 x7 x9 t0 H locs ls hP hD hS hl hw
      refine lv_istore (lv' := [(8, .int t0), (0, .ref oM), (1, .int x1), (2, .int x2), (3, .int x3), (4, .int x4), (5, .int x5), (6, .int x6), (7, .int x7), (9, .int x9)]) hx hb dX7_storm_208 hl (by decide) rfl (fun ls hl => ?_)
      refine lv_iinc (v := (x9 + 1)) (lv' := [(9, .int (x9 + 1)), (8, .int t0), (0, .ref oM), (1, .int x1), (2, .int x2), (3, .int x3), (4, .int x4), (5, .int x5), (6, .int x6), (7, .int x7)]) hx hb dX7_storm_210 hl (k := 9) rfl rfl (by decide) rfl (fun ls hl => ?_)
      refine lv_goto (tgt := 65) hx hb dX7_storm_213 (by decide) ?_
      exact hk_65 (x5, x6, x7, t0, (x9 + 1), FM, AM) hw _ _ _ hP hD hS (lv_sub hl [2, 3, 4, 5, 6, 7, 8, 9, 1, 0] rfl)
    have b_192 : ∀ (FM : Nat → Int32) (AM : Nat → Nat → Int32) (x5 : Int32) (x6 : Int32) (x8 : Int32) (x9 : Int32) (t0 : Int32) (H : Heap) (locs : List Loc) (ls : Array Slot), va_P (dC, dI) vwCl (mW oM gM cA FM AM) H → va_D A (mW oM gM cA FM AM) → va_S A s.heap H locs → lv_has ls 12 [(0, .ref oM), (1, .int x1), (2, .int x2), (3, .int x3), (4, .int x4), (5, .int x5), (6, .int x6), (8, .int x8), (9, .int x9)] → wp_X7_storm_192 FM AM x1 x2 x3 x4 x5 x6 x8 x9 t0 k_65 Post → W p l e ({ frames := 10, cells := 0, slots := 0, locals := 231 } : Room) s m args below meth c H locs 0 0 Q (F0 m 192 ls [.int t0]) := by
      intro FM AM x5 x6 x8 x9 t0 H locs ls hP hD hS hl hw
      refine lv_istore (lv' := [(7, .int t0), (0, .ref oM), (1, .int x1), (2, .int x2), (3, .int x3), (4, .int x4), (5, .int x5), (6, .int x6), (8, .int x8), (9, .int x9)]) hx hb dX7_storm_192 hl (by decide) rfl (fun ls hl => ?_)
      refine lv_iload hx hb dX7_storm_194 (lv_at hl 0 rfl) ?_
      refine lv_iload hx hb dX7_storm_196 (lv_at hl 8 rfl) ?_
      refine lv_icmp_le (tgt := 206) hx hb dX7_storm_198 (by decide) (fun c_12 => ?_) (fun c_12 => ?_)
      · have hw := hw.1 c_12
        refine lv_iload hx hb dX7_storm_206 (lv_at hl 8 rfl) ?_
        exact b_208 FM AM x5 x6 t0 x9 x8 _ _ _ hP hD hS (lv_sub hl [1, 2, 3, 4, 5, 6, 7, 0, 9] rfl) hw
      · have hw := hw.2 c_12
        refine lv_iload hx hb dX7_storm_201 (lv_at hl 0 rfl) ?_
        refine lv_goto (tgt := 208) hx hb dX7_storm_203 (by decide) ?_
        exact b_208 FM AM x5 x6 t0 x9 t0 _ _ _ hP hD hS (lv_sub hl [1, 2, 3, 4, 5, 6, 7, 0, 9] rfl) hw
    have b_176 : ∀ (FM : Nat → Int32) (AM : Nat → Nat → Int32) (x5 : Int32) (x7 : Int32) (x8 : Int32) (x9 : Int32) (x11 : Int32) (t0 : Int32) (t1 : Int32) (H : Heap) (locs : List Loc) (ls : Array Slot), va_P (dC, dI) vwCl (mW oM gM cA FM AM) H → va_D A (mW oM gM cA FM AM) → va_S A s.heap H locs → lv_has ls 12 [(0, .ref oM), (1, .int x1), (2, .int x2), (3, .int x3), (4, .int x4), (5, .int x5), (7, .int x7), (8, .int x8), (9, .int x9), (11, .int x11)] → wp_X7_storm_176 FM AM x1 x2 x3 x4 x5 x7 x8 x9 x11 t0 t1 k_65 Post → W p l e ({ frames := 10, cells := 0, slots := 0, locals := 231 } : Room) s m args below meth c H locs 0 0 Q (F0 m 176 ls [.int t1, .int t0]) := by
      intro FM AM x5 x7 x8 x9 x11 t0 t1 H locs ls hP hD hS hl hw
      refine lv_iadd hx hb dX7_storm_176 ?_
      refine lv_istore (lv' := [(6, .int (t0 + t1)), (0, .ref oM), (1, .int x1), (2, .int x2), (3, .int x3), (4, .int x4), (5, .int x5), (7, .int x7), (8, .int x8), (9, .int x9), (11, .int x11)]) hx hb dX7_storm_177 hl (by decide) rfl (fun ls hl => ?_)
      refine lv_iload hx hb dX7_storm_179 (lv_at hl 10 rfl) ?_
      refine lv_if_eq (tgt := 188) hx hb dX7_storm_181 (by decide) (fun c_13 => ?_) (fun c_13 => ?_)
      · have hw := hw.1 c_13
        refine lv_iload hx hb dX7_storm_188 (lv_at hl 7 rfl) ?_
        refine lv_iconst (v := (1 : Int32)) hx hb dX7_storm_190 (by decide) ?_
        refine lv_iadd hx hb dX7_storm_191 ?_
        exact b_192 FM AM x5 (t0 + t1) x8 x9 (x7 + (1 : Int32)) _ _ _ hP hD hS (lv_sub hl [1, 2, 3, 4, 5, 6, 0, 8, 9] rfl) hw
      · have hw := hw.2 c_13
        refine lv_iconst (v := (0 : Int32)) hx hb dX7_storm_184 (by decide) ?_
        refine lv_goto (tgt := 192) hx hb dX7_storm_185 (by decide) ?_
        exact b_192 FM AM x5 (t0 + t1) x8 x9 (0 : Int32) _ _ _ hP hD hS (lv_sub hl [1, 2, 3, 4, 5, 6, 0, 8, 9] rfl) hw
    have b_158 : ∀ (FM : Nat → Int32) (AM : Nat → Nat → Int32) (x5 : Int32) (x6 : Int32) (x7 : Int32) (x8 : Int32) (x9 : Int32) (H : Heap) (locs : List Loc) (ls : Array Slot), va_P (dC, dI) vwCl (mW oM gM cA FM AM) H → va_D A (mW oM gM cA FM AM) → va_S A s.heap H locs → lv_has ls 12 [(0, .ref oM), (1, .int x1), (2, .int x2), (3, .int x3), (4, .int x4), (5, .int x5), (6, .int x6), (7, .int x7), (8, .int x8), (9, .int x9)] → wp_X7_storm_158 FM AM x1 x2 x3 x4 x5 x6 x7 x8 x9 k_65 Post → W p l e ({ frames := 10, cells := 0, slots := 0, locals := 231 } : Room) s m args below meth c H locs 0 0 Q (F0 m 158 ls []) := by
      intro FM AM x5 x6 x7 x8 x9 H locs ls hP hD hS hl hw
      refine lv_aload_n hx hb dX7_storm_158 rfl (lv_at hl 0 rfl) ?_
      refine caMuV (rest := []) (As := []) (w1 := ([] : va_W)) (w2 := ([] : va_W)) fx hK lk_X7_166 (c_X7_isLegal l dC dI cA oM gM FM AM _ hw) hP hD hS hA 0 rfl rfl ⟨(Nat.le_of_ble_eq_true rfl), (Nat.le_of_ble_eq_true rfl)⟩ rfl hl.1 rfl (Nat.le_of_ble_eq_true rfl) dX7_storm_159 ?_
      intro r_17 u_16 H locs hw hP hD hS
      obtain ⟨FM_14, AM_15⟩ := u_16
      have hP : va_P (dC, dI) vwCl (mW oM gM cA FM_14 AM_15) H := hP
      have hD : va_D A (mW oM gM cA FM_14 AM_15) := hD
      try dsimp only at hw
      refine lv_istore (lv' := [(11, .int r_17), (0, .ref oM), (1, .int x1), (2, .int x2), (3, .int x3), (4, .int x4), (5, .int x5), (6, .int x6), (7, .int x7), (8, .int x8), (9, .int x9)]) hx hb dX7_storm_162 hl (by decide) rfl (fun ls hl => ?_)
      refine lv_iload hx hb dX7_storm_164 (lv_at hl 7 rfl) ?_
      refine lv_iload hx hb dX7_storm_166 (lv_at hl 0 rfl) ?_
      refine lv_if_eq (tgt := 175) hx hb dX7_storm_168 (by decide) (fun c_18 => ?_) (fun c_18 => ?_)
      · have hw := hw.1 c_18
        refine lv_iconst (v := (0 : Int32)) hx hb dX7_storm_175 (by decide) ?_
        exact b_176 FM_14 AM_15 x5 x7 x8 x9 r_17 x6 (0 : Int32) _ _ _ hP hD hS (lv_sub hl [1, 2, 3, 4, 5, 6, 8, 9, 10, 0] rfl) hw
      · have hw := hw.2 c_18
        refine lv_iconst (v := (1 : Int32)) hx hb dX7_storm_171 (by decide) ?_
        refine lv_goto (tgt := 176) hx hb dX7_storm_172 (by decide) ?_
        exact b_176 FM_14 AM_15 x5 x7 x8 x9 r_17 x6 (1 : Int32) _ _ _ hP hD hS (lv_sub hl [1, 2, 3, 4, 5, 6, 8, 9, 10, 0] rfl) hw
    have b_150 : ∀ (FM : Nat → Int32) (AM : Nat → Nat → Int32) (x6 : Int32) (x7 : Int32) (x8 : Int32) (x9 : Int32) (x11 : Int32) (t0 : Int32) (H : Heap) (locs : List Loc) (ls : Array Slot), va_P (dC, dI) vwCl (mW oM gM cA FM AM) H → va_D A (mW oM gM cA FM AM) → va_S A s.heap H locs → lv_has ls 12 [(0, .ref oM), (1, .int x1), (2, .int x2), (3, .int x3), (4, .int x4), (6, .int x6), (7, .int x7), (8, .int x8), (9, .int x9), (11, .int x11)] → wp_X7_storm_150 FM AM x1 x2 x3 x4 x6 x7 x8 x9 x11 t0 k_65 Post → W p l e ({ frames := 10, cells := 0, slots := 0, locals := 231 } : Room) s m args below meth c H locs 0 0 Q (F0 m 150 ls [.int t0]) := by
      intro FM AM x6 x7 x8 x9 x11 t0 H locs ls hP hD hS hl hw
      refine lv_istore (lv' := [(5, .int t0), (0, .ref oM), (1, .int x1), (2, .int x2), (3, .int x3), (4, .int x4), (6, .int x6), (7, .int x7), (8, .int x8), (9, .int x9), (11, .int x11)]) hx hb dX7_storm_150 hl (by decide) rfl (fun ls hl => ?_)
      refine lv_aload_n hx hb dX7_storm_152 rfl (lv_at hl 1 rfl) ?_
      refine lv_iload hx hb dX7_storm_153 (lv_at hl 10 rfl) ?_
      refine caMuVv (rest := []) (As := [.int x11]) (w1 := ([] : va_W)) (w2 := ([] : va_W)) fx hK lk_X7_212 (c_X7_moves l dC dI cA oM gM FM AM x11 _ hw) hP hD hS hA 0 rfl rfl ⟨(Nat.le_of_ble_eq_true rfl), (Nat.le_of_ble_eq_true rfl)⟩ rfl hl.1 rfl (Nat.le_of_ble_eq_true rfl) dX7_storm_155 ?_
      intro u_21 H locs hw hP hD hS
      obtain ⟨FM_19, AM_20⟩ := u_21
      have hP : va_P (dC, dI) vwCl (mW oM gM cA FM_19 AM_20) H := hP
      have hD : va_D A (mW oM gM cA FM_19 AM_20) := hD
      try dsimp only at hw
      exact b_158 FM_19 AM_20 t0 x6 x7 x8 x9 _ _ _ hP hD hS (lv_sub hl [1, 2, 3, 4, 5, 0, 6, 7, 8, 9] rfl) hw
    refine lv_iload hx hb dX7_storm_65 (lv_at hl 9 rfl) ?_
    refine lv_iload_n hx hb dX7_storm_67 rfl (lv_at hl 3 rfl) ?_
    refine lv_icmp_ge (tgt := 216) hx hb dX7_storm_68 (by decide) (fun c_22 => ?_) (fun c_22 => ?_)
    · have hw := hw.1 c_22
      refine lv_iload hx hb dX7_storm_216 (lv_at hl 4 rfl) ?_
      refine lv_if_ne (tgt := 226) hx hb dX7_storm_218 (by decide) (fun c_23 => ?_) (fun c_23 => ?_)
      · have hw := hw.1 c_23
        refine lv_iload hx hb dX7_storm_226 (lv_at hl 4 rfl) ?_
        refine lv_iconst (v := (1 : Int32)) hx hb dX7_storm_228 (by decide) ?_
        refine lv_icmp_ne (tgt := 239) hx hb dX7_storm_229 (by decide) (fun c_24 => ?_) (fun c_24 => ?_)
        · have hw := hw.1 c_24
          refine lv_iload hx hb dX7_storm_239 (lv_at hl 8 rfl) ?_
          exact hret _ (FM, AM) _ _ _ _ dX7_storm_241 rfl hw hP hD hS
        · have hw := hw.2 c_24
          refine lv_aload_n hx hb dX7_storm_232 rfl (lv_at hl 0 rfl) ?_
          refine caRoV (rest := []) (As := []) fx hK lk_X7_154 (c_X7_codeOf l dC dI cA oM gM FM AM _ hw) (hP.sub [0, 1, 2, 3, 4, 5, 6, 7, 8, 9, 10, 11, 12, 13] rfl) 0 rfl rfl ⟨(Nat.le_of_ble_eq_true rfl), (Nat.le_of_ble_eq_true rfl)⟩ rfl hl.1 rfl (Nat.le_of_ble_eq_true rfl) dX7_storm_233 ?_
          intro r_25 hw
          refine lv_goto (tgt := 241) hx hb dX7_storm_236 (by decide) ?_
          exact hret _ (FM, AM) _ _ _ _ dX7_storm_241 rfl hw hP hD hS
      · have hw := hw.2 c_23
        refine lv_iload hx hb dX7_storm_221 (lv_at hl 6 rfl) ?_
        refine lv_goto (tgt := 241) hx hb dX7_storm_223 (by decide) ?_
        exact hret _ (FM, AM) _ _ _ _ dX7_storm_241 rfl hw hP hD hS
    · have hw := hw.2 c_22
      refine lv_iload_n hx hb dX7_storm_71 rfl (lv_at hl 2 rfl) ?_
      refine lv_iload hx hb dX7_storm_72 (lv_at hl 9 rfl) ?_
      refine caRoLS (rest := []) (As := [.int x2, .int x9]) fx hK lk_X7_201 (c_X7_drawn l dC dI cA x2 x9 _ hw) (hP.sub [] rfl) ⟨(Nat.le_of_ble_eq_true rfl), (Nat.le_of_ble_eq_true rfl)⟩ rfl hl.1 rfl (Nat.le_of_ble_eq_true rfl) dX7_storm_74 ?_
      intro r_26 hw
      refine lv_l2i (v := (Int64.toInt32 r_26)) hx hb dX7_storm_77 rfl ?_
      refine lv_istore (lv' := [(10, .int (Int64.toInt32 r_26)), (0, .ref oM), (1, .int x1), (2, .int x2), (3, .int x3), (4, .int x4), (5, .int x5), (6, .int x6), (7, .int x7), (8, .int x8), (9, .int x9)]) hx hb dX7_storm_78 hl (by decide) rfl (fun ls hl => ?_)
      refine lv_iload hx hb dX7_storm_80 (lv_at hl 0 rfl) ?_
      refine lv_bipush (v := (8 : Int32)) hx hb dX7_storm_82 (by decide) ?_
      refine lv_irem hx hb dX7_storm_84 (by decide) ?_
      refine lv_if_ne (tgt := 116) hx hb dX7_storm_85 (by decide) (fun c_27 => ?_) (fun c_27 => ?_)
      · have hw := hw.1 c_27
        refine lv_aload_n hx hb dX7_storm_116 rfl (lv_at hl 1 rfl) ?_
        refine caMuV (rest := []) (As := []) (w1 := ([] : va_W)) (w2 := ([] : va_W)) fx hK lk_X7_141 (c_X7_tokensOf l dC dI cA oM gM FM AM _ hw) hP hD hS hA 0 rfl rfl ⟨(Nat.le_of_ble_eq_true rfl), (Nat.le_of_ble_eq_true rfl)⟩ rfl hl.1 rfl (Nat.le_of_ble_eq_true rfl) dX7_storm_117 ?_
        intro r_31 u_30 H locs hw hP hD hS
        obtain ⟨FM_28, AM_29⟩ := u_30
        have hP : va_P (dC, dI) vwCl (mW oM gM cA FM_28 AM_29) H := hP
        have hD : va_D A (mW oM gM cA FM_28 AM_29) := hD
        try dsimp only at hw
        refine lv_if_eq (tgt := 158) hx hb dX7_storm_120 (by decide) (fun c_32 => ?_) (fun c_32 => ?_)
        · have hw := hw.1 c_32
          exact b_158 FM_28 AM_29 x5 x6 x7 x8 x9 _ _ _ hP hD hS (lv_sub hl [1, 2, 3, 4, 5, 6, 7, 8, 9, 10] rfl) hw
        · have hw := hw.2 c_32
          refine lv_aload_n hx hb dX7_storm_123 rfl (lv_at hl 1 rfl) ?_
          refine lv_iload_n hx hb dX7_storm_124 rfl (lv_at hl 2 rfl) ?_
          refine lv_iload_n hx hb dX7_storm_125 rfl (lv_at hl 3 rfl) ?_
          refine lv_iload hx hb dX7_storm_126 (lv_at hl 10 rfl) ?_
          refine lv_iload hx hb dX7_storm_128 (lv_at hl 6 rfl) ?_
          refine caMuV (rest := []) (As := [.int x1, .int x2, .int x9, .int x5]) (w1 := ([] : va_W)) (w2 := ([] : va_W)) fx hK lk_X7_205 (c_X7_chooses l dC dI cA oM gM FM_28 AM_29 x1 x2 x9 x5 _ hw) hP hD hS hA 0 rfl rfl ⟨(Nat.le_of_ble_eq_true rfl), (Nat.le_of_ble_eq_true rfl)⟩ rfl hl.1 rfl (Nat.le_of_ble_eq_true rfl) dX7_storm_130 ?_
          intro r_36 u_35 H locs hw hP hD hS
          obtain ⟨FM_33, AM_34⟩ := u_35
          have hP : va_P (dC, dI) vwCl (mW oM gM cA FM_33 AM_34) H := hP
          have hD : va_D A (mW oM gM cA FM_33 AM_34) := hD
          try dsimp only at hw
          refine lv_istore (lv' := [(11, .int r_36), (10, .int (Int64.toInt32 r_26)), (0, .ref oM), (1, .int x1), (2, .int x2), (3, .int x3), (4, .int x4), (5, .int x5), (6, .int x6), (7, .int x7), (8, .int x8), (9, .int x9)]) hx hb dX7_storm_133 hl (by decide) rfl (fun ls hl => ?_)
          refine lv_iload_n hx hb dX7_storm_135 rfl (lv_at hl 3 rfl) ?_
          refine lv_iconst (v := (1 : Int32)) hx hb dX7_storm_136 (by decide) ?_
          refine lv_icmp_ne (tgt := 148) hx hb dX7_storm_137 (by decide) (fun c_37 => ?_) (fun c_37 => ?_)
          · have hw := hw.1 c_37
            refine lv_iload hx hb dX7_storm_148 (lv_at hl 7 rfl) ?_
            exact b_150 FM_33 AM_34 x6 x7 x8 x9 r_36 x5 _ _ _ hP hD hS (lv_sub hl [2, 3, 4, 5, 6, 8, 9, 10, 11, 0] rfl) hw
          · have hw := hw.2 c_37
            refine lv_iload hx hb dX7_storm_140 (lv_at hl 0 rfl) ?_
            refine caRoS (rest := []) (As := [.int r_36]) fx hK lk_X7_209 (c_X7_lowestBit l dC dI cA r_36 _ hw) (hP.sub [] rfl) ⟨(Nat.le_of_ble_eq_true rfl), (Nat.le_of_ble_eq_true rfl)⟩ rfl hl.1 rfl (Nat.le_of_ble_eq_true rfl) dX7_storm_142 ?_
            intro r_38 hw
            refine lv_goto (tgt := 150) hx hb dX7_storm_145 (by decide) ?_
            exact b_150 FM_33 AM_34 x6 x7 x8 x9 r_36 r_38 _ _ _ hP hD hS (lv_sub hl [2, 3, 4, 5, 6, 8, 9, 10, 11, 0] rfl) hw
      · have hw := hw.2 c_27
        refine lv_aload_n hx hb dX7_storm_88 rfl (lv_at hl 1 rfl) ?_
        refine gz (q0 := 0) (v := .ref (gM 24)) fx hK hP fl_X7_43 rfl rfl dX7_storm_89 ?_
        refine lv_iload hx hb dX7_storm_92 (lv_at hl 0 rfl) ?_
        refine lv_bipush (v := (8 : Int32)) hx hb dX7_storm_94 (by decide) ?_
        refine lv_idiv hx hb dX7_storm_96 (by decide) ?_
        refine lv_aload_n hx hb dX7_storm_97 rfl (lv_at hl 1 rfl) ?_
        refine gz (q0 := 0) (v := .int (FM 3)) fx hK hP fl_X7_53 rfl rfl dX7_storm_98 ?_
        obtain ⟨hz, hw⟩ := hw
        refine lv_irem hx hb dX7_storm_101 hz ?_
        refine lv_iload hx hb dX7_storm_102 (lv_at hl 0 rfl) ?_
        refine lv_bipush (v := (64 : Int32)) hx hb dX7_storm_104 (by decide) ?_
        refine lv_idiv hx hb dX7_storm_106 (by decide) ?_
        refine lv_aload_n hx hb dX7_storm_107 rfl (lv_at hl 1 rfl) ?_
        refine gz (q0 := 0) (v := .int (FM 4)) fx hK hP fl_X7_56 rfl rfl dX7_storm_108 ?_
        obtain ⟨hz, hw⟩ := hw
        refine lv_irem hx hb dX7_storm_111 hz ?_
        obtain ⟨hz, hw⟩ := hw
        refine az hx hb hK hP hD hS 12 rfl hz dX7_storm_112 ?_
        intro g_39 H locs e_40 hP hD hS
        have hw := hw g_39 e_40
        have hP : va_P (dC, dI) vwCl (mW oM gM cA FM (uA AM 24 g_39)) H := hP
        have hD : va_D A (mW oM gM cA FM (uA AM 24 g_39)) := hD
        refine lv_goto (tgt := 158) hx hb dX7_storm_113 (by decide) ?_
        exact b_158 FM (uA AM 24 g_39) x5 x6 x7 x8 x9 _ _ _ hP hD hS (lv_sub hl [1, 2, 3, 4, 5, 6, 7, 8, 9, 10] rfl) hw
  refine lv_iload_n hx hb dX7_storm_0 rfl (lv_at hl 1 rfl) ?_
  refine lv_iconst (v := (0 : Int32)) hx hb dX7_storm_1 (by decide) ?_
  refine lv_iconst (v := (2 : Int32)) hx hb dX7_storm_2 (by decide) ?_
  refine caRoS (rest := []) (As := [.int x1, .int (0 : Int32), .int (2 : Int32)]) fx hK lk_X7_88 (c_X7_isIn l dC dI cA x1 (0 : Int32) (2 : Int32) _ hw) (hP.sub [] rfl) ⟨(Nat.le_of_ble_eq_true rfl), (Nat.le_of_ble_eq_true rfl)⟩ rfl hl.1 rfl (Nat.le_of_ble_eq_true rfl) dX7_storm_3 ?_
  intro r_41 hw
  refine lv_if_eq (tgt := 41) hx hb dX7_storm_6 (by decide) (fun c_42 => ?_) (fun c_42 => ?_)
  · have hw := hw.1 c_42
    refine lv_iconst (v := (-1 : Int32)) hx hb dX7_storm_41 (by decide) ?_
    exact hret _ (FM, AM) _ _ _ _ dX7_storm_42 rfl hw hP hD hS
  · have hw := hw.2 c_42
    refine lv_iload_n hx hb dX7_storm_9 rfl (lv_at hl 2 rfl) ?_
    refine lv_iconst (v := (0 : Int32)) hx hb dX7_storm_10 (by decide) ?_
    refine lv_sipush (v := (9999 : Int32)) hx hb dX7_storm_11 (by decide) ?_
    refine caRoS (rest := []) (As := [.int x2, .int (0 : Int32), .int (9999 : Int32)]) fx hK lk_X7_88 (c_X7_isIn l dC dI cA x2 (0 : Int32) (9999 : Int32) _ hw) (hP.sub [] rfl) ⟨(Nat.le_of_ble_eq_true rfl), (Nat.le_of_ble_eq_true rfl)⟩ rfl hl.1 rfl (Nat.le_of_ble_eq_true rfl) dX7_storm_14 ?_
    intro r_43 hw
    refine lv_if_eq (tgt := 41) hx hb dX7_storm_17 (by decide) (fun c_44 => ?_) (fun c_44 => ?_)
    · have hw := hw.1 c_44
      refine lv_iconst (v := (-1 : Int32)) hx hb dX7_storm_41 (by decide) ?_
      exact hret _ (FM, AM) _ _ _ _ dX7_storm_42 rfl hw hP hD hS
    · have hw := hw.2 c_44
      refine lv_iload_n hx hb dX7_storm_20 rfl (lv_at hl 3 rfl) ?_
      refine lv_iconst (v := (1 : Int32)) hx hb dX7_storm_21 (by decide) ?_
      refine lv_sipush (v := (200 : Int32)) hx hb dX7_storm_22 (by decide) ?_
      refine caRoS (rest := []) (As := [.int x3, .int (1 : Int32), .int (200 : Int32)]) fx hK lk_X7_88 (c_X7_isIn l dC dI cA x3 (1 : Int32) (200 : Int32) _ hw) (hP.sub [] rfl) ⟨(Nat.le_of_ble_eq_true rfl), (Nat.le_of_ble_eq_true rfl)⟩ rfl hl.1 rfl (Nat.le_of_ble_eq_true rfl) dX7_storm_25 ?_
      intro r_45 hw
      refine lv_if_eq (tgt := 41) hx hb dX7_storm_28 (by decide) (fun c_46 => ?_) (fun c_46 => ?_)
      · have hw := hw.1 c_46
        refine lv_iconst (v := (-1 : Int32)) hx hb dX7_storm_41 (by decide) ?_
        exact hret _ (FM, AM) _ _ _ _ dX7_storm_42 rfl hw hP hD hS
      · have hw := hw.2 c_46
        refine lv_iload hx hb dX7_storm_31 (lv_at hl 4 rfl) ?_
        refine lv_iconst (v := (0 : Int32)) hx hb dX7_storm_33 (by decide) ?_
        refine lv_iconst (v := (2 : Int32)) hx hb dX7_storm_34 (by decide) ?_
        refine caRoS (rest := []) (As := [.int x4, .int (0 : Int32), .int (2 : Int32)]) fx hK lk_X7_88 (c_X7_isIn l dC dI cA x4 (0 : Int32) (2 : Int32) _ hw) (hP.sub [] rfl) ⟨(Nat.le_of_ble_eq_true rfl), (Nat.le_of_ble_eq_true rfl)⟩ rfl hl.1 rfl (Nat.le_of_ble_eq_true rfl) dX7_storm_35 ?_
        intro r_47 hw
        refine lv_if_ne (tgt := 43) hx hb dX7_storm_38 (by decide) (fun c_48 => ?_) (fun c_48 => ?_)
        · have hw := hw.1 c_48
          refine lv_aload_n hx hb dX7_storm_43 rfl (lv_at hl 0 rfl) ?_
          refine caMuVv (rest := []) (As := []) (w1 := ([] : va_W)) (w2 := ([] : va_W)) fx hK lk_X7_151 (c_X7_rowNow l dC dI cA oM gM FM AM _ hw) hP hD hS hA 0 rfl rfl ⟨(Nat.le_of_ble_eq_true rfl), (Nat.le_of_ble_eq_true rfl)⟩ rfl hl.1 rfl (Nat.le_of_ble_eq_true rfl) dX7_storm_44 ?_
          intro u_51 H locs hw hP hD hS
          obtain ⟨FM_49, AM_50⟩ := u_51
          have hP : va_P (dC, dI) vwCl (mW oM gM cA FM_49 AM_50) H := hP
          have hD : va_D A (mW oM gM cA FM_49 AM_50) := hD
          try dsimp only at hw
          refine lv_aload_n hx hb dX7_storm_47 rfl (lv_at hl 0 rfl) ?_
          refine gz (q0 := 0) (v := .int (FM_49 10)) fx hK hP fl_X7_65 rfl rfl dX7_storm_48 ?_
          refine lv_istore (lv' := [(5, .int (FM_49 10)), (0, .ref oM), (1, .int x1), (2, .int x2), (3, .int x3), (4, .int x4)]) hx hb dX7_storm_51 hl (by decide) rfl (fun ls hl => ?_)
          refine lv_iconst (v := (0 : Int32)) hx hb dX7_storm_53 (by decide) ?_
          refine lv_istore (lv' := [(6, .int (0 : Int32)), (5, .int (FM_49 10)), (0, .ref oM), (1, .int x1), (2, .int x2), (3, .int x3), (4, .int x4)]) hx hb dX7_storm_54 hl (by decide) rfl (fun ls hl => ?_)
          refine lv_iconst (v := (0 : Int32)) hx hb dX7_storm_56 (by decide) ?_
          refine lv_istore (lv' := [(7, .int (0 : Int32)), (6, .int (0 : Int32)), (5, .int (FM_49 10)), (0, .ref oM), (1, .int x1), (2, .int x2), (3, .int x3), (4, .int x4)]) hx hb dX7_storm_57 hl (by decide) rfl (fun ls hl => ?_)
          refine lv_iconst (v := (0 : Int32)) hx hb dX7_storm_59 (by decide) ?_
          refine lv_istore (lv' := [(8, .int (0 : Int32)), (7, .int (0 : Int32)), (6, .int (0 : Int32)), (5, .int (FM_49 10)), (0, .ref oM), (1, .int x1), (2, .int x2), (3, .int x3), (4, .int x4)]) hx hb dX7_storm_60 hl (by decide) rfl (fun ls hl => ?_)
          refine lv_iconst (v := (0 : Int32)) hx hb dX7_storm_62 (by decide) ?_
          refine lv_istore (lv' := [(9, .int (0 : Int32)), (8, .int (0 : Int32)), (7, .int (0 : Int32)), (6, .int (0 : Int32)), (5, .int (FM_49 10)), (0, .ref oM), (1, .int x1), (2, .int x2), (3, .int x3), (4, .int x4)]) hx hb dX7_storm_63 hl (by decide) rfl (fun ls hl => ?_)
          exact b_65 FM_49 AM_50 (FM_49 10) (0 : Int32) (0 : Int32) (0 : Int32) (0 : Int32) _ _ _ hP hD hS (lv_sub hl [5, 6, 7, 8, 9, 4, 3, 2, 1, 0] rfl) hw
        · have hw := hw.2 c_48
          refine lv_iconst (v := (-1 : Int32)) hx hb dX7_storm_41 (by decide) ?_
          exact hret _ (FM, AM) _ _ _ _ dX7_storm_42 rfl hw hP hD hS
set_option maxHeartbeats 4000000 in
set_option maxRecDepth 100000 in
theorem c_X7_state (l : Launch) (dC : Nat → ClassId) (dI : Nat → Nat → Nat) (cA : ClassId) (oM : Nat) (gM : Nat → Nat) (FM : Nat → Int32) (AM : Nat → Nat → Int32) (x1 : Int32) (x2 : Int32) (Post : Int32 → (Nat → Int32) → (Nat → Nat → Int32) → Prop) (hw : wp_X7_state FM AM x1 x2 Post) : MuI (dC, dI) cA l yX7_state cX7_state 3 .int 8 177 [.ref oM, .int x1, .int x2] (mW oM gM cA FM AM) (fun r (u : (Nat → Int32) × (Nat → Nat → Int32)) => Post r (u.1) (u.2)) (fun u => (mW oM gM cA (u.1) (u.2))) := by
  refine enMu (by decide) (Nat.le_of_ble_eq_true rfl) ?_
  intro p e s m args below meth c Q ls A fx hK hP hD hS hA hret hl
  obtain ⟨hx, hb, hml, hown, hts⟩ := id fx
  have hl : lv_has ls 3 [(0, .ref oM), (1, .int x1), (2, .int x2)] := hl
  have hP : va_P (dC, dI) vwCl (mW oM gM cA FM AM) s.heap := hP
  refine lv_iload_n hx hb dX7_state_0 rfl (lv_at hl 1 rfl) ?_
  refine lv_iconst (v := (0 : Int32)) hx hb dX7_state_1 (by decide) ?_
  refine lv_aload_n hx hb dX7_state_2 rfl (lv_at hl 0 rfl) ?_
  refine gz (q0 := 0) (v := .int (FM 5)) fx hK hP fl_X7_62 rfl rfl dX7_state_3 ?_
  refine lv_iconst (v := (1 : Int32)) hx hb dX7_state_6 (by decide) ?_
  refine lv_isub hx hb dX7_state_7 ?_
  refine caRoS (rest := []) (As := [.int x1, .int (0 : Int32), .int ((FM 5) - (1 : Int32))]) fx hK lk_X7_88 (c_X7_isIn l dC dI cA x1 (0 : Int32) ((FM 5) - (1 : Int32)) _ hw) (hP.sub [] rfl) ⟨(Nat.le_of_ble_eq_true rfl), (Nat.le_of_ble_eq_true rfl)⟩ rfl hl.1 rfl (Nat.le_of_ble_eq_true rfl) dX7_state_8 ?_
  intro r_12 hw
  refine lv_if_eq (tgt := 23) hx hb dX7_state_11 (by decide) (fun c_13 => ?_) (fun c_13 => ?_)
  · have hw := hw.1 c_13
    refine lv_iconst (v := (-1 : Int32)) hx hb dX7_state_23 (by decide) ?_
    exact hret _ (FM, AM) _ _ _ _ dX7_state_24 rfl hw hP hD hS
  · have hw := hw.2 c_13
    refine lv_iload_n hx hb dX7_state_14 rfl (lv_at hl 2 rfl) ?_
    refine lv_iconst (v := (0 : Int32)) hx hb dX7_state_15 (by decide) ?_
    refine lv_iconst (v := (3 : Int32)) hx hb dX7_state_16 (by decide) ?_
    refine caRoS (rest := []) (As := [.int x2, .int (0 : Int32), .int (3 : Int32)]) fx hK lk_X7_88 (c_X7_isIn l dC dI cA x2 (0 : Int32) (3 : Int32) _ hw) (hP.sub [] rfl) ⟨(Nat.le_of_ble_eq_true rfl), (Nat.le_of_ble_eq_true rfl)⟩ rfl hl.1 rfl (Nat.le_of_ble_eq_true rfl) dX7_state_17 ?_
    intro r_14 hw
    refine lv_if_ne (tgt := 25) hx hb dX7_state_20 (by decide) (fun c_15 => ?_) (fun c_15 => ?_)
    · have hw := hw.1 c_15
      refine lv_aload_n hx hb dX7_state_25 rfl (lv_at hl 0 rfl) ?_
      refine caMuVv (rest := []) (As := []) (w1 := ([] : va_W)) (w2 := ([] : va_W)) fx hK lk_X7_185 (c_X7_measures l dC dI cA oM gM FM AM _ hw) hP hD hS hA 0 rfl rfl ⟨(Nat.le_of_ble_eq_true rfl), (Nat.le_of_ble_eq_true rfl)⟩ rfl hl.1 rfl (Nat.le_of_ble_eq_true rfl) dX7_state_26 ?_
      intro u_18 H locs hw hP hD hS
      obtain ⟨FM_16, AM_17⟩ := u_18
      have hP : va_P (dC, dI) vwCl (mW oM gM cA FM_16 AM_17) H := hP
      have hD : va_D A (mW oM gM cA FM_16 AM_17) := hD
      try dsimp only at hw
      refine lv_iload_n hx hb dX7_state_29 rfl (lv_at hl 2 rfl) ?_
      by_cases c_19 : x2 = (0 : Int32)
      · have hw := hw.1 c_19
        refine lv_tableIn (off := 26) (tgt := 56) hx hb dX7_state_30 (by rw [c_19]; decide) (by rw [c_19]; decide) (by rw [c_19]; rfl) (by decide) ?_
        refine lv_aload_n hx hb dX7_state_56 rfl (lv_at hl 0 rfl) ?_
        refine gz (q0 := 0) (v := .ref (gM 20)) fx hK hP fl_X7_34 rfl rfl dX7_state_57 ?_
        refine lv_iload_n hx hb dX7_state_60 rfl (lv_at hl 1 rfl) ?_
        obtain ⟨hz, hw⟩ := hw
        refine va_iald hx hb hK hP 9 0 rfl rfl hz dX7_state_61 ?_
        exact hret _ (FM_16, AM_17) _ _ _ _ dX7_state_62 rfl hw hP hD hS
      · have hw := hw.2 c_19
        by_cases c_20 : x2 = (1 : Int32)
        · have hw := hw.1 c_20
          refine lv_tableIn (off := 33) (tgt := 63) hx hb dX7_state_30 (by rw [c_20]; decide) (by rw [c_20]; decide) (by rw [c_20]; rfl) (by decide) ?_
          refine lv_aload_n hx hb dX7_state_63 rfl (lv_at hl 0 rfl) ?_
          refine gz (q0 := 0) (v := .ref (gM 21)) fx hK hP fl_X7_37 rfl rfl dX7_state_64 ?_
          refine lv_iload_n hx hb dX7_state_67 rfl (lv_at hl 1 rfl) ?_
          obtain ⟨hz, hw⟩ := hw
          refine va_iald hx hb hK hP 10 0 rfl rfl hz dX7_state_68 ?_
          exact hret _ (FM_16, AM_17) _ _ _ _ dX7_state_69 rfl hw hP hD hS
        · have hw := hw.2 c_20
          by_cases c_21 : x2 = (2 : Int32)
          · have hw := hw.1 c_21
            refine lv_tableIn (off := 40) (tgt := 70) hx hb dX7_state_30 (by rw [c_21]; decide) (by rw [c_21]; decide) (by rw [c_21]; rfl) (by decide) ?_
            refine lv_aload_n hx hb dX7_state_70 rfl (lv_at hl 0 rfl) ?_
            refine gz (q0 := 0) (v := .ref (gM 22)) fx hK hP fl_X7_40 rfl rfl dX7_state_71 ?_
            refine lv_iload_n hx hb dX7_state_74 rfl (lv_at hl 1 rfl) ?_
            obtain ⟨hz, hw⟩ := hw
            refine va_iald hx hb hK hP 11 0 rfl rfl hz dX7_state_75 ?_
            exact hret _ (FM_16, AM_17) _ _ _ _ dX7_state_76 rfl hw hP hD hS
          · have hw := hw.2 c_21
            refine lv_tableOut (tgt := 77) hx hb dX7_state_30 (by have := ne_i 0 _ (by decide) c_19; have := ne_i 1 _ (by decide) c_20; have := ne_i 2 _ (by decide) c_21; omega) (by decide) ?_
            refine lv_aload_n hx hb dX7_state_77 rfl (lv_at hl 0 rfl) ?_
            refine gz (q0 := 0) (v := .ref (gM 20)) fx hK hP fl_X7_34 rfl rfl dX7_state_78 ?_
            refine lv_iload_n hx hb dX7_state_81 rfl (lv_at hl 1 rfl) ?_
            obtain ⟨hz, hw⟩ := hw
            refine va_iald hx hb hK hP 9 0 rfl rfl hz dX7_state_82 ?_
            refine lv_if_ne (tgt := 90) hx hb dX7_state_83 (by decide) (fun c_22 => ?_) (fun c_22 => ?_)
            · have hw := hw.1 c_22
              refine lv_iconst (v := (0 : Int32)) hx hb dX7_state_90 (by decide) ?_
              exact hret _ (FM_16, AM_17) _ _ _ _ dX7_state_91 rfl hw hP hD hS
            · have hw := hw.2 c_22
              refine lv_iconst (v := (1 : Int32)) hx hb dX7_state_86 (by decide) ?_
              refine lv_goto (tgt := 91) hx hb dX7_state_87 (by decide) ?_
              exact hret _ (FM_16, AM_17) _ _ _ _ dX7_state_91 rfl hw hP hD hS
    · have hw := hw.2 c_15
      refine lv_iconst (v := (-1 : Int32)) hx hb dX7_state_23 (by decide) ?_
      exact hret _ (FM, AM) _ _ _ _ dX7_state_24 rfl hw hP hD hS
set_option maxHeartbeats 4000000 in
set_option maxRecDepth 100000 in
theorem c_X7_leaves (l : Launch) (dC : Nat → ClassId) (dI : Nat → Nat → Nat) (cA : ClassId) (oM : Nat) (gM : Nat → Nat) (FM : Nat → Int32) (AM : Nat → Nat → Int32) (x1 : Int32) (Post : Int32 → (Nat → Int32) → (Nat → Nat → Int32) → Prop) (hw : wp_X7_leaves FM AM x1 Post) : MuI (dC, dI) cA l yX7_leaves cX7_leaves 5 .int 4 89 [.ref oM, .int x1] (mW oM gM cA FM AM) (fun r (u : (Nat → Int32) × (Nat → Nat → Int32)) => Post r (u.1) (u.2)) (fun u => (mW oM gM cA (u.1) (u.2))) := by
  refine enMu (by decide) (Nat.le_of_ble_eq_true rfl) ?_
  intro p e s m args below meth c Q ls A fx hK hP hD hS hA hret hl
  obtain ⟨hx, hb, hml, hown, hts⟩ := id fx
  have hl : lv_has ls 5 [(0, .ref oM), (1, .int x1)] := hl
  have hP : va_P (dC, dI) vwCl (mW oM gM cA FM AM) s.heap := hP
  have b_9 : ∀ (FM : Nat → Int32) (AM : Nat → Nat → Int32) (x2 : Int32) (x3 : Int32) (H : Heap) (locs : List Loc) (ls : Array Slot), va_P (dC, dI) vwCl (mW oM gM cA FM AM) H → va_D A (mW oM gM cA FM AM) → va_S A s.heap H locs → lv_has ls 5 [(0, .ref oM), (1, .int x1), (2, .int x2), (3, .int x3)] → wp_X7_leaves_9 FM AM x1 x2 x3 Post → W p l e ({ frames := 4, cells := 0, slots := 0, locals := 89 } : Room) s m args below meth c H locs 0 0 Q (F0 m 9 ls []) := by
    intro FM AM x2 x3 H locs ls hP hD hS hl hw
    refine Lp_go (C := fun (t : Int32 × Int32 × (Nat → Int32) × (Nat → Nat → Int32)) => ∀ (H : Heap) (locs : List Loc) (ls : Array Slot), va_P (dC, dI) vwCl (mW oM gM cA (t.2.2.1) (t.2.2.2)) H → va_D A (mW oM gM cA (t.2.2.1) (t.2.2.2)) → va_S A s.heap H locs → lv_has ls 5 [(0, .ref oM), (1, .int x1), (2, .int (t.1)), (3, .int (t.2.1))] → W p l e ({ frames := 4, cells := 0, slots := 0, locals := 89 } : Room) s m args below meth c H locs 0 0 Q (F0 m 9 ls [])) ?_ hw H locs ls hP hD hS hl
    intro k_9 hk_9 t
    obtain ⟨x2, x3, FM, AM⟩ := t
    intro hw H locs ls hP hD hS hl
    have hP : va_P (dC, dI) vwCl (mW oM gM cA FM AM) H := hP
    have hD : va_D A (mW oM gM cA FM AM) := hD
    have hl : lv_has ls 5 [(0, .ref oM), (1, .int x1), (2, .int x2), (3, .int x3)] := hl
    have hw : st_X7_leaves_9 x1 Post k_9 x2 x3 FM AM := hw
    have b_61 : ∀ (FM : Nat → Int32) (AM : Nat → Nat → Int32) (x3 : Int32) (t0 : Int32) (t1 : Int32) (H : Heap) (locs : List Loc) (ls : Array Slot), va_P (dC, dI) vwCl (mW oM gM cA FM AM) H → va_D A (mW oM gM cA FM AM) → va_S A s.heap H locs → lv_has ls 5 [(0, .ref oM), (1, .int x1), (3, .int x3)] → wp_X7_leaves_61 FM AM x1 x3 t0 t1 k_9 Post → W p l e ({ frames := 4, cells := 0, slots := 0, locals := 89 } : Room) s m args below meth c H locs 0 0 Q (F0 m 61 ls [.int t1, .int t0]) := by
      intro FM AM x3 t0 t1 H locs ls hP hD hS hl hw
      refine lv_iadd hx hb dX7_leaves_61 ?_
      refine lv_istore_n (lv' := [(2, .int (t0 + t1)), (0, .ref oM), (1, .int x1), (3, .int x3)]) hx hb dX7_leaves_62 rfl hl (by decide) rfl (fun ls hl => ?_)
      refine lv_iinc (v := (x3 + 1)) (lv' := [(3, .int (x3 + 1)), (2, .int (t0 + t1)), (0, .ref oM), (1, .int x1)]) hx hb dX7_leaves_63 hl (k := 3) rfl rfl (by decide) rfl (fun ls hl => ?_)
      refine lv_goto (tgt := 9) hx hb dX7_leaves_66 (by decide) ?_
      exact hk_9 ((t0 + t1), (x3 + 1), FM, AM) hw _ _ _ hP hD hS (lv_sub hl [2, 3, 1, 0] rfl)
    have b_60 : ∀ (FM : Nat → Int32) (AM : Nat → Nat → Int32) (x3 : Int32) (t0 : Int32) (H : Heap) (locs : List Loc) (ls : Array Slot), va_P (dC, dI) vwCl (mW oM gM cA FM AM) H → va_D A (mW oM gM cA FM AM) → va_S A s.heap H locs → lv_has ls 5 [(0, .ref oM), (1, .int x1), (3, .int x3)] → wp_X7_leaves_60 FM AM x1 x3 t0 k_9 Post → W p l e ({ frames := 4, cells := 0, slots := 0, locals := 89 } : Room) s m args below meth c H locs 0 0 Q (F0 m 60 ls [.int t0]) := by
      intro FM AM x3 t0 H locs ls hP hD hS hl hw
      refine lv_iconst (v := (0 : Int32)) hx hb dX7_leaves_60 (by decide) ?_
      exact b_61 FM AM x3 t0 (0 : Int32) _ _ _ hP hD hS (lv_sub hl [0, 1, 2] rfl) hw
    refine lv_iload_n hx hb dX7_leaves_9 rfl (lv_at hl 3 rfl) ?_
    refine lv_aload_n hx hb dX7_leaves_10 rfl (lv_at hl 0 rfl) ?_
    refine gz (q0 := 0) (v := .int (FM 3)) fx hK hP fl_X7_53 rfl rfl dX7_leaves_11 ?_
    refine lv_icmp_ge (tgt := 69) hx hb dX7_leaves_14 (by decide) (fun c_4 => ?_) (fun c_4 => ?_)
    · have hw := hw.1 c_4
      refine lv_iload_n hx hb dX7_leaves_69 rfl (lv_at hl 2 rfl) ?_
      exact hret _ (FM, AM) _ _ _ _ dX7_leaves_70 rfl hw hP hD hS
    · have hw := hw.2 c_4
      refine lv_aload_n hx hb dX7_leaves_17 rfl (lv_at hl 0 rfl) ?_
      refine lv_iload_n hx hb dX7_leaves_18 rfl (lv_at hl 3 rfl) ?_
      refine caMuV (rest := []) (As := [.int x3]) (w1 := ([] : va_W)) (w2 := ([] : va_W)) fx hK lk_X7_138 (c_X7_becomesOf l dC dI cA oM gM FM AM x3 _ hw) hP hD hS hA 0 rfl rfl ⟨(Nat.le_of_ble_eq_true rfl), (Nat.le_of_ble_eq_true rfl)⟩ rfl hl.1 rfl (Nat.le_of_ble_eq_true rfl) dX7_leaves_19 ?_
      intro r_8 u_7 H locs hw hP hD hS
      obtain ⟨FM_5, AM_6⟩ := u_7
      have hP : va_P (dC, dI) vwCl (mW oM gM cA FM_5 AM_6) H := hP
      have hD : va_D A (mW oM gM cA FM_5 AM_6) := hD
      try dsimp only at hw
      refine lv_istore (lv' := [(4, .int r_8), (0, .ref oM), (1, .int x1), (2, .int x2), (3, .int x3)]) hx hb dX7_leaves_22 hl (by decide) rfl (fun ls hl => ?_)
      refine lv_iload_n hx hb dX7_leaves_24 rfl (lv_at hl 3 rfl) ?_
      refine lv_iload hx hb dX7_leaves_25 (lv_at hl 0 rfl) ?_
      refine lv_if_lt (tgt := 60) hx hb dX7_leaves_27 (by decide) (fun c_9 => ?_) (fun c_9 => ?_)
      · have hw := hw.1 c_9
        exact b_60 FM_5 AM_6 x3 x2 _ _ _ hP hD hS (lv_sub hl [1, 2, 4] rfl) hw
      · have hw := hw.2 c_9
        refine lv_aload_n hx hb dX7_leaves_30 rfl (lv_at hl 1 rfl) ?_
        refine gz (q0 := 0) (v := .ref (gM 20)) fx hK hP fl_X7_34 rfl rfl dX7_leaves_31 ?_
        refine lv_iload_n hx hb dX7_leaves_34 rfl (lv_at hl 2 rfl) ?_
        refine lv_iload hx hb dX7_leaves_35 (lv_at hl 0 rfl) ?_
        refine lv_aload_n hx hb dX7_leaves_37 rfl (lv_at hl 1 rfl) ?_
        refine gz (q0 := 0) (v := .ref (gM 24)) fx hK hP fl_X7_43 rfl rfl dX7_leaves_38 ?_
        refine lv_iload_n hx hb dX7_leaves_41 rfl (lv_at hl 4 rfl) ?_
        obtain ⟨hz, hw⟩ := hw
        refine va_iald hx hb hK hP 12 0 rfl rfl hz dX7_leaves_42 ?_
        refine lv_isub hx hb dX7_leaves_43 ?_
        refine lv_aload_n hx hb dX7_leaves_44 rfl (lv_at hl 1 rfl) ?_
        refine gz (q0 := 0) (v := .ref (gM 8)) fx hK hP fl_X7_16 rfl rfl dX7_leaves_45 ?_
        refine lv_iload_n hx hb dX7_leaves_48 rfl (lv_at hl 4 rfl) ?_
        obtain ⟨hz, hw⟩ := hw
        refine va_iald hx hb hK hP 3 0 rfl rfl hz dX7_leaves_49 ?_
        refine lv_imul hx hb dX7_leaves_50 ?_
        refine lv_iadd hx hb dX7_leaves_51 ?_
        obtain ⟨hz, hw⟩ := hw
        refine va_iald hx hb hK hP 9 0 rfl rfl hz dX7_leaves_52 ?_
        refine lv_if_eq (tgt := 60) hx hb dX7_leaves_53 (by decide) (fun c_10 => ?_) (fun c_10 => ?_)
        · have hw := hw.1 c_10
          exact b_60 FM_5 AM_6 x3 x2 _ _ _ hP hD hS (lv_sub hl [1, 2, 4] rfl) hw
        · have hw := hw.2 c_10
          refine lv_iconst (v := (1 : Int32)) hx hb dX7_leaves_56 (by decide) ?_
          refine lv_goto (tgt := 61) hx hb dX7_leaves_57 (by decide) ?_
          exact b_61 FM_5 AM_6 x3 x2 (1 : Int32) _ _ _ hP hD hS (lv_sub hl [1, 2, 4] rfl) hw
  refine lv_aload_n hx hb dX7_leaves_0 rfl (lv_at hl 0 rfl) ?_
  refine lv_iload_n hx hb dX7_leaves_1 rfl (lv_at hl 1 rfl) ?_
  refine caMuVv (rest := []) (As := [.int x1]) (w1 := ([] : va_W)) (w2 := ([] : va_W)) fx hK lk_X7_144 (c_X7_rowOf l dC dI cA oM gM FM AM x1 _ hw) hP hD hS hA 0 rfl rfl ⟨(Nat.le_of_ble_eq_true rfl), (Nat.le_of_ble_eq_true rfl)⟩ rfl hl.1 rfl (Nat.le_of_ble_eq_true rfl) dX7_leaves_2 ?_
  intro u_13 H locs hw hP hD hS
  obtain ⟨FM_11, AM_12⟩ := u_13
  have hP : va_P (dC, dI) vwCl (mW oM gM cA FM_11 AM_12) H := hP
  have hD : va_D A (mW oM gM cA FM_11 AM_12) := hD
  try dsimp only at hw
  refine lv_iconst (v := (0 : Int32)) hx hb dX7_leaves_5 (by decide) ?_
  refine lv_istore_n (lv' := [(2, .int (0 : Int32)), (0, .ref oM), (1, .int x1)]) hx hb dX7_leaves_6 rfl hl (by decide) rfl (fun ls hl => ?_)
  refine lv_iconst (v := (0 : Int32)) hx hb dX7_leaves_7 (by decide) ?_
  refine lv_istore_n (lv' := [(3, .int (0 : Int32)), (2, .int (0 : Int32)), (0, .ref oM), (1, .int x1)]) hx hb dX7_leaves_8 rfl hl (by decide) rfl (fun ls hl => ?_)
  exact b_9 FM_11 AM_12 (0 : Int32) (0 : Int32) _ _ _ hP hD hS (lv_sub hl [2, 3, 1, 0] rfl) hw
set_option maxHeartbeats 4000000 in
set_option maxRecDepth 100000 in
theorem c_X7_all (l : Launch) (dC : Nat → ClassId) (dI : Nat → Nat → Nat) (cA : ClassId) (oM : Nat) (gM : Nat → Nat) (FM : Nat → Int32) (AM : Nat → Nat → Int32) (x1 : Int32) (Post : Int32 → (Nat → Int32) → (Nat → Nat → Int32) → Prop) (hw : wp_X7_all FM AM x1 Post) : MuI (dC, dI) cA l yX7_all cX7_all 10 .int 8 177 [.ref oM, .int x1] (mW oM gM cA FM AM) (fun r (u : (Nat → Int32) × (Nat → Nat → Int32)) => Post r (u.1) (u.2)) (fun u => (mW oM gM cA (u.1) (u.2))) := by
  refine enMu (by decide) (Nat.le_of_ble_eq_true rfl) ?_
  intro p e s m args below meth c Q ls A fx hK hP hD hS hA hret hl
  obtain ⟨hx, hb, hml, hown, hts⟩ := id fx
  have hl : lv_has ls 10 [(0, .ref oM), (1, .int x1)] := hl
  have hP : va_P (dC, dI) vwCl (mW oM gM cA FM AM) s.heap := hP
  have b_41 : ∀ (FM : Nat → Int32) (AM : Nat → Nat → Int32) (x2 : Int32) (x3 : Int32) (x4 : Int32) (x5 : Int32) (x6 : Int32) (x7 : Int32) (x8 : Int32) (x9 : Int32) (H : Heap) (locs : List Loc) (ls : Array Slot), va_P (dC, dI) vwCl (mW oM gM cA FM AM) H → va_D A (mW oM gM cA FM AM) → va_S A s.heap H locs → lv_has ls 10 [(0, .ref oM), (1, .int x1), (2, .int x2), (3, .int x3), (4, .int x4), (5, .int x5), (6, .int x6), (7, .int x7), (8, .int x8), (9, .int x9)] → wp_X7_all_41 FM AM x1 x2 x3 x4 x5 x6 x7 x8 x9 Post → W p l e ({ frames := 8, cells := 0, slots := 0, locals := 177 } : Room) s m args below meth c H locs 0 0 Q (F0 m 41 ls []) := by
    intro FM AM x2 x3 x4 x5 x6 x7 x8 x9 H locs ls hP hD hS hl hw
    refine Lp_go (C := fun (t : Int32 × Int32 × Int32 × Int32 × Int32 × Int32 × Int32 × Int32 × (Nat → Int32) × (Nat → Nat → Int32)) => ∀ (H : Heap) (locs : List Loc) (ls : Array Slot), va_P (dC, dI) vwCl (mW oM gM cA (t.2.2.2.2.2.2.2.2.1) (t.2.2.2.2.2.2.2.2.2)) H → va_D A (mW oM gM cA (t.2.2.2.2.2.2.2.2.1) (t.2.2.2.2.2.2.2.2.2)) → va_S A s.heap H locs → lv_has ls 10 [(0, .ref oM), (1, .int x1), (2, .int (t.1)), (3, .int (t.2.1)), (4, .int (t.2.2.1)), (5, .int (t.2.2.2.1)), (6, .int (t.2.2.2.2.1)), (7, .int (t.2.2.2.2.2.1)), (8, .int (t.2.2.2.2.2.2.1)), (9, .int (t.2.2.2.2.2.2.2.1))] → W p l e ({ frames := 8, cells := 0, slots := 0, locals := 177 } : Room) s m args below meth c H locs 0 0 Q (F0 m 41 ls [])) ?_ hw H locs ls hP hD hS hl
    intro k_41 hk_41 t
    obtain ⟨x2, x3, x4, x5, x6, x7, x8, x9, FM, AM⟩ := t
    intro hw H locs ls hP hD hS hl
    have hP : va_P (dC, dI) vwCl (mW oM gM cA FM AM) H := hP
    have hD : va_D A (mW oM gM cA FM AM) := hD
    have hl : lv_has ls 10 [(0, .ref oM), (1, .int x1), (2, .int x2), (3, .int x3), (4, .int x4), (5, .int x5), (6, .int x6), (7, .int x7), (8, .int x8), (9, .int x9)] := hl
    have hw : st_X7_all_41 x1 Post k_41 x2 x3 x4 x5 x6 x7 x8 x9 FM AM := hw
    have b_210 : ∀ (FM : Nat → Int32) (AM : Nat → Nat → Int32) (x2 : Int32) (x3 : Int32) (x4 : Int32) (x5 : Int32) (x7 : Int32) (x8 : Int32) (x9 : Int32) (t0 : Int32) (t1 : Int32) (H : Heap) (locs : List Loc) (ls : Array Slot), va_P (dC, dI) vwCl (mW oM gM cA FM AM) H → va_D A (mW oM gM cA FM AM) → va_S A s.heap H locs → lv_has ls 10 [(0, .ref oM), (1, .int x1), (2, .int x2), (3, .int x3), (4, .int x4), (5, .int x5), (7, .int x7), (8, .int x8), (9, .int x9)] → wp_X7_all_210 FM AM x1 x2 x3 x4 x5 x7 x8 x9 t0 t1 k_41 Post → W p l e ({ frames := 8, cells := 0, slots := 0, locals := 177 } : Room) s m args below meth c H locs 0 0 Q (F0 m 210 ls [.int t1, .int t0]) := by
      intro FM AM x2 x3 x4 x5 x7 x8 x9 t0 t1 H locs ls hP hD hS hl hw
      refine lv_iadd hx hb dX7_all_210 ?_
      refine lv_istore (lv' := [(6, .int (t0 + t1)), (0, .ref oM), (1, .int x1), (2, .int x2), (3, .int x3), (4, .int x4), (5, .int x5), (7, .int x7), (8, .int x8), (9, .int x9)]) hx hb dX7_all_211 hl (by decide) rfl (fun ls hl => ?_)
      refine lv_iinc (v := (x9 + 1)) (lv' := [(9, .int (x9 + 1)), (6, .int (t0 + t1)), (0, .ref oM), (1, .int x1), (2, .int x2), (3, .int x3), (4, .int x4), (5, .int x5), (7, .int x7), (8, .int x8)]) hx hb dX7_all_213 hl (k := 9) rfl rfl (by decide) rfl (fun ls hl => ?_)
      refine lv_goto (tgt := 41) hx hb dX7_all_216 (by decide) ?_
      exact hk_41 (x2, x3, x4, x5, (t0 + t1), x7, x8, (x9 + 1), FM, AM) hw _ _ _ hP hD hS (lv_sub hl [2, 3, 4, 5, 6, 7, 1, 8, 9, 0] rfl)
    have b_209 : ∀ (FM : Nat → Int32) (AM : Nat → Nat → Int32) (x2 : Int32) (x3 : Int32) (x4 : Int32) (x5 : Int32) (x7 : Int32) (x8 : Int32) (x9 : Int32) (t0 : Int32) (H : Heap) (locs : List Loc) (ls : Array Slot), va_P (dC, dI) vwCl (mW oM gM cA FM AM) H → va_D A (mW oM gM cA FM AM) → va_S A s.heap H locs → lv_has ls 10 [(0, .ref oM), (1, .int x1), (2, .int x2), (3, .int x3), (4, .int x4), (5, .int x5), (7, .int x7), (8, .int x8), (9, .int x9)] → wp_X7_all_209 FM AM x1 x2 x3 x4 x5 x7 x8 x9 t0 k_41 Post → W p l e ({ frames := 8, cells := 0, slots := 0, locals := 177 } : Room) s m args below meth c H locs 0 0 Q (F0 m 209 ls [.int t0]) := by
      intro FM AM x2 x3 x4 x5 x7 x8 x9 t0 H locs ls hP hD hS hl hw
      refine lv_iconst (v := (0 : Int32)) hx hb dX7_all_209 (by decide) ?_
      exact b_210 FM AM x2 x3 x4 x5 x7 x8 x9 t0 (0 : Int32) _ _ _ hP hD hS (lv_sub hl [0, 1, 2, 3, 4, 5, 6, 7, 8] rfl) hw
    have b_181 : ∀ (FM : Nat → Int32) (AM : Nat → Nat → Int32) (x2 : Int32) (x3 : Int32) (x4 : Int32) (x5 : Int32) (x6 : Int32) (x7 : Int32) (x9 : Int32) (t0 : Int32) (H : Heap) (locs : List Loc) (ls : Array Slot), va_P (dC, dI) vwCl (mW oM gM cA FM AM) H → va_D A (mW oM gM cA FM AM) → va_S A s.heap H locs → lv_has ls 10 [(0, .ref oM), (1, .int x1), (2, .int x2), (3, .int x3), (4, .int x4), (5, .int x5), (6, .int x6), (7, .int x7), (9, .int x9)] → wp_X7_all_181 FM AM x1 x2 x3 x4 x5 x6 x7 x9 t0 k_41 Post → W p l e ({ frames := 8, cells := 0, slots := 0, locals := 177 } : Room) s m args below meth c H locs 0 0 Q (F0 m 181 ls [.int t0]) := by
      intro FM AM x2 x3 x4 x5 x6 x7 x9 t0 H locs ls hP hD hS hl hw
      refine lv_istore (lv' := [(8, .int t0), (0, .ref oM), (1, .int x1), (2, .int x2), (3, .int x3), (4, .int x4), (5, .int x5), (6, .int x6), (7, .int x7), (9, .int x9)]) hx hb dX7_all_181 hl (by decide) rfl (fun ls hl => ?_)
      refine lv_iload hx hb dX7_all_183 (lv_at hl 7 rfl) ?_
      refine lv_aload_n hx hb dX7_all_185 rfl (lv_at hl 1 rfl) ?_
      refine gz (q0 := 0) (v := .ref (gM 20)) fx hK hP fl_X7_34 rfl rfl dX7_all_186 ?_
      refine lv_iload hx hb dX7_all_189 (lv_at hl 9 rfl) ?_
      obtain ⟨hz, hw⟩ := hw
      refine va_iald hx hb hK hP 9 0 rfl rfl hz dX7_all_191 ?_
      refine lv_if_ne (tgt := 209) hx hb dX7_all_192 (by decide) (fun c_6 => ?_) (fun c_6 => ?_)
      · have hw := hw.1 c_6
        exact b_209 FM AM x2 x3 x4 x5 x7 t0 x9 x6 _ _ _ hP hD hS (lv_sub hl [1, 2, 3, 4, 5, 6, 8, 0, 9] rfl) hw
      · have hw := hw.2 c_6
        refine lv_iload_n hx hb dX7_all_195 rfl (lv_at hl 2 rfl) ?_
        refine lv_iconst (v := (4 : Int32)) hx hb dX7_all_196 (by decide) ?_
        refine lv_icmp_ne (tgt := 209) hx hb dX7_all_197 (by decide) (fun c_7 => ?_) (fun c_7 => ?_)
        · have hw := hw.1 c_7
          exact b_209 FM AM x2 x3 x4 x5 x7 t0 x9 x6 _ _ _ hP hD hS (lv_sub hl [1, 2, 3, 4, 5, 6, 8, 0, 9] rfl) hw
        · have hw := hw.2 c_7
          refine lv_aload_n hx hb dX7_all_200 rfl (lv_at hl 1 rfl) ?_
          refine lv_iload hx hb dX7_all_201 (lv_at hl 9 rfl) ?_
          refine caMuV (rest := [.int x6]) (As := [.int x9]) (w1 := ([] : va_W)) (w2 := ([] : va_W)) fx hK lk_X7_188 (c_X7_leaves l dC dI cA oM gM FM AM x9 _ hw) hP hD hS hA 0 rfl rfl ⟨(Nat.le_of_ble_eq_true rfl), (Nat.le_of_ble_eq_true rfl)⟩ rfl hl.1 rfl (Nat.le_of_ble_eq_true rfl) dX7_all_203 ?_
          intro r_11 u_10 H locs hw hP hD hS
          obtain ⟨FM_8, AM_9⟩ := u_10
          have hP : va_P (dC, dI) vwCl (mW oM gM cA FM_8 AM_9) H := hP
          have hD : va_D A (mW oM gM cA FM_8 AM_9) := hD
          try dsimp only at hw
          refine lv_goto (tgt := 210) hx hb dX7_all_206 (by decide) ?_
          exact b_210 FM_8 AM_9 x2 x3 x4 x5 x7 t0 x9 x6 r_11 _ _ _ hP hD hS (lv_sub hl [1, 2, 3, 4, 5, 6, 8, 0, 9] rfl) hw
    have b_179 : ∀ (FM : Nat → Int32) (AM : Nat → Nat → Int32) (x2 : Int32) (x3 : Int32) (x4 : Int32) (x5 : Int32) (x6 : Int32) (x7 : Int32) (x8 : Int32) (x9 : Int32) (H : Heap) (locs : List Loc) (ls : Array Slot), va_P (dC, dI) vwCl (mW oM gM cA FM AM) H → va_D A (mW oM gM cA FM AM) → va_S A s.heap H locs → lv_has ls 10 [(0, .ref oM), (1, .int x1), (2, .int x2), (3, .int x3), (4, .int x4), (5, .int x5), (6, .int x6), (7, .int x7), (8, .int x8), (9, .int x9)] → wp_X7_all_179 FM AM x1 x2 x3 x4 x5 x6 x7 x8 x9 k_41 Post → W p l e ({ frames := 8, cells := 0, slots := 0, locals := 177 } : Room) s m args below meth c H locs 0 0 Q (F0 m 179 ls []) := by
      intro FM AM x2 x3 x4 x5 x6 x7 x8 x9 H locs ls hP hD hS hl hw
      refine lv_iload hx hb dX7_all_179 (lv_at hl 8 rfl) ?_
      exact b_181 FM AM x2 x3 x4 x5 x6 x7 x9 x8 _ _ _ hP hD hS (lv_sub hl [0, 1, 2, 3, 4, 5, 6, 7, 9] rfl) hw
    have b_147 : ∀ (FM : Nat → Int32) (AM : Nat → Nat → Int32) (x2 : Int32) (x3 : Int32) (x4 : Int32) (x5 : Int32) (x6 : Int32) (x7 : Int32) (x8 : Int32) (x9 : Int32) (H : Heap) (locs : List Loc) (ls : Array Slot), va_P (dC, dI) vwCl (mW oM gM cA FM AM) H → va_D A (mW oM gM cA FM AM) → va_S A s.heap H locs → lv_has ls 10 [(0, .ref oM), (1, .int x1), (2, .int x2), (3, .int x3), (4, .int x4), (5, .int x5), (6, .int x6), (7, .int x7), (8, .int x8), (9, .int x9)] → wp_X7_all_147 FM AM x1 x2 x3 x4 x5 x6 x7 x8 x9 k_41 Post → W p l e ({ frames := 8, cells := 0, slots := 0, locals := 177 } : Room) s m args below meth c H locs 0 0 Q (F0 m 147 ls []) := by
      intro FM AM x2 x3 x4 x5 x6 x7 x8 x9 H locs ls hP hD hS hl hw
      refine lv_aload_n hx hb dX7_all_147 rfl (lv_at hl 0 rfl) ?_
      refine gz (q0 := 0) (v := .ref (gM 21)) fx hK hP fl_X7_37 rfl rfl dX7_all_148 ?_
      refine lv_iload hx hb dX7_all_151 (lv_at hl 9 rfl) ?_
      obtain ⟨hz, hw⟩ := hw
      refine va_iald hx hb hK hP 10 0 rfl rfl hz dX7_all_153 ?_
      refine lv_if_lt (tgt := 179) hx hb dX7_all_154 (by decide) (fun c_12 => ?_) (fun c_12 => ?_)
      · have hw := hw.1 c_12
        exact b_179 FM AM x2 x3 x4 x5 x6 x7 x8 x9 _ _ _ hP hD hS (lv_sub hl [0, 1, 2, 3, 4, 5, 6, 7, 8, 9] rfl) hw
      · have hw := hw.2 c_12
        refine lv_aload_n hx hb dX7_all_157 rfl (lv_at hl 0 rfl) ?_
        refine gz (q0 := 0) (v := .ref (gM 21)) fx hK hP fl_X7_37 rfl rfl dX7_all_158 ?_
        refine lv_iload hx hb dX7_all_161 (lv_at hl 9 rfl) ?_
        obtain ⟨hz, hw⟩ := hw
        refine va_iald hx hb hK hP 10 0 rfl rfl hz dX7_all_163 ?_
        refine lv_iload hx hb dX7_all_164 (lv_at hl 8 rfl) ?_
        refine lv_icmp_le (tgt := 179) hx hb dX7_all_166 (by decide) (fun c_13 => ?_) (fun c_13 => ?_)
        · have hw := hw.1 c_13
          exact b_179 FM AM x2 x3 x4 x5 x6 x7 x8 x9 _ _ _ hP hD hS (lv_sub hl [0, 1, 2, 3, 4, 5, 6, 7, 8, 9] rfl) hw
        · have hw := hw.2 c_13
          refine lv_aload_n hx hb dX7_all_169 rfl (lv_at hl 0 rfl) ?_
          refine gz (q0 := 0) (v := .ref (gM 21)) fx hK hP fl_X7_37 rfl rfl dX7_all_170 ?_
          refine lv_iload hx hb dX7_all_173 (lv_at hl 9 rfl) ?_
          obtain ⟨hz, hw⟩ := hw
          refine va_iald hx hb hK hP 10 0 rfl rfl hz dX7_all_175 ?_
          refine lv_goto (tgt := 181) hx hb dX7_all_176 (by decide) ?_
          exact b_181 FM AM x2 x3 x4 x5 x6 x7 x9 ((AM 21) (ix x9)) _ _ _ hP hD hS (lv_sub hl [0, 1, 2, 3, 4, 5, 6, 7, 9] rfl) hw
    have b_109 : ∀ (FM : Nat → Int32) (AM : Nat → Nat → Int32) (x2 : Int32) (x3 : Int32) (x4 : Int32) (x5 : Int32) (x6 : Int32) (x8 : Int32) (x9 : Int32) (t0 : Int32) (t1 : Int32) (H : Heap) (locs : List Loc) (ls : Array Slot), va_P (dC, dI) vwCl (mW oM gM cA FM AM) H → va_D A (mW oM gM cA FM AM) → va_S A s.heap H locs → lv_has ls 10 [(0, .ref oM), (1, .int x1), (2, .int x2), (3, .int x3), (4, .int x4), (5, .int x5), (6, .int x6), (8, .int x8), (9, .int x9)] → wp_X7_all_109 FM AM x1 x2 x3 x4 x5 x6 x8 x9 t0 t1 k_41 Post → W p l e ({ frames := 8, cells := 0, slots := 0, locals := 177 } : Room) s m args below meth c H locs 0 0 Q (F0 m 109 ls [.int t1, .int t0]) := by
      intro FM AM x2 x3 x4 x5 x6 x8 x9 t0 t1 H locs ls hP hD hS hl hw
      refine lv_iadd hx hb dX7_all_109 ?_
      refine lv_istore (lv' := [(7, .int (t0 + t1)), (0, .ref oM), (1, .int x1), (2, .int x2), (3, .int x3), (4, .int x4), (5, .int x5), (6, .int x6), (8, .int x8), (9, .int x9)]) hx hb dX7_all_110 hl (by decide) rfl (fun ls hl => ?_)
      refine lv_aload_n hx hb dX7_all_112 rfl (lv_at hl 1 rfl) ?_
      refine gz (q0 := 0) (v := .ref (gM 20)) fx hK hP fl_X7_34 rfl rfl dX7_all_113 ?_
      refine lv_iload hx hb dX7_all_116 (lv_at hl 9 rfl) ?_
      obtain ⟨hz, hw⟩ := hw
      refine va_iald hx hb hK hP 9 0 rfl rfl hz dX7_all_118 ?_
      refine lv_if_lt (tgt := 147) hx hb dX7_all_119 (by decide) (fun c_14 => ?_) (fun c_14 => ?_)
      · have hw := hw.1 c_14
        exact b_147 FM AM x2 x3 x4 x5 x6 (t0 + t1) x8 x9 _ _ _ hP hD hS (lv_sub hl [1, 2, 3, 4, 5, 6, 7, 0, 8, 9] rfl) hw
      · have hw := hw.2 c_14
        refine lv_aload_n hx hb dX7_all_122 rfl (lv_at hl 1 rfl) ?_
        refine gz (q0 := 0) (v := .ref (gM 20)) fx hK hP fl_X7_34 rfl rfl dX7_all_123 ?_
        refine lv_iload hx hb dX7_all_126 (lv_at hl 9 rfl) ?_
        obtain ⟨hz, hw⟩ := hw
        refine va_iald hx hb hK hP 9 0 rfl rfl hz dX7_all_128 ?_
        refine lv_iload hx hb dX7_all_129 (lv_at hl 5 rfl) ?_
        refine lv_icmp_le (tgt := 147) hx hb dX7_all_131 (by decide) (fun c_15 => ?_) (fun c_15 => ?_)
        · have hw := hw.1 c_15
          exact b_147 FM AM x2 x3 x4 x5 x6 (t0 + t1) x8 x9 _ _ _ hP hD hS (lv_sub hl [1, 2, 3, 4, 5, 6, 7, 0, 8, 9] rfl) hw
        · have hw := hw.2 c_15
          refine lv_aload_n hx hb dX7_all_134 rfl (lv_at hl 1 rfl) ?_
          refine gz (q0 := 0) (v := .ref (gM 20)) fx hK hP fl_X7_34 rfl rfl dX7_all_135 ?_
          refine lv_iload hx hb dX7_all_138 (lv_at hl 9 rfl) ?_
          obtain ⟨hz, hw⟩ := hw
          refine va_iald hx hb hK hP 9 0 rfl rfl hz dX7_all_140 ?_
          refine lv_istore (lv' := [(4, .int ((AM 20) (ix x9))), (7, .int (t0 + t1)), (0, .ref oM), (1, .int x1), (2, .int x2), (3, .int x3), (5, .int x5), (6, .int x6), (8, .int x8), (9, .int x9)]) hx hb dX7_all_141 hl (by decide) rfl (fun ls hl => ?_)
          refine lv_iload hx hb dX7_all_143 (lv_at hl 9 rfl) ?_
          refine lv_istore (lv' := [(5, .int x9), (4, .int ((AM 20) (ix x9))), (7, .int (t0 + t1)), (0, .ref oM), (1, .int x1), (2, .int x2), (3, .int x3), (6, .int x6), (8, .int x8), (9, .int x9)]) hx hb dX7_all_145 hl (by decide) rfl (fun ls hl => ?_)
          exact b_147 FM AM x2 x3 ((AM 20) (ix x9)) x9 x6 (t0 + t1) x8 x9 _ _ _ hP hD hS (lv_sub hl [3, 4, 5, 6, 1, 0, 7, 2, 8, 9] rfl) hw
    have b_84 : ∀ (FM : Nat → Int32) (AM : Nat → Nat → Int32) (x2 : Int32) (x4 : Int32) (x5 : Int32) (x6 : Int32) (x7 : Int32) (x8 : Int32) (x9 : Int32) (t0 : Int32) (t1 : Int32) (H : Heap) (locs : List Loc) (ls : Array Slot), va_P (dC, dI) vwCl (mW oM gM cA FM AM) H → va_D A (mW oM gM cA FM AM) → va_S A s.heap H locs → lv_has ls 10 [(0, .ref oM), (1, .int x1), (2, .int x2), (4, .int x4), (5, .int x5), (6, .int x6), (7, .int x7), (8, .int x8), (9, .int x9)] → wp_X7_all_84 FM AM x1 x2 x4 x5 x6 x7 x8 x9 t0 t1 k_41 Post → W p l e ({ frames := 8, cells := 0, slots := 0, locals := 177 } : Room) s m args below meth c H locs 0 0 Q (F0 m 84 ls [.int t1, .int t0]) := by
      intro FM AM x2 x4 x5 x6 x7 x8 x9 t0 t1 H locs ls hP hD hS hl hw
      refine lv_iadd hx hb dX7_all_84 ?_
      refine lv_istore_n (lv' := [(3, .int (t0 + t1)), (0, .ref oM), (1, .int x1), (2, .int x2), (4, .int x4), (5, .int x5), (6, .int x6), (7, .int x7), (8, .int x8), (9, .int x9)]) hx hb dX7_all_85 rfl hl (by decide) rfl (fun ls hl => ?_)
      refine lv_iload hx hb dX7_all_86 (lv_at hl 7 rfl) ?_
      refine lv_aload_n hx hb dX7_all_88 rfl (lv_at hl 1 rfl) ?_
      refine gz (q0 := 0) (v := .ref (gM 20)) fx hK hP fl_X7_34 rfl rfl dX7_all_89 ?_
      refine lv_iload hx hb dX7_all_92 (lv_at hl 9 rfl) ?_
      obtain ⟨hz, hw⟩ := hw
      refine va_iald hx hb hK hP 9 0 rfl rfl hz dX7_all_94 ?_
      refine lv_if_ge (tgt := 102) hx hb dX7_all_95 (by decide) (fun c_16 => ?_) (fun c_16 => ?_)
      · have hw := hw.1 c_16
        refine lv_aload_n hx hb dX7_all_102 rfl (lv_at hl 1 rfl) ?_
        refine gz (q0 := 0) (v := .ref (gM 20)) fx hK hP fl_X7_34 rfl rfl dX7_all_103 ?_
        refine lv_iload hx hb dX7_all_106 (lv_at hl 9 rfl) ?_
        obtain ⟨hz, hw⟩ := hw
        refine va_iald hx hb hK hP 9 0 rfl rfl hz dX7_all_108 ?_
        exact b_109 FM AM x2 (t0 + t1) x4 x5 x6 x8 x9 x7 ((AM 20) (ix x9)) _ _ _ hP hD hS (lv_sub hl [1, 2, 3, 0, 4, 5, 6, 8, 9] rfl) hw
      · have hw := hw.2 c_16
        refine lv_iconst (v := (0 : Int32)) hx hb dX7_all_98 (by decide) ?_
        refine lv_goto (tgt := 109) hx hb dX7_all_99 (by decide) ?_
        exact b_109 FM AM x2 (t0 + t1) x4 x5 x6 x8 x9 x7 (0 : Int32) _ _ _ hP hD hS (lv_sub hl [1, 2, 3, 0, 4, 5, 6, 8, 9] rfl) hw
    have b_66 : ∀ (FM : Nat → Int32) (AM : Nat → Nat → Int32) (x3 : Int32) (x4 : Int32) (x5 : Int32) (x6 : Int32) (x7 : Int32) (x8 : Int32) (x9 : Int32) (t0 : Int32) (t1 : Int32) (H : Heap) (locs : List Loc) (ls : Array Slot), va_P (dC, dI) vwCl (mW oM gM cA FM AM) H → va_D A (mW oM gM cA FM AM) → va_S A s.heap H locs → lv_has ls 10 [(0, .ref oM), (1, .int x1), (3, .int x3), (4, .int x4), (5, .int x5), (6, .int x6), (7, .int x7), (8, .int x8), (9, .int x9)] → wp_X7_all_66 FM AM x1 x3 x4 x5 x6 x7 x8 x9 t0 t1 k_41 Post → W p l e ({ frames := 8, cells := 0, slots := 0, locals := 177 } : Room) s m args below meth c H locs 0 0 Q (F0 m 66 ls [.int t1, .int t0]) := by
      intro FM AM x3 x4 x5 x6 x7 x8 x9 t0 t1 H locs ls hP hD hS hl hw
      refine lv_iadd hx hb dX7_all_66 ?_
      refine lv_istore_n (lv' := [(2, .int (t0 + t1)), (0, .ref oM), (1, .int x1), (3, .int x3), (4, .int x4), (5, .int x5), (6, .int x6), (7, .int x7), (8, .int x8), (9, .int x9)]) hx hb dX7_all_67 rfl hl (by decide) rfl (fun ls hl => ?_)
      refine lv_iload_n hx hb dX7_all_68 rfl (lv_at hl 3 rfl) ?_
      refine lv_aload_n hx hb dX7_all_69 rfl (lv_at hl 1 rfl) ?_
      refine gz (q0 := 0) (v := .ref (gM 20)) fx hK hP fl_X7_34 rfl rfl dX7_all_70 ?_
      refine lv_iload hx hb dX7_all_73 (lv_at hl 9 rfl) ?_
      obtain ⟨hz, hw⟩ := hw
      refine va_iald hx hb hK hP 9 0 rfl rfl hz dX7_all_75 ?_
      refine lv_if_ge (tgt := 83) hx hb dX7_all_76 (by decide) (fun c_17 => ?_) (fun c_17 => ?_)
      · have hw := hw.1 c_17
        refine lv_iconst (v := (0 : Int32)) hx hb dX7_all_83 (by decide) ?_
        exact b_84 FM AM (t0 + t1) x4 x5 x6 x7 x8 x9 x3 (0 : Int32) _ _ _ hP hD hS (lv_sub hl [1, 2, 0, 4, 5, 6, 7, 8, 9] rfl) hw
      · have hw := hw.2 c_17
        refine lv_iconst (v := (1 : Int32)) hx hb dX7_all_79 (by decide) ?_
        refine lv_goto (tgt := 84) hx hb dX7_all_80 (by decide) ?_
        exact b_84 FM AM (t0 + t1) x4 x5 x6 x7 x8 x9 x3 (1 : Int32) _ _ _ hP hD hS (lv_sub hl [1, 2, 0, 4, 5, 6, 7, 8, 9] rfl) hw
    refine lv_iload hx hb dX7_all_41 (lv_at hl 9 rfl) ?_
    refine lv_aload_n hx hb dX7_all_43 rfl (lv_at hl 0 rfl) ?_
    refine gz (q0 := 0) (v := .int (FM 5)) fx hK hP fl_X7_62 rfl rfl dX7_all_44 ?_
    refine lv_icmp_ge (tgt := 219) hx hb dX7_all_47 (by decide) (fun c_18 => ?_) (fun c_18 => ?_)
    · have hw := hw.1 c_18
      refine lv_iload_n hx hb dX7_all_219 rfl (lv_at hl 1 rfl) ?_
      by_cases c_19 : x1 = (0 : Int32)
      · have hw := hw.1 c_19
        refine lv_tableIn (off := 40) (tgt := 260) hx hb dX7_all_220 (by rw [c_19]; decide) (by rw [c_19]; decide) (by rw [c_19]; rfl) (by decide) ?_
        refine lv_iload_n hx hb dX7_all_260 rfl (lv_at hl 2 rfl) ?_
        exact hret _ (FM, AM) _ _ _ _ dX7_all_261 rfl hw hP hD hS
      · have hw := hw.2 c_19
        by_cases c_20 : x1 = (1 : Int32)
        · have hw := hw.1 c_20
          refine lv_tableIn (off := 42) (tgt := 262) hx hb dX7_all_220 (by rw [c_20]; decide) (by rw [c_20]; decide) (by rw [c_20]; rfl) (by decide) ?_
          refine lv_iload_n hx hb dX7_all_262 rfl (lv_at hl 3 rfl) ?_
          exact hret _ (FM, AM) _ _ _ _ dX7_all_263 rfl hw hP hD hS
        · have hw := hw.2 c_20
          by_cases c_21 : x1 = (2 : Int32)
          · have hw := hw.1 c_21
            refine lv_tableIn (off := 44) (tgt := 264) hx hb dX7_all_220 (by rw [c_21]; decide) (by rw [c_21]; decide) (by rw [c_21]; rfl) (by decide) ?_
            refine lv_iload hx hb dX7_all_264 (lv_at hl 4 rfl) ?_
            exact hret _ (FM, AM) _ _ _ _ dX7_all_266 rfl hw hP hD hS
          · have hw := hw.2 c_21
            by_cases c_22 : x1 = (3 : Int32)
            · have hw := hw.1 c_22
              refine lv_tableIn (off := 47) (tgt := 267) hx hb dX7_all_220 (by rw [c_22]; decide) (by rw [c_22]; decide) (by rw [c_22]; rfl) (by decide) ?_
              refine lv_iload hx hb dX7_all_267 (lv_at hl 5 rfl) ?_
              exact hret _ (FM, AM) _ _ _ _ dX7_all_269 rfl hw hP hD hS
            · have hw := hw.2 c_22
              by_cases c_23 : x1 = (4 : Int32)
              · have hw := hw.1 c_23
                refine lv_tableIn (off := 50) (tgt := 270) hx hb dX7_all_220 (by rw [c_23]; decide) (by rw [c_23]; decide) (by rw [c_23]; rfl) (by decide) ?_
                refine lv_iload hx hb dX7_all_270 (lv_at hl 6 rfl) ?_
                exact hret _ (FM, AM) _ _ _ _ dX7_all_272 rfl hw hP hD hS
              · have hw := hw.2 c_23
                by_cases c_24 : x1 = (5 : Int32)
                · have hw := hw.1 c_24
                  refine lv_tableIn (off := 53) (tgt := 273) hx hb dX7_all_220 (by rw [c_24]; decide) (by rw [c_24]; decide) (by rw [c_24]; rfl) (by decide) ?_
                  refine lv_iload hx hb dX7_all_273 (lv_at hl 7 rfl) ?_
                  exact hret _ (FM, AM) _ _ _ _ dX7_all_275 rfl hw hP hD hS
                · have hw := hw.2 c_24
                  refine lv_tableOut (tgt := 276) hx hb dX7_all_220 (by have := ne_i 0 _ (by decide) c_19; have := ne_i 1 _ (by decide) c_20; have := ne_i 2 _ (by decide) c_21; have := ne_i 3 _ (by decide) c_22; have := ne_i 4 _ (by decide) c_23; have := ne_i 5 _ (by decide) c_24; omega) (by decide) ?_
                  refine lv_iload hx hb dX7_all_276 (lv_at hl 8 rfl) ?_
                  exact hret _ (FM, AM) _ _ _ _ dX7_all_278 rfl hw hP hD hS
    · have hw := hw.2 c_18
      refine lv_iload_n hx hb dX7_all_50 rfl (lv_at hl 2 rfl) ?_
      refine lv_aload_n hx hb dX7_all_51 rfl (lv_at hl 0 rfl) ?_
      refine gz (q0 := 0) (v := .ref (gM 20)) fx hK hP fl_X7_34 rfl rfl dX7_all_52 ?_
      refine lv_iload hx hb dX7_all_55 (lv_at hl 9 rfl) ?_
      obtain ⟨hz, hw⟩ := hw
      refine va_iald hx hb hK hP 9 0 rfl rfl hz dX7_all_57 ?_
      refine lv_if_ne (tgt := 65) hx hb dX7_all_58 (by decide) (fun c_25 => ?_) (fun c_25 => ?_)
      · have hw := hw.1 c_25
        refine lv_iconst (v := (0 : Int32)) hx hb dX7_all_65 (by decide) ?_
        exact b_66 FM AM x3 x4 x5 x6 x7 x8 x9 x2 (0 : Int32) _ _ _ hP hD hS (lv_sub hl [0, 1, 3, 4, 5, 6, 7, 8, 9] rfl) hw
      · have hw := hw.2 c_25
        refine lv_iconst (v := (1 : Int32)) hx hb dX7_all_61 (by decide) ?_
        refine lv_goto (tgt := 66) hx hb dX7_all_62 (by decide) ?_
        exact b_66 FM AM x3 x4 x5 x6 x7 x8 x9 x2 (1 : Int32) _ _ _ hP hD hS (lv_sub hl [0, 1, 3, 4, 5, 6, 7, 8, 9] rfl) hw
  refine lv_iload_n hx hb dX7_all_0 rfl (lv_at hl 1 rfl) ?_
  refine lv_iconst (v := (0 : Int32)) hx hb dX7_all_1 (by decide) ?_
  refine lv_bipush (v := (6 : Int32)) hx hb dX7_all_2 (by decide) ?_
  refine caRoS (rest := []) (As := [.int x1, .int (0 : Int32), .int (6 : Int32)]) fx hK lk_X7_88 (c_X7_isIn l dC dI cA x1 (0 : Int32) (6 : Int32) _ hw) (hP.sub [] rfl) ⟨(Nat.le_of_ble_eq_true rfl), (Nat.le_of_ble_eq_true rfl)⟩ rfl hl.1 rfl (Nat.le_of_ble_eq_true rfl) dX7_all_4 ?_
  intro r_26 hw
  refine lv_if_ne (tgt := 12) hx hb dX7_all_7 (by decide) (fun c_27 => ?_) (fun c_27 => ?_)
  · have hw := hw.1 c_27
    refine lv_aload_n hx hb dX7_all_12 rfl (lv_at hl 0 rfl) ?_
    refine caMuVv (rest := []) (As := []) (w1 := ([] : va_W)) (w2 := ([] : va_W)) fx hK lk_X7_185 (c_X7_measures l dC dI cA oM gM FM AM _ hw) hP hD hS hA 0 rfl rfl ⟨(Nat.le_of_ble_eq_true rfl), (Nat.le_of_ble_eq_true rfl)⟩ rfl hl.1 rfl (Nat.le_of_ble_eq_true rfl) dX7_all_13 ?_
    intro u_30 H locs hw hP hD hS
    obtain ⟨FM_28, AM_29⟩ := u_30
    have hP : va_P (dC, dI) vwCl (mW oM gM cA FM_28 AM_29) H := hP
    have hD : va_D A (mW oM gM cA FM_28 AM_29) := hD
    try dsimp only at hw
    refine lv_iconst (v := (0 : Int32)) hx hb dX7_all_16 (by decide) ?_
    refine lv_istore_n (lv' := [(2, .int (0 : Int32)), (0, .ref oM), (1, .int x1)]) hx hb dX7_all_17 rfl hl (by decide) rfl (fun ls hl => ?_)
    refine lv_iconst (v := (0 : Int32)) hx hb dX7_all_18 (by decide) ?_
    refine lv_istore_n (lv' := [(3, .int (0 : Int32)), (2, .int (0 : Int32)), (0, .ref oM), (1, .int x1)]) hx hb dX7_all_19 rfl hl (by decide) rfl (fun ls hl => ?_)
    refine lv_bipush (v := (-4 : Int32)) hx hb dX7_all_20 (by decide) ?_
    refine lv_istore (lv' := [(4, .int (-4 : Int32)), (3, .int (0 : Int32)), (2, .int (0 : Int32)), (0, .ref oM), (1, .int x1)]) hx hb dX7_all_22 hl (by decide) rfl (fun ls hl => ?_)
    refine lv_bipush (v := (-4 : Int32)) hx hb dX7_all_24 (by decide) ?_
    refine lv_istore (lv' := [(5, .int (-4 : Int32)), (4, .int (-4 : Int32)), (3, .int (0 : Int32)), (2, .int (0 : Int32)), (0, .ref oM), (1, .int x1)]) hx hb dX7_all_26 hl (by decide) rfl (fun ls hl => ?_)
    refine lv_iconst (v := (0 : Int32)) hx hb dX7_all_28 (by decide) ?_
    refine lv_istore (lv' := [(6, .int (0 : Int32)), (5, .int (-4 : Int32)), (4, .int (-4 : Int32)), (3, .int (0 : Int32)), (2, .int (0 : Int32)), (0, .ref oM), (1, .int x1)]) hx hb dX7_all_29 hl (by decide) rfl (fun ls hl => ?_)
    refine lv_iconst (v := (0 : Int32)) hx hb dX7_all_31 (by decide) ?_
    refine lv_istore (lv' := [(7, .int (0 : Int32)), (6, .int (0 : Int32)), (5, .int (-4 : Int32)), (4, .int (-4 : Int32)), (3, .int (0 : Int32)), (2, .int (0 : Int32)), (0, .ref oM), (1, .int x1)]) hx hb dX7_all_32 hl (by decide) rfl (fun ls hl => ?_)
    refine lv_bipush (v := (-4 : Int32)) hx hb dX7_all_34 (by decide) ?_
    refine lv_istore (lv' := [(8, .int (-4 : Int32)), (7, .int (0 : Int32)), (6, .int (0 : Int32)), (5, .int (-4 : Int32)), (4, .int (-4 : Int32)), (3, .int (0 : Int32)), (2, .int (0 : Int32)), (0, .ref oM), (1, .int x1)]) hx hb dX7_all_36 hl (by decide) rfl (fun ls hl => ?_)
    refine lv_iconst (v := (0 : Int32)) hx hb dX7_all_38 (by decide) ?_
    refine lv_istore (lv' := [(9, .int (0 : Int32)), (8, .int (-4 : Int32)), (7, .int (0 : Int32)), (6, .int (0 : Int32)), (5, .int (-4 : Int32)), (4, .int (-4 : Int32)), (3, .int (0 : Int32)), (2, .int (0 : Int32)), (0, .ref oM), (1, .int x1)]) hx hb dX7_all_39 hl (by decide) rfl (fun ls hl => ?_)
    exact b_41 FM_28 AM_29 (0 : Int32) (0 : Int32) (-4 : Int32) (-4 : Int32) (0 : Int32) (0 : Int32) (-4 : Int32) (0 : Int32) _ _ _ hP hD hS (lv_sub hl [8, 9, 7, 6, 5, 4, 3, 2, 1, 0] rfl) hw
  · have hw := hw.2 c_27
    refine lv_iconst (v := (-1 : Int32)) hx hb dX7_all_10 (by decide) ?_
    exact hret _ (FM, AM) _ _ _ _ dX7_all_11 rfl hw hP hD hS
set_option maxHeartbeats 4000000 in
set_option maxRecDepth 100000 in
theorem c_X7_within (l : Launch) (dC : Nat → ClassId) (dI : Nat → Nat → Nat) (cA : ClassId) (oM : Nat) (gM : Nat → Nat) (FM : Nat → Int32) (AM : Nat → Nat → Int32) (x1 : Int32) (x2 : Int32) (Post : Int32 → (Nat → Int32) → (Nat → Nat → Int32) → Prop) (hw : wp_X7_within FM AM x1 x2 Post) : MuI (dC, dI) cA l yX7_within cX7_within 7 .int 8 177 [.ref oM, .int x1, .int x2] (mW oM gM cA FM AM) (fun r (u : (Nat → Int32) × (Nat → Nat → Int32)) => Post r (u.1) (u.2)) (fun u => (mW oM gM cA (u.1) (u.2))) := by
  refine enMu (by decide) (Nat.le_of_ble_eq_true rfl) ?_
  intro p e s m args below meth c Q ls A fx hK hP hD hS hA hret hl
  obtain ⟨hx, hb, hml, hown, hts⟩ := id fx
  have hl : lv_has ls 7 [(0, .ref oM), (1, .int x1), (2, .int x2)] := hl
  have hP : va_P (dC, dI) vwCl (mW oM gM cA FM AM) s.heap := hP
  have b_38 : ∀ (FM : Nat → Int32) (AM : Nat → Nat → Int32) (x3 : Int32) (x4 : Int32) (x5 : Int32) (x6 : Int32) (H : Heap) (locs : List Loc) (ls : Array Slot), va_P (dC, dI) vwCl (mW oM gM cA FM AM) H → va_D A (mW oM gM cA FM AM) → va_S A s.heap H locs → lv_has ls 7 [(0, .ref oM), (1, .int x1), (2, .int x2), (3, .int x3), (4, .int x4), (5, .int x5), (6, .int x6)] → wp_X7_within_38 FM AM x1 x2 x3 x4 x5 x6 Post → W p l e ({ frames := 8, cells := 0, slots := 0, locals := 177 } : Room) s m args below meth c H locs 0 0 Q (F0 m 38 ls []) := by
    intro FM AM x3 x4 x5 x6 H locs ls hP hD hS hl hw
    refine Lp_go (C := fun (t : Int32 × Int32 × Int32 × Int32) => ∀ (H : Heap) (locs : List Loc) (ls : Array Slot), va_P (dC, dI) vwCl (mW oM gM cA FM AM) H → va_D A (mW oM gM cA FM AM) → va_S A s.heap H locs → lv_has ls 7 [(0, .ref oM), (1, .int x1), (2, .int x2), (3, .int (t.1)), (4, .int (t.2.1)), (5, .int (t.2.2.1)), (6, .int (t.2.2.2))] → W p l e ({ frames := 8, cells := 0, slots := 0, locals := 177 } : Room) s m args below meth c H locs 0 0 Q (F0 m 38 ls [])) ?_ hw H locs ls hP hD hS hl
    intro k_38 hk_38 t
    obtain ⟨x3, x4, x5, x6⟩ := t
    intro hw H locs ls hP hD hS hl
    have hP : va_P (dC, dI) vwCl (mW oM gM cA FM AM) H := hP
    have hD : va_D A (mW oM gM cA FM AM) := hD
    have hl : lv_has ls 7 [(0, .ref oM), (1, .int x1), (2, .int x2), (3, .int x3), (4, .int x4), (5, .int x5), (6, .int x6)] := hl
    have hw : st_X7_within_38 FM AM x1 x2 Post k_38 x3 x4 x5 x6 := hw
    have b_117 : ∀ (x3 : Int32) (x5 : Int32) (x6 : Int32) (t0 : Int32) (H : Heap) (locs : List Loc) (ls : Array Slot), va_P (dC, dI) vwCl (mW oM gM cA FM AM) H → va_D A (mW oM gM cA FM AM) → va_S A s.heap H locs → lv_has ls 7 [(0, .ref oM), (1, .int x1), (2, .int x2), (3, .int x3), (5, .int x5), (6, .int x6)] → wp_X7_within_117 FM AM x1 x2 x3 x5 x6 t0 k_38 Post → W p l e ({ frames := 8, cells := 0, slots := 0, locals := 177 } : Room) s m args below meth c H locs 0 0 Q (F0 m 117 ls [.int t0]) := by
      intro x3 x5 x6 t0 H locs ls hP hD hS hl hw
      refine lv_istore (lv' := [(4, .int t0), (0, .ref oM), (1, .int x1), (2, .int x2), (3, .int x3), (5, .int x5), (6, .int x6)]) hx hb dX7_within_117 hl (by decide) rfl (fun ls hl => ?_)
      refine lv_iinc (v := (x6 + 1)) (lv' := [(6, .int (x6 + 1)), (4, .int t0), (0, .ref oM), (1, .int x1), (2, .int x2), (3, .int x3), (5, .int x5)]) hx hb dX7_within_119 hl (k := 6) rfl rfl (by decide) rfl (fun ls hl => ?_)
      refine lv_goto (tgt := 38) hx hb dX7_within_122 (by decide) ?_
      exact hk_38 (x3, t0, x5, (x6 + 1)) hw _ _ _ hP hD hS (lv_sub hl [2, 3, 4, 5, 1, 6, 0] rfl)
    have b_91 : ∀ (x3 : Int32) (x4 : Int32) (x6 : Int32) (t0 : Int32) (H : Heap) (locs : List Loc) (ls : Array Slot), va_P (dC, dI) vwCl (mW oM gM cA FM AM) H → va_D A (mW oM gM cA FM AM) → va_S A s.heap H locs → lv_has ls 7 [(0, .ref oM), (1, .int x1), (2, .int x2), (3, .int x3), (4, .int x4), (6, .int x6)] → wp_X7_within_91 FM AM x1 x2 x3 x4 x6 t0 k_38 Post → W p l e ({ frames := 8, cells := 0, slots := 0, locals := 177 } : Room) s m args below meth c H locs 0 0 Q (F0 m 91 ls [.int t0]) := by
      intro x3 x4 x6 t0 H locs ls hP hD hS hl hw
      refine lv_istore (lv' := [(5, .int t0), (0, .ref oM), (1, .int x1), (2, .int x2), (3, .int x3), (4, .int x4), (6, .int x6)]) hx hb dX7_within_91 hl (by decide) rfl (fun ls hl => ?_)
      refine lv_aload_n hx hb dX7_within_93 rfl (lv_at hl 1 rfl) ?_
      refine gz (q0 := 0) (v := .ref (gM 20)) fx hK hP fl_X7_34 rfl rfl dX7_within_94 ?_
      refine lv_iload hx hb dX7_within_97 (lv_at hl 6 rfl) ?_
      obtain ⟨hz, hw⟩ := hw
      refine va_iald hx hb hK hP 9 0 rfl rfl hz dX7_within_99 ?_
      refine lv_iload hx hb dX7_within_100 (lv_at hl 5 rfl) ?_
      refine lv_icmp_le (tgt := 115) hx hb dX7_within_102 (by decide) (fun c_8 => ?_) (fun c_8 => ?_)
      · have hw := hw.1 c_8
        refine lv_iload hx hb dX7_within_115 (lv_at hl 5 rfl) ?_
        exact b_117 x3 t0 x6 x4 _ _ _ hP hD hS (lv_sub hl [1, 2, 3, 4, 0, 6] rfl) hw
      · have hw := hw.2 c_8
        refine lv_aload_n hx hb dX7_within_105 rfl (lv_at hl 1 rfl) ?_
        refine gz (q0 := 0) (v := .ref (gM 20)) fx hK hP fl_X7_34 rfl rfl dX7_within_106 ?_
        refine lv_iload hx hb dX7_within_109 (lv_at hl 6 rfl) ?_
        obtain ⟨hz, hw⟩ := hw
        refine va_iald hx hb hK hP 9 0 rfl rfl hz dX7_within_111 ?_
        refine lv_goto (tgt := 117) hx hb dX7_within_112 (by decide) ?_
        exact b_117 x3 t0 x6 ((AM 20) (ix x6)) _ _ _ hP hD hS (lv_sub hl [1, 2, 3, 4, 0, 6] rfl) hw
    have b_86 : ∀ (x3 : Int32) (x4 : Int32) (x6 : Int32) (H : Heap) (locs : List Loc) (ls : Array Slot), va_P (dC, dI) vwCl (mW oM gM cA FM AM) H → va_D A (mW oM gM cA FM AM) → va_S A s.heap H locs → lv_has ls 7 [(0, .ref oM), (1, .int x1), (2, .int x2), (3, .int x3), (4, .int x4), (6, .int x6)] → wp_X7_within_86 FM AM x1 x2 x3 x4 x6 k_38 Post → W p l e ({ frames := 8, cells := 0, slots := 0, locals := 177 } : Room) s m args below meth c H locs 0 0 Q (F0 m 86 ls []) := by
      intro x3 x4 x6 H locs ls hP hD hS hl hw
      refine lv_iconst (v := (1 : Int32)) hx hb dX7_within_86 (by decide) ?_
      refine lv_goto (tgt := 91) hx hb dX7_within_87 (by decide) ?_
      exact b_91 x3 x4 x6 (1 : Int32) _ _ _ hP hD hS (lv_sub hl [0, 1, 2, 3, 4, 5] rfl) hw
    refine lv_iload hx hb dX7_within_38 (lv_at hl 6 rfl) ?_
    refine lv_aload_n hx hb dX7_within_40 rfl (lv_at hl 0 rfl) ?_
    refine gz (q0 := 0) (v := .int (FM 5)) fx hK hP fl_X7_62 rfl rfl dX7_within_41 ?_
    refine lv_icmp_ge (tgt := 125) hx hb dX7_within_44 (by decide) (fun c_9 => ?_) (fun c_9 => ?_)
    · have hw := hw.1 c_9
      refine lv_iload_n hx hb dX7_within_125 rfl (lv_at hl 3 rfl) ?_
      refine lv_if_ne (tgt := 134) hx hb dX7_within_126 (by decide) (fun c_10 => ?_) (fun c_10 => ?_)
      · have hw := hw.1 c_10
        refine lv_iload_n hx hb dX7_within_134 rfl (lv_at hl 2 rfl) ?_
        refine lv_iconst (v := (1 : Int32)) hx hb dX7_within_135 (by decide) ?_
        refine lv_icmp_ne (tgt := 143) hx hb dX7_within_136 (by decide) (fun c_11 => ?_) (fun c_11 => ?_)
        · have hw := hw.1 c_11
          refine lv_iload hx hb dX7_within_143 (lv_at hl 5 rfl) ?_
          refine lv_if_eq (tgt := 153) hx hb dX7_within_145 (by decide) (fun c_12 => ?_) (fun c_12 => ?_)
          · have hw := hw.1 c_12
            refine lv_iload hx hb dX7_within_153 (lv_at hl 4 rfl) ?_
            exact hret _ (FM, AM) _ _ _ _ dX7_within_155 rfl hw hP hD hS
          · have hw := hw.2 c_12
            refine lv_bipush (v := (-5 : Int32)) hx hb dX7_within_148 (by decide) ?_
            refine lv_goto (tgt := 155) hx hb dX7_within_150 (by decide) ?_
            exact hret _ (FM, AM) _ _ _ _ dX7_within_155 rfl hw hP hD hS
        · have hw := hw.2 c_11
          refine lv_iload_n hx hb dX7_within_139 rfl (lv_at hl 3 rfl) ?_
          refine lv_goto (tgt := 155) hx hb dX7_within_140 (by decide) ?_
          exact hret _ (FM, AM) _ _ _ _ dX7_within_155 rfl hw hP hD hS
      · have hw := hw.2 c_10
        refine lv_bipush (v := (-4 : Int32)) hx hb dX7_within_129 (by decide) ?_
        refine lv_goto (tgt := 155) hx hb dX7_within_131 (by decide) ?_
        exact hret _ (FM, AM) _ _ _ _ dX7_within_155 rfl hw hP hD hS
    · have hw := hw.2 c_9
      refine lv_aload_n hx hb dX7_within_47 rfl (lv_at hl 0 rfl) ?_
      refine gz (q0 := 0) (v := .ref (gM 22)) fx hK hP fl_X7_40 rfl rfl dX7_within_48 ?_
      refine lv_iload hx hb dX7_within_51 (lv_at hl 6 rfl) ?_
      obtain ⟨hz, hw⟩ := hw
      refine va_iald hx hb hK hP 11 0 rfl rfl hz dX7_within_53 ?_
      refine lv_if_lt (tgt := 119) hx hb dX7_within_54 (by decide) (fun c_13 => ?_) (fun c_13 => ?_)
      · have hw := hw.1 c_13
        refine lv_iinc (v := (x6 + 1)) (lv' := [(6, .int (x6 + 1)), (0, .ref oM), (1, .int x1), (2, .int x2), (3, .int x3), (4, .int x4), (5, .int x5)]) hx hb dX7_within_119 hl (k := 6) rfl rfl (by decide) rfl (fun ls hl => ?_)
        refine lv_goto (tgt := 38) hx hb dX7_within_122 (by decide) ?_
        exact hk_38 (x3, x4, x5, (x6 + 1)) hw _ _ _ hP hD hS (lv_sub hl [1, 2, 3, 4, 5, 6, 0] rfl)
      · have hw := hw.2 c_13
        refine lv_aload_n hx hb dX7_within_57 rfl (lv_at hl 0 rfl) ?_
        refine gz (q0 := 0) (v := .ref (gM 22)) fx hK hP fl_X7_40 rfl rfl dX7_within_58 ?_
        refine lv_iload hx hb dX7_within_61 (lv_at hl 6 rfl) ?_
        obtain ⟨hz, hw⟩ := hw
        refine va_iald hx hb hK hP 11 0 rfl rfl hz dX7_within_63 ?_
        refine lv_iload_n hx hb dX7_within_64 rfl (lv_at hl 1 rfl) ?_
        refine lv_icmp_gt (tgt := 119) hx hb dX7_within_65 (by decide) (fun c_14 => ?_) (fun c_14 => ?_)
        · have hw := hw.1 c_14
          refine lv_iinc (v := (x6 + 1)) (lv' := [(6, .int (x6 + 1)), (0, .ref oM), (1, .int x1), (2, .int x2), (3, .int x3), (4, .int x4), (5, .int x5)]) hx hb dX7_within_119 hl (k := 6) rfl rfl (by decide) rfl (fun ls hl => ?_)
          refine lv_goto (tgt := 38) hx hb dX7_within_122 (by decide) ?_
          exact hk_38 (x3, x4, x5, (x6 + 1)) hw _ _ _ hP hD hS (lv_sub hl [1, 2, 3, 4, 5, 6, 0] rfl)
        · have hw := hw.2 c_14
          refine lv_iinc (v := (x3 + 1)) (lv' := [(3, .int (x3 + 1)), (0, .ref oM), (1, .int x1), (2, .int x2), (4, .int x4), (5, .int x5), (6, .int x6)]) hx hb dX7_within_68 hl (k := 3) rfl rfl (by decide) rfl (fun ls hl => ?_)
          refine lv_iload hx hb dX7_within_71 (lv_at hl 5 rfl) ?_
          refine lv_if_ne (tgt := 86) hx hb dX7_within_73 (by decide) (fun c_15 => ?_) (fun c_15 => ?_)
          · have hw := hw.1 c_15
            exact b_86 (x3 + 1) x4 x6 _ _ _ hP hD hS (lv_sub hl [1, 2, 3, 0, 4, 6] rfl) hw
          · have hw := hw.2 c_15
            refine lv_aload_n hx hb dX7_within_76 rfl (lv_at hl 1 rfl) ?_
            refine gz (q0 := 0) (v := .ref (gM 20)) fx hK hP fl_X7_34 rfl rfl dX7_within_77 ?_
            refine lv_iload hx hb dX7_within_80 (lv_at hl 6 rfl) ?_
            obtain ⟨hz, hw⟩ := hw
            refine va_iald hx hb hK hP 9 0 rfl rfl hz dX7_within_82 ?_
            refine lv_if_ge (tgt := 90) hx hb dX7_within_83 (by decide) (fun c_16 => ?_) (fun c_16 => ?_)
            · have hw := hw.1 c_16
              refine lv_iconst (v := (0 : Int32)) hx hb dX7_within_90 (by decide) ?_
              exact b_91 (x3 + 1) x4 x6 (0 : Int32) _ _ _ hP hD hS (lv_sub hl [1, 2, 3, 0, 4, 6] rfl) hw
            · have hw := hw.2 c_16
              exact b_86 (x3 + 1) x4 x6 _ _ _ hP hD hS (lv_sub hl [1, 2, 3, 0, 4, 6] rfl) hw
  refine lv_iload_n hx hb dX7_within_0 rfl (lv_at hl 1 rfl) ?_
  refine lv_iconst (v := (0 : Int32)) hx hb dX7_within_1 (by decide) ?_
  refine lv_aload_n hx hb dX7_within_2 rfl (lv_at hl 0 rfl) ?_
  refine gz (q0 := 0) (v := .int (FM 3)) fx hK hP fl_X7_53 rfl rfl dX7_within_3 ?_
  refine caRoS (rest := []) (As := [.int x1, .int (0 : Int32), .int (FM 3)]) fx hK lk_X7_88 (c_X7_isIn l dC dI cA x1 (0 : Int32) (FM 3) _ hw) (hP.sub [] rfl) ⟨(Nat.le_of_ble_eq_true rfl), (Nat.le_of_ble_eq_true rfl)⟩ rfl hl.1 rfl (Nat.le_of_ble_eq_true rfl) dX7_within_6 ?_
  intro r_17 hw
  refine lv_if_eq (tgt := 21) hx hb dX7_within_9 (by decide) (fun c_18 => ?_) (fun c_18 => ?_)
  · have hw := hw.1 c_18
    refine lv_iconst (v := (-1 : Int32)) hx hb dX7_within_21 (by decide) ?_
    exact hret _ (FM, AM) _ _ _ _ dX7_within_22 rfl hw hP hD hS
  · have hw := hw.2 c_18
    refine lv_iload_n hx hb dX7_within_12 rfl (lv_at hl 2 rfl) ?_
    refine lv_iconst (v := (0 : Int32)) hx hb dX7_within_13 (by decide) ?_
    refine lv_iconst (v := (1 : Int32)) hx hb dX7_within_14 (by decide) ?_
    refine caRoS (rest := []) (As := [.int x2, .int (0 : Int32), .int (1 : Int32)]) fx hK lk_X7_88 (c_X7_isIn l dC dI cA x2 (0 : Int32) (1 : Int32) _ hw) (hP.sub [] rfl) ⟨(Nat.le_of_ble_eq_true rfl), (Nat.le_of_ble_eq_true rfl)⟩ rfl hl.1 rfl (Nat.le_of_ble_eq_true rfl) dX7_within_15 ?_
    intro r_19 hw
    refine lv_if_ne (tgt := 23) hx hb dX7_within_18 (by decide) (fun c_20 => ?_) (fun c_20 => ?_)
    · have hw := hw.1 c_20
      refine lv_aload_n hx hb dX7_within_23 rfl (lv_at hl 0 rfl) ?_
      refine caMuVv (rest := []) (As := []) (w1 := ([] : va_W)) (w2 := ([] : va_W)) fx hK lk_X7_185 (c_X7_measures l dC dI cA oM gM FM AM _ hw) hP hD hS hA 0 rfl rfl ⟨(Nat.le_of_ble_eq_true rfl), (Nat.le_of_ble_eq_true rfl)⟩ rfl hl.1 rfl (Nat.le_of_ble_eq_true rfl) dX7_within_24 ?_
      intro u_23 H locs hw hP hD hS
      obtain ⟨FM_21, AM_22⟩ := u_23
      have hP : va_P (dC, dI) vwCl (mW oM gM cA FM_21 AM_22) H := hP
      have hD : va_D A (mW oM gM cA FM_21 AM_22) := hD
      try dsimp only at hw
      refine lv_iconst (v := (0 : Int32)) hx hb dX7_within_27 (by decide) ?_
      refine lv_istore_n (lv' := [(3, .int (0 : Int32)), (0, .ref oM), (1, .int x1), (2, .int x2)]) hx hb dX7_within_28 rfl hl (by decide) rfl (fun ls hl => ?_)
      refine lv_iconst (v := (0 : Int32)) hx hb dX7_within_29 (by decide) ?_
      refine lv_istore (lv' := [(4, .int (0 : Int32)), (3, .int (0 : Int32)), (0, .ref oM), (1, .int x1), (2, .int x2)]) hx hb dX7_within_30 hl (by decide) rfl (fun ls hl => ?_)
      refine lv_iconst (v := (0 : Int32)) hx hb dX7_within_32 (by decide) ?_
      refine lv_istore (lv' := [(5, .int (0 : Int32)), (4, .int (0 : Int32)), (3, .int (0 : Int32)), (0, .ref oM), (1, .int x1), (2, .int x2)]) hx hb dX7_within_33 hl (by decide) rfl (fun ls hl => ?_)
      refine lv_iconst (v := (0 : Int32)) hx hb dX7_within_35 (by decide) ?_
      refine lv_istore (lv' := [(6, .int (0 : Int32)), (5, .int (0 : Int32)), (4, .int (0 : Int32)), (3, .int (0 : Int32)), (0, .ref oM), (1, .int x1), (2, .int x2)]) hx hb dX7_within_36 hl (by decide) rfl (fun ls hl => ?_)
      exact b_38 FM_21 AM_22 (0 : Int32) (0 : Int32) (0 : Int32) (0 : Int32) _ _ _ hP hD hS (lv_sub hl [4, 5, 6, 3, 2, 1, 0] rfl) hw
    · have hw := hw.2 c_20
      refine lv_iconst (v := (-1 : Int32)) hx hb dX7_within_21 (by decide) ?_
      exact hret _ (FM, AM) _ _ _ _ dX7_within_22 rfl hw hP hD hS
set_option maxHeartbeats 4000000 in
set_option maxRecDepth 100000 in
theorem c_X7_count (l : Launch) (dC : Nat → ClassId) (dI : Nat → Nat → Nat) (cA : ClassId) (oM : Nat) (gM : Nat → Nat) (FM : Nat → Int32) (AM : Nat → Nat → Int32) (x1 : Int32) (Post : Int32 → Prop) (hw : wp_X7_count FM AM x1 Post) : RoI (dC, dI) cA l yX7_count cX7_count 2 .int 0 0 [.ref oM, .int x1] (mW oM gM cA FM AM) Post := by
  refine enRo (by decide) (Nat.le_of_ble_eq_true rfl) ?_
  intro p e s m args below meth c Q ls fx hK hP hret hl
  obtain ⟨hx, hb, hml, hown, hts⟩ := id fx
  have hl : lv_has ls 2 [(0, .ref oM), (1, .int x1)] := hl
  refine lv_iload_n hx hb dX7_count_0 rfl (lv_at hl 1 rfl) ?_
  by_cases c_9 : x1 = (0 : Int32)
  · have hw := hw.1 c_9
    refine lv_tableIn (off := 47) (tgt := 48) hx hb dX7_count_1 (by rw [c_9]; decide) (by rw [c_9]; decide) (by rw [c_9]; rfl) (by decide) ?_
    refine lv_aload_n hx hb dX7_count_48 rfl (lv_at hl 0 rfl) ?_
    refine gz (q0 := 0) (v := .int (FM 2)) fx hK hP fl_X7_49 rfl rfl dX7_count_49 ?_
    exact hret _ _ _ dX7_count_52 rfl hw
  · have hw := hw.2 c_9
    by_cases c_10 : x1 = (1 : Int32)
    · have hw := hw.1 c_10
      refine lv_tableIn (off := 52) (tgt := 53) hx hb dX7_count_1 (by rw [c_10]; decide) (by rw [c_10]; decide) (by rw [c_10]; rfl) (by decide) ?_
      refine lv_aload_n hx hb dX7_count_53 rfl (lv_at hl 0 rfl) ?_
      refine gz (q0 := 0) (v := .int (FM 3)) fx hK hP fl_X7_53 rfl rfl dX7_count_54 ?_
      exact hret _ _ _ dX7_count_57 rfl hw
    · have hw := hw.2 c_10
      by_cases c_11 : x1 = (2 : Int32)
      · have hw := hw.1 c_11
        refine lv_tableIn (off := 57) (tgt := 58) hx hb dX7_count_1 (by rw [c_11]; decide) (by rw [c_11]; decide) (by rw [c_11]; rfl) (by decide) ?_
        refine lv_aload_n hx hb dX7_count_58 rfl (lv_at hl 0 rfl) ?_
        refine gz (q0 := 0) (v := .int (FM 4)) fx hK hP fl_X7_56 rfl rfl dX7_count_59 ?_
        exact hret _ _ _ dX7_count_62 rfl hw
      · have hw := hw.2 c_11
        by_cases c_12 : x1 = (3 : Int32)
        · have hw := hw.1 c_12
          refine lv_tableIn (off := 62) (tgt := 63) hx hb dX7_count_1 (by rw [c_12]; decide) (by rw [c_12]; decide) (by rw [c_12]; rfl) (by decide) ?_
          refine lv_aload_n hx hb dX7_count_63 rfl (lv_at hl 0 rfl) ?_
          refine gz (q0 := 0) (v := .int (FM 6)) fx hK hP fl_X7_113 rfl rfl dX7_count_64 ?_
          exact hret _ _ _ dX7_count_67 rfl hw
        · have hw := hw.2 c_12
          by_cases c_13 : x1 = (4 : Int32)
          · have hw := hw.1 c_13
            refine lv_tableIn (off := 67) (tgt := 68) hx hb dX7_count_1 (by rw [c_13]; decide) (by rw [c_13]; decide) (by rw [c_13]; rfl) (by decide) ?_
            refine lv_aload_n hx hb dX7_count_68 rfl (lv_at hl 0 rfl) ?_
            refine gz (q0 := 0) (v := .int (FM 5)) fx hK hP fl_X7_62 rfl rfl dX7_count_69 ?_
            exact hret _ _ _ dX7_count_72 rfl hw
          · have hw := hw.2 c_13
            by_cases c_14 : x1 = (5 : Int32)
            · have hw := hw.1 c_14
              refine lv_tableIn (off := 72) (tgt := 73) hx hb dX7_count_1 (by rw [c_14]; decide) (by rw [c_14]; decide) (by rw [c_14]; rfl) (by decide) ?_
              refine lv_aload_n hx hb dX7_count_73 rfl (lv_at hl 0 rfl) ?_
              refine gz (q0 := 0) (v := .int (FM 17)) fx hK hP fl_X7_68 rfl rfl dX7_count_74 ?_
              exact hret _ _ _ dX7_count_77 rfl hw
            · have hw := hw.2 c_14
              by_cases c_15 : x1 = (6 : Int32)
              · have hw := hw.1 c_15
                refine lv_tableIn (off := 77) (tgt := 78) hx hb dX7_count_1 (by rw [c_15]; decide) (by rw [c_15]; decide) (by rw [c_15]; rfl) (by decide) ?_
                refine lv_aload_n hx hb dX7_count_78 rfl (lv_at hl 0 rfl) ?_
                refine gz (q0 := 0) (v := .int (FM 0)) fx hK hP fl_X7_75 rfl rfl dX7_count_79 ?_
                exact hret _ _ _ dX7_count_82 rfl hw
              · have hw := hw.2 c_15
                by_cases c_16 : x1 = (7 : Int32)
                · have hw := hw.1 c_16
                  refine lv_tableIn (off := 82) (tgt := 83) hx hb dX7_count_1 (by rw [c_16]; decide) (by rw [c_16]; decide) (by rw [c_16]; rfl) (by decide) ?_
                  refine lv_aload_n hx hb dX7_count_83 rfl (lv_at hl 0 rfl) ?_
                  refine gz (q0 := 0) (v := .int (FM 10)) fx hK hP fl_X7_65 rfl rfl dX7_count_84 ?_
                  exact hret _ _ _ dX7_count_87 rfl hw
                · have hw := hw.2 c_16
                  refine lv_tableOut (tgt := 88) hx hb dX7_count_1 (by have := ne_i 0 _ (by decide) c_9; have := ne_i 1 _ (by decide) c_10; have := ne_i 2 _ (by decide) c_11; have := ne_i 3 _ (by decide) c_12; have := ne_i 4 _ (by decide) c_13; have := ne_i 5 _ (by decide) c_14; have := ne_i 6 _ (by decide) c_15; have := ne_i 7 _ (by decide) c_16; omega) (by decide) ?_
                  refine lv_iconst (v := (-1 : Int32)) hx hb dX7_count_88 (by decide) ?_
                  exact hret _ _ _ dX7_count_89 rfl hw
