theorem ff_X5_9 : FF RX5 9 3 0 (.array .int) := ⟨RX5, TX5, 2, rfl, inlX5, by decide, (in_r2 _ (List.mem_of_getElem? (i := 10) rfl)), rfl, rfl, rfl, by decide +kernel, ⟨tyX5, tyX5_ok⟩, nmX5⟩
theorem ff_X1_9 : FF RX1 9 0 6 (.array .int) := ⟨RX1, TX1, 8, rfl, inlX1, by decide, (in_r2 _ (List.mem_of_getElem? (i := 15) rfl)), rfl, rfl, rfl, by decide +kernel, ⟨tyX1, tyX1_ok⟩, nmX1⟩
theorem ff_X1_15 : FF RX1 15 0 7 (.array .int) := ⟨RX1, TX1, 8, rfl, inlX1, by decide, (in_r2 _ (List.mem_of_getElem? (i := 16) rfl)), rfl, rfl, rfl, by decide +kernel, ⟨tyX1, tyX1_ok⟩, nmX1⟩
theorem ff_X4_9 : FF RX4 9 2 2 (.array .int) := ⟨RX4, TX4, 8, rfl, inlX4, by decide, (in_r2 _ (List.mem_of_getElem? (i := 21) rfl)), rfl, rfl, rfl, by decide +kernel, ⟨tyX4, tyX4_ok⟩, nmX4⟩
theorem ff_X4_15 : FF RX4 15 2 3 (.array .int) := ⟨RX4, TX4, 8, rfl, inlX4, by decide, (in_r2 _ (List.mem_of_getElem? (i := 22) rfl)), rfl, rfl, rfl, by decide +kernel, ⟨tyX4, tyX4_ok⟩, nmX4⟩
theorem ff_X4_18 : FF RX4 18 2 4 (.array .int) := ⟨RX4, TX4, 8, rfl, inlX4, by decide, (in_r2 _ (List.mem_of_getElem? (i := 23) rfl)), rfl, rfl, rfl, by decide +kernel, ⟨tyX4, tyX4_ok⟩, nmX4⟩
theorem ff_X4_21 : FF RX4 21 2 5 (.array .int) := ⟨RX4, TX4, 8, rfl, inlX4, by decide, (in_r3 _ (List.mem_of_getElem? (i := 0) rfl)), rfl, rfl, rfl, by decide +kernel, ⟨tyX4, tyX4_ok⟩, nmX4⟩
theorem ff_X4_24 : FF RX4 24 2 6 (.array .int) := ⟨RX4, TX4, 8, rfl, inlX4, by decide, (in_r3 _ (List.mem_of_getElem? (i := 1) rfl)), rfl, rfl, rfl, by decide +kernel, ⟨tyX4, tyX4_ok⟩, nmX4⟩
theorem ff_X4_27 : FF RX4 27 2 7 (.array .int) := ⟨RX4, TX4, 8, rfl, inlX4, by decide, (in_r3 _ (List.mem_of_getElem? (i := 2) rfl)), rfl, rfl, rfl, by decide +kernel, ⟨tyX4, tyX4_ok⟩, nmX4⟩
theorem ff_X2_9 : FF RX2 9 1 0 (.array .int) := ⟨RX2, TX2, 3, rfl, inlX2, by decide, (in_r3 _ (List.mem_of_getElem? (i := 7) rfl)), rfl, rfl, rfl, by decide +kernel, ⟨tyX2, tyX2_ok⟩, nmX2⟩
theorem ff_X2_15 : FF RX2 15 1 1 (.array .int) := ⟨RX2, TX2, 3, rfl, inlX2, by decide, (in_r3 _ (List.mem_of_getElem? (i := 8) rfl)), rfl, rfl, rfl, by decide +kernel, ⟨tyX2, tyX2_ok⟩, nmX2⟩
theorem ff_X7_7 : FF RX7 7 5 1 (.array .int) := ⟨RX7, TX7, 27, rfl, inlX7, by decide, (in_r9 _ (List.mem_of_getElem? (i := 11) rfl)), rfl, rfl, rfl, by decide +kernel, ⟨tyX7, tyX7_ok⟩, nmX7⟩
theorem ff_X7_13 : FF RX7 13 5 7 (.array .int) := ⟨RX7, TX7, 27, rfl, inlX7, by decide, (in_r9 _ (List.mem_of_getElem? (i := 12) rfl)), rfl, rfl, rfl, by decide +kernel, ⟨tyX7, tyX7_ok⟩, nmX7⟩
theorem ff_X7_16 : FF RX7 16 5 8 (.array .int) := ⟨RX7, TX7, 27, rfl, inlX7, by decide, (in_r9 _ (List.mem_of_getElem? (i := 13) rfl)), rfl, rfl, rfl, by decide +kernel, ⟨tyX7, tyX7_ok⟩, nmX7⟩
theorem ff_X7_19 : FF RX7 19 5 9 (.array .int) := ⟨RX7, TX7, 27, rfl, inlX7, by decide, (in_r9 _ (List.mem_of_getElem? (i := 14) rfl)), rfl, rfl, rfl, by decide +kernel, ⟨tyX7, tyX7_ok⟩, nmX7⟩
theorem ff_X7_22 : FF RX7 22 5 15 (.array .int) := ⟨RX7, TX7, 27, rfl, inlX7, by decide, (in_r9 _ (List.mem_of_getElem? (i := 15) rfl)), rfl, rfl, rfl, by decide +kernel, ⟨tyX7, tyX7_ok⟩, nmX7⟩
theorem ff_X7_25 : FF RX7 25 5 16 (.array .int) := ⟨RX7, TX7, 27, rfl, inlX7, by decide, (in_r9 _ (List.mem_of_getElem? (i := 16) rfl)), rfl, rfl, rfl, by decide +kernel, ⟨tyX7, tyX7_ok⟩, nmX7⟩
theorem ff_X7_28 : FF RX7 28 5 18 (.array .int) := ⟨RX7, TX7, 27, rfl, inlX7, by decide, (in_r9 _ (List.mem_of_getElem? (i := 17) rfl)), rfl, rfl, rfl, by decide +kernel, ⟨tyX7, tyX7_ok⟩, nmX7⟩
theorem ff_X7_31 : FF RX7 31 5 19 (.array .int) := ⟨RX7, TX7, 27, rfl, inlX7, by decide, (in_r9 _ (List.mem_of_getElem? (i := 18) rfl)), rfl, rfl, rfl, by decide +kernel, ⟨tyX7, tyX7_ok⟩, nmX7⟩
theorem ff_X7_34 : FF RX7 34 5 20 (.array .int) := ⟨RX7, TX7, 27, rfl, inlX7, by decide, (in_r9 _ (List.mem_of_getElem? (i := 19) rfl)), rfl, rfl, rfl, by decide +kernel, ⟨tyX7, tyX7_ok⟩, nmX7⟩
theorem ff_X7_37 : FF RX7 37 5 21 (.array .int) := ⟨RX7, TX7, 27, rfl, inlX7, by decide, (in_r9 _ (List.mem_of_getElem? (i := 20) rfl)), rfl, rfl, rfl, by decide +kernel, ⟨tyX7, tyX7_ok⟩, nmX7⟩
theorem ff_X7_40 : FF RX7 40 5 22 (.array .int) := ⟨RX7, TX7, 27, rfl, inlX7, by decide, (in_r9 _ (List.mem_of_getElem? (i := 21) rfl)), rfl, rfl, rfl, by decide +kernel, ⟨tyX7, tyX7_ok⟩, nmX7⟩
theorem ff_X7_43 : FF RX7 43 5 24 (.array .int) := ⟨RX7, TX7, 27, rfl, inlX7, by decide, (in_r9 _ (List.mem_of_getElem? (i := 22) rfl)), rfl, rfl, rfl, by decide +kernel, ⟨tyX7, tyX7_ok⟩, nmX7⟩
theorem ff_X7_46 : FF RX7 46 5 25 (.array .int) := ⟨RX7, TX7, 27, rfl, inlX7, by decide, (in_r9 _ (List.mem_of_getElem? (i := 23) rfl)), rfl, rfl, rfl, by decide +kernel, ⟨tyX7, tyX7_ok⟩, nmX7⟩
theorem ff_X6_10 : FF RX6 10 4 0 (.object "HomingNets$Text") := ⟨RX6, TX6, 7, rfl, inlX6, by decide, (in_r1 _ (List.mem_of_getElem? (i := 15) rfl)), rfl, rfl, rfl, by decide +kernel, ⟨tyX6, tyX6_ok⟩, nmX6⟩
theorem ff_X6_19 : FF RX6 19 4 1 (.object "HomingNets$Net") := ⟨RX6, TX6, 7, rfl, inlX6, by decide, (in_r1 _ (List.mem_of_getElem? (i := 19) rfl)), rfl, rfl, rfl, by decide +kernel, ⟨tyX6, tyX6_ok⟩, nmX6⟩
theorem ff_X6_23 : FF RX6 23 4 2 (.object "HomingNets$Net") := ⟨RX6, TX6, 7, rfl, inlX6, by decide, (in_r1 _ (List.mem_of_getElem? (i := 20) rfl)), rfl, rfl, rfl, by decide +kernel, ⟨tyX6, tyX6_ok⟩, nmX6⟩
theorem ff_X6_29 : FF RX6 29 4 3 (.object "HomingNets$Survey") := ⟨RX6, TX6, 7, rfl, inlX6, by decide, (in_r2 _ (List.mem_of_getElem? (i := 0) rfl)), rfl, rfl, rfl, by decide +kernel, ⟨tyX6, tyX6_ok⟩, nmX6⟩
theorem ff_X6_36 : FF RX6 36 4 4 (.object "HomingNets$Past") := ⟨RX6, TX6, 7, rfl, inlX6, by decide, (in_r2 _ (List.mem_of_getElem? (i := 4) rfl)), rfl, rfl, rfl, by decide +kernel, ⟨tyX6, tyX6_ok⟩, nmX6⟩
theorem li_X6_9 : LkI RX6 9 yX5_init cX5_init 1 := ⟨(in_r2 _ (List.mem_of_getElem? (i := 5) rfl)), (in_r2 _ (List.mem_of_getElem? (i := 6) rfl)), (in_r1 _ (List.mem_of_getElem? (i := 14) rfl)), (in_r2 _ (List.mem_of_getElem? (i := 7) rfl)), rfl, by decide +kernel⟩
theorem li_X6_18 : LkI RX6 18 yX1_init cX1_init 1 := ⟨(in_r2 _ (List.mem_of_getElem? (i := 11) rfl)), (in_r2 _ (List.mem_of_getElem? (i := 12) rfl)), (in_r1 _ (List.mem_of_getElem? (i := 18) rfl)), (in_r2 _ (List.mem_of_getElem? (i := 13) rfl)), rfl, by decide +kernel⟩
theorem li_X6_28 : LkI RX6 28 yX4_init cX4_init 1 := ⟨(in_r2 _ (List.mem_of_getElem? (i := 17) rfl)), (in_r2 _ (List.mem_of_getElem? (i := 18) rfl)), (in_r1 _ (List.mem_of_getElem? (i := 23) rfl)), (in_r2 _ (List.mem_of_getElem? (i := 19) rfl)), rfl, by decide +kernel⟩
theorem li_X6_35 : LkI RX6 35 yX2_init cX2_init 1 := ⟨(in_r3 _ (List.mem_of_getElem? (i := 3) rfl)), (in_r3 _ (List.mem_of_getElem? (i := 4) rfl)), (in_r2 _ (List.mem_of_getElem? (i := 3) rfl)), (in_r3 _ (List.mem_of_getElem? (i := 5) rfl)), rfl, by decide +kernel⟩
theorem li_L_9 : LkI RL 9 yX6_init cX6_init 2 := ⟨(in_r1 _ (List.mem_of_getElem? (i := 6) rfl)), (in_r1 _ (List.mem_of_getElem? (i := 7) rfl)), (in_r1 _ (List.mem_of_getElem? (i := 2) rfl)), (in_r1 _ (List.mem_of_getElem? (i := 8) rfl)), rfl, by decide +kernel⟩
theorem li_L_12 : LkI RL 12 yX7_init cX7_init 1 := ⟨(in_r9 _ (List.mem_of_getElem? (i := 7) rfl)), (in_r9 _ (List.mem_of_getElem? (i := 8) rfl)), (in_r1 _ (List.mem_of_getElem? (i := 5) rfl)), (in_r9 _ (List.mem_of_getElem? (i := 9) rfl)), rfl, by decide +kernel⟩
theorem no_X6_7 : NO RX6 7 RX5 TX5 2 tyX5 := ⟨inlX5, tyX5_ok, (in_r1 _ (List.mem_of_getElem? (i := 12) rfl)), (in_r1 _ (List.mem_of_getElem? (i := 13) rfl)), (in_r1 _ (List.mem_of_getElem? (i := 14) rfl))⟩
theorem no_X6_16 : NO RX6 16 RX1 TX1 8 tyX1 := ⟨inlX1, tyX1_ok, (in_r1 _ (List.mem_of_getElem? (i := 16) rfl)), (in_r1 _ (List.mem_of_getElem? (i := 17) rfl)), (in_r1 _ (List.mem_of_getElem? (i := 18) rfl))⟩
theorem no_X6_26 : NO RX6 26 RX4 TX4 8 tyX4 := ⟨inlX4, tyX4_ok, (in_r1 _ (List.mem_of_getElem? (i := 21) rfl)), (in_r1 _ (List.mem_of_getElem? (i := 22) rfl)), (in_r1 _ (List.mem_of_getElem? (i := 23) rfl))⟩
theorem no_X6_33 : NO RX6 33 RX2 TX2 3 tyX2 := ⟨inlX2, tyX2_ok, (in_r2 _ (List.mem_of_getElem? (i := 1) rfl)), (in_r2 _ (List.mem_of_getElem? (i := 2) rfl)), (in_r2 _ (List.mem_of_getElem? (i := 3) rfl))⟩
theorem no_L_7 : NO RL 7 RX6 TX6 7 tyX6 := ⟨inlX6, tyX6_ok, (in_r1 _ (List.mem_of_getElem? (i := 0) rfl)), (in_r1 _ (List.mem_of_getElem? (i := 1) rfl)), (in_r1 _ (List.mem_of_getElem? (i := 2) rfl))⟩
theorem no_L_10 : NO RL 10 RX7 TX7 27 tyX7 := ⟨inlX7, tyX7_ok, (in_r1 _ (List.mem_of_getElem? (i := 3) rfl)), (in_r1 _ (List.mem_of_getElem? (i := 4) rfl)), (in_r1 _ (List.mem_of_getElem? (i := 5) rfl))⟩
set_option maxHeartbeats 4000000 in
set_option maxRecDepth 100000 in
theorem c_X5_init (l : Launch) (dC : Nat → ClassId) (dI : Nat → Nat → Nat) (cA : ClassId) (o : Nat) : InV (dC, dI) cA l yX5_init cX5_init 1 1 12 1 200 (fun _ _ => True) [.ref o] [(o, .inr (3, [.null, .int 0]))] (fun _ : Nat → Nat => True) (fun g => tW o g cA (fun _ => (0 : Int32)) (fun _ _ => (0 : Int32))) := by
  refine enIn (by decide) rfl (Nat.le_of_ble_eq_true rfl) ?_
  intro p e s m args below meth c Q ls A fx hin hK hP hD hS hA _ hret hl
  obtain ⟨hx, hb, hml, hown, hts⟩ := id fx
  have hl : lv_has ls 1 [(0, .ref o)] := hl
  have hP : va_P (dC, dI) vwCl [(o, .inr (3, [.null, .int 0]))] s.heap := hP
  have hD : va_D A [(o, .inr (3, [.null, .int 0]))] := hD
  refine lv_aload_n hx hb dX5_init_0 rfl (lv_at hl 0 rfl) ?_
  refine kOb fx (in_r2 _ (List.mem_of_getElem? (i := 8) rfl)) hl.1 ⟨Nat.le_of_ble_eq_true rfl, Nat.le_of_ble_eq_true rfl⟩ dX5_init_1 ?_
  refine lv_aload_n hx hb dX5_init_4 rfl (lv_at hl 0 rfl) ?_
  refine lv_sipush (v := (200 : Int32)) hx hb dX5_init_5 (by decide) ?_
  refine knA (N' := 200) fx hK hP hD hS hA (by decide) (by decide) (Nat.le_of_ble_eq_true rfl) ⟨Nat.le_of_ble_eq_true rfl, Nat.le_of_ble_eq_true rfl⟩ dX5_init_8 (fun q0 H hP hD hS => ?_)
  have hP : va_P (dC, dI) vwCl [(o, .inr (3, [.null, .int 0])), (q0, .inl (cA, 200, .inl (fun _ => (0 : Int32))))] H := hP
  have hD : va_D A [(o, .inr (3, [.null, .int 0])), (q0, .inl (cA, 200, .inl (fun _ => (0 : Int32))))] := hD
  refine kpF (q0 := 0) (v := .ref q0) fx hin hK hP hD hS ff_X5_9 rfl rfl rfl (Nat.le_of_ble_eq_true rfl) dX5_init_10 (fun H locs hP hD hS => ?_)
  have hP : va_P (dC, dI) vwCl [(o, .inr (3, [.ref q0, .int 0])), (q0, .inl (cA, 200, .inl (fun _ => (0 : Int32))))] H := hP
  have hD : va_D A [(o, .inr (3, [.ref q0, .int 0])), (q0, .inl (cA, 200, .inl (fun _ => (0 : Int32))))] := hD
  exact hret (fun _ => q0) _ _ _ _ dX5_init_13 trivial hP hD hS
set_option maxHeartbeats 4000000 in
set_option maxRecDepth 100000 in
theorem c_X1_init (l : Launch) (dC : Nat → ClassId) (dI : Nat → Nat → Nat) (cA : ClassId) (o : Nat) : InV (dC, dI) cA l yX1_init cX1_init 1 1 12 2 12 (fun _ _ => True) [.ref o] [(o, .inr (0, [.int 0, .int 0, .int 0, .int 0, .int 0, .int 0, .null, .null]))] (fun _ : Nat → Nat => True) (fun g => nW o g cA (fun _ => (0 : Int32)) (fun _ _ => (0 : Int32))) := by
  refine enIn (by decide) rfl (Nat.le_of_ble_eq_true rfl) ?_
  intro p e s m args below meth c Q ls A fx hin hK hP hD hS hA _ hret hl
  obtain ⟨hx, hb, hml, hown, hts⟩ := id fx
  have hl : lv_has ls 1 [(0, .ref o)] := hl
  have hP : va_P (dC, dI) vwCl [(o, .inr (0, [.int 0, .int 0, .int 0, .int 0, .int 0, .int 0, .null, .null]))] s.heap := hP
  have hD : va_D A [(o, .inr (0, [.int 0, .int 0, .int 0, .int 0, .int 0, .int 0, .null, .null]))] := hD
  refine lv_aload_n hx hb dX1_init_0 rfl (lv_at hl 0 rfl) ?_
  refine kOb fx (in_r2 _ (List.mem_of_getElem? (i := 14) rfl)) hl.1 ⟨Nat.le_of_ble_eq_true rfl, Nat.le_of_ble_eq_true rfl⟩ dX1_init_1 ?_
  refine lv_aload_n hx hb dX1_init_4 rfl (lv_at hl 0 rfl) ?_
  refine lv_bipush (v := (6 : Int32)) hx hb dX1_init_5 (by decide) ?_
  refine knA (N' := 6) fx hK hP hD hS hA (by decide) (by decide) (Nat.le_of_ble_eq_true rfl) ⟨Nat.le_of_ble_eq_true rfl, Nat.le_of_ble_eq_true rfl⟩ dX1_init_7 (fun q6 H hP hD hS => ?_)
  have hP : va_P (dC, dI) vwCl [(o, .inr (0, [.int 0, .int 0, .int 0, .int 0, .int 0, .int 0, .null, .null])), (q6, .inl (cA, 6, .inl (fun _ => (0 : Int32))))] H := hP
  have hD : va_D A [(o, .inr (0, [.int 0, .int 0, .int 0, .int 0, .int 0, .int 0, .null, .null])), (q6, .inl (cA, 6, .inl (fun _ => (0 : Int32))))] := hD
  refine kpF (q0 := 0) (v := .ref q6) fx hin hK hP hD hS ff_X1_9 rfl rfl rfl (Nat.le_of_ble_eq_true rfl) dX1_init_9 (fun H locs hP hD hS => ?_)
  have hP : va_P (dC, dI) vwCl [(o, .inr (0, [.int 0, .int 0, .int 0, .int 0, .int 0, .int 0, .ref q6, .null])), (q6, .inl (cA, 6, .inl (fun _ => (0 : Int32))))] H := hP
  have hD : va_D A [(o, .inr (0, [.int 0, .int 0, .int 0, .int 0, .int 0, .int 0, .ref q6, .null])), (q6, .inl (cA, 6, .inl (fun _ => (0 : Int32))))] := hD
  refine lv_aload_n hx hb dX1_init_12 rfl (lv_at hl 0 rfl) ?_
  refine lv_bipush (v := (6 : Int32)) hx hb dX1_init_13 (by decide) ?_
  refine knA (N' := 6) fx hK hP hD hS hA (by decide) (by decide) (Nat.le_of_ble_eq_true rfl) ⟨Nat.le_of_ble_eq_true rfl, Nat.le_of_ble_eq_true rfl⟩ dX1_init_15 (fun q7 H hP hD hS => ?_)
  have hP : va_P (dC, dI) vwCl [(o, .inr (0, [.int 0, .int 0, .int 0, .int 0, .int 0, .int 0, .ref q6, .null])), (q6, .inl (cA, 6, .inl (fun _ => (0 : Int32)))), (q7, .inl (cA, 6, .inl (fun _ => (0 : Int32))))] H := hP
  have hD : va_D A [(o, .inr (0, [.int 0, .int 0, .int 0, .int 0, .int 0, .int 0, .ref q6, .null])), (q6, .inl (cA, 6, .inl (fun _ => (0 : Int32)))), (q7, .inl (cA, 6, .inl (fun _ => (0 : Int32))))] := hD
  refine kpF (q0 := 0) (v := .ref q7) fx hin hK hP hD hS ff_X1_15 rfl rfl rfl (Nat.le_of_ble_eq_true rfl) dX1_init_17 (fun H locs hP hD hS => ?_)
  have hP : va_P (dC, dI) vwCl [(o, .inr (0, [.int 0, .int 0, .int 0, .int 0, .int 0, .int 0, .ref q6, .ref q7])), (q6, .inl (cA, 6, .inl (fun _ => (0 : Int32)))), (q7, .inl (cA, 6, .inl (fun _ => (0 : Int32))))] H := hP
  have hD : va_D A [(o, .inr (0, [.int 0, .int 0, .int 0, .int 0, .int 0, .int 0, .ref q6, .ref q7])), (q6, .inl (cA, 6, .inl (fun _ => (0 : Int32)))), (q7, .inl (cA, 6, .inl (fun _ => (0 : Int32))))] := hD
  exact hret (fun k => match k with | 6 => q6 | _ => q7) _ _ _ _ dX1_init_20 trivial hP hD hS
set_option maxHeartbeats 4000000 in
set_option maxRecDepth 100000 in
theorem c_X4_init (l : Launch) (dC : Nat → ClassId) (dI : Nat → Nat → Nat) (cA : ClassId) (o : Nat) : InV (dC, dI) cA l yX4_init cX4_init 1 1 12 6 24576 (fun _ _ => True) [.ref o] [(o, .inr (2, [.int 0, .int 0, .null, .null, .null, .null, .null, .null]))] (fun _ : Nat → Nat => True) (fun g => sW o g cA (fun _ => (0 : Int32)) (fun _ _ => (0 : Int32))) := by
  refine enIn (by decide) rfl (Nat.le_of_ble_eq_true rfl) ?_
  intro p e s m args below meth c Q ls A fx hin hK hP hD hS hA _ hret hl
  obtain ⟨hx, hb, hml, hown, hts⟩ := id fx
  have hl : lv_has ls 1 [(0, .ref o)] := hl
  have hP : va_P (dC, dI) vwCl [(o, .inr (2, [.int 0, .int 0, .null, .null, .null, .null, .null, .null]))] s.heap := hP
  have hD : va_D A [(o, .inr (2, [.int 0, .int 0, .null, .null, .null, .null, .null, .null]))] := hD
  refine lv_aload_n hx hb dX4_init_0 rfl (lv_at hl 0 rfl) ?_
  refine kOb fx (in_r2 _ (List.mem_of_getElem? (i := 20) rfl)) hl.1 ⟨Nat.le_of_ble_eq_true rfl, Nat.le_of_ble_eq_true rfl⟩ dX4_init_1 ?_
  refine lv_aload_n hx hb dX4_init_4 rfl (lv_at hl 0 rfl) ?_
  refine lv_sipush (v := (4096 : Int32)) hx hb dX4_init_5 (by decide) ?_
  refine knA (N' := 4096) fx hK hP hD hS hA (by decide) (by decide) (Nat.le_of_ble_eq_true rfl) ⟨Nat.le_of_ble_eq_true rfl, Nat.le_of_ble_eq_true rfl⟩ dX4_init_8 (fun q2 H hP hD hS => ?_)
  have hP : va_P (dC, dI) vwCl [(o, .inr (2, [.int 0, .int 0, .null, .null, .null, .null, .null, .null])), (q2, .inl (cA, 4096, .inl (fun _ => (0 : Int32))))] H := hP
  have hD : va_D A [(o, .inr (2, [.int 0, .int 0, .null, .null, .null, .null, .null, .null])), (q2, .inl (cA, 4096, .inl (fun _ => (0 : Int32))))] := hD
  refine kpF (q0 := 0) (v := .ref q2) fx hin hK hP hD hS ff_X4_9 rfl rfl rfl (Nat.le_of_ble_eq_true rfl) dX4_init_10 (fun H locs hP hD hS => ?_)
  have hP : va_P (dC, dI) vwCl [(o, .inr (2, [.int 0, .int 0, .ref q2, .null, .null, .null, .null, .null])), (q2, .inl (cA, 4096, .inl (fun _ => (0 : Int32))))] H := hP
  have hD : va_D A [(o, .inr (2, [.int 0, .int 0, .ref q2, .null, .null, .null, .null, .null])), (q2, .inl (cA, 4096, .inl (fun _ => (0 : Int32))))] := hD
  refine lv_aload_n hx hb dX4_init_13 rfl (lv_at hl 0 rfl) ?_
  refine lv_sipush (v := (4096 : Int32)) hx hb dX4_init_14 (by decide) ?_
  refine knA (N' := 4096) fx hK hP hD hS hA (by decide) (by decide) (Nat.le_of_ble_eq_true rfl) ⟨Nat.le_of_ble_eq_true rfl, Nat.le_of_ble_eq_true rfl⟩ dX4_init_17 (fun q3 H hP hD hS => ?_)
  have hP : va_P (dC, dI) vwCl [(o, .inr (2, [.int 0, .int 0, .ref q2, .null, .null, .null, .null, .null])), (q2, .inl (cA, 4096, .inl (fun _ => (0 : Int32)))), (q3, .inl (cA, 4096, .inl (fun _ => (0 : Int32))))] H := hP
  have hD : va_D A [(o, .inr (2, [.int 0, .int 0, .ref q2, .null, .null, .null, .null, .null])), (q2, .inl (cA, 4096, .inl (fun _ => (0 : Int32)))), (q3, .inl (cA, 4096, .inl (fun _ => (0 : Int32))))] := hD
  refine kpF (q0 := 0) (v := .ref q3) fx hin hK hP hD hS ff_X4_15 rfl rfl rfl (Nat.le_of_ble_eq_true rfl) dX4_init_19 (fun H locs hP hD hS => ?_)
  have hP : va_P (dC, dI) vwCl [(o, .inr (2, [.int 0, .int 0, .ref q2, .ref q3, .null, .null, .null, .null])), (q2, .inl (cA, 4096, .inl (fun _ => (0 : Int32)))), (q3, .inl (cA, 4096, .inl (fun _ => (0 : Int32))))] H := hP
  have hD : va_D A [(o, .inr (2, [.int 0, .int 0, .ref q2, .ref q3, .null, .null, .null, .null])), (q2, .inl (cA, 4096, .inl (fun _ => (0 : Int32)))), (q3, .inl (cA, 4096, .inl (fun _ => (0 : Int32))))] := hD
  refine lv_aload_n hx hb dX4_init_22 rfl (lv_at hl 0 rfl) ?_
  refine lv_sipush (v := (4096 : Int32)) hx hb dX4_init_23 (by decide) ?_
  refine knA (N' := 4096) fx hK hP hD hS hA (by decide) (by decide) (Nat.le_of_ble_eq_true rfl) ⟨Nat.le_of_ble_eq_true rfl, Nat.le_of_ble_eq_true rfl⟩ dX4_init_26 (fun q4 H hP hD hS => ?_)
  have hP : va_P (dC, dI) vwCl [(o, .inr (2, [.int 0, .int 0, .ref q2, .ref q3, .null, .null, .null, .null])), (q2, .inl (cA, 4096, .inl (fun _ => (0 : Int32)))), (q3, .inl (cA, 4096, .inl (fun _ => (0 : Int32)))), (q4, .inl (cA, 4096, .inl (fun _ => (0 : Int32))))] H := hP
  have hD : va_D A [(o, .inr (2, [.int 0, .int 0, .ref q2, .ref q3, .null, .null, .null, .null])), (q2, .inl (cA, 4096, .inl (fun _ => (0 : Int32)))), (q3, .inl (cA, 4096, .inl (fun _ => (0 : Int32)))), (q4, .inl (cA, 4096, .inl (fun _ => (0 : Int32))))] := hD
  refine kpF (q0 := 0) (v := .ref q4) fx hin hK hP hD hS ff_X4_18 rfl rfl rfl (Nat.le_of_ble_eq_true rfl) dX4_init_28 (fun H locs hP hD hS => ?_)
  have hP : va_P (dC, dI) vwCl [(o, .inr (2, [.int 0, .int 0, .ref q2, .ref q3, .ref q4, .null, .null, .null])), (q2, .inl (cA, 4096, .inl (fun _ => (0 : Int32)))), (q3, .inl (cA, 4096, .inl (fun _ => (0 : Int32)))), (q4, .inl (cA, 4096, .inl (fun _ => (0 : Int32))))] H := hP
  have hD : va_D A [(o, .inr (2, [.int 0, .int 0, .ref q2, .ref q3, .ref q4, .null, .null, .null])), (q2, .inl (cA, 4096, .inl (fun _ => (0 : Int32)))), (q3, .inl (cA, 4096, .inl (fun _ => (0 : Int32)))), (q4, .inl (cA, 4096, .inl (fun _ => (0 : Int32))))] := hD
  refine lv_aload_n hx hb dX4_init_31 rfl (lv_at hl 0 rfl) ?_
  refine lv_sipush (v := (4096 : Int32)) hx hb dX4_init_32 (by decide) ?_
  refine knA (N' := 4096) fx hK hP hD hS hA (by decide) (by decide) (Nat.le_of_ble_eq_true rfl) ⟨Nat.le_of_ble_eq_true rfl, Nat.le_of_ble_eq_true rfl⟩ dX4_init_35 (fun q5 H hP hD hS => ?_)
  have hP : va_P (dC, dI) vwCl [(o, .inr (2, [.int 0, .int 0, .ref q2, .ref q3, .ref q4, .null, .null, .null])), (q2, .inl (cA, 4096, .inl (fun _ => (0 : Int32)))), (q3, .inl (cA, 4096, .inl (fun _ => (0 : Int32)))), (q4, .inl (cA, 4096, .inl (fun _ => (0 : Int32)))), (q5, .inl (cA, 4096, .inl (fun _ => (0 : Int32))))] H := hP
  have hD : va_D A [(o, .inr (2, [.int 0, .int 0, .ref q2, .ref q3, .ref q4, .null, .null, .null])), (q2, .inl (cA, 4096, .inl (fun _ => (0 : Int32)))), (q3, .inl (cA, 4096, .inl (fun _ => (0 : Int32)))), (q4, .inl (cA, 4096, .inl (fun _ => (0 : Int32)))), (q5, .inl (cA, 4096, .inl (fun _ => (0 : Int32))))] := hD
  refine kpF (q0 := 0) (v := .ref q5) fx hin hK hP hD hS ff_X4_21 rfl rfl rfl (Nat.le_of_ble_eq_true rfl) dX4_init_37 (fun H locs hP hD hS => ?_)
  have hP : va_P (dC, dI) vwCl [(o, .inr (2, [.int 0, .int 0, .ref q2, .ref q3, .ref q4, .ref q5, .null, .null])), (q2, .inl (cA, 4096, .inl (fun _ => (0 : Int32)))), (q3, .inl (cA, 4096, .inl (fun _ => (0 : Int32)))), (q4, .inl (cA, 4096, .inl (fun _ => (0 : Int32)))), (q5, .inl (cA, 4096, .inl (fun _ => (0 : Int32))))] H := hP
  have hD : va_D A [(o, .inr (2, [.int 0, .int 0, .ref q2, .ref q3, .ref q4, .ref q5, .null, .null])), (q2, .inl (cA, 4096, .inl (fun _ => (0 : Int32)))), (q3, .inl (cA, 4096, .inl (fun _ => (0 : Int32)))), (q4, .inl (cA, 4096, .inl (fun _ => (0 : Int32)))), (q5, .inl (cA, 4096, .inl (fun _ => (0 : Int32))))] := hD
  refine lv_aload_n hx hb dX4_init_40 rfl (lv_at hl 0 rfl) ?_
  refine lv_sipush (v := (4096 : Int32)) hx hb dX4_init_41 (by decide) ?_
  refine knA (N' := 4096) fx hK hP hD hS hA (by decide) (by decide) (Nat.le_of_ble_eq_true rfl) ⟨Nat.le_of_ble_eq_true rfl, Nat.le_of_ble_eq_true rfl⟩ dX4_init_44 (fun q6 H hP hD hS => ?_)
  have hP : va_P (dC, dI) vwCl [(o, .inr (2, [.int 0, .int 0, .ref q2, .ref q3, .ref q4, .ref q5, .null, .null])), (q2, .inl (cA, 4096, .inl (fun _ => (0 : Int32)))), (q3, .inl (cA, 4096, .inl (fun _ => (0 : Int32)))), (q4, .inl (cA, 4096, .inl (fun _ => (0 : Int32)))), (q5, .inl (cA, 4096, .inl (fun _ => (0 : Int32)))), (q6, .inl (cA, 4096, .inl (fun _ => (0 : Int32))))] H := hP
  have hD : va_D A [(o, .inr (2, [.int 0, .int 0, .ref q2, .ref q3, .ref q4, .ref q5, .null, .null])), (q2, .inl (cA, 4096, .inl (fun _ => (0 : Int32)))), (q3, .inl (cA, 4096, .inl (fun _ => (0 : Int32)))), (q4, .inl (cA, 4096, .inl (fun _ => (0 : Int32)))), (q5, .inl (cA, 4096, .inl (fun _ => (0 : Int32)))), (q6, .inl (cA, 4096, .inl (fun _ => (0 : Int32))))] := hD
  refine kpF (q0 := 0) (v := .ref q6) fx hin hK hP hD hS ff_X4_24 rfl rfl rfl (Nat.le_of_ble_eq_true rfl) dX4_init_46 (fun H locs hP hD hS => ?_)
  have hP : va_P (dC, dI) vwCl [(o, .inr (2, [.int 0, .int 0, .ref q2, .ref q3, .ref q4, .ref q5, .ref q6, .null])), (q2, .inl (cA, 4096, .inl (fun _ => (0 : Int32)))), (q3, .inl (cA, 4096, .inl (fun _ => (0 : Int32)))), (q4, .inl (cA, 4096, .inl (fun _ => (0 : Int32)))), (q5, .inl (cA, 4096, .inl (fun _ => (0 : Int32)))), (q6, .inl (cA, 4096, .inl (fun _ => (0 : Int32))))] H := hP
  have hD : va_D A [(o, .inr (2, [.int 0, .int 0, .ref q2, .ref q3, .ref q4, .ref q5, .ref q6, .null])), (q2, .inl (cA, 4096, .inl (fun _ => (0 : Int32)))), (q3, .inl (cA, 4096, .inl (fun _ => (0 : Int32)))), (q4, .inl (cA, 4096, .inl (fun _ => (0 : Int32)))), (q5, .inl (cA, 4096, .inl (fun _ => (0 : Int32)))), (q6, .inl (cA, 4096, .inl (fun _ => (0 : Int32))))] := hD
  refine lv_aload_n hx hb dX4_init_49 rfl (lv_at hl 0 rfl) ?_
  refine lv_sipush (v := (4096 : Int32)) hx hb dX4_init_50 (by decide) ?_
  refine knA (N' := 4096) fx hK hP hD hS hA (by decide) (by decide) (Nat.le_of_ble_eq_true rfl) ⟨Nat.le_of_ble_eq_true rfl, Nat.le_of_ble_eq_true rfl⟩ dX4_init_53 (fun q7 H hP hD hS => ?_)
  have hP : va_P (dC, dI) vwCl [(o, .inr (2, [.int 0, .int 0, .ref q2, .ref q3, .ref q4, .ref q5, .ref q6, .null])), (q2, .inl (cA, 4096, .inl (fun _ => (0 : Int32)))), (q3, .inl (cA, 4096, .inl (fun _ => (0 : Int32)))), (q4, .inl (cA, 4096, .inl (fun _ => (0 : Int32)))), (q5, .inl (cA, 4096, .inl (fun _ => (0 : Int32)))), (q6, .inl (cA, 4096, .inl (fun _ => (0 : Int32)))), (q7, .inl (cA, 4096, .inl (fun _ => (0 : Int32))))] H := hP
  have hD : va_D A [(o, .inr (2, [.int 0, .int 0, .ref q2, .ref q3, .ref q4, .ref q5, .ref q6, .null])), (q2, .inl (cA, 4096, .inl (fun _ => (0 : Int32)))), (q3, .inl (cA, 4096, .inl (fun _ => (0 : Int32)))), (q4, .inl (cA, 4096, .inl (fun _ => (0 : Int32)))), (q5, .inl (cA, 4096, .inl (fun _ => (0 : Int32)))), (q6, .inl (cA, 4096, .inl (fun _ => (0 : Int32)))), (q7, .inl (cA, 4096, .inl (fun _ => (0 : Int32))))] := hD
  refine kpF (q0 := 0) (v := .ref q7) fx hin hK hP hD hS ff_X4_27 rfl rfl rfl (Nat.le_of_ble_eq_true rfl) dX4_init_55 (fun H locs hP hD hS => ?_)
  have hP : va_P (dC, dI) vwCl [(o, .inr (2, [.int 0, .int 0, .ref q2, .ref q3, .ref q4, .ref q5, .ref q6, .ref q7])), (q2, .inl (cA, 4096, .inl (fun _ => (0 : Int32)))), (q3, .inl (cA, 4096, .inl (fun _ => (0 : Int32)))), (q4, .inl (cA, 4096, .inl (fun _ => (0 : Int32)))), (q5, .inl (cA, 4096, .inl (fun _ => (0 : Int32)))), (q6, .inl (cA, 4096, .inl (fun _ => (0 : Int32)))), (q7, .inl (cA, 4096, .inl (fun _ => (0 : Int32))))] H := hP
  have hD : va_D A [(o, .inr (2, [.int 0, .int 0, .ref q2, .ref q3, .ref q4, .ref q5, .ref q6, .ref q7])), (q2, .inl (cA, 4096, .inl (fun _ => (0 : Int32)))), (q3, .inl (cA, 4096, .inl (fun _ => (0 : Int32)))), (q4, .inl (cA, 4096, .inl (fun _ => (0 : Int32)))), (q5, .inl (cA, 4096, .inl (fun _ => (0 : Int32)))), (q6, .inl (cA, 4096, .inl (fun _ => (0 : Int32)))), (q7, .inl (cA, 4096, .inl (fun _ => (0 : Int32))))] := hD
  exact hret (fun k => match k with | 2 => q2 | 3 => q3 | 4 => q4 | 5 => q5 | 6 => q6 | _ => q7) _ _ _ _ dX4_init_58 trivial hP hD hS
set_option maxHeartbeats 4000000 in
set_option maxRecDepth 100000 in
theorem c_X2_init (l : Launch) (dC : Nat → ClassId) (dI : Nat → Nat → Nat) (cA : ClassId) (o : Nat) : InV (dC, dI) cA l yX2_init cX2_init 1 1 12 2 12 (fun _ _ => True) [.ref o] [(o, .inr (1, [.null, .null, .int 0]))] (fun _ : Nat → Nat => True) (fun g => pW o g cA (fun _ => (0 : Int32)) (fun _ _ => (0 : Int32))) := by
  refine enIn (by decide) rfl (Nat.le_of_ble_eq_true rfl) ?_
  intro p e s m args below meth c Q ls A fx hin hK hP hD hS hA _ hret hl
  obtain ⟨hx, hb, hml, hown, hts⟩ := id fx
  have hl : lv_has ls 1 [(0, .ref o)] := hl
  have hP : va_P (dC, dI) vwCl [(o, .inr (1, [.null, .null, .int 0]))] s.heap := hP
  have hD : va_D A [(o, .inr (1, [.null, .null, .int 0]))] := hD
  refine lv_aload_n hx hb dX2_init_0 rfl (lv_at hl 0 rfl) ?_
  refine kOb fx (in_r3 _ (List.mem_of_getElem? (i := 6) rfl)) hl.1 ⟨Nat.le_of_ble_eq_true rfl, Nat.le_of_ble_eq_true rfl⟩ dX2_init_1 ?_
  refine lv_aload_n hx hb dX2_init_4 rfl (lv_at hl 0 rfl) ?_
  refine lv_bipush (v := (6 : Int32)) hx hb dX2_init_5 (by decide) ?_
  refine knA (N' := 6) fx hK hP hD hS hA (by decide) (by decide) (Nat.le_of_ble_eq_true rfl) ⟨Nat.le_of_ble_eq_true rfl, Nat.le_of_ble_eq_true rfl⟩ dX2_init_7 (fun q0 H hP hD hS => ?_)
  have hP : va_P (dC, dI) vwCl [(o, .inr (1, [.null, .null, .int 0])), (q0, .inl (cA, 6, .inl (fun _ => (0 : Int32))))] H := hP
  have hD : va_D A [(o, .inr (1, [.null, .null, .int 0])), (q0, .inl (cA, 6, .inl (fun _ => (0 : Int32))))] := hD
  refine kpF (q0 := 0) (v := .ref q0) fx hin hK hP hD hS ff_X2_9 rfl rfl rfl (Nat.le_of_ble_eq_true rfl) dX2_init_9 (fun H locs hP hD hS => ?_)
  have hP : va_P (dC, dI) vwCl [(o, .inr (1, [.ref q0, .null, .int 0])), (q0, .inl (cA, 6, .inl (fun _ => (0 : Int32))))] H := hP
  have hD : va_D A [(o, .inr (1, [.ref q0, .null, .int 0])), (q0, .inl (cA, 6, .inl (fun _ => (0 : Int32))))] := hD
  refine lv_aload_n hx hb dX2_init_12 rfl (lv_at hl 0 rfl) ?_
  refine lv_bipush (v := (6 : Int32)) hx hb dX2_init_13 (by decide) ?_
  refine knA (N' := 6) fx hK hP hD hS hA (by decide) (by decide) (Nat.le_of_ble_eq_true rfl) ⟨Nat.le_of_ble_eq_true rfl, Nat.le_of_ble_eq_true rfl⟩ dX2_init_15 (fun q1 H hP hD hS => ?_)
  have hP : va_P (dC, dI) vwCl [(o, .inr (1, [.ref q0, .null, .int 0])), (q0, .inl (cA, 6, .inl (fun _ => (0 : Int32)))), (q1, .inl (cA, 6, .inl (fun _ => (0 : Int32))))] H := hP
  have hD : va_D A [(o, .inr (1, [.ref q0, .null, .int 0])), (q0, .inl (cA, 6, .inl (fun _ => (0 : Int32)))), (q1, .inl (cA, 6, .inl (fun _ => (0 : Int32))))] := hD
  refine kpF (q0 := 0) (v := .ref q1) fx hin hK hP hD hS ff_X2_15 rfl rfl rfl (Nat.le_of_ble_eq_true rfl) dX2_init_17 (fun H locs hP hD hS => ?_)
  have hP : va_P (dC, dI) vwCl [(o, .inr (1, [.ref q0, .ref q1, .int 0])), (q0, .inl (cA, 6, .inl (fun _ => (0 : Int32)))), (q1, .inl (cA, 6, .inl (fun _ => (0 : Int32))))] H := hP
  have hD : va_D A [(o, .inr (1, [.ref q0, .ref q1, .int 0])), (q0, .inl (cA, 6, .inl (fun _ => (0 : Int32)))), (q1, .inl (cA, 6, .inl (fun _ => (0 : Int32))))] := hD
  exact hret (fun k => match k with | 0 => q0 | _ => q1) _ _ _ _ dX2_init_20 trivial hP hD hS
