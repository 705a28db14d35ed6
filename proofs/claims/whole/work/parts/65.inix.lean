abbrev adX : Type := Nat × (Nat → Nat) × Nat × (Nat → Nat) × Nat × (Nat → Nat) × Nat × (Nat → Nat) × Nat × (Nat → Nat)
abbrev stX : Type := (Nat → Int32) × (Nat → Int32) × (Nat → Nat → Int32) × (Nat → Int32) × (Nat → Nat → Int32) × (Nat → Int32) × (Nat → Nat → Int32) × (Nat → Int32) × (Nat → Nat → Int32) × (Nat → Int32) × (Nat → Nat → Int32)
def wXu (cA : ClassId) (o : Nat) : adX × stX → va_W := fun u => match u with
  | ((oT, gT, oD, gD, oN, gN, oS, gS, oP, gP), (FX, FT, AT, FD, AD, FN, AN, FS, AS, FP, AP)) => ((xW o oT oN oD oS oP FX) ++ ((tW oT gT cA FT AT) ++ ((nW oD gD cA FD AD) ++ ((nW oN gN cA FN AN) ++ ((sW oS gS cA FS AS) ++ (pW oP gP cA FP AP))))))
def pXu : adX × stX → Prop := fun u => match u with
  | (_, (FX, FT, _, _, _, FN, AN, FS, _, FP, _)) => Xi FX FN AN FS FP ∧ FT 1 = nI 0
def xSt (q v : Nat) (A : Nat → Prop) (U : State) : Prop := vk_R RX6 40 "g145;x03;x11;x24;x32;" q U ∧ skP q v A U U.heap
set_option maxHeartbeats 8000000 in
set_option maxRecDepth 100000 in
theorem c_X6_init (l : Launch) (dC : Nat → ClassId) (dI : Nat → Nat → Nat) (cA : ClassId) (o q v : Nat) : InV (dC, dI) cA l yX6_init cX6_init 2 5 115 18 24841 (xSt q v) [.ref o] [(o, .inr (4, [.null, .null, .null, .null, .null, .int 0, .int 0]))] pXu (wXu cA o) := by
  refine enIn (by decide) rfl (Nat.le_of_ble_eq_true rfl) ?_
  intro p e s m args below meth c Q ls A fx hin hK hP hD hS hA hXs hret hl
  obtain ⟨hx, hb, hml, hown, hts⟩ := id fx
  obtain ⟨hR, hsk⟩ := hXs
  have hl : lv_has ls 2 [(0, .ref o)] := hl
  have hP : va_P (dC, dI) vwCl ([(o, .inr (4, [.null, .null, .null, .null, .null, .int 0, .int 0]))]) s.heap := hP
  have hD : va_D A ([(o, .inr (4, [.null, .null, .null, .null, .null, .int 0, .int 0]))]) := hD
  refine lv_aload_n hx hb dX6_init_0 rfl (lv_at hl 0 rfl) ?_
  refine kOb fx (in_r1 _ (List.mem_of_getElem? (i := 9) rfl)) hl.1 ⟨Nat.le_of_ble_eq_true rfl, Nat.le_of_ble_eq_true rfl⟩ dX6_init_1 ?_
  refine lv_aload_n hx hb dX6_init_4 rfl (lv_at hl 0 rfl) ?_
  refine knO (ci := 3) (fs := [.null, .int 0]) fx hK hP hD hS hA rfl no_X6_7 (fun j hj => by rcases (show j = 0 ∨ j = 1 by omega) with rfl | rfl <;> rfl) ⟨Nat.le_of_ble_eq_true rfl, Nat.le_of_ble_eq_true rfl⟩ dX6_init_5 (fun oT H hP hD hS => ?_)
  have hP : va_P (dC, dI) vwCl ([(o, .inr (4, [.null, .null, .null, .null, .null, .int 0, .int 0]))] ++ ([(oT, .inr (3, [.null, .int 0]))])) H := hP
  have hD : va_D A ([(o, .inr (4, [.null, .null, .null, .null, .null, .int 0, .int 0]))] ++ ([(oT, .inr (3, [.null, .int 0]))])) := hD
  refine lv_dup hx hb dX6_init_8 rfl ?_
  refine kaIn (rest := [.ref oT, .ref o]) (w1 := ([(o, .inr (4, [.null, .null, .null, .null, .null, .int 0, .int 0]))])) (w2 := ([] : va_W)) fx ⟨Nat.le_of_ble_eq_true rfl, Nat.le_of_ble_eq_true rfl⟩ hK li_X6_9 (c_X5_init l dC dI cA oT) (fun _ _ _ _ _ h => h) (fun _ _ _ => trivial) hP hD hS hA ⟨Nat.le_of_ble_eq_true rfl, Nat.le_of_ble_eq_true rfl⟩ hl.1 rfl (Nat.le_of_ble_eq_true rfl) dX6_init_9 ?_
  intro gT H locs _ hP hD hS
  have hP : va_P (dC, dI) vwCl ([(o, .inr (4, [.null, .null, .null, .null, .null, .int 0, .int 0]))] ++ (tW oT gT cA (fun _ => (0 : Int32)) (fun _ _ => (0 : Int32)))) H := hP
  have hD : va_D A ([(o, .inr (4, [.null, .null, .null, .null, .null, .int 0, .int 0]))] ++ (tW oT gT cA (fun _ => (0 : Int32)) (fun _ _ => (0 : Int32)))) := hD
  refine kpF (q0 := 0) (v := .ref oT) fx hin hK hP hD hS ff_X6_10 rfl rfl rfl (Nat.le_of_ble_eq_true rfl) dX6_init_12 (fun H locs hP hD hS => ?_)
  have hP : va_P (dC, dI) vwCl ([(o, .inr (4, [.ref oT, .null, .null, .null, .null, .int 0, .int 0]))] ++ (tW oT gT cA (fun _ => (0 : Int32)) (fun _ _ => (0 : Int32)))) H := hP
  have hD : va_D A ([(o, .inr (4, [.ref oT, .null, .null, .null, .null, .int 0, .int 0]))] ++ (tW oT gT cA (fun _ => (0 : Int32)) (fun _ _ => (0 : Int32)))) := hD
  refine lv_aload_n hx hb dX6_init_15 rfl (lv_at hl 0 rfl) ?_
  refine knO (ci := 0) (fs := [.int 0, .int 0, .int 0, .int 0, .int 0, .int 0, .null, .null]) fx hK hP hD hS hA rfl no_X6_16 (fun j hj => by rcases (show j = 0 ∨ j = 1 ∨ j = 2 ∨ j = 3 ∨ j = 4 ∨ j = 5 ∨ j = 6 ∨ j = 7 by omega) with rfl | rfl | rfl | rfl | rfl | rfl | rfl | rfl <;> rfl) ⟨Nat.le_of_ble_eq_true rfl, Nat.le_of_ble_eq_true rfl⟩ dX6_init_16 (fun oN H hP hD hS => ?_)
  have hP : va_P (dC, dI) vwCl ([(o, .inr (4, [.ref oT, .null, .null, .null, .null, .int 0, .int 0]))] ++ (tW oT gT cA (fun _ => (0 : Int32)) (fun _ _ => (0 : Int32)) ++ ([(oN, .inr (0, [.int 0, .int 0, .int 0, .int 0, .int 0, .int 0, .null, .null]))]))) H := hP
  have hD : va_D A ([(o, .inr (4, [.ref oT, .null, .null, .null, .null, .int 0, .int 0]))] ++ (tW oT gT cA (fun _ => (0 : Int32)) (fun _ _ => (0 : Int32)) ++ ([(oN, .inr (0, [.int 0, .int 0, .int 0, .int 0, .int 0, .int 0, .null, .null]))]))) := hD
  refine lv_dup hx hb dX6_init_19 rfl ?_
  refine kaIn (rest := [.ref oN, .ref o]) (w1 := ([(o, .inr (4, [.ref oT, .null, .null, .null, .null, .int 0, .int 0]))] ++ (tW oT gT cA (fun _ => (0 : Int32)) (fun _ _ => (0 : Int32))))) (w2 := ([] : va_W)) fx ⟨Nat.le_of_ble_eq_true rfl, Nat.le_of_ble_eq_true rfl⟩ hK li_X6_18 (c_X1_init l dC dI cA oN) (fun _ _ _ _ _ h => h) (fun _ _ _ => trivial) hP hD hS hA ⟨Nat.le_of_ble_eq_true rfl, Nat.le_of_ble_eq_true rfl⟩ hl.1 rfl (Nat.le_of_ble_eq_true rfl) dX6_init_20 ?_
  intro gN H locs _ hP hD hS
  have hP : va_P (dC, dI) vwCl ([(o, .inr (4, [.ref oT, .null, .null, .null, .null, .int 0, .int 0]))] ++ (tW oT gT cA (fun _ => (0 : Int32)) (fun _ _ => (0 : Int32)) ++ (nW oN gN cA (fun _ => (0 : Int32)) (fun _ _ => (0 : Int32))))) H := hP
  have hD : va_D A ([(o, .inr (4, [.ref oT, .null, .null, .null, .null, .int 0, .int 0]))] ++ (tW oT gT cA (fun _ => (0 : Int32)) (fun _ _ => (0 : Int32)) ++ (nW oN gN cA (fun _ => (0 : Int32)) (fun _ _ => (0 : Int32))))) := hD
  refine kpF (q0 := 0) (v := .ref oN) fx hin hK hP hD hS ff_X6_19 rfl rfl rfl (Nat.le_of_ble_eq_true rfl) dX6_init_23 (fun H locs hP hD hS => ?_)
  have hP : va_P (dC, dI) vwCl ([(o, .inr (4, [.ref oT, .ref oN, .null, .null, .null, .int 0, .int 0]))] ++ (tW oT gT cA (fun _ => (0 : Int32)) (fun _ _ => (0 : Int32)) ++ (nW oN gN cA (fun _ => (0 : Int32)) (fun _ _ => (0 : Int32))))) H := hP
  have hD : va_D A ([(o, .inr (4, [.ref oT, .ref oN, .null, .null, .null, .int 0, .int 0]))] ++ (tW oT gT cA (fun _ => (0 : Int32)) (fun _ _ => (0 : Int32)) ++ (nW oN gN cA (fun _ => (0 : Int32)) (fun _ _ => (0 : Int32))))) := hD
  refine lv_aload_n hx hb dX6_init_26 rfl (lv_at hl 0 rfl) ?_
  refine knO (ci := 0) (fs := [.int 0, .int 0, .int 0, .int 0, .int 0, .int 0, .null, .null]) fx hK hP hD hS hA rfl no_X6_16 (fun j hj => by rcases (show j = 0 ∨ j = 1 ∨ j = 2 ∨ j = 3 ∨ j = 4 ∨ j = 5 ∨ j = 6 ∨ j = 7 by omega) with rfl | rfl | rfl | rfl | rfl | rfl | rfl | rfl <;> rfl) ⟨Nat.le_of_ble_eq_true rfl, Nat.le_of_ble_eq_true rfl⟩ dX6_init_27 (fun oD H hP hD hS => ?_)
  have hP : va_P (dC, dI) vwCl ([(o, .inr (4, [.ref oT, .ref oN, .null, .null, .null, .int 0, .int 0]))] ++ (tW oT gT cA (fun _ => (0 : Int32)) (fun _ _ => (0 : Int32)) ++ (nW oN gN cA (fun _ => (0 : Int32)) (fun _ _ => (0 : Int32)) ++ ([(oD, .inr (0, [.int 0, .int 0, .int 0, .int 0, .int 0, .int 0, .null, .null]))])))) H := hP
  have hD : va_D A ([(o, .inr (4, [.ref oT, .ref oN, .null, .null, .null, .int 0, .int 0]))] ++ (tW oT gT cA (fun _ => (0 : Int32)) (fun _ _ => (0 : Int32)) ++ (nW oN gN cA (fun _ => (0 : Int32)) (fun _ _ => (0 : Int32)) ++ ([(oD, .inr (0, [.int 0, .int 0, .int 0, .int 0, .int 0, .int 0, .null, .null]))])))) := hD
  refine lv_dup hx hb dX6_init_30 rfl ?_
  refine kaIn (rest := [.ref oD, .ref o]) (w1 := ([(o, .inr (4, [.ref oT, .ref oN, .null, .null, .null, .int 0, .int 0]))] ++ (tW oT gT cA (fun _ => (0 : Int32)) (fun _ _ => (0 : Int32)) ++ (nW oN gN cA (fun _ => (0 : Int32)) (fun _ _ => (0 : Int32)))))) (w2 := ([] : va_W)) fx ⟨Nat.le_of_ble_eq_true rfl, Nat.le_of_ble_eq_true rfl⟩ hK li_X6_18 (c_X1_init l dC dI cA oD) (fun _ _ _ _ _ h => h) (fun _ _ _ => trivial) hP hD hS hA ⟨Nat.le_of_ble_eq_true rfl, Nat.le_of_ble_eq_true rfl⟩ hl.1 rfl (Nat.le_of_ble_eq_true rfl) dX6_init_31 ?_
  intro gD H locs _ hP hD hS
  have hP : va_P (dC, dI) vwCl ([(o, .inr (4, [.ref oT, .ref oN, .null, .null, .null, .int 0, .int 0]))] ++ (tW oT gT cA (fun _ => (0 : Int32)) (fun _ _ => (0 : Int32)) ++ (nW oN gN cA (fun _ => (0 : Int32)) (fun _ _ => (0 : Int32)) ++ (nW oD gD cA (fun _ => (0 : Int32)) (fun _ _ => (0 : Int32)))))) H := hP
  have hD : va_D A ([(o, .inr (4, [.ref oT, .ref oN, .null, .null, .null, .int 0, .int 0]))] ++ (tW oT gT cA (fun _ => (0 : Int32)) (fun _ _ => (0 : Int32)) ++ (nW oN gN cA (fun _ => (0 : Int32)) (fun _ _ => (0 : Int32)) ++ (nW oD gD cA (fun _ => (0 : Int32)) (fun _ _ => (0 : Int32)))))) := hD
  refine kpF (q0 := 0) (v := .ref oD) fx hin hK hP hD hS ff_X6_23 rfl rfl rfl (Nat.le_of_ble_eq_true rfl) dX6_init_34 (fun H locs hP hD hS => ?_)
  have hP : va_P (dC, dI) vwCl ([(o, .inr (4, [.ref oT, .ref oN, .ref oD, .null, .null, .int 0, .int 0]))] ++ (tW oT gT cA (fun _ => (0 : Int32)) (fun _ _ => (0 : Int32)) ++ (nW oN gN cA (fun _ => (0 : Int32)) (fun _ _ => (0 : Int32)) ++ (nW oD gD cA (fun _ => (0 : Int32)) (fun _ _ => (0 : Int32)))))) H := hP
  have hD : va_D A ([(o, .inr (4, [.ref oT, .ref oN, .ref oD, .null, .null, .int 0, .int 0]))] ++ (tW oT gT cA (fun _ => (0 : Int32)) (fun _ _ => (0 : Int32)) ++ (nW oN gN cA (fun _ => (0 : Int32)) (fun _ _ => (0 : Int32)) ++ (nW oD gD cA (fun _ => (0 : Int32)) (fun _ _ => (0 : Int32)))))) := hD
  refine lv_aload_n hx hb dX6_init_37 rfl (lv_at hl 0 rfl) ?_
  refine knO (ci := 2) (fs := [.int 0, .int 0, .null, .null, .null, .null, .null, .null]) fx hK hP hD hS hA rfl no_X6_26 (fun j hj => by rcases (show j = 0 ∨ j = 1 ∨ j = 2 ∨ j = 3 ∨ j = 4 ∨ j = 5 ∨ j = 6 ∨ j = 7 by omega) with rfl | rfl | rfl | rfl | rfl | rfl | rfl | rfl <;> rfl) ⟨Nat.le_of_ble_eq_true rfl, Nat.le_of_ble_eq_true rfl⟩ dX6_init_38 (fun oS H hP hD hS => ?_)
  have hP : va_P (dC, dI) vwCl ([(o, .inr (4, [.ref oT, .ref oN, .ref oD, .null, .null, .int 0, .int 0]))] ++ (tW oT gT cA (fun _ => (0 : Int32)) (fun _ _ => (0 : Int32)) ++ (nW oN gN cA (fun _ => (0 : Int32)) (fun _ _ => (0 : Int32)) ++ (nW oD gD cA (fun _ => (0 : Int32)) (fun _ _ => (0 : Int32)) ++ ([(oS, .inr (2, [.int 0, .int 0, .null, .null, .null, .null, .null, .null]))]))))) H := hP
  have hD : va_D A ([(o, .inr (4, [.ref oT, .ref oN, .ref oD, .null, .null, .int 0, .int 0]))] ++ (tW oT gT cA (fun _ => (0 : Int32)) (fun _ _ => (0 : Int32)) ++ (nW oN gN cA (fun _ => (0 : Int32)) (fun _ _ => (0 : Int32)) ++ (nW oD gD cA (fun _ => (0 : Int32)) (fun _ _ => (0 : Int32)) ++ ([(oS, .inr (2, [.int 0, .int 0, .null, .null, .null, .null, .null, .null]))]))))) := hD
  refine lv_dup hx hb dX6_init_41 rfl ?_
  refine kaIn (rest := [.ref oS, .ref o]) (w1 := ([(o, .inr (4, [.ref oT, .ref oN, .ref oD, .null, .null, .int 0, .int 0]))] ++ (tW oT gT cA (fun _ => (0 : Int32)) (fun _ _ => (0 : Int32)) ++ (nW oN gN cA (fun _ => (0 : Int32)) (fun _ _ => (0 : Int32)) ++ (nW oD gD cA (fun _ => (0 : Int32)) (fun _ _ => (0 : Int32))))))) (w2 := ([] : va_W)) fx ⟨Nat.le_of_ble_eq_true rfl, Nat.le_of_ble_eq_true rfl⟩ hK li_X6_28 (c_X4_init l dC dI cA oS) (fun _ _ _ _ _ h => h) (fun _ _ _ => trivial) hP hD hS hA ⟨Nat.le_of_ble_eq_true rfl, Nat.le_of_ble_eq_true rfl⟩ hl.1 rfl (Nat.le_of_ble_eq_true rfl) dX6_init_42 ?_
  intro gS H locs _ hP hD hS
  have hP : va_P (dC, dI) vwCl ([(o, .inr (4, [.ref oT, .ref oN, .ref oD, .null, .null, .int 0, .int 0]))] ++ (tW oT gT cA (fun _ => (0 : Int32)) (fun _ _ => (0 : Int32)) ++ (nW oN gN cA (fun _ => (0 : Int32)) (fun _ _ => (0 : Int32)) ++ (nW oD gD cA (fun _ => (0 : Int32)) (fun _ _ => (0 : Int32)) ++ (sW oS gS cA (fun _ => (0 : Int32)) (fun _ _ => (0 : Int32))))))) H := hP
  have hD : va_D A ([(o, .inr (4, [.ref oT, .ref oN, .ref oD, .null, .null, .int 0, .int 0]))] ++ (tW oT gT cA (fun _ => (0 : Int32)) (fun _ _ => (0 : Int32)) ++ (nW oN gN cA (fun _ => (0 : Int32)) (fun _ _ => (0 : Int32)) ++ (nW oD gD cA (fun _ => (0 : Int32)) (fun _ _ => (0 : Int32)) ++ (sW oS gS cA (fun _ => (0 : Int32)) (fun _ _ => (0 : Int32))))))) := hD
  refine kpF (q0 := 0) (v := .ref oS) fx hin hK hP hD hS ff_X6_29 rfl rfl rfl (Nat.le_of_ble_eq_true rfl) dX6_init_45 (fun H locs hP hD hS => ?_)
  have hP : va_P (dC, dI) vwCl ([(o, .inr (4, [.ref oT, .ref oN, .ref oD, .ref oS, .null, .int 0, .int 0]))] ++ (tW oT gT cA (fun _ => (0 : Int32)) (fun _ _ => (0 : Int32)) ++ (nW oN gN cA (fun _ => (0 : Int32)) (fun _ _ => (0 : Int32)) ++ (nW oD gD cA (fun _ => (0 : Int32)) (fun _ _ => (0 : Int32)) ++ (sW oS gS cA (fun _ => (0 : Int32)) (fun _ _ => (0 : Int32))))))) H := hP
  have hD : va_D A ([(o, .inr (4, [.ref oT, .ref oN, .ref oD, .ref oS, .null, .int 0, .int 0]))] ++ (tW oT gT cA (fun _ => (0 : Int32)) (fun _ _ => (0 : Int32)) ++ (nW oN gN cA (fun _ => (0 : Int32)) (fun _ _ => (0 : Int32)) ++ (nW oD gD cA (fun _ => (0 : Int32)) (fun _ _ => (0 : Int32)) ++ (sW oS gS cA (fun _ => (0 : Int32)) (fun _ _ => (0 : Int32))))))) := hD
  refine lv_aload_n hx hb dX6_init_48 rfl (lv_at hl 0 rfl) ?_
  refine knO (ci := 1) (fs := [.null, .null, .int 0]) fx hK hP hD hS hA rfl no_X6_33 (fun j hj => by rcases (show j = 0 ∨ j = 1 ∨ j = 2 by omega) with rfl | rfl | rfl <;> rfl) ⟨Nat.le_of_ble_eq_true rfl, Nat.le_of_ble_eq_true rfl⟩ dX6_init_49 (fun oP H hP hD hS => ?_)
  have hP : va_P (dC, dI) vwCl ([(o, .inr (4, [.ref oT, .ref oN, .ref oD, .ref oS, .null, .int 0, .int 0]))] ++ (tW oT gT cA (fun _ => (0 : Int32)) (fun _ _ => (0 : Int32)) ++ (nW oN gN cA (fun _ => (0 : Int32)) (fun _ _ => (0 : Int32)) ++ (nW oD gD cA (fun _ => (0 : Int32)) (fun _ _ => (0 : Int32)) ++ (sW oS gS cA (fun _ => (0 : Int32)) (fun _ _ => (0 : Int32)) ++ ([(oP, .inr (1, [.null, .null, .int 0]))])))))) H := hP
  have hD : va_D A ([(o, .inr (4, [.ref oT, .ref oN, .ref oD, .ref oS, .null, .int 0, .int 0]))] ++ (tW oT gT cA (fun _ => (0 : Int32)) (fun _ _ => (0 : Int32)) ++ (nW oN gN cA (fun _ => (0 : Int32)) (fun _ _ => (0 : Int32)) ++ (nW oD gD cA (fun _ => (0 : Int32)) (fun _ _ => (0 : Int32)) ++ (sW oS gS cA (fun _ => (0 : Int32)) (fun _ _ => (0 : Int32)) ++ ([(oP, .inr (1, [.null, .null, .int 0]))])))))) := hD
  refine lv_dup hx hb dX6_init_52 rfl ?_
  refine kaIn (rest := [.ref oP, .ref o]) (w1 := ([(o, .inr (4, [.ref oT, .ref oN, .ref oD, .ref oS, .null, .int 0, .int 0]))] ++ (tW oT gT cA (fun _ => (0 : Int32)) (fun _ _ => (0 : Int32)) ++ (nW oN gN cA (fun _ => (0 : Int32)) (fun _ _ => (0 : Int32)) ++ (nW oD gD cA (fun _ => (0 : Int32)) (fun _ _ => (0 : Int32)) ++ (sW oS gS cA (fun _ => (0 : Int32)) (fun _ _ => (0 : Int32)))))))) (w2 := ([] : va_W)) fx ⟨Nat.le_of_ble_eq_true rfl, Nat.le_of_ble_eq_true rfl⟩ hK li_X6_35 (c_X2_init l dC dI cA oP) (fun _ _ _ _ _ h => h) (fun _ _ _ => trivial) hP hD hS hA ⟨Nat.le_of_ble_eq_true rfl, Nat.le_of_ble_eq_true rfl⟩ hl.1 rfl (Nat.le_of_ble_eq_true rfl) dX6_init_53 ?_
  intro gP H locs _ hP hD hS
  have hP : va_P (dC, dI) vwCl ([(o, .inr (4, [.ref oT, .ref oN, .ref oD, .ref oS, .null, .int 0, .int 0]))] ++ (tW oT gT cA (fun _ => (0 : Int32)) (fun _ _ => (0 : Int32)) ++ (nW oN gN cA (fun _ => (0 : Int32)) (fun _ _ => (0 : Int32)) ++ (nW oD gD cA (fun _ => (0 : Int32)) (fun _ _ => (0 : Int32)) ++ (sW oS gS cA (fun _ => (0 : Int32)) (fun _ _ => (0 : Int32)) ++ (pW oP gP cA (fun _ => (0 : Int32)) (fun _ _ => (0 : Int32)))))))) H := hP
  have hD : va_D A ([(o, .inr (4, [.ref oT, .ref oN, .ref oD, .ref oS, .null, .int 0, .int 0]))] ++ (tW oT gT cA (fun _ => (0 : Int32)) (fun _ _ => (0 : Int32)) ++ (nW oN gN cA (fun _ => (0 : Int32)) (fun _ _ => (0 : Int32)) ++ (nW oD gD cA (fun _ => (0 : Int32)) (fun _ _ => (0 : Int32)) ++ (sW oS gS cA (fun _ => (0 : Int32)) (fun _ _ => (0 : Int32)) ++ (pW oP gP cA (fun _ => (0 : Int32)) (fun _ _ => (0 : Int32)))))))) := hD
  refine kpF (q0 := 0) (v := .ref oP) fx hin hK hP hD hS ff_X6_36 rfl rfl rfl (Nat.le_of_ble_eq_true rfl) dX6_init_56 (fun H locs hP hD hS => ?_)
  have hP : va_P (dC, dI) vwCl ([(o, .inr (4, [.ref oT, .ref oN, .ref oD, .ref oS, .ref oP, .int 0, .int 0]))] ++ (tW oT gT cA (fun _ => (0 : Int32)) (fun _ _ => (0 : Int32)) ++ (nW oN gN cA (fun _ => (0 : Int32)) (fun _ _ => (0 : Int32)) ++ (nW oD gD cA (fun _ => (0 : Int32)) (fun _ _ => (0 : Int32)) ++ (sW oS gS cA (fun _ => (0 : Int32)) (fun _ _ => (0 : Int32)) ++ (pW oP gP cA (fun _ => (0 : Int32)) (fun _ _ => (0 : Int32)))))))) H := hP
  have hD : va_D A ([(o, .inr (4, [.ref oT, .ref oN, .ref oD, .ref oS, .ref oP, .int 0, .int 0]))] ++ (tW oT gT cA (fun _ => (0 : Int32)) (fun _ _ => (0 : Int32)) ++ (nW oN gN cA (fun _ => (0 : Int32)) (fun _ _ => (0 : Int32)) ++ (nW oD gD cA (fun _ => (0 : Int32)) (fun _ _ => (0 : Int32)) ++ (sW oS gS cA (fun _ => (0 : Int32)) (fun _ _ => (0 : Int32)) ++ (pW oP gP cA (fun _ => (0 : Int32)) (fun _ _ => (0 : Int32)))))))) := hD
  have hP := hP.sub (ws' := ((xW o oT oN oD oS oP (fun _ => (0 : Int32))) ++ ((tW oT gT cA (fun _ => (0 : Int32)) (fun _ _ => (0 : Int32))) ++ ((nW oD gD cA (fun _ => (0 : Int32)) (fun _ _ => (0 : Int32))) ++ ((nW oN gN cA (fun _ => (0 : Int32)) (fun _ _ => (0 : Int32))) ++ ((sW oS gS cA (fun _ => (0 : Int32)) (fun _ _ => (0 : Int32))) ++ (pW oP gP cA (fun _ => (0 : Int32)) (fun _ _ => (0 : Int32))))))))) [0, 1, 2, 6, 7, 8, 3, 4, 5, 9, 10, 11, 12, 13, 14, 15, 16, 17, 18] rfl
  have hD := hD.sub (ws' := ((xW o oT oN oD oS oP (fun _ => (0 : Int32))) ++ ((tW oT gT cA (fun _ => (0 : Int32)) (fun _ _ => (0 : Int32))) ++ ((nW oD gD cA (fun _ => (0 : Int32)) (fun _ _ => (0 : Int32))) ++ ((nW oN gN cA (fun _ => (0 : Int32)) (fun _ _ => (0 : Int32))) ++ ((sW oS gS cA (fun _ => (0 : Int32)) (fun _ _ => (0 : Int32))) ++ (pW oP gP cA (fun _ => (0 : Int32)) (fun _ _ => (0 : Int32))))))))) [0, 1, 2, 6, 7, 8, 3, 4, 5, 9, 10, 11, 12, 13, 14, 15, 16, 17, 18] (by decide) rfl
  refine W.widen (k := 18) (n := 24841) (Nat.le_of_ble_eq_true rfl) (Nat.le_of_ble_eq_true rfl) ?_
  have tail : ∀ (FT : Nat → Int32) (AT : Nat → Nat → Int32) (H : Heap) (locs : List Loc) (ls : Array Slot), TxC 21 tq FT AT → va_P (dC, dI) vwCl ((xW o oT oN oD oS oP (fun _ => (0 : Int32))) ++ ((tW oT gT cA FT AT) ++ ((nW oD gD cA (fun _ => (0 : Int32)) (fun _ _ => (0 : Int32))) ++ ((nW oN gN cA (fun _ => (0 : Int32)) (fun _ _ => (0 : Int32))) ++ ((sW oS gS cA (fun _ => (0 : Int32)) (fun _ _ => (0 : Int32))) ++ (pW oP gP cA (fun _ => (0 : Int32)) (fun _ _ => (0 : Int32)))))))) H → va_D A ((xW o oT oN oD oS oP (fun _ => (0 : Int32))) ++ ((tW oT gT cA FT AT) ++ ((nW oD gD cA (fun _ => (0 : Int32)) (fun _ _ => (0 : Int32))) ++ ((nW oN gN cA (fun _ => (0 : Int32)) (fun _ _ => (0 : Int32))) ++ ((sW oS gS cA (fun _ => (0 : Int32)) (fun _ _ => (0 : Int32))) ++ (pW oP gP cA (fun _ => (0 : Int32)) (fun _ _ => (0 : Int32)))))))) → va_S A s.heap H locs → lv_has ls 2 [(0, .ref o)] → W p l e { frames := 5, cells := 18, slots := 24841, locals := 115 } s m args below meth c H locs 18 24841 Q (F0 m 90 ls []) := by
    intro FT AT H locs ls hT hP hD hS hl
    refine lv_aload_n hx hb dX6_init_90 rfl (lv_at hl 0 rfl) ?_
    refine kgz (q0 := 0) (v := .ref oT) fx hK hP fl_X6_10 rfl rfl dX6_init_91 ?_
    refine lv_aload_n hx hb dX6_init_94 rfl (lv_at hl 0 rfl) ?_
    refine kgz (q0 := 0) (v := .ref oD) fx hK hP fl_X6_23 rfl rfl dX6_init_95 ?_
    refine kaMuV (rest := []) (As := [.ref oD]) (w1 := (xW o oT oN oD oS oP (fun _ => (0 : Int32)))) (w2 := ((nW oN gN cA (fun _ => (0 : Int32)) (fun _ _ => (0 : Int32))) ++ ((sW oS gS cA (fun _ => (0 : Int32)) (fun _ _ => (0 : Int32))) ++ (pW oP gP cA (fun _ => (0 : Int32)) (fun _ _ => (0 : Int32)))))) fx ⟨Nat.le_of_ble_eq_true rfl, Nat.le_of_ble_eq_true rfl⟩ hK lk_X6_56 (c_X5_readInto l dC dI cA oT gT oD gD FT AT (fun _ => (0 : Int32)) (fun _ _ => (0 : Int32)) _ (x_first hT)) hP hD hS hA 0 rfl rfl ⟨Nat.le_of_ble_eq_true rfl, Nat.le_of_ble_eq_true rfl⟩ rfl hl.1 rfl (Nat.le_of_ble_eq_true rfl) dX6_init_98 ?_
    intro r u H locs hw hP hD hS
    obtain ⟨FD, AD⟩ := u
    have hP : va_P (dC, dI) vwCl ((xW o oT oN oD oS oP (fun _ => (0 : Int32))) ++ ((tW oT gT cA FT AT) ++ ((nW oD gD cA FD AD) ++ ((nW oN gN cA (fun _ => (0 : Int32)) (fun _ _ => (0 : Int32))) ++ ((sW oS gS cA (fun _ => (0 : Int32)) (fun _ _ => (0 : Int32))) ++ (pW oP gP cA (fun _ => (0 : Int32)) (fun _ _ => (0 : Int32)))))))) H := hP
    have hD : va_D A ((xW o oT oN oD oS oP (fun _ => (0 : Int32))) ++ ((tW oT gT cA FT AT) ++ ((nW oD gD cA FD AD) ++ ((nW oN gN cA (fun _ => (0 : Int32)) (fun _ _ => (0 : Int32))) ++ ((sW oS gS cA (fun _ => (0 : Int32)) (fun _ _ => (0 : Int32))) ++ (pW oP gP cA (fun _ => (0 : Int32)) (fun _ _ => (0 : Int32)))))))) := hD
    dsimp only at hw
    refine lv_pop hx hb dX6_init_101 rfl ?_
    refine lv_aload_n hx hb dX6_init_102 rfl (lv_at hl 0 rfl) ?_
    refine kaMuVv (rest := []) (As := []) (w1 := ([] : va_W)) (w2 := ([] : va_W)) fx ⟨Nat.le_of_ble_eq_true rfl, Nat.le_of_ble_eq_true rfl⟩ hK lk_X6_60 (c_X6_takeDraft l dC dI cA o oT gT oD gD oN gN oS gS oP gP (fun _ => (0 : Int32)) FT AT FD AD (fun _ => (0 : Int32)) (fun _ _ => (0 : Int32)) (fun _ => (0 : Int32)) (fun _ _ => (0 : Int32)) (fun _ => (0 : Int32)) (fun _ _ => (0 : Int32)) _ (x_take hw)) hP hD hS hA 0 rfl rfl ⟨Nat.le_of_ble_eq_true rfl, Nat.le_of_ble_eq_true rfl⟩ rfl hl.1 rfl (Nat.le_of_ble_eq_true rfl) dX6_init_103 ?_
    intro u H locs hw hP hD hS
    obtain ⟨FX, FN, AN, FS, AS, FP, AP⟩ := u
    have hP : va_P (dC, dI) vwCl ((xW o oT oN oD oS oP FX) ++ ((tW oT gT cA FT AT) ++ ((nW oD gD cA FD AD) ++ ((nW oN gN cA FN AN) ++ ((sW oS gS cA FS AS) ++ (pW oP gP cA FP AP)))))) H := hP
    have hD : va_D A ((xW o oT oN oD oS oP FX) ++ ((tW oT gT cA FT AT) ++ ((nW oD gD cA FD AD) ++ ((nW oN gN cA FN AN) ++ ((sW oS gS cA FS AS) ++ (pW oP gP cA FP AP)))))) := hD
    dsimp only at hw
    refine lv_aload_n hx hb dX6_init_106 rfl (lv_at hl 0 rfl) ?_
    refine kgz (q0 := 0) (v := .ref oT) fx hK hP fl_X6_10 rfl rfl dX6_init_107 ?_
    refine kaMuVv (rest := []) (As := []) (w1 := (xW o oT oN oD oS oP FX)) (w2 := ((nW oD gD cA FD AD) ++ ((nW oN gN cA FN AN) ++ ((sW oS gS cA FS AS) ++ (pW oP gP cA FP AP))))) fx ⟨Nat.le_of_ble_eq_true rfl, Nat.le_of_ble_eq_true rfl⟩ hK lk_X6_63 (c_X5_clear l dC dI cA oT gT FT AT (fun FT' _ => FT' 1 = nI 0) uF_same) hP hD hS hA 0 rfl rfl ⟨Nat.le_of_ble_eq_true rfl, Nat.le_of_ble_eq_true rfl⟩ rfl hl.1 rfl (Nat.le_of_ble_eq_true rfl) dX6_init_110 ?_
    intro u H locs hw2 hP hD hS
    obtain ⟨FT, AT⟩ := u
    have hP : va_P (dC, dI) vwCl ((xW o oT oN oD oS oP FX) ++ ((tW oT gT cA FT AT) ++ ((nW oD gD cA FD AD) ++ ((nW oN gN cA FN AN) ++ ((sW oS gS cA FS AS) ++ (pW oP gP cA FP AP)))))) H := hP
    have hD : va_D A ((xW o oT oN oD oS oP FX) ++ ((tW oT gT cA FT AT) ++ ((nW oD gD cA FD AD) ++ ((nW oN gN cA FN AN) ++ ((sW oS gS cA FS AS) ++ (pW oP gP cA FP AP)))))) := hD
    exact hret ((oT, gT, oD, gD, oN, gN, oS, gS, oP, gP), (FX, FT, AT, FD, AD, FN, AN, FS, AS, FP, AP)) _ _ _ _ dX6_init_113 ⟨hw, hw2⟩ hP hD hS
  have lp : ∀ (n k : Nat), k + n = 21 → ∀ (FT : Nat → Int32) (AT : Nat → Nat → Int32) (H : Heap) (locs : List Loc) (ls : Array Slot), TxC k tq FT AT → va_P (dC, dI) vwCl ((xW o oT oN oD oS oP (fun _ => (0 : Int32))) ++ ((tW oT gT cA FT AT) ++ ((nW oD gD cA (fun _ => (0 : Int32)) (fun _ _ => (0 : Int32))) ++ ((nW oN gN cA (fun _ => (0 : Int32)) (fun _ _ => (0 : Int32))) ++ ((sW oS gS cA (fun _ => (0 : Int32)) (fun _ _ => (0 : Int32))) ++ (pW oP gP cA (fun _ => (0 : Int32)) (fun _ _ => (0 : Int32)))))))) H → va_D A ((xW o oT oN oD oS oP (fun _ => (0 : Int32))) ++ ((tW oT gT cA FT AT) ++ ((nW oD gD cA (fun _ => (0 : Int32)) (fun _ _ => (0 : Int32))) ++ ((nW oN gN cA (fun _ => (0 : Int32)) (fun _ _ => (0 : Int32))) ++ ((sW oS gS cA (fun _ => (0 : Int32)) (fun _ _ => (0 : Int32))) ++ (pW oP gP cA (fun _ => (0 : Int32)) (fun _ _ => (0 : Int32)))))))) → va_S A s.heap H locs → lv_has ls 2 [(0, .ref o), (1, .int (nI k))] → W p l e { frames := 5, cells := 18, slots := 24841, locals := 115 } s m args below meth c H locs 18 24841 Q (F0 m 61 ls []) := by
    intro n
    induction n with
    | zero =>
      intro k hk FT AT H locs ls hT hP hD hS hl
      have ek : k = 21 := by omega
      subst ek
      refine lv_iload_n hx hb dX6_init_61 rfl (lv_at hl 1 rfl) ?_
      refine va_ldcS hx hb hown hR dX6_init_62 ?_
      refine caStV (rest := [.int (nI 21)]) (As := []) fx ⟨Nat.le_of_ble_eq_true rfl, Nat.le_of_ble_eq_true rfl⟩ lk_X6_42 (c_J0_length l q v) hsk hS ⟨Nat.le_of_ble_eq_true rfl, Nat.le_of_ble_eq_true rfl⟩ rfl hl.1 rfl (Nat.le_of_ble_eq_true rfl) dX6_init_64 ?_
      rintro _ rfl
      refine lv_icmp_ge (tgt := 90) hx hb dX6_init_67 (by decide) (fun _ => ?_) (fun c1 => absurd (nI_le (by omega) (by omega)) c1)
      exact tail FT AT H locs ls hT hP hD hS (lv_sub hl [0] rfl)
    | succ n ih =>
      intro k hk FT AT H locs ls hT hP hD hS hl
      refine lv_iload_n hx hb dX6_init_61 rfl (lv_at hl 1 rfl) ?_
      refine va_ldcS hx hb hown hR dX6_init_62 ?_
      refine caStV (rest := [.int (nI k)]) (As := []) fx ⟨Nat.le_of_ble_eq_true rfl, Nat.le_of_ble_eq_true rfl⟩ lk_X6_42 (c_J0_length l q v) hsk hS ⟨Nat.le_of_ble_eq_true rfl, Nat.le_of_ble_eq_true rfl⟩ rfl hl.1 rfl (Nat.le_of_ble_eq_true rfl) dX6_init_64 ?_
      rintro _ rfl
      refine lv_icmp_ge (tgt := 90) hx hb dX6_init_67 (by decide) (fun c1 => absurd c1 (nI_ge (by omega) (by omega))) (fun _ => ?_)
      refine lv_aload_n hx hb dX6_init_70 rfl (lv_at hl 0 rfl) ?_
      refine kgz (q0 := 0) (v := .ref oT) fx hK hP fl_X6_10 rfl rfl dX6_init_71 ?_
      refine va_ldcS hx hb hown hR dX6_init_74 ?_
      refine lv_iload_n hx hb dX6_init_76 rfl (lv_at hl 1 rfl) ?_
      refine caStV (rest := [.ref oT]) (As := [.int (nI k)]) fx ⟨Nat.le_of_ble_eq_true rfl, Nat.le_of_ble_eq_true rfl⟩ lk_X6_48 (c_J0_charAt l q v k (by omega)) hsk hS ⟨Nat.le_of_ble_eq_true rfl, Nat.le_of_ble_eq_true rfl⟩ rfl hl.1 rfl (Nat.le_of_ble_eq_true rfl) dX6_init_77 ?_
      rintro _ rfl
      refine kaMuV (rest := []) (As := [.int (nI (tq k))]) (w1 := (xW o oT oN oD oS oP (fun _ => (0 : Int32)))) (w2 := ((nW oD gD cA (fun _ => (0 : Int32)) (fun _ _ => (0 : Int32))) ++ ((nW oN gN cA (fun _ => (0 : Int32)) (fun _ _ => (0 : Int32))) ++ ((sW oS gS cA (fun _ => (0 : Int32)) (fun _ _ => (0 : Int32))) ++ (pW oP gP cA (fun _ => (0 : Int32)) (fun _ _ => (0 : Int32))))))) fx ⟨Nat.le_of_ble_eq_true rfl, Nat.le_of_ble_eq_true rfl⟩ hK lk_X6_52 (c_X5_append l dC dI cA oT gT FT AT (nI (tq k)) _ (x_app (by omega) hT)) hP hD hS hA 0 rfl rfl ⟨Nat.le_of_ble_eq_true rfl, Nat.le_of_ble_eq_true rfl⟩ rfl hl.1 rfl (Nat.le_of_ble_eq_true rfl) dX6_init_80 ?_
      intro r u H locs hw hP hD hS
      obtain ⟨FT1, AT1⟩ := u
      dsimp only at hw
      refine lv_pop hx hb dX6_init_83 rfl ?_
      refine lv_iinc (v := nI (k + 1)) (lv' := [(1, .int (nI (k + 1))), (0, .ref o)]) hx hb dX6_init_84 hl (k := 1) rfl (nI_1 k) (by decide) rfl (fun ls hl => ?_)
      refine lv_goto (tgt := 61) hx hb dX6_init_87 (by decide) ?_
      exact ih (k + 1) (by omega) FT1 AT1 _ _ _ hw hP hD hS (lv_sub hl [1, 0] rfl)
  refine lv_iconst (v := nI 0) hx hb dX6_init_59 (by decide) ?_
  refine lv_istore_n (lv' := [(1, .int (nI 0)), (0, .ref o)]) hx hb dX6_init_60 rfl hl (by decide) rfl (fun ls hl => ?_)
  exact lp 21 0 (by omega) (fun _ => (0 : Int32)) (fun _ _ => (0 : Int32)) _ _ _ ⟨rfl, by omega, fun i hi => absurd hi (Nat.not_lt_zero i)⟩ hP hD hS (lv_sub hl [1, 0] rfl)
