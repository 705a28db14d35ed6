set_option maxHeartbeats 4000000 in
set_option maxRecDepth 100000 in
theorem c_X6_write (l : Launch) (dC : Nat → ClassId) (dI : Nat → Nat → Nat) (cA : ClassId) (oX : Nat) (oT : Nat) (gT : Nat → Nat) (oD : Nat) (gD : Nat → Nat) (oN : Nat) (gN : Nat → Nat) (oS : Nat) (gS : Nat → Nat) (oP : Nat) (gP : Nat → Nat) (FX : Nat → Int32) (FT : Nat → Int32) (AT : Nat → Nat → Int32) (FD : Nat → Int32) (AD : Nat → Nat → Int32) (FN : Nat → Int32) (AN : Nat → Nat → Int32) (FS : Nat → Int32) (AS : Nat → Nat → Int32) (FP : Nat → Int32) (AP : Nat → Nat → Int32) (x1 : Int32) (Post : Int32 → (Nat → Int32) → (Nat → Nat → Int32) → Prop) (hw : wp_X6_write FX FT AT FD AD FN AN FS AS FP AP x1 Post) : MuI (dC, dI) cA l yX6_write cX6_write 2 .int 2 43 [.ref oX, .int x1] ((xW oX oT oN oD oS oP FX) ++ ((tW oT gT cA FT AT) ++ ((nW oD gD cA FD AD) ++ ((nW oN gN cA FN AN) ++ ((sW oS gS cA FS AS) ++ (pW oP gP cA FP AP)))))) (fun r (u : (Nat → Int32) × (Nat → Nat → Int32)) => Post r (u.1) (u.2)) (fun u => ((xW oX oT oN oD oS oP FX) ++ ((tW oT gT cA (u.1) (u.2)) ++ ((nW oD gD cA FD AD) ++ ((nW oN gN cA FN AN) ++ ((sW oS gS cA FS AS) ++ (pW oP gP cA FP AP))))))) := by
  refine enMu (by decide) (Nat.le_of_ble_eq_true rfl) ?_
  intro p e s m args below meth c Q ls A fx hK hP hD hS hA hret hl
  obtain ⟨hx, hb, hml, hown, hts⟩ := id fx
  have hl : lv_has ls 2 [(0, .ref oX), (1, .int x1)] := hl
  have hP : va_P (dC, dI) vwCl ((xW oX oT oN oD oS oP FX) ++ ((tW oT gT cA FT AT) ++ ((nW oD gD cA FD AD) ++ ((nW oN gN cA FN AN) ++ ((sW oS gS cA FS AS) ++ (pW oP gP cA FP AP)))))) s.heap := hP
  refine lv_iload_n hx hb dX6_write_0 rfl (lv_at hl 1 rfl) ?_
  refine lv_bipush (v := (32 : Int32)) hx hb dX6_write_1 (by decide) ?_
  refine lv_icmp_lt (tgt := 12) hx hb dX6_write_3 (by decide) (fun c_9 => ?_) (fun c_9 => ?_)
  · have hw := hw.1 c_9
    refine lv_iconst (v := (-1 : Int32)) hx hb dX6_write_12 (by decide) ?_
    exact hret _ (FT, AT) _ _ _ _ dX6_write_13 rfl hw hP hD hS
  · have hw := hw.2 c_9
    refine lv_iload_n hx hb dX6_write_6 rfl (lv_at hl 1 rfl) ?_
    refine lv_bipush (v := (126 : Int32)) hx hb dX6_write_7 (by decide) ?_
    refine lv_icmp_le (tgt := 14) hx hb dX6_write_9 (by decide) (fun c_10 => ?_) (fun c_10 => ?_)
    · have hw := hw.1 c_10
      refine lv_aload_n hx hb dX6_write_14 rfl (lv_at hl 0 rfl) ?_
      refine gz (q0 := 0) (v := .ref oT) fx hK hP fl_X6_10 rfl rfl dX6_write_15 ?_
      refine lv_iload_n hx hb dX6_write_18 rfl (lv_at hl 1 rfl) ?_
      refine caMuV (rest := []) (As := [.int x1]) (w1 := (xW oX oT oN oD oS oP FX)) (w2 := ((nW oD gD cA FD AD) ++ ((nW oN gN cA FN AN) ++ ((sW oS gS cA FS AS) ++ (pW oP gP cA FP AP))))) fx hK lk_X6_52 (c_X5_append l dC dI cA oT gT FT AT x1 _ hw) hP hD hS hA 0 rfl rfl ⟨(Nat.le_of_ble_eq_true rfl), (Nat.le_of_ble_eq_true rfl)⟩ rfl hl.1 rfl (Nat.le_of_ble_eq_true rfl) dX6_write_19 ?_
      intro r_14 u_13 H locs hw hP hD hS
      obtain ⟨FT_11, AT_12⟩ := u_13
      have hP : va_P (dC, dI) vwCl ((xW oX oT oN oD oS oP FX) ++ ((tW oT gT cA FT_11 AT_12) ++ ((nW oD gD cA FD AD) ++ ((nW oN gN cA FN AN) ++ ((sW oS gS cA FS AS) ++ (pW oP gP cA FP AP)))))) H := hP
      have hD : va_D A ((xW oX oT oN oD oS oP FX) ++ ((tW oT gT cA FT_11 AT_12) ++ ((nW oD gD cA FD AD) ++ ((nW oN gN cA FN AN) ++ ((sW oS gS cA FS AS) ++ (pW oP gP cA FP AP)))))) := hD
      try dsimp only at hw
      refine lv_if_eq (tgt := 35) hx hb dX6_write_22 (by decide) (fun c_15 => ?_) (fun c_15 => ?_)
      · have hw := hw.1 c_15
        refine lv_bipush (v := (-3 : Int32)) hx hb dX6_write_35 (by decide) ?_
        exact hret _ (FT_11, AT_12) _ _ _ _ dX6_write_37 rfl hw hP hD hS
      · have hw := hw.2 c_15
        refine lv_aload_n hx hb dX6_write_25 rfl (lv_at hl 0 rfl) ?_
        refine gz (q0 := 0) (v := .ref oT) fx hK hP fl_X6_10 rfl rfl dX6_write_26 ?_
        refine caRoV (rest := []) (As := []) fx hK lk_X6_66 (c_X5_length l dC dI cA oT gT FT_11 AT_12 _ hw) (hP.sub [1, 2] rfl) 0 rfl rfl ⟨(Nat.le_of_ble_eq_true rfl), (Nat.le_of_ble_eq_true rfl)⟩ rfl hl.1 rfl (Nat.le_of_ble_eq_true rfl) dX6_write_29 ?_
        intro r_16 hw
        refine lv_goto (tgt := 37) hx hb dX6_write_32 (by decide) ?_
        exact hret _ (FT_11, AT_12) _ _ _ _ dX6_write_37 rfl hw hP hD hS
    · have hw := hw.2 c_10
      refine lv_iconst (v := (-1 : Int32)) hx hb dX6_write_12 (by decide) ?_
      exact hret _ (FT, AT) _ _ _ _ dX6_write_13 rfl hw hP hD hS
set_option maxHeartbeats 4000000 in
set_option maxRecDepth 100000 in
theorem c_X6_wipe (l : Launch) (dC : Nat → ClassId) (dI : Nat → Nat → Nat) (cA : ClassId) (oX : Nat) (oT : Nat) (gT : Nat → Nat) (oD : Nat) (gD : Nat → Nat) (oN : Nat) (gN : Nat → Nat) (oS : Nat) (gS : Nat → Nat) (oP : Nat) (gP : Nat → Nat) (FX : Nat → Int32) (FT : Nat → Int32) (AT : Nat → Nat → Int32) (FD : Nat → Int32) (AD : Nat → Nat → Int32) (FN : Nat → Int32) (AN : Nat → Nat → Int32) (FS : Nat → Int32) (AS : Nat → Nat → Int32) (FP : Nat → Int32) (AP : Nat → Nat → Int32) (Post : Int32 → (Nat → Int32) → (Nat → Nat → Int32) → Prop) (hw : wp_X6_wipe FX FT AT FD AD FN AN FS AS FP AP Post) : MuI (dC, dI) cA l yX6_wipe cX6_wipe 2 .int 1 20 [.ref oX] ((xW oX oT oN oD oS oP FX) ++ ((tW oT gT cA FT AT) ++ ((nW oD gD cA FD AD) ++ ((nW oN gN cA FN AN) ++ ((sW oS gS cA FS AS) ++ (pW oP gP cA FP AP)))))) (fun r (u : (Nat → Int32) × (Nat → Nat → Int32)) => Post r (u.1) (u.2)) (fun u => ((xW oX oT oN oD oS oP FX) ++ ((tW oT gT cA (u.1) (u.2)) ++ ((nW oD gD cA FD AD) ++ ((nW oN gN cA FN AN) ++ ((sW oS gS cA FS AS) ++ (pW oP gP cA FP AP))))))) := by
  refine enMu (by decide) (Nat.le_of_ble_eq_true rfl) ?_
  intro p e s m args below meth c Q ls A fx hK hP hD hS hA hret hl
  obtain ⟨hx, hb, hml, hown, hts⟩ := id fx
  have hl : lv_has ls 2 [(0, .ref oX)] := hl
  have hP : va_P (dC, dI) vwCl ((xW oX oT oN oD oS oP FX) ++ ((tW oT gT cA FT AT) ++ ((nW oD gD cA FD AD) ++ ((nW oN gN cA FN AN) ++ ((sW oS gS cA FS AS) ++ (pW oP gP cA FP AP)))))) s.heap := hP
  refine lv_aload_n hx hb dX6_wipe_0 rfl (lv_at hl 0 rfl) ?_
  refine gz (q0 := 0) (v := .ref oT) fx hK hP fl_X6_10 rfl rfl dX6_wipe_1 ?_
  refine caRoV (rest := []) (As := []) fx hK lk_X6_66 (c_X5_length l dC dI cA oT gT FT AT _ hw) (hP.sub [1, 2] rfl) 0 rfl rfl ⟨(Nat.le_of_ble_eq_true rfl), (Nat.le_of_ble_eq_true rfl)⟩ rfl hl.1 rfl (Nat.le_of_ble_eq_true rfl) dX6_wipe_4 ?_
  intro r_5 hw
  refine lv_istore_n (lv' := [(1, .int r_5), (0, .ref oX)]) hx hb dX6_wipe_7 rfl hl (by decide) rfl (fun ls hl => ?_)
  refine lv_aload_n hx hb dX6_wipe_8 rfl (lv_at hl 1 rfl) ?_
  refine gz (q0 := 0) (v := .ref oT) fx hK hP fl_X6_10 rfl rfl dX6_wipe_9 ?_
  refine caMuVv (rest := []) (As := []) (w1 := (xW oX oT oN oD oS oP FX)) (w2 := ((nW oD gD cA FD AD) ++ ((nW oN gN cA FN AN) ++ ((sW oS gS cA FS AS) ++ (pW oP gP cA FP AP))))) fx hK lk_X6_63 (c_X5_clear l dC dI cA oT gT FT AT _ hw) hP hD hS hA 0 rfl rfl ⟨(Nat.le_of_ble_eq_true rfl), (Nat.le_of_ble_eq_true rfl)⟩ rfl hl.1 rfl (Nat.le_of_ble_eq_true rfl) dX6_wipe_12 ?_
  intro u_8 H locs hw hP hD hS
  obtain ⟨FT_6, AT_7⟩ := u_8
  have hP : va_P (dC, dI) vwCl ((xW oX oT oN oD oS oP FX) ++ ((tW oT gT cA FT_6 AT_7) ++ ((nW oD gD cA FD AD) ++ ((nW oN gN cA FN AN) ++ ((sW oS gS cA FS AS) ++ (pW oP gP cA FP AP)))))) H := hP
  have hD : va_D A ((xW oX oT oN oD oS oP FX) ++ ((tW oT gT cA FT_6 AT_7) ++ ((nW oD gD cA FD AD) ++ ((nW oN gN cA FN AN) ++ ((sW oS gS cA FS AS) ++ (pW oP gP cA FP AP)))))) := hD
  try dsimp only at hw
  refine lv_iload_n hx hb dX6_wipe_15 rfl (lv_at hl 0 rfl) ?_
  exact hret _ (FT_6, AT_7) _ _ _ _ dX6_wipe_16 rfl hw hP hD hS
set_option maxHeartbeats 4000000 in
set_option maxRecDepth 100000 in
theorem c_X6_fault (l : Launch) (dC : Nat → ClassId) (dI : Nat → Nat → Nat) (cA : ClassId) (oX : Nat) (oT : Nat) (gT : Nat → Nat) (oD : Nat) (gD : Nat → Nat) (oN : Nat) (gN : Nat → Nat) (oS : Nat) (gS : Nat → Nat) (oP : Nat) (gP : Nat → Nat) (FX : Nat → Int32) (FT : Nat → Int32) (AT : Nat → Nat → Int32) (FD : Nat → Int32) (AD : Nat → Nat → Int32) (FN : Nat → Int32) (AN : Nat → Nat → Int32) (FS : Nat → Int32) (AS : Nat → Nat → Int32) (FP : Nat → Int32) (AP : Nat → Nat → Int32) (Post : Int32 → (Nat → Int32) → (Nat → Nat → Int32) → Prop) (hw : wp_X6_fault FX FT AT FD AD FN AN FS AS FP AP Post) : MuI (dC, dI) cA l yX6_fault cX6_fault 1 .int 5 115 [.ref oX] ((xW oX oT oN oD oS oP FX) ++ ((tW oT gT cA FT AT) ++ ((nW oD gD cA FD AD) ++ ((nW oN gN cA FN AN) ++ ((sW oS gS cA FS AS) ++ (pW oP gP cA FP AP)))))) (fun r (u : (Nat → Int32) × (Nat → Nat → Int32)) => Post r (u.1) (u.2)) (fun u => ((xW oX oT oN oD oS oP FX) ++ ((tW oT gT cA FT AT) ++ ((nW oD gD cA (u.1) (u.2)) ++ ((nW oN gN cA FN AN) ++ ((sW oS gS cA FS AS) ++ (pW oP gP cA FP AP))))))) := by
  refine enMu (by decide) (Nat.le_of_ble_eq_true rfl) ?_
  intro p e s m args below meth c Q ls A fx hK hP hD hS hA hret hl
  obtain ⟨hx, hb, hml, hown, hts⟩ := id fx
  have hl : lv_has ls 1 [(0, .ref oX)] := hl
  have hP : va_P (dC, dI) vwCl ((xW oX oT oN oD oS oP FX) ++ ((tW oT gT cA FT AT) ++ ((nW oD gD cA FD AD) ++ ((nW oN gN cA FN AN) ++ ((sW oS gS cA FS AS) ++ (pW oP gP cA FP AP)))))) s.heap := hP
  refine lv_aload_n hx hb dX6_fault_0 rfl (lv_at hl 0 rfl) ?_
  refine gz (q0 := 0) (v := .ref oT) fx hK hP fl_X6_10 rfl rfl dX6_fault_1 ?_
  refine lv_aload_n hx hb dX6_fault_4 rfl (lv_at hl 0 rfl) ?_
  refine gz (q0 := 0) (v := .ref oD) fx hK hP fl_X6_23 rfl rfl dX6_fault_5 ?_
  refine caMuV (rest := []) (As := [.ref oD]) (w1 := (xW oX oT oN oD oS oP FX)) (w2 := ((nW oN gN cA FN AN) ++ ((sW oS gS cA FS AS) ++ (pW oP gP cA FP AP)))) fx hK lk_X6_56 (c_X5_readInto l dC dI cA oT gT oD gD FT AT FD AD _ hw) hP hD hS hA 0 rfl rfl ⟨(Nat.le_of_ble_eq_true rfl), (Nat.le_of_ble_eq_true rfl)⟩ rfl hl.1 rfl (Nat.le_of_ble_eq_true rfl) dX6_fault_8 ?_
  intro r_8 u_7 H locs hw hP hD hS
  obtain ⟨FD_5, AD_6⟩ := u_7
  have hP : va_P (dC, dI) vwCl ((xW oX oT oN oD oS oP FX) ++ ((tW oT gT cA FT AT) ++ ((nW oD gD cA FD_5 AD_6) ++ ((nW oN gN cA FN AN) ++ ((sW oS gS cA FS AS) ++ (pW oP gP cA FP AP)))))) H := hP
  have hD : va_D A ((xW oX oT oN oD oS oP FX) ++ ((tW oT gT cA FT AT) ++ ((nW oD gD cA FD_5 AD_6) ++ ((nW oN gN cA FN AN) ++ ((sW oS gS cA FS AS) ++ (pW oP gP cA FP AP)))))) := hD
  try dsimp only at hw
  exact hret _ (FD_5, AD_6) _ _ _ _ dX6_fault_11 rfl hw hP hD hS
set_option maxHeartbeats 4000000 in
set_option maxRecDepth 100000 in
theorem c_X6_takeDraft (l : Launch) (dC : Nat → ClassId) (dI : Nat → Nat → Nat) (cA : ClassId) (oX : Nat) (oT : Nat) (gT : Nat → Nat) (oD : Nat) (gD : Nat → Nat) (oN : Nat) (gN : Nat → Nat) (oS : Nat) (gS : Nat → Nat) (oP : Nat) (gP : Nat → Nat) (FX : Nat → Int32) (FT : Nat → Int32) (AT : Nat → Nat → Int32) (FD : Nat → Int32) (AD : Nat → Nat → Int32) (FN : Nat → Int32) (AN : Nat → Nat → Int32) (FS : Nat → Int32) (AS : Nat → Nat → Int32) (FP : Nat → Int32) (AP : Nat → Nat → Int32) (Post : (Nat → Int32) → (Nat → Int32) → (Nat → Nat → Int32) → (Nat → Int32) → (Nat → Nat → Int32) → (Nat → Int32) → (Nat → Nat → Int32) → Prop) (hw : wp_X6_takeDraft FX FT AT FD AD FN AN FS AS FP AP Post) : MuV (dC, dI) cA l yX6_takeDraft cX6_takeDraft 1 2 44 [.ref oX] ((xW oX oT oN oD oS oP FX) ++ ((tW oT gT cA FT AT) ++ ((nW oD gD cA FD AD) ++ ((nW oN gN cA FN AN) ++ ((sW oS gS cA FS AS) ++ (pW oP gP cA FP AP)))))) (fun (u : (Nat → Int32) × (Nat → Int32) × (Nat → Nat → Int32) × (Nat → Int32) × (Nat → Nat → Int32) × (Nat → Int32) × (Nat → Nat → Int32)) => Post (u.1) (u.2.1) (u.2.2.1) (u.2.2.2.1) (u.2.2.2.2.1) (u.2.2.2.2.2.1) (u.2.2.2.2.2.2)) (fun u => ((xW oX oT oN oD oS oP (u.1)) ++ ((tW oT gT cA FT AT) ++ ((nW oD gD cA FD AD) ++ ((nW oN gN cA (u.2.1) (u.2.2.1)) ++ ((sW oS gS cA (u.2.2.2.1) (u.2.2.2.2.1)) ++ (pW oP gP cA (u.2.2.2.2.2.1) (u.2.2.2.2.2.2)))))))) := by
  refine enMv (by decide) (Nat.le_of_ble_eq_true rfl) ?_
  intro p e s m args below meth c Q ls A fx hK hP hD hS hA hret hl
  obtain ⟨hx, hb, hml, hown, hts⟩ := id fx
  have hl : lv_has ls 1 [(0, .ref oX)] := hl
  have hP : va_P (dC, dI) vwCl ((xW oX oT oN oD oS oP FX) ++ ((tW oT gT cA FT AT) ++ ((nW oD gD cA FD AD) ++ ((nW oN gN cA FN AN) ++ ((sW oS gS cA FS AS) ++ (pW oP gP cA FP AP)))))) s.heap := hP
  refine lv_aload_n hx hb dX6_takeDraft_0 rfl (lv_at hl 0 rfl) ?_
  refine gz (q0 := 0) (v := .ref oN) fx hK hP fl_X6_19 rfl rfl dX6_takeDraft_1 ?_
  refine lv_aload_n hx hb dX6_takeDraft_4 rfl (lv_at hl 0 rfl) ?_
  refine gz (q0 := 0) (v := .ref oD) fx hK hP fl_X6_23 rfl rfl dX6_takeDraft_5 ?_
  refine caMuVv (rest := []) (As := [.ref oD]) (w1 := ((xW oX oT oN oD oS oP FX) ++ (tW oT gT cA FT AT))) (w2 := ((sW oS gS cA FS AS) ++ (pW oP gP cA FP AP))) fx hK lk_X6_75 (c_X1_copyFrom l dC dI cA oD gD oN gN FD AD FN AN _ hw) hP hD hS hA 3 rfl rfl ⟨(Nat.le_of_ble_eq_true rfl), (Nat.le_of_ble_eq_true rfl)⟩ rfl hl.1 rfl (Nat.le_of_ble_eq_true rfl) dX6_takeDraft_8 ?_
  intro u_12 H locs hw hP hD hS
  obtain ⟨FN_10, AN_11⟩ := u_12
  have hP : va_P (dC, dI) vwCl ((xW oX oT oN oD oS oP FX) ++ ((tW oT gT cA FT AT) ++ ((nW oD gD cA FD AD) ++ ((nW oN gN cA FN_10 AN_11) ++ ((sW oS gS cA FS AS) ++ (pW oP gP cA FP AP)))))) H := hP
  have hD : va_D A ((xW oX oT oN oD oS oP FX) ++ ((tW oT gT cA FT AT) ++ ((nW oD gD cA FD AD) ++ ((nW oN gN cA FN_10 AN_11) ++ ((sW oS gS cA FS AS) ++ (pW oP gP cA FP AP)))))) := hD
  try dsimp only at hw
  refine lv_aload_n hx hb dX6_takeDraft_11 rfl (lv_at hl 0 rfl) ?_
  refine lv_aload_n hx hb dX6_takeDraft_12 rfl (lv_at hl 0 rfl) ?_
  refine gz (q0 := 0) (v := .ref oN) fx hK hP fl_X6_19 rfl rfl dX6_takeDraft_13 ?_
  refine gz (q0 := 6) (v := .int (FN_10 5)) fx hK hP fl_X6_79 rfl rfl dX6_takeDraft_16 ?_
  refine pz (q0 := 0) (v := .int (FN_10 5)) fx hK hP hD hS fp_X6_82 rfl rfl rfl (Nat.le_of_ble_eq_true rfl) dX6_takeDraft_19 (fun H locs hP hD hS => ?_)
  have hP : va_P (dC, dI) vwCl ((xW oX oT oN oD oS oP (uF FX 5 (FN_10 5))) ++ ((tW oT gT cA FT AT) ++ ((nW oD gD cA FD AD) ++ ((nW oN gN cA FN_10 AN_11) ++ ((sW oS gS cA FS AS) ++ (pW oP gP cA FP AP)))))) H := hP
  have hD : va_D A ((xW oX oT oN oD oS oP (uF FX 5 (FN_10 5))) ++ ((tW oT gT cA FT AT) ++ ((nW oD gD cA FD AD) ++ ((nW oN gN cA FN_10 AN_11) ++ ((sW oS gS cA FS AS) ++ (pW oP gP cA FP AP)))))) := hD
  refine lv_aload_n hx hb dX6_takeDraft_22 rfl (lv_at hl 0 rfl) ?_
  refine lv_bipush (v := (-4 : Int32)) hx hb dX6_takeDraft_23 (by decide) ?_
  refine pz (q0 := 0) (v := .int (-4 : Int32)) fx hK hP hD hS fp_X6_85 rfl rfl rfl (Nat.le_of_ble_eq_true rfl) dX6_takeDraft_25 (fun H locs hP hD hS => ?_)
  have hP : va_P (dC, dI) vwCl ((xW oX oT oN oD oS oP (uF (uF FX 5 (FN_10 5)) 6 (-4 : Int32))) ++ ((tW oT gT cA FT AT) ++ ((nW oD gD cA FD AD) ++ ((nW oN gN cA FN_10 AN_11) ++ ((sW oS gS cA FS AS) ++ (pW oP gP cA FP AP)))))) H := hP
  have hD : va_D A ((xW oX oT oN oD oS oP (uF (uF FX 5 (FN_10 5)) 6 (-4 : Int32))) ++ ((tW oT gT cA FT AT) ++ ((nW oD gD cA FD AD) ++ ((nW oN gN cA FN_10 AN_11) ++ ((sW oS gS cA FS AS) ++ (pW oP gP cA FP AP)))))) := hD
  refine lv_aload_n hx hb dX6_takeDraft_28 rfl (lv_at hl 0 rfl) ?_
  refine gz (q0 := 0) (v := .ref oP) fx hK hP fl_X6_36 rfl rfl dX6_takeDraft_29 ?_
  refine caMuVv (rest := []) (As := []) (w1 := ((xW oX oT oN oD oS oP (uF (uF FX 5 (FN_10 5)) 6 (-4 : Int32))) ++ ((tW oT gT cA FT AT) ++ ((nW oD gD cA FD AD) ++ ((nW oN gN cA FN_10 AN_11) ++ (sW oS gS cA FS AS)))))) (w2 := ([] : va_W)) fx hK lk_X6_88 (c_X2_clear l dC dI cA oP gP FP AP _ hw) hP hD hS hA 0 rfl rfl ⟨(Nat.le_of_ble_eq_true rfl), (Nat.le_of_ble_eq_true rfl)⟩ rfl hl.1 rfl (Nat.le_of_ble_eq_true rfl) dX6_takeDraft_32 ?_
  intro u_15 H locs hw hP hD hS
  obtain ⟨FP_13, AP_14⟩ := u_15
  have hP : va_P (dC, dI) vwCl ((xW oX oT oN oD oS oP (uF (uF FX 5 (FN_10 5)) 6 (-4 : Int32))) ++ ((tW oT gT cA FT AT) ++ ((nW oD gD cA FD AD) ++ ((nW oN gN cA FN_10 AN_11) ++ ((sW oS gS cA FS AS) ++ (pW oP gP cA FP_13 AP_14)))))) H := hP
  have hD : va_D A ((xW oX oT oN oD oS oP (uF (uF FX 5 (FN_10 5)) 6 (-4 : Int32))) ++ ((tW oT gT cA FT AT) ++ ((nW oD gD cA FD AD) ++ ((nW oN gN cA FN_10 AN_11) ++ ((sW oS gS cA FS AS) ++ (pW oP gP cA FP_13 AP_14)))))) := hD
  try dsimp only at hw
  refine lv_aload_n hx hb dX6_takeDraft_35 rfl (lv_at hl 0 rfl) ?_
  refine gz (q0 := 0) (v := .ref oS) fx hK hP fl_X6_29 rfl rfl dX6_takeDraft_36 ?_
  refine caMuVv (rest := []) (As := []) (w1 := ((xW oX oT oN oD oS oP (uF (uF FX 5 (FN_10 5)) 6 (-4 : Int32))) ++ ((tW oT gT cA FT AT) ++ ((nW oD gD cA FD AD) ++ (nW oN gN cA FN_10 AN_11))))) (w2 := (pW oP gP cA FP_13 AP_14)) fx hK lk_X6_89 (c_X4_forget l dC dI cA oS gS FS AS _ hw) hP hD hS hA 0 rfl rfl ⟨(Nat.le_of_ble_eq_true rfl), (Nat.le_of_ble_eq_true rfl)⟩ rfl hl.1 rfl (Nat.le_of_ble_eq_true rfl) dX6_takeDraft_39 ?_
  intro u_18 H locs hw hP hD hS
  obtain ⟨FS_16, AS_17⟩ := u_18
  have hP : va_P (dC, dI) vwCl ((xW oX oT oN oD oS oP (uF (uF FX 5 (FN_10 5)) 6 (-4 : Int32))) ++ ((tW oT gT cA FT AT) ++ ((nW oD gD cA FD AD) ++ ((nW oN gN cA FN_10 AN_11) ++ ((sW oS gS cA FS_16 AS_17) ++ (pW oP gP cA FP_13 AP_14)))))) H := hP
  have hD : va_D A ((xW oX oT oN oD oS oP (uF (uF FX 5 (FN_10 5)) 6 (-4 : Int32))) ++ ((tW oT gT cA FT AT) ++ ((nW oD gD cA FD AD) ++ ((nW oN gN cA FN_10 AN_11) ++ ((sW oS gS cA FS_16 AS_17) ++ (pW oP gP cA FP_13 AP_14)))))) := hD
  try dsimp only at hw
  exact hret ((uF (uF FX 5 (FN_10 5)) 6 (-4 : Int32)), FN_10, AN_11, FS_16, AS_17, FP_13, AP_14) _ _ _ _ dX6_takeDraft_42 hw hP hD hS
set_option maxHeartbeats 4000000 in
set_option maxRecDepth 100000 in
theorem c_X6_lay (l : Launch) (dC : Nat → ClassId) (dI : Nat → Nat → Nat) (cA : ClassId) (oX : Nat) (oT : Nat) (gT : Nat → Nat) (oD : Nat) (gD : Nat → Nat) (oN : Nat) (gN : Nat → Nat) (oS : Nat) (gS : Nat → Nat) (oP : Nat) (gP : Nat → Nat) (FX : Nat → Int32) (FT : Nat → Int32) (AT : Nat → Nat → Int32) (FD : Nat → Int32) (AD : Nat → Nat → Int32) (FN : Nat → Int32) (AN : Nat → Nat → Int32) (FS : Nat → Int32) (AS : Nat → Nat → Int32) (FP : Nat → Int32) (AP : Nat → Nat → Int32) (Post : Int32 → (Nat → Int32) → (Nat → Int32) → (Nat → Nat → Int32) → (Nat → Int32) → (Nat → Nat → Int32) → (Nat → Int32) → (Nat → Nat → Int32) → (Nat → Int32) → (Nat → Nat → Int32) → Prop) (hw : wp_X6_lay FX FT AT FD AD FN AN FS AS FP AP Post) : MuI (dC, dI) cA l yX6_lay cX6_lay 1 .int 5 115 [.ref oX] ((xW oX oT oN oD oS oP FX) ++ ((tW oT gT cA FT AT) ++ ((nW oD gD cA FD AD) ++ ((nW oN gN cA FN AN) ++ ((sW oS gS cA FS AS) ++ (pW oP gP cA FP AP)))))) (fun r (u : (Nat → Int32) × (Nat → Int32) × (Nat → Nat → Int32) × (Nat → Int32) × (Nat → Nat → Int32) × (Nat → Int32) × (Nat → Nat → Int32) × (Nat → Int32) × (Nat → Nat → Int32)) => Post r (u.1) (u.2.1) (u.2.2.1) (u.2.2.2.1) (u.2.2.2.2.1) (u.2.2.2.2.2.1) (u.2.2.2.2.2.2.1) (u.2.2.2.2.2.2.2.1) (u.2.2.2.2.2.2.2.2)) (fun u => ((xW oX oT oN oD oS oP (u.1)) ++ ((tW oT gT cA FT AT) ++ ((nW oD gD cA (u.2.1) (u.2.2.1)) ++ ((nW oN gN cA (u.2.2.2.1) (u.2.2.2.2.1)) ++ ((sW oS gS cA (u.2.2.2.2.2.1) (u.2.2.2.2.2.2.1)) ++ (pW oP gP cA (u.2.2.2.2.2.2.2.1) (u.2.2.2.2.2.2.2.2)))))))) := by
  refine enMu (by decide) (Nat.le_of_ble_eq_true rfl) ?_
  intro p e s m args below meth c Q ls A fx hK hP hD hS hA hret hl
  obtain ⟨hx, hb, hml, hown, hts⟩ := id fx
  have hl : lv_has ls 1 [(0, .ref oX)] := hl
  have hP : va_P (dC, dI) vwCl ((xW oX oT oN oD oS oP FX) ++ ((tW oT gT cA FT AT) ++ ((nW oD gD cA FD AD) ++ ((nW oN gN cA FN AN) ++ ((sW oS gS cA FS AS) ++ (pW oP gP cA FP AP)))))) s.heap := hP
  refine lv_aload_n hx hb dX6_lay_0 rfl (lv_at hl 0 rfl) ?_
  refine gz (q0 := 0) (v := .ref oT) fx hK hP fl_X6_10 rfl rfl dX6_lay_1 ?_
  refine caRoV (rest := []) (As := []) fx hK lk_X6_66 (c_X5_length l dC dI cA oT gT FT AT _ hw) (hP.sub [1, 2] rfl) 0 rfl rfl ⟨(Nat.le_of_ble_eq_true rfl), (Nat.le_of_ble_eq_true rfl)⟩ rfl hl.1 rfl (Nat.le_of_ble_eq_true rfl) dX6_lay_4 ?_
  intro r_18 hw
  refine lv_if_eq (tgt := 36) hx hb dX6_lay_7 (by decide) (fun c_19 => ?_) (fun c_19 => ?_)
  · have hw := hw.1 c_19
    refine lv_bipush (v := (-2 : Int32)) hx hb dX6_lay_36 (by decide) ?_
    exact hret _ (FX, FD, AD, FN, AN, FS, AS, FP, AP) _ _ _ _ dX6_lay_38 rfl hw hP hD hS
  · have hw := hw.2 c_19
    refine lv_aload_n hx hb dX6_lay_10 rfl (lv_at hl 0 rfl) ?_
    refine gz (q0 := 0) (v := .ref oT) fx hK hP fl_X6_10 rfl rfl dX6_lay_11 ?_
    refine lv_aload_n hx hb dX6_lay_14 rfl (lv_at hl 0 rfl) ?_
    refine gz (q0 := 0) (v := .ref oD) fx hK hP fl_X6_23 rfl rfl dX6_lay_15 ?_
    refine caMuV (rest := []) (As := [.ref oD]) (w1 := (xW oX oT oN oD oS oP FX)) (w2 := ((nW oN gN cA FN AN) ++ ((sW oS gS cA FS AS) ++ (pW oP gP cA FP AP)))) fx hK lk_X6_56 (c_X5_readInto l dC dI cA oT gT oD gD FT AT FD AD _ hw) hP hD hS hA 0 rfl rfl ⟨(Nat.le_of_ble_eq_true rfl), (Nat.le_of_ble_eq_true rfl)⟩ rfl hl.1 rfl (Nat.le_of_ble_eq_true rfl) dX6_lay_18 ?_
    intro r_23 u_22 H locs hw hP hD hS
    obtain ⟨FD_20, AD_21⟩ := u_22
    have hP : va_P (dC, dI) vwCl ((xW oX oT oN oD oS oP FX) ++ ((tW oT gT cA FT AT) ++ ((nW oD gD cA FD_20 AD_21) ++ ((nW oN gN cA FN AN) ++ ((sW oS gS cA FS AS) ++ (pW oP gP cA FP AP)))))) H := hP
    have hD : va_D A ((xW oX oT oN oD oS oP FX) ++ ((tW oT gT cA FT AT) ++ ((nW oD gD cA FD_20 AD_21) ++ ((nW oN gN cA FN AN) ++ ((sW oS gS cA FS AS) ++ (pW oP gP cA FP AP)))))) := hD
    try dsimp only at hw
    refine lv_bipush (v := (-4 : Int32)) hx hb dX6_lay_21 (by decide) ?_
    refine lv_icmp_ne (tgt := 36) hx hb dX6_lay_23 (by decide) (fun c_24 => ?_) (fun c_24 => ?_)
    · have hw := hw.1 c_24
      refine lv_bipush (v := (-2 : Int32)) hx hb dX6_lay_36 (by decide) ?_
      exact hret _ (FX, FD_20, AD_21, FN, AN, FS, AS, FP, AP) _ _ _ _ dX6_lay_38 rfl hw hP hD hS
    · have hw := hw.2 c_24
      refine lv_aload_n hx hb dX6_lay_26 rfl (lv_at hl 0 rfl) ?_
      refine gz (q0 := 0) (v := .ref oD) fx hK hP fl_X6_23 rfl rfl dX6_lay_27 ?_
      refine caRoV (rest := []) (As := []) fx hK lk_X6_67 (c_X1_hasColoursEnough l dC dI cA oD gD FD_20 AD_21 _ hw) (hP.sub [3, 4, 5] rfl) 0 rfl rfl ⟨(Nat.le_of_ble_eq_true rfl), (Nat.le_of_ble_eq_true rfl)⟩ rfl hl.1 rfl (Nat.le_of_ble_eq_true rfl) dX6_lay_30 ?_
      intro r_25 hw
      refine lv_if_ne (tgt := 39) hx hb dX6_lay_33 (by decide) (fun c_26 => ?_) (fun c_26 => ?_)
      · have hw := hw.1 c_26
        refine lv_aload_n hx hb dX6_lay_39 rfl (lv_at hl 0 rfl) ?_
        refine caMuVv (rest := []) (As := []) (w1 := ([] : va_W)) (w2 := ([] : va_W)) fx hK lk_X6_60 (c_X6_takeDraft l dC dI cA oX oT gT oD gD oN gN oS gS oP gP FX FT AT FD_20 AD_21 FN AN FS AS FP AP _ hw) hP hD hS hA 0 rfl rfl ⟨(Nat.le_of_ble_eq_true rfl), (Nat.le_of_ble_eq_true rfl)⟩ rfl hl.1 rfl (Nat.le_of_ble_eq_true rfl) dX6_lay_40 ?_
        intro u_34 H locs hw hP hD hS
        obtain ⟨FX_27, FN_28, AN_29, FS_30, AS_31, FP_32, AP_33⟩ := u_34
        have hP : va_P (dC, dI) vwCl ((xW oX oT oN oD oS oP FX_27) ++ ((tW oT gT cA FT AT) ++ ((nW oD gD cA FD_20 AD_21) ++ ((nW oN gN cA FN_28 AN_29) ++ ((sW oS gS cA FS_30 AS_31) ++ (pW oP gP cA FP_32 AP_33)))))) H := hP
        have hD : va_D A ((xW oX oT oN oD oS oP FX_27) ++ ((tW oT gT cA FT AT) ++ ((nW oD gD cA FD_20 AD_21) ++ ((nW oN gN cA FN_28 AN_29) ++ ((sW oS gS cA FS_30 AS_31) ++ (pW oP gP cA FP_32 AP_33)))))) := hD
        try dsimp only at hw
        refine lv_aload_n hx hb dX6_lay_43 rfl (lv_at hl 0 rfl) ?_
        refine gz (q0 := 0) (v := .ref oN) fx hK hP fl_X6_19 rfl rfl dX6_lay_44 ?_
        refine gz (q0 := 6) (v := .int (FN_28 3)) fx hK hP fl_X6_71 rfl rfl dX6_lay_47 ?_
        exact hret _ (FX_27, FD_20, AD_21, FN_28, AN_29, FS_30, AS_31, FP_32, AP_33) _ _ _ _ dX6_lay_50 rfl hw hP hD hS
      · have hw := hw.2 c_26
        refine lv_bipush (v := (-2 : Int32)) hx hb dX6_lay_36 (by decide) ?_
        exact hret _ (FX, FD_20, AD_21, FN, AN, FS, AS, FP, AP) _ _ _ _ dX6_lay_38 rfl hw hP hD hS
set_option maxHeartbeats 4000000 in
set_option maxRecDepth 100000 in
theorem c_X6_value (l : Launch) (dC : Nat → ClassId) (dI : Nat → Nat → Nat) (cA : ClassId) (oX : Nat) (oT : Nat) (gT : Nat → Nat) (oD : Nat) (gD : Nat → Nat) (oN : Nat) (gN : Nat → Nat) (oS : Nat) (gS : Nat → Nat) (oP : Nat) (gP : Nat → Nat) (FX : Nat → Int32) (FT : Nat → Int32) (AT : Nat → Nat → Int32) (FD : Nat → Int32) (AD : Nat → Nat → Int32) (FN : Nat → Int32) (AN : Nat → Nat → Int32) (FS : Nat → Int32) (AS : Nat → Nat → Int32) (FP : Nat → Int32) (AP : Nat → Nat → Int32) (x1 : Int32) (Post : Int32 → Prop) (hw : wp_X6_value FX FT AT FD AD FN AN FS AS FP AP x1 Post) : RoI (dC, dI) cA l yX6_value cX6_value 2 .int 1 22 [.ref oX, .int x1] ((xW oX oT oN oD oS oP FX) ++ ((tW oT gT cA FT AT) ++ ((nW oD gD cA FD AD) ++ ((nW oN gN cA FN AN) ++ ((sW oS gS cA FS AS) ++ (pW oP gP cA FP AP)))))) Post := by
  refine enRo (by decide) (Nat.le_of_ble_eq_true rfl) ?_
  intro p e s m args below meth c Q ls fx hK hP hret hl
  obtain ⟨hx, hb, hml, hown, hts⟩ := id fx
  have hl : lv_has ls 2 [(0, .ref oX), (1, .int x1)] := hl
  refine lv_aload_n hx hb dX6_value_0 rfl (lv_at hl 0 rfl) ?_
  refine gz (q0 := 0) (v := .ref oN) fx hK hP fl_X6_19 rfl rfl dX6_value_1 ?_
  refine lv_iload_n hx hb dX6_value_4 rfl (lv_at hl 1 rfl) ?_
  refine caRoV (rest := []) (As := [.int x1]) fx hK lk_X6_92 (c_X1_hasMachine l dC dI cA oN gN FN AN x1 _ hw) (hP.sub [6, 7, 8] rfl) 0 rfl rfl ⟨(Nat.le_of_ble_eq_true rfl), (Nat.le_of_ble_eq_true rfl)⟩ rfl hl.1 rfl (Nat.le_of_ble_eq_true rfl) dX6_value_5 ?_
  intro r_4 hw
  refine lv_if_eq (tgt := 26) hx hb dX6_value_8 (by decide) (fun c_5 => ?_) (fun c_5 => ?_)
  · have hw := hw.1 c_5
    refine lv_iconst (v := (-1 : Int32)) hx hb dX6_value_26 (by decide) ?_
    exact hret _ _ _ dX6_value_27 rfl hw
  · have hw := hw.2 c_5
    refine lv_aload_n hx hb dX6_value_11 rfl (lv_at hl 0 rfl) ?_
    refine gz (q0 := 0) (v := .ref oN) fx hK hP fl_X6_19 rfl rfl dX6_value_12 ?_
    refine lv_aload_n hx hb dX6_value_15 rfl (lv_at hl 0 rfl) ?_
    refine gz (q0 := 0) (v := .int (FX 5)) fx hK hP fl_X6_82 rfl rfl dX6_value_16 ?_
    refine lv_iload_n hx hb dX6_value_19 rfl (lv_at hl 1 rfl) ?_
    refine caRoV (rest := []) (As := [.int (FX 5), .int x1]) fx hK lk_X6_95 (c_X1_valueAt l dC dI cA oN gN FN AN (FX 5) x1 _ hw) (hP.sub [6, 7, 8] rfl) 0 rfl rfl ⟨(Nat.le_of_ble_eq_true rfl), (Nat.le_of_ble_eq_true rfl)⟩ rfl hl.1 rfl (Nat.le_of_ble_eq_true rfl) dX6_value_20 ?_
    intro r_6 hw
    refine lv_goto (tgt := 27) hx hb dX6_value_23 (by decide) ?_
    exact hret _ _ _ dX6_value_27 rfl hw
set_option maxHeartbeats 4000000 in
set_option maxRecDepth 100000 in
theorem c_X6_change (l : Launch) (dC : Nat → ClassId) (dI : Nat → Nat → Nat) (cA : ClassId) (oX : Nat) (oT : Nat) (gT : Nat → Nat) (oD : Nat) (gD : Nat → Nat) (oN : Nat) (gN : Nat → Nat) (oS : Nat) (gS : Nat → Nat) (oP : Nat) (gP : Nat → Nat) (FX : Nat → Int32) (FT : Nat → Int32) (AT : Nat → Nat → Int32) (FD : Nat → Int32) (AD : Nat → Nat → Int32) (FN : Nat → Int32) (AN : Nat → Nat → Int32) (FS : Nat → Int32) (AS : Nat → Nat → Int32) (FP : Nat → Int32) (AP : Nat → Nat → Int32) (x1 : Int32) (Post : (Nat → Int32) → (Nat → Int32) → (Nat → Nat → Int32) → Prop) (hw : wp_X6_change FX FT AT FD AD FN AN FS AS FP AP x1 Post) : MuV (dC, dI) cA l yX6_change cX6_change 2 3 65 [.ref oX, .int x1] ((xW oX oT oN oD oS oP FX) ++ ((tW oT gT cA FT AT) ++ ((nW oD gD cA FD AD) ++ ((nW oN gN cA FN AN) ++ ((sW oS gS cA FS AS) ++ (pW oP gP cA FP AP)))))) (fun (u : (Nat → Int32) × (Nat → Int32) × (Nat → Nat → Int32)) => Post (u.1) (u.2.1) (u.2.2)) (fun u => ((xW oX oT oN oD oS oP (u.1)) ++ ((tW oT gT cA FT AT) ++ ((nW oD gD cA FD AD) ++ ((nW oN gN cA FN AN) ++ ((sW oS gS cA FS AS) ++ (pW oP gP cA (u.2.1) (u.2.2)))))))) := by
  refine enMv (by decide) (Nat.le_of_ble_eq_true rfl) ?_
  intro p e s m args below meth c Q ls A fx hK hP hD hS hA hret hl
  obtain ⟨hx, hb, hml, hown, hts⟩ := id fx
  have hl : lv_has ls 2 [(0, .ref oX), (1, .int x1)] := hl
  have hP : va_P (dC, dI) vwCl ((xW oX oT oN oD oS oP FX) ++ ((tW oT gT cA FT AT) ++ ((nW oD gD cA FD AD) ++ ((nW oN gN cA FN AN) ++ ((sW oS gS cA FS AS) ++ (pW oP gP cA FP AP)))))) s.heap := hP
  refine lv_aload_n hx hb dX6_change_0 rfl (lv_at hl 0 rfl) ?_
  refine gz (q0 := 0) (v := .ref oP) fx hK hP fl_X6_36 rfl rfl dX6_change_1 ?_
  refine lv_aload_n hx hb dX6_change_4 rfl (lv_at hl 0 rfl) ?_
  refine gz (q0 := 0) (v := .int (FX 5)) fx hK hP fl_X6_82 rfl rfl dX6_change_5 ?_
  refine lv_aload_n hx hb dX6_change_8 rfl (lv_at hl 0 rfl) ?_
  refine gz (q0 := 0) (v := .int (FX 6)) fx hK hP fl_X6_85 rfl rfl dX6_change_9 ?_
  refine caMuVv (rest := []) (As := [.int (FX 5), .int (FX 6)]) (w1 := ((xW oX oT oN oD oS oP FX) ++ ((tW oT gT cA FT AT) ++ ((nW oD gD cA FD AD) ++ ((nW oN gN cA FN AN) ++ (sW oS gS cA FS AS)))))) (w2 := ([] : va_W)) fx hK lk_X6_151 (c_X2_keep l dC dI cA oP gP FP AP (FX 5) (FX 6) _ hw) hP hD hS hA 0 rfl rfl ⟨(Nat.le_of_ble_eq_true rfl), (Nat.le_of_ble_eq_true rfl)⟩ rfl hl.1 rfl (Nat.le_of_ble_eq_true rfl) dX6_change_12 ?_
  intro u_6 H locs hw hP hD hS
  obtain ⟨FP_4, AP_5⟩ := u_6
  have hP : va_P (dC, dI) vwCl ((xW oX oT oN oD oS oP FX) ++ ((tW oT gT cA FT AT) ++ ((nW oD gD cA FD AD) ++ ((nW oN gN cA FN AN) ++ ((sW oS gS cA FS AS) ++ (pW oP gP cA FP_4 AP_5)))))) H := hP
  have hD : va_D A ((xW oX oT oN oD oS oP FX) ++ ((tW oT gT cA FT AT) ++ ((nW oD gD cA FD AD) ++ ((nW oN gN cA FN AN) ++ ((sW oS gS cA FS AS) ++ (pW oP gP cA FP_4 AP_5)))))) := hD
  try dsimp only at hw
  refine lv_aload_n hx hb dX6_change_15 rfl (lv_at hl 0 rfl) ?_
  refine lv_iload_n hx hb dX6_change_16 rfl (lv_at hl 1 rfl) ?_
  refine pz (q0 := 0) (v := .int x1) fx hK hP hD hS fp_X6_82 rfl rfl rfl (Nat.le_of_ble_eq_true rfl) dX6_change_17 (fun H locs hP hD hS => ?_)
  have hP : va_P (dC, dI) vwCl ((xW oX oT oN oD oS oP (uF FX 5 x1)) ++ ((tW oT gT cA FT AT) ++ ((nW oD gD cA FD AD) ++ ((nW oN gN cA FN AN) ++ ((sW oS gS cA FS AS) ++ (pW oP gP cA FP_4 AP_5)))))) H := hP
  have hD : va_D A ((xW oX oT oN oD oS oP (uF FX 5 x1)) ++ ((tW oT gT cA FT AT) ++ ((nW oD gD cA FD AD) ++ ((nW oN gN cA FN AN) ++ ((sW oS gS cA FS AS) ++ (pW oP gP cA FP_4 AP_5)))))) := hD
  exact hret ((uF FX 5 x1), FP_4, AP_5) _ _ _ _ dX6_change_20 hw hP hD hS
set_option maxHeartbeats 4000000 in
set_option maxRecDepth 100000 in
theorem c_X6_hit (l : Launch) (dC : Nat → ClassId) (dI : Nat → Nat → Nat) (cA : ClassId) (oX : Nat) (oT : Nat) (gT : Nat → Nat) (oD : Nat) (gD : Nat → Nat) (oN : Nat) (gN : Nat → Nat) (oS : Nat) (gS : Nat → Nat) (oP : Nat) (gP : Nat → Nat) (FX : Nat → Int32) (FT : Nat → Int32) (AT : Nat → Nat → Int32) (FD : Nat → Int32) (AD : Nat → Nat → Int32) (FN : Nat → Int32) (AN : Nat → Nat → Int32) (FS : Nat → Int32) (AS : Nat → Nat → Int32) (FP : Nat → Int32) (AP : Nat → Nat → Int32) (x1 : Int32) (x2 : Int32) (Post : Int32 → (Nat → Int32) → (Nat → Int32) → (Nat → Nat → Int32) → Prop) (hw : wp_X6_hit FX FT AT FD AD FN AN FS AS FP AP x1 x2 Post) : MuI (dC, dI) cA l yX6_hit cX6_hit 4 .int 4 86 [.ref oX, .int x1, .int x2] ((xW oX oT oN oD oS oP FX) ++ ((tW oT gT cA FT AT) ++ ((nW oD gD cA FD AD) ++ ((nW oN gN cA FN AN) ++ ((sW oS gS cA FS AS) ++ (pW oP gP cA FP AP)))))) (fun r (u : (Nat → Int32) × (Nat → Int32) × (Nat → Nat → Int32)) => Post r (u.1) (u.2.1) (u.2.2)) (fun u => ((xW oX oT oN oD oS oP (u.1)) ++ ((tW oT gT cA FT AT) ++ ((nW oD gD cA FD AD) ++ ((nW oN gN cA FN AN) ++ ((sW oS gS cA FS AS) ++ (pW oP gP cA (u.2.1) (u.2.2)))))))) := by
  refine enMu (by decide) (Nat.le_of_ble_eq_true rfl) ?_
  intro p e s m args below meth c Q ls A fx hK hP hD hS hA hret hl
  obtain ⟨hx, hb, hml, hown, hts⟩ := id fx
  have hl : lv_has ls 4 [(0, .ref oX), (1, .int x1), (2, .int x2)] := hl
  have hP : va_P (dC, dI) vwCl ((xW oX oT oN oD oS oP FX) ++ ((tW oT gT cA FT AT) ++ ((nW oD gD cA FD AD) ++ ((nW oN gN cA FN AN) ++ ((sW oS gS cA FS AS) ++ (pW oP gP cA FP AP)))))) s.heap := hP
  refine lv_aload_n hx hb dX6_hit_0 rfl (lv_at hl 0 rfl) ?_
  refine gz (q0 := 0) (v := .ref oN) fx hK hP fl_X6_19 rfl rfl dX6_hit_1 ?_
  refine lv_iload_n hx hb dX6_hit_4 rfl (lv_at hl 1 rfl) ?_
  refine caRoV (rest := []) (As := [.int x1]) fx hK lk_X6_92 (c_X1_hasMachine l dC dI cA oN gN FN AN x1 _ hw) (hP.sub [6, 7, 8] rfl) 0 rfl rfl ⟨(Nat.le_of_ble_eq_true rfl), (Nat.le_of_ble_eq_true rfl)⟩ rfl hl.1 rfl (Nat.le_of_ble_eq_true rfl) dX6_hit_5 ?_
  intro r_12 hw
  refine lv_if_eq (tgt := 22) hx hb dX6_hit_8 (by decide) (fun c_13 => ?_) (fun c_13 => ?_)
  · have hw := hw.1 c_13
    refine lv_iconst (v := (-1 : Int32)) hx hb dX6_hit_22 (by decide) ?_
    exact hret _ (FX, FP, AP) _ _ _ _ dX6_hit_23 rfl hw hP hD hS
  · have hw := hw.2 c_13
    refine lv_aload_n hx hb dX6_hit_11 rfl (lv_at hl 0 rfl) ?_
    refine gz (q0 := 0) (v := .ref oN) fx hK hP fl_X6_19 rfl rfl dX6_hit_12 ?_
    refine lv_iload_n hx hb dX6_hit_15 rfl (lv_at hl 2 rfl) ?_
    refine caRoV (rest := []) (As := [.int x2]) fx hK lk_X6_99 (c_X1_hasValue l dC dI cA oN gN FN AN x2 _ hw) (hP.sub [6, 7, 8] rfl) 0 rfl rfl ⟨(Nat.le_of_ble_eq_true rfl), (Nat.le_of_ble_eq_true rfl)⟩ rfl hl.1 rfl (Nat.le_of_ble_eq_true rfl) dX6_hit_16 ?_
    intro r_14 hw
    refine lv_if_ne (tgt := 24) hx hb dX6_hit_19 (by decide) (fun c_15 => ?_) (fun c_15 => ?_)
    · have hw := hw.1 c_15
      refine lv_aload_n hx hb dX6_hit_24 rfl (lv_at hl 0 rfl) ?_
      refine gz (q0 := 0) (v := .ref oN) fx hK hP fl_X6_19 rfl rfl dX6_hit_25 ?_
      refine lv_aload_n hx hb dX6_hit_28 rfl (lv_at hl 0 rfl) ?_
      refine gz (q0 := 0) (v := .int (FX 5)) fx hK hP fl_X6_82 rfl rfl dX6_hit_29 ?_
      refine lv_iload_n hx hb dX6_hit_32 rfl (lv_at hl 1 rfl) ?_
      refine caRoV (rest := []) (As := [.int (FX 5), .int x1]) fx hK lk_X6_95 (c_X1_valueAt l dC dI cA oN gN FN AN (FX 5) x1 _ hw) (hP.sub [6, 7, 8] rfl) 0 rfl rfl ⟨(Nat.le_of_ble_eq_true rfl), (Nat.le_of_ble_eq_true rfl)⟩ rfl hl.1 rfl (Nat.le_of_ble_eq_true rfl) dX6_hit_33 ?_
      intro r_16 hw
      refine lv_istore_n (lv' := [(3, .int r_16), (0, .ref oX), (1, .int x1), (2, .int x2)]) hx hb dX6_hit_36 rfl hl (by decide) rfl (fun ls hl => ?_)
      refine lv_iload_n hx hb dX6_hit_37 rfl (lv_at hl 0 rfl) ?_
      refine lv_iload_n hx hb dX6_hit_38 rfl (lv_at hl 3 rfl) ?_
      refine lv_icmp_ne (tgt := 45) hx hb dX6_hit_39 (by decide) (fun c_17 => ?_) (fun c_17 => ?_)
      · have hw := hw.1 c_17
        refine lv_aload_n hx hb dX6_hit_45 rfl (lv_at hl 1 rfl) ?_
        refine lv_aload_n hx hb dX6_hit_46 rfl (lv_at hl 1 rfl) ?_
        refine gz (q0 := 0) (v := .ref oN) fx hK hP fl_X6_19 rfl rfl dX6_hit_47 ?_
        refine lv_aload_n hx hb dX6_hit_50 rfl (lv_at hl 1 rfl) ?_
        refine gz (q0 := 0) (v := .int (FX 5)) fx hK hP fl_X6_82 rfl rfl dX6_hit_51 ?_
        refine lv_iload_n hx hb dX6_hit_54 rfl (lv_at hl 2 rfl) ?_
        refine lv_iload_n hx hb dX6_hit_55 rfl (lv_at hl 3 rfl) ?_
        refine caRoV (rest := [.ref oX]) (As := [.int (FX 5), .int x1, .int x2]) fx hK lk_X6_102 (c_X1_withValue l dC dI cA oN gN FN AN (FX 5) x1 x2 _ hw) (hP.sub [6, 7, 8] rfl) 0 rfl rfl ⟨(Nat.le_of_ble_eq_true rfl), (Nat.le_of_ble_eq_true rfl)⟩ rfl hl.1 rfl (Nat.le_of_ble_eq_true rfl) dX6_hit_56 ?_
        intro r_18 hw
        refine caMuVv (rest := []) (As := [.int r_18]) (w1 := ([] : va_W)) (w2 := ([] : va_W)) fx hK lk_X6_106 (c_X6_change l dC dI cA oX oT gT oD gD oN gN oS gS oP gP FX FT AT FD AD FN AN FS AS FP AP r_18 _ hw) hP hD hS hA 0 rfl rfl ⟨(Nat.le_of_ble_eq_true rfl), (Nat.le_of_ble_eq_true rfl)⟩ rfl hl.1 rfl (Nat.le_of_ble_eq_true rfl) dX6_hit_59 ?_
        intro u_22 H locs hw hP hD hS
        obtain ⟨FX_19, FP_20, AP_21⟩ := u_22
        have hP : va_P (dC, dI) vwCl ((xW oX oT oN oD oS oP FX_19) ++ ((tW oT gT cA FT AT) ++ ((nW oD gD cA FD AD) ++ ((nW oN gN cA FN AN) ++ ((sW oS gS cA FS AS) ++ (pW oP gP cA FP_20 AP_21)))))) H := hP
        have hD : va_D A ((xW oX oT oN oD oS oP FX_19) ++ ((tW oT gT cA FT AT) ++ ((nW oD gD cA FD AD) ++ ((nW oN gN cA FN AN) ++ ((sW oS gS cA FS AS) ++ (pW oP gP cA FP_20 AP_21)))))) := hD
        try dsimp only at hw
        refine lv_iload_n hx hb dX6_hit_62 rfl (lv_at hl 0 rfl) ?_
        exact hret _ (FX_19, FP_20, AP_21) _ _ _ _ dX6_hit_63 rfl hw hP hD hS
      · have hw := hw.2 c_17
        refine lv_bipush (v := (-2 : Int32)) hx hb dX6_hit_42 (by decide) ?_
        exact hret _ (FX, FP, AP) _ _ _ _ dX6_hit_44 rfl hw hP hD hS
    · have hw := hw.2 c_15
      refine lv_iconst (v := (-1 : Int32)) hx hb dX6_hit_22 (by decide) ?_
      exact hret _ (FX, FP, AP) _ _ _ _ dX6_hit_23 rfl hw hP hD hS
set_option maxHeartbeats 4000000 in
set_option maxRecDepth 100000 in
theorem c_X6_code (l : Launch) (dC : Nat → ClassId) (dI : Nat → Nat → Nat) (cA : ClassId) (oX : Nat) (oT : Nat) (gT : Nat → Nat) (oD : Nat) (gD : Nat → Nat) (oN : Nat) (gN : Nat → Nat) (oS : Nat) (gS : Nat → Nat) (oP : Nat) (gP : Nat → Nat) (FX : Nat → Int32) (FT : Nat → Int32) (AT : Nat → Nat → Int32) (FD : Nat → Int32) (AD : Nat → Nat → Int32) (FN : Nat → Int32) (AN : Nat → Nat → Int32) (FS : Nat → Int32) (AS : Nat → Nat → Int32) (FP : Nat → Int32) (AP : Nat → Nat → Int32) (Post : Int32 → Prop) (hw : wp_X6_code FX FT AT FD AD FN AN FS AS FP AP Post) : RoI (dC, dI) cA l yX6_code cX6_code 1 .int 0 0 [.ref oX] ((xW oX oT oN oD oS oP FX) ++ ((tW oT gT cA FT AT) ++ ((nW oD gD cA FD AD) ++ ((nW oN gN cA FN AN) ++ ((sW oS gS cA FS AS) ++ (pW oP gP cA FP AP)))))) Post := by
  refine enRo (by decide) (Nat.le_of_ble_eq_true rfl) ?_
  intro p e s m args below meth c Q ls fx hK hP hret hl
  obtain ⟨hx, hb, hml, hown, hts⟩ := id fx
  have hl : lv_has ls 1 [(0, .ref oX)] := hl
  refine lv_aload_n hx hb dX6_code_0 rfl (lv_at hl 0 rfl) ?_
  refine gz (q0 := 0) (v := .int (FX 5)) fx hK hP fl_X6_82 rfl rfl dX6_code_1 ?_
  exact hret _ _ _ dX6_code_4 rfl hw
set_option maxHeartbeats 4000000 in
set_option maxRecDepth 100000 in
theorem c_X6_turn (l : Launch) (dC : Nat → ClassId) (dI : Nat → Nat → Nat) (cA : ClassId) (oX : Nat) (oT : Nat) (gT : Nat → Nat) (oD : Nat) (gD : Nat → Nat) (oN : Nat) (gN : Nat → Nat) (oS : Nat) (gS : Nat → Nat) (oP : Nat) (gP : Nat → Nat) (FX : Nat → Int32) (FT : Nat → Int32) (AT : Nat → Nat → Int32) (FD : Nat → Int32) (AD : Nat → Nat → Int32) (FN : Nat → Int32) (AN : Nat → Nat → Int32) (FS : Nat → Int32) (AS : Nat → Nat → Int32) (FP : Nat → Int32) (AP : Nat → Nat → Int32) (x1 : Int32) (Post : Int32 → (Nat → Int32) → (Nat → Int32) → (Nat → Nat → Int32) → Prop) (hw : wp_X6_turn FX FT AT FD AD FN AN FS AS FP AP x1 Post) : MuI (dC, dI) cA l yX6_turn cX6_turn 3 .int 4 86 [.ref oX, .int x1] ((xW oX oT oN oD oS oP FX) ++ ((tW oT gT cA FT AT) ++ ((nW oD gD cA FD AD) ++ ((nW oN gN cA FN AN) ++ ((sW oS gS cA FS AS) ++ (pW oP gP cA FP AP)))))) (fun r (u : (Nat → Int32) × (Nat → Int32) × (Nat → Nat → Int32)) => Post r (u.1) (u.2.1) (u.2.2)) (fun u => ((xW oX oT oN oD oS oP (u.1)) ++ ((tW oT gT cA FT AT) ++ ((nW oD gD cA FD AD) ++ ((nW oN gN cA FN AN) ++ ((sW oS gS cA FS AS) ++ (pW oP gP cA (u.2.1) (u.2.2)))))))) := by
  refine enMu (by decide) (Nat.le_of_ble_eq_true rfl) ?_
  intro p e s m args below meth c Q ls A fx hK hP hD hS hA hret hl
  obtain ⟨hx, hb, hml, hown, hts⟩ := id fx
  have hl : lv_has ls 3 [(0, .ref oX), (1, .int x1)] := hl
  have hP : va_P (dC, dI) vwCl ((xW oX oT oN oD oS oP FX) ++ ((tW oT gT cA FT AT) ++ ((nW oD gD cA FD AD) ++ ((nW oN gN cA FN AN) ++ ((sW oS gS cA FS AS) ++ (pW oP gP cA FP AP)))))) s.heap := hP
  refine lv_aload_n hx hb dX6_turn_0 rfl (lv_at hl 0 rfl) ?_
  refine gz (q0 := 0) (v := .ref oN) fx hK hP fl_X6_19 rfl rfl dX6_turn_1 ?_
  refine lv_iload_n hx hb dX6_turn_4 rfl (lv_at hl 1 rfl) ?_
  refine caRoV (rest := []) (As := [.int x1]) fx hK lk_X6_110 (c_X1_hasState l dC dI cA oN gN FN AN x1 _ hw) (hP.sub [6, 7, 8] rfl) 0 rfl rfl ⟨(Nat.le_of_ble_eq_true rfl), (Nat.le_of_ble_eq_true rfl)⟩ rfl hl.1 rfl (Nat.le_of_ble_eq_true rfl) dX6_turn_5 ?_
  intro r_8 hw
  refine lv_if_ne (tgt := 13) hx hb dX6_turn_8 (by decide) (fun c_9 => ?_) (fun c_9 => ?_)
  · have hw := hw.1 c_9
    refine lv_aload_n hx hb dX6_turn_13 rfl (lv_at hl 0 rfl) ?_
    refine gz (q0 := 0) (v := .int (FX 5)) fx hK hP fl_X6_82 rfl rfl dX6_turn_14 ?_
    refine lv_istore_n (lv' := [(2, .int (FX 5)), (0, .ref oX), (1, .int x1)]) hx hb dX6_turn_17 rfl hl (by decide) rfl (fun ls hl => ?_)
    refine lv_iload_n hx hb dX6_turn_18 rfl (lv_at hl 0 rfl) ?_
    refine lv_iload_n hx hb dX6_turn_19 rfl (lv_at hl 2 rfl) ?_
    refine lv_icmp_ne (tgt := 26) hx hb dX6_turn_20 (by decide) (fun c_10 => ?_) (fun c_10 => ?_)
    · have hw := hw.1 c_10
      refine lv_aload_n hx hb dX6_turn_26 rfl (lv_at hl 1 rfl) ?_
      refine lv_iload_n hx hb dX6_turn_27 rfl (lv_at hl 2 rfl) ?_
      refine caMuVv (rest := []) (As := [.int x1]) (w1 := ([] : va_W)) (w2 := ([] : va_W)) fx hK lk_X6_106 (c_X6_change l dC dI cA oX oT gT oD gD oN gN oS gS oP gP FX FT AT FD AD FN AN FS AS FP AP x1 _ hw) hP hD hS hA 0 rfl rfl ⟨(Nat.le_of_ble_eq_true rfl), (Nat.le_of_ble_eq_true rfl)⟩ rfl hl.1 rfl (Nat.le_of_ble_eq_true rfl) dX6_turn_28 ?_
      intro u_14 H locs hw hP hD hS
      obtain ⟨FX_11, FP_12, AP_13⟩ := u_14
      have hP : va_P (dC, dI) vwCl ((xW oX oT oN oD oS oP FX_11) ++ ((tW oT gT cA FT AT) ++ ((nW oD gD cA FD AD) ++ ((nW oN gN cA FN AN) ++ ((sW oS gS cA FS AS) ++ (pW oP gP cA FP_12 AP_13)))))) H := hP
      have hD : va_D A ((xW oX oT oN oD oS oP FX_11) ++ ((tW oT gT cA FT AT) ++ ((nW oD gD cA FD AD) ++ ((nW oN gN cA FN AN) ++ ((sW oS gS cA FS AS) ++ (pW oP gP cA FP_12 AP_13)))))) := hD
      try dsimp only at hw
      refine lv_iload_n hx hb dX6_turn_31 rfl (lv_at hl 0 rfl) ?_
      exact hret _ (FX_11, FP_12, AP_13) _ _ _ _ dX6_turn_32 rfl hw hP hD hS
    · have hw := hw.2 c_10
      refine lv_bipush (v := (-2 : Int32)) hx hb dX6_turn_23 (by decide) ?_
      exact hret _ (FX, FP, AP) _ _ _ _ dX6_turn_25 rfl hw hP hD hS
  · have hw := hw.2 c_9
    refine lv_iconst (v := (-1 : Int32)) hx hb dX6_turn_11 (by decide) ?_
    exact hret _ (FX, FP, AP) _ _ _ _ dX6_turn_12 rfl hw hP hD hS
set_option maxHeartbeats 4000000 in
set_option maxRecDepth 100000 in
theorem c_X6_wired (l : Launch) (dC : Nat → ClassId) (dI : Nat → Nat → Nat) (cA : ClassId) (oX : Nat) (oT : Nat) (gT : Nat → Nat) (oD : Nat) (gD : Nat → Nat) (oN : Nat) (gN : Nat → Nat) (oS : Nat) (gS : Nat → Nat) (oP : Nat) (gP : Nat → Nat) (FX : Nat → Int32) (FT : Nat → Int32) (AT : Nat → Nat → Int32) (FD : Nat → Int32) (AD : Nat → Nat → Int32) (FN : Nat → Int32) (AN : Nat → Nat → Int32) (FS : Nat → Int32) (AS : Nat → Nat → Int32) (FP : Nat → Int32) (AP : Nat → Nat → Int32) (x1 : Int32) (x2 : Int32) (Post : Int32 → Prop) (hw : wp_X6_wired FX FT AT FD AD FN AN FS AS FP AP x1 x2 Post) : RoI (dC, dI) cA l yX6_wired cX6_wired 3 .int 2 44 [.ref oX, .int x1, .int x2] ((xW oX oT oN oD oS oP FX) ++ ((tW oT gT cA FT AT) ++ ((nW oD gD cA FD AD) ++ ((nW oN gN cA FN AN) ++ ((sW oS gS cA FS AS) ++ (pW oP gP cA FP AP)))))) Post := by
  refine enRo (by decide) (Nat.le_of_ble_eq_true rfl) ?_
  intro p e s m args below meth c Q ls fx hK hP hret hl
  obtain ⟨hx, hb, hml, hown, hts⟩ := id fx
  have hl : lv_has ls 3 [(0, .ref oX), (1, .int x1), (2, .int x2)] := hl
  refine lv_aload_n hx hb dX6_wired_0 rfl (lv_at hl 0 rfl) ?_
  refine gz (q0 := 0) (v := .ref oN) fx hK hP fl_X6_19 rfl rfl dX6_wired_1 ?_
  refine lv_iload_n hx hb dX6_wired_4 rfl (lv_at hl 1 rfl) ?_
  refine caRoV (rest := []) (As := [.int x1]) fx hK lk_X6_92 (c_X1_hasMachine l dC dI cA oN gN FN AN x1 _ hw) (hP.sub [6, 7, 8] rfl) 0 rfl rfl ⟨(Nat.le_of_ble_eq_true rfl), (Nat.le_of_ble_eq_true rfl)⟩ rfl hl.1 rfl (Nat.le_of_ble_eq_true rfl) dX6_wired_5 ?_
  intro r_10 hw
  refine lv_if_eq (tgt := 27) hx hb dX6_wired_8 (by decide) (fun c_11 => ?_) (fun c_11 => ?_)
  · have hw := hw.1 c_11
    refine lv_iconst (v := (-1 : Int32)) hx hb dX6_wired_27 (by decide) ?_
    exact hret _ _ _ dX6_wired_28 rfl hw
  · have hw := hw.2 c_11
    refine lv_aload_n hx hb dX6_wired_11 rfl (lv_at hl 0 rfl) ?_
    refine gz (q0 := 0) (v := .ref oN) fx hK hP fl_X6_19 rfl rfl dX6_wired_12 ?_
    refine lv_iload_n hx hb dX6_wired_15 rfl (lv_at hl 2 rfl) ?_
    refine caRoV (rest := []) (As := [.int x2]) fx hK lk_X6_92 (c_X1_hasMachine l dC dI cA oN gN FN AN x2 _ hw) (hP.sub [6, 7, 8] rfl) 0 rfl rfl ⟨(Nat.le_of_ble_eq_true rfl), (Nat.le_of_ble_eq_true rfl)⟩ rfl hl.1 rfl (Nat.le_of_ble_eq_true rfl) dX6_wired_16 ?_
    intro r_12 hw
    refine lv_if_eq (tgt := 27) hx hb dX6_wired_19 (by decide) (fun c_13 => ?_) (fun c_13 => ?_)
    · have hw := hw.1 c_13
      refine lv_iconst (v := (-1 : Int32)) hx hb dX6_wired_27 (by decide) ?_
      exact hret _ _ _ dX6_wired_28 rfl hw
    · have hw := hw.2 c_13
      refine lv_iload_n hx hb dX6_wired_22 rfl (lv_at hl 1 rfl) ?_
      refine lv_iload_n hx hb dX6_wired_23 rfl (lv_at hl 2 rfl) ?_
      refine lv_icmp_ne (tgt := 29) hx hb dX6_wired_24 (by decide) (fun c_14 => ?_) (fun c_14 => ?_)
      · have hw := hw.1 c_14
        refine lv_aload_n hx hb dX6_wired_29 rfl (lv_at hl 0 rfl) ?_
        refine gz (q0 := 0) (v := .ref oN) fx hK hP fl_X6_19 rfl rfl dX6_wired_30 ?_
        refine lv_iload_n hx hb dX6_wired_33 rfl (lv_at hl 1 rfl) ?_
        refine lv_iload_n hx hb dX6_wired_34 rfl (lv_at hl 2 rfl) ?_
        refine caRoV (rest := []) (As := [.int x1, .int x2]) fx hK lk_X6_113 (c_X1_sees l dC dI cA oN gN FN AN x1 x2 _ hw) (hP.sub [6, 7, 8] rfl) 0 rfl rfl ⟨(Nat.le_of_ble_eq_true rfl), (Nat.le_of_ble_eq_true rfl)⟩ rfl hl.1 rfl (Nat.le_of_ble_eq_true rfl) dX6_wired_35 ?_
        intro r_15 hw
        refine lv_if_ne (tgt := 53) hx hb dX6_wired_38 (by decide) (fun c_16 => ?_) (fun c_16 => ?_)
        · have hw := hw.1 c_16
          refine lv_iconst (v := (1 : Int32)) hx hb dX6_wired_53 (by decide) ?_
          refine lv_goto (tgt := 58) hx hb dX6_wired_54 (by decide) ?_
          exact hret _ _ _ dX6_wired_58 rfl hw
        · have hw := hw.2 c_16
          refine lv_aload_n hx hb dX6_wired_41 rfl (lv_at hl 0 rfl) ?_
          refine gz (q0 := 0) (v := .ref oN) fx hK hP fl_X6_19 rfl rfl dX6_wired_42 ?_
          refine lv_iload_n hx hb dX6_wired_45 rfl (lv_at hl 2 rfl) ?_
          refine lv_iload_n hx hb dX6_wired_46 rfl (lv_at hl 1 rfl) ?_
          refine caRoV (rest := []) (As := [.int x2, .int x1]) fx hK lk_X6_113 (c_X1_sees l dC dI cA oN gN FN AN x2 x1 _ hw) (hP.sub [6, 7, 8] rfl) 0 rfl rfl ⟨(Nat.le_of_ble_eq_true rfl), (Nat.le_of_ble_eq_true rfl)⟩ rfl hl.1 rfl (Nat.le_of_ble_eq_true rfl) dX6_wired_47 ?_
          intro r_17 hw
          refine lv_if_eq (tgt := 57) hx hb dX6_wired_50 (by decide) (fun c_18 => ?_) (fun c_18 => ?_)
          · have hw := hw.1 c_18
            refine lv_iconst (v := (0 : Int32)) hx hb dX6_wired_57 (by decide) ?_
            exact hret _ _ _ dX6_wired_58 rfl hw
          · have hw := hw.2 c_18
            refine lv_iconst (v := (1 : Int32)) hx hb dX6_wired_53 (by decide) ?_
            refine lv_goto (tgt := 58) hx hb dX6_wired_54 (by decide) ?_
            exact hret _ _ _ dX6_wired_58 rfl hw
      · have hw := hw.2 c_14
        refine lv_iconst (v := (-1 : Int32)) hx hb dX6_wired_27 (by decide) ?_
        exact hret _ _ _ dX6_wired_28 rfl hw
set_option maxHeartbeats 4000000 in
set_option maxRecDepth 100000 in
theorem c_X6_may (l : Launch) (dC : Nat → ClassId) (dI : Nat → Nat → Nat) (cA : ClassId) (oX : Nat) (oT : Nat) (gT : Nat → Nat) (oD : Nat) (gD : Nat → Nat) (oN : Nat) (gN : Nat → Nat) (oS : Nat) (gS : Nat → Nat) (oP : Nat) (gP : Nat → Nat) (FX : Nat → Int32) (FT : Nat → Int32) (AT : Nat → Nat → Int32) (FD : Nat → Int32) (AD : Nat → Nat → Int32) (FN : Nat → Int32) (AN : Nat → Nat → Int32) (FS : Nat → Int32) (AS : Nat → Nat → Int32) (FP : Nat → Int32) (AP : Nat → Nat → Int32) (x1 : Int32) (Post : Int32 → Prop) (hw : wp_X6_may FX FT AT FD AD FN AN FS AS FP AP x1 Post) : RoI (dC, dI) cA l yX6_may cX6_may 2 .int 5 117 [.ref oX, .int x1] ((xW oX oT oN oD oS oP FX) ++ ((tW oT gT cA FT AT) ++ ((nW oD gD cA FD AD) ++ ((nW oN gN cA FN AN) ++ ((sW oS gS cA FS AS) ++ (pW oP gP cA FP AP)))))) Post := by
  refine enRo (by decide) (Nat.le_of_ble_eq_true rfl) ?_
  intro p e s m args below meth c Q ls fx hK hP hret hl
  obtain ⟨hx, hb, hml, hown, hts⟩ := id fx
  have hl : lv_has ls 2 [(0, .ref oX), (1, .int x1)] := hl
  refine lv_aload_n hx hb dX6_may_0 rfl (lv_at hl 0 rfl) ?_
  refine gz (q0 := 0) (v := .ref oN) fx hK hP fl_X6_19 rfl rfl dX6_may_1 ?_
  refine lv_iload_n hx hb dX6_may_4 rfl (lv_at hl 1 rfl) ?_
  refine caRoV (rest := []) (As := [.int x1]) fx hK lk_X6_92 (c_X1_hasMachine l dC dI cA oN gN FN AN x1 _ hw) (hP.sub [6, 7, 8] rfl) 0 rfl rfl ⟨(Nat.le_of_ble_eq_true rfl), (Nat.le_of_ble_eq_true rfl)⟩ rfl hl.1 rfl (Nat.le_of_ble_eq_true rfl) dX6_may_5 ?_
  intro r_4 hw
  refine lv_if_eq (tgt := 26) hx hb dX6_may_8 (by decide) (fun c_5 => ?_) (fun c_5 => ?_)
  · have hw := hw.1 c_5
    refine lv_iconst (v := (-1 : Int32)) hx hb dX6_may_26 (by decide) ?_
    exact hret _ _ _ dX6_may_27 rfl hw
  · have hw := hw.2 c_5
    refine lv_aload_n hx hb dX6_may_11 rfl (lv_at hl 0 rfl) ?_
    refine gz (q0 := 0) (v := .ref oN) fx hK hP fl_X6_19 rfl rfl dX6_may_12 ?_
    refine lv_aload_n hx hb dX6_may_15 rfl (lv_at hl 0 rfl) ?_
    refine gz (q0 := 0) (v := .int (FX 5)) fx hK hP fl_X6_82 rfl rfl dX6_may_16 ?_
    refine lv_iload_n hx hb dX6_may_19 rfl (lv_at hl 1 rfl) ?_
    refine caRoV (rest := []) (As := [.int (FX 5), .int x1]) fx hK lk_X6_117 (c_X1_ruleOf l dC dI cA oN gN FN AN (FX 5) x1 _ hw) (hP.sub [6, 7, 8] rfl) 0 rfl rfl ⟨(Nat.le_of_ble_eq_true rfl), (Nat.le_of_ble_eq_true rfl)⟩ rfl hl.1 rfl (Nat.le_of_ble_eq_true rfl) dX6_may_20 ?_
    intro r_6 hw
    refine lv_goto (tgt := 27) hx hb dX6_may_23 (by decide) ?_
    exact hret _ _ _ dX6_may_27 rfl hw
set_option maxHeartbeats 4000000 in
set_option maxRecDepth 100000 in
theorem c_X6_becomes (l : Launch) (dC : Nat → ClassId) (dI : Nat → Nat → Nat) (cA : ClassId) (oX : Nat) (oT : Nat) (gT : Nat → Nat) (oD : Nat) (gD : Nat → Nat) (oN : Nat) (gN : Nat → Nat) (oS : Nat) (gS : Nat → Nat) (oP : Nat) (gP : Nat → Nat) (FX : Nat → Int32) (FT : Nat → Int32) (AT : Nat → Nat → Int32) (FD : Nat → Int32) (AD : Nat → Nat → Int32) (FN : Nat → Int32) (AN : Nat → Nat → Int32) (FS : Nat → Int32) (AS : Nat → Nat → Int32) (FP : Nat → Int32) (AP : Nat → Nat → Int32) (x1 : Int32) (Post : Int32 → Prop) (hw : wp_X6_becomes FX FT AT FD AD FN AN FS AS FP AP x1 Post) : RoI (dC, dI) cA l yX6_becomes cX6_becomes 2 .int 5 117 [.ref oX, .int x1] ((xW oX oT oN oD oS oP FX) ++ ((tW oT gT cA FT AT) ++ ((nW oD gD cA FD AD) ++ ((nW oN gN cA FN AN) ++ ((sW oS gS cA FS AS) ++ (pW oP gP cA FP AP)))))) Post := by
  refine enRo (by decide) (Nat.le_of_ble_eq_true rfl) ?_
  intro p e s m args below meth c Q ls fx hK hP hret hl
  obtain ⟨hx, hb, hml, hown, hts⟩ := id fx
  have hl : lv_has ls 2 [(0, .ref oX), (1, .int x1)] := hl
  refine lv_aload_n hx hb dX6_becomes_0 rfl (lv_at hl 0 rfl) ?_
  refine gz (q0 := 0) (v := .ref oN) fx hK hP fl_X6_19 rfl rfl dX6_becomes_1 ?_
  refine lv_iload_n hx hb dX6_becomes_4 rfl (lv_at hl 1 rfl) ?_
  refine caRoV (rest := []) (As := [.int x1]) fx hK lk_X6_92 (c_X1_hasMachine l dC dI cA oN gN FN AN x1 _ hw) (hP.sub [6, 7, 8] rfl) 0 rfl rfl ⟨(Nat.le_of_ble_eq_true rfl), (Nat.le_of_ble_eq_true rfl)⟩ rfl hl.1 rfl (Nat.le_of_ble_eq_true rfl) dX6_becomes_5 ?_
  intro r_6 hw
  refine lv_if_ne (tgt := 13) hx hb dX6_becomes_8 (by decide) (fun c_7 => ?_) (fun c_7 => ?_)
  · have hw := hw.1 c_7
    refine lv_aload_n hx hb dX6_becomes_13 rfl (lv_at hl 0 rfl) ?_
    refine gz (q0 := 0) (v := .ref oN) fx hK hP fl_X6_19 rfl rfl dX6_becomes_14 ?_
    refine lv_aload_n hx hb dX6_becomes_17 rfl (lv_at hl 0 rfl) ?_
    refine gz (q0 := 0) (v := .int (FX 5)) fx hK hP fl_X6_82 rfl rfl dX6_becomes_18 ?_
    refine lv_iload_n hx hb dX6_becomes_21 rfl (lv_at hl 1 rfl) ?_
    refine caRoV (rest := []) (As := [.int (FX 5), .int x1]) fx hK lk_X6_117 (c_X1_ruleOf l dC dI cA oN gN FN AN (FX 5) x1 _ hw) (hP.sub [6, 7, 8] rfl) 0 rfl rfl ⟨(Nat.le_of_ble_eq_true rfl), (Nat.le_of_ble_eq_true rfl)⟩ rfl hl.1 rfl (Nat.le_of_ble_eq_true rfl) dX6_becomes_22 ?_
    intro r_8 hw
    refine lv_if_ne (tgt := 33) hx hb dX6_becomes_25 (by decide) (fun c_9 => ?_) (fun c_9 => ?_)
    · have hw := hw.1 c_9
      refine lv_aload_n hx hb dX6_becomes_33 rfl (lv_at hl 0 rfl) ?_
      refine gz (q0 := 0) (v := .ref oN) fx hK hP fl_X6_19 rfl rfl dX6_becomes_34 ?_
      refine lv_aload_n hx hb dX6_becomes_37 rfl (lv_at hl 0 rfl) ?_
      refine gz (q0 := 0) (v := .int (FX 5)) fx hK hP fl_X6_82 rfl rfl dX6_becomes_38 ?_
      refine lv_iload_n hx hb dX6_becomes_41 rfl (lv_at hl 1 rfl) ?_
      refine caRoV (rest := []) (As := [.int (FX 5), .int x1]) fx hK lk_X6_120 (c_X1_wants l dC dI cA oN gN FN AN (FX 5) x1 _ hw) (hP.sub [6, 7, 8] rfl) 0 rfl rfl ⟨(Nat.le_of_ble_eq_true rfl), (Nat.le_of_ble_eq_true rfl)⟩ rfl hl.1 rfl (Nat.le_of_ble_eq_true rfl) dX6_becomes_42 ?_
      intro r_10 hw
      exact hret _ _ _ dX6_becomes_45 rfl hw
    · have hw := hw.2 c_9
      refine lv_bipush (v := (-4 : Int32)) hx hb dX6_becomes_28 (by decide) ?_
      refine lv_goto (tgt := 45) hx hb dX6_becomes_30 (by decide) ?_
      exact hret _ _ _ dX6_becomes_45 rfl hw
  · have hw := hw.2 c_7
    refine lv_iconst (v := (-1 : Int32)) hx hb dX6_becomes_11 (by decide) ?_
    exact hret _ _ _ dX6_becomes_12 rfl hw
set_option maxHeartbeats 4000000 in
set_option maxRecDepth 100000 in
theorem c_X6_move (l : Launch) (dC : Nat → ClassId) (dI : Nat → Nat → Nat) (cA : ClassId) (oX : Nat) (oT : Nat) (gT : Nat → Nat) (oD : Nat) (gD : Nat → Nat) (oN : Nat) (gN : Nat → Nat) (oS : Nat) (gS : Nat → Nat) (oP : Nat) (gP : Nat → Nat) (FX : Nat → Int32) (FT : Nat → Int32) (AT : Nat → Nat → Int32) (FD : Nat → Int32) (AD : Nat → Nat → Int32) (FN : Nat → Int32) (AN : Nat → Nat → Int32) (FS : Nat → Int32) (AS : Nat → Nat → Int32) (FP : Nat → Int32) (AP : Nat → Nat → Int32) (x1 : Int32) (Post : Int32 → (Nat → Int32) → (Nat → Int32) → (Nat → Nat → Int32) → Prop) (hw : wp_X6_move FX FT AT FD AD FN AN FS AS FP AP x1 Post) : MuI (dC, dI) cA l yX6_move cX6_move 3 .int 5 117 [.ref oX, .int x1] ((xW oX oT oN oD oS oP FX) ++ ((tW oT gT cA FT AT) ++ ((nW oD gD cA FD AD) ++ ((nW oN gN cA FN AN) ++ ((sW oS gS cA FS AS) ++ (pW oP gP cA FP AP)))))) (fun r (u : (Nat → Int32) × (Nat → Int32) × (Nat → Nat → Int32)) => Post r (u.1) (u.2.1) (u.2.2)) (fun u => ((xW oX oT oN oD oS oP (u.1)) ++ ((tW oT gT cA FT AT) ++ ((nW oD gD cA FD AD) ++ ((nW oN gN cA FN AN) ++ ((sW oS gS cA FS AS) ++ (pW oP gP cA (u.2.1) (u.2.2)))))))) := by
  refine enMu (by decide) (Nat.le_of_ble_eq_true rfl) ?_
  intro p e s m args below meth c Q ls A fx hK hP hD hS hA hret hl
  obtain ⟨hx, hb, hml, hown, hts⟩ := id fx
  have hl : lv_has ls 3 [(0, .ref oX), (1, .int x1)] := hl
  have hP : va_P (dC, dI) vwCl ((xW oX oT oN oD oS oP FX) ++ ((tW oT gT cA FT AT) ++ ((nW oD gD cA FD AD) ++ ((nW oN gN cA FN AN) ++ ((sW oS gS cA FS AS) ++ (pW oP gP cA FP AP)))))) s.heap := hP
  refine lv_aload_n hx hb dX6_move_0 rfl (lv_at hl 0 rfl) ?_
  refine gz (q0 := 0) (v := .ref oN) fx hK hP fl_X6_19 rfl rfl dX6_move_1 ?_
  refine lv_iload_n hx hb dX6_move_4 rfl (lv_at hl 1 rfl) ?_
  refine caRoV (rest := []) (As := [.int x1]) fx hK lk_X6_92 (c_X1_hasMachine l dC dI cA oN gN FN AN x1 _ hw) (hP.sub [6, 7, 8] rfl) 0 rfl rfl ⟨(Nat.le_of_ble_eq_true rfl), (Nat.le_of_ble_eq_true rfl)⟩ rfl hl.1 rfl (Nat.le_of_ble_eq_true rfl) dX6_move_5 ?_
  intro r_11 hw
  refine lv_if_ne (tgt := 13) hx hb dX6_move_8 (by decide) (fun c_12 => ?_) (fun c_12 => ?_)
  · have hw := hw.1 c_12
    refine lv_aload_n hx hb dX6_move_13 rfl (lv_at hl 0 rfl) ?_
    refine gz (q0 := 0) (v := .ref oN) fx hK hP fl_X6_19 rfl rfl dX6_move_14 ?_
    refine lv_aload_n hx hb dX6_move_17 rfl (lv_at hl 0 rfl) ?_
    refine gz (q0 := 0) (v := .int (FX 5)) fx hK hP fl_X6_82 rfl rfl dX6_move_18 ?_
    refine lv_iload_n hx hb dX6_move_21 rfl (lv_at hl 1 rfl) ?_
    refine caRoV (rest := []) (As := [.int (FX 5), .int x1]) fx hK lk_X6_117 (c_X1_ruleOf l dC dI cA oN gN FN AN (FX 5) x1 _ hw) (hP.sub [6, 7, 8] rfl) 0 rfl rfl ⟨(Nat.le_of_ble_eq_true rfl), (Nat.le_of_ble_eq_true rfl)⟩ rfl hl.1 rfl (Nat.le_of_ble_eq_true rfl) dX6_move_22 ?_
    intro r_13 hw
    refine lv_if_ne (tgt := 31) hx hb dX6_move_25 (by decide) (fun c_14 => ?_) (fun c_14 => ?_)
    · have hw := hw.1 c_14
      refine lv_aload_n hx hb dX6_move_31 rfl (lv_at hl 0 rfl) ?_
      refine gz (q0 := 0) (v := .ref oN) fx hK hP fl_X6_19 rfl rfl dX6_move_32 ?_
      refine lv_aload_n hx hb dX6_move_35 rfl (lv_at hl 0 rfl) ?_
      refine gz (q0 := 0) (v := .int (FX 5)) fx hK hP fl_X6_82 rfl rfl dX6_move_36 ?_
      refine lv_iload_n hx hb dX6_move_39 rfl (lv_at hl 1 rfl) ?_
      refine caRoV (rest := []) (As := [.int (FX 5), .int x1]) fx hK lk_X6_120 (c_X1_wants l dC dI cA oN gN FN AN (FX 5) x1 _ hw) (hP.sub [6, 7, 8] rfl) 0 rfl rfl ⟨(Nat.le_of_ble_eq_true rfl), (Nat.le_of_ble_eq_true rfl)⟩ rfl hl.1 rfl (Nat.le_of_ble_eq_true rfl) dX6_move_40 ?_
      intro r_15 hw
      refine lv_istore_n (lv' := [(2, .int r_15), (0, .ref oX), (1, .int x1)]) hx hb dX6_move_43 rfl hl (by decide) rfl (fun ls hl => ?_)
      refine lv_aload_n hx hb dX6_move_44 rfl (lv_at hl 1 rfl) ?_
      refine lv_aload_n hx hb dX6_move_45 rfl (lv_at hl 1 rfl) ?_
      refine gz (q0 := 0) (v := .ref oN) fx hK hP fl_X6_19 rfl rfl dX6_move_46 ?_
      refine lv_aload_n hx hb dX6_move_49 rfl (lv_at hl 1 rfl) ?_
      refine gz (q0 := 0) (v := .int (FX 5)) fx hK hP fl_X6_82 rfl rfl dX6_move_50 ?_
      refine lv_iload_n hx hb dX6_move_53 rfl (lv_at hl 2 rfl) ?_
      refine lv_iload_n hx hb dX6_move_54 rfl (lv_at hl 0 rfl) ?_
      refine caRoV (rest := [.ref oX]) (As := [.int (FX 5), .int x1, .int r_15]) fx hK lk_X6_102 (c_X1_withValue l dC dI cA oN gN FN AN (FX 5) x1 r_15 _ hw) (hP.sub [6, 7, 8] rfl) 0 rfl rfl ⟨(Nat.le_of_ble_eq_true rfl), (Nat.le_of_ble_eq_true rfl)⟩ rfl hl.1 rfl (Nat.le_of_ble_eq_true rfl) dX6_move_55 ?_
      intro r_16 hw
      refine caMuVv (rest := []) (As := [.int r_16]) (w1 := ([] : va_W)) (w2 := ([] : va_W)) fx hK lk_X6_106 (c_X6_change l dC dI cA oX oT gT oD gD oN gN oS gS oP gP FX FT AT FD AD FN AN FS AS FP AP r_16 _ hw) hP hD hS hA 0 rfl rfl ⟨(Nat.le_of_ble_eq_true rfl), (Nat.le_of_ble_eq_true rfl)⟩ rfl hl.1 rfl (Nat.le_of_ble_eq_true rfl) dX6_move_58 ?_
      intro u_20 H locs hw hP hD hS
      obtain ⟨FX_17, FP_18, AP_19⟩ := u_20
      have hP : va_P (dC, dI) vwCl ((xW oX oT oN oD oS oP FX_17) ++ ((tW oT gT cA FT AT) ++ ((nW oD gD cA FD AD) ++ ((nW oN gN cA FN AN) ++ ((sW oS gS cA FS AS) ++ (pW oP gP cA FP_18 AP_19)))))) H := hP
      have hD : va_D A ((xW oX oT oN oD oS oP FX_17) ++ ((tW oT gT cA FT AT) ++ ((nW oD gD cA FD AD) ++ ((nW oN gN cA FN AN) ++ ((sW oS gS cA FS AS) ++ (pW oP gP cA FP_18 AP_19)))))) := hD
      try dsimp only at hw
      refine lv_iload_n hx hb dX6_move_61 rfl (lv_at hl 0 rfl) ?_
      exact hret _ (FX_17, FP_18, AP_19) _ _ _ _ dX6_move_62 rfl hw hP hD hS
    · have hw := hw.2 c_14
      refine lv_bipush (v := (-2 : Int32)) hx hb dX6_move_28 (by decide) ?_
      exact hret _ (FX, FP, AP) _ _ _ _ dX6_move_30 rfl hw hP hD hS
  · have hw := hw.2 c_12
    refine lv_iconst (v := (-1 : Int32)) hx hb dX6_move_11 (by decide) ?_
    exact hret _ (FX, FP, AP) _ _ _ _ dX6_move_12 rfl hw hP hD hS
set_option maxHeartbeats 4000000 in
set_option maxRecDepth 100000 in
theorem c_X6_tokens (l : Launch) (dC : Nat → ClassId) (dI : Nat → Nat → Nat) (cA : ClassId) (oX : Nat) (oT : Nat) (gT : Nat → Nat) (oD : Nat) (gD : Nat → Nat) (oN : Nat) (gN : Nat → Nat) (oS : Nat) (gS : Nat → Nat) (oP : Nat) (gP : Nat → Nat) (FX : Nat → Int32) (FT : Nat → Int32) (AT : Nat → Nat → Int32) (FD : Nat → Int32) (AD : Nat → Nat → Int32) (FN : Nat → Int32) (AN : Nat → Nat → Int32) (FS : Nat → Int32) (AS : Nat → Nat → Int32) (FP : Nat → Int32) (AP : Nat → Nat → Int32) (Post : Int32 → Prop) (hw : wp_X6_tokens FX FT AT FD AD FN AN FS AS FP AP Post) : RoI (dC, dI) cA l yX6_tokens cX6_tokens 1 .int 5 116 [.ref oX] ((xW oX oT oN oD oS oP FX) ++ ((tW oT gT cA FT AT) ++ ((nW oD gD cA FD AD) ++ ((nW oN gN cA FN AN) ++ ((sW oS gS cA FS AS) ++ (pW oP gP cA FP AP)))))) Post := by
  refine enRo (by decide) (Nat.le_of_ble_eq_true rfl) ?_
  intro p e s m args below meth c Q ls fx hK hP hret hl
  obtain ⟨hx, hb, hml, hown, hts⟩ := id fx
  have hl : lv_has ls 1 [(0, .ref oX)] := hl
  refine lv_aload_n hx hb dX6_tokens_0 rfl (lv_at hl 0 rfl) ?_
  refine gz (q0 := 0) (v := .ref oN) fx hK hP fl_X6_19 rfl rfl dX6_tokens_1 ?_
  refine lv_aload_n hx hb dX6_tokens_4 rfl (lv_at hl 0 rfl) ?_
  refine gz (q0 := 0) (v := .int (FX 5)) fx hK hP fl_X6_82 rfl rfl dX6_tokens_5 ?_
  refine caRoV (rest := []) (As := [.int (FX 5)]) fx hK lk_X6_123 (c_X1_whoMay l dC dI cA oN gN FN AN (FX 5) _ hw) (hP.sub [6, 7, 8] rfl) 0 rfl rfl ⟨(Nat.le_of_ble_eq_true rfl), (Nat.le_of_ble_eq_true rfl)⟩ rfl hl.1 rfl (Nat.le_of_ble_eq_true rfl) dX6_tokens_8 ?_
  intro r_2 hw
  exact hret _ _ _ dX6_tokens_11 rfl hw
set_option maxHeartbeats 4000000 in
set_option maxRecDepth 100000 in
theorem c_X6_legal (l : Launch) (dC : Nat → ClassId) (dI : Nat → Nat → Nat) (cA : ClassId) (oX : Nat) (oT : Nat) (gT : Nat → Nat) (oD : Nat) (gD : Nat → Nat) (oN : Nat) (gN : Nat → Nat) (oS : Nat) (gS : Nat → Nat) (oP : Nat) (gP : Nat → Nat) (FX : Nat → Int32) (FT : Nat → Int32) (AT : Nat → Nat → Int32) (FD : Nat → Int32) (AD : Nat → Nat → Int32) (FN : Nat → Int32) (AN : Nat → Nat → Int32) (FS : Nat → Int32) (AS : Nat → Nat → Int32) (FP : Nat → Int32) (AP : Nat → Nat → Int32) (Post : Int32 → Prop) (hw : wp_X6_legal FX FT AT FD AD FN AN FS AS FP AP Post) : RoI (dC, dI) cA l yX6_legal cX6_legal 1 .int 6 138 [.ref oX] ((xW oX oT oN oD oS oP FX) ++ ((tW oT gT cA FT AT) ++ ((nW oD gD cA FD AD) ++ ((nW oN gN cA FN AN) ++ ((sW oS gS cA FS AS) ++ (pW oP gP cA FP AP)))))) Post := by
  refine enRo (by decide) (Nat.le_of_ble_eq_true rfl) ?_
  intro p e s m args below meth c Q ls fx hK hP hret hl
  obtain ⟨hx, hb, hml, hown, hts⟩ := id fx
  have hl : lv_has ls 1 [(0, .ref oX)] := hl
  refine lv_aload_n hx hb dX6_legal_0 rfl (lv_at hl 0 rfl) ?_
  refine gz (q0 := 0) (v := .ref oN) fx hK hP fl_X6_19 rfl rfl dX6_legal_1 ?_
  refine lv_aload_n hx hb dX6_legal_4 rfl (lv_at hl 0 rfl) ?_
  refine gz (q0 := 0) (v := .int (FX 5)) fx hK hP fl_X6_82 rfl rfl dX6_legal_5 ?_
  refine caRoV (rest := []) (As := [.int (FX 5)]) fx hK lk_X6_127 (c_X1_isLegal l dC dI cA oN gN FN AN (FX 5) _ hw) (hP.sub [6, 7, 8] rfl) 0 rfl rfl ⟨(Nat.le_of_ble_eq_true rfl), (Nat.le_of_ble_eq_true rfl)⟩ rfl hl.1 rfl (Nat.le_of_ble_eq_true rfl) dX6_legal_8 ?_
  intro r_3 hw
  refine lv_if_eq (tgt := 18) hx hb dX6_legal_11 (by decide) (fun c_4 => ?_) (fun c_4 => ?_)
  · have hw := hw.1 c_4
    refine lv_iconst (v := (0 : Int32)) hx hb dX6_legal_18 (by decide) ?_
    exact hret _ _ _ dX6_legal_19 rfl hw
  · have hw := hw.2 c_4
    refine lv_iconst (v := (1 : Int32)) hx hb dX6_legal_14 (by decide) ?_
    refine lv_goto (tgt := 19) hx hb dX6_legal_15 (by decide) ?_
    exact hret _ _ _ dX6_legal_19 rfl hw
set_option maxHeartbeats 4000000 in
set_option maxRecDepth 100000 in
theorem c_X6_mate (l : Launch) (dC : Nat → ClassId) (dI : Nat → Nat → Nat) (cA : ClassId) (oX : Nat) (oT : Nat) (gT : Nat → Nat) (oD : Nat) (gD : Nat → Nat) (oN : Nat) (gN : Nat → Nat) (oS : Nat) (gS : Nat → Nat) (oP : Nat) (gP : Nat → Nat) (FX : Nat → Int32) (FT : Nat → Int32) (AT : Nat → Nat → Int32) (FD : Nat → Int32) (AD : Nat → Nat → Int32) (FN : Nat → Int32) (AN : Nat → Nat → Int32) (FS : Nat → Int32) (AS : Nat → Nat → Int32) (FP : Nat → Int32) (AP : Nat → Nat → Int32) (x1 : Int32) (Post : Int32 → Prop) (hw : wp_X6_mate FX FT AT FD AD FN AN FS AS FP AP x1 Post) : RoI (dC, dI) cA l yX6_mate cX6_mate 2 .int 3 68 [.ref oX, .int x1] ((xW oX oT oN oD oS oP FX) ++ ((tW oT gT cA FT AT) ++ ((nW oD gD cA FD AD) ++ ((nW oN gN cA FN AN) ++ ((sW oS gS cA FS AS) ++ (pW oP gP cA FP AP)))))) Post := by
  refine enRo (by decide) (Nat.le_of_ble_eq_true rfl) ?_
  intro p e s m args below meth c Q ls fx hK hP hret hl
  obtain ⟨hx, hb, hml, hown, hts⟩ := id fx
  have hl : lv_has ls 2 [(0, .ref oX), (1, .int x1)] := hl
  refine lv_aload_n hx hb dX6_mate_0 rfl (lv_at hl 0 rfl) ?_
  refine gz (q0 := 0) (v := .ref oN) fx hK hP fl_X6_19 rfl rfl dX6_mate_1 ?_
  refine lv_iload_n hx hb dX6_mate_4 rfl (lv_at hl 1 rfl) ?_
  refine caRoV (rest := []) (As := [.int x1]) fx hK lk_X6_92 (c_X1_hasMachine l dC dI cA oN gN FN AN x1 _ hw) (hP.sub [6, 7, 8] rfl) 0 rfl rfl ⟨(Nat.le_of_ble_eq_true rfl), (Nat.le_of_ble_eq_true rfl)⟩ rfl hl.1 rfl (Nat.le_of_ble_eq_true rfl) dX6_mate_5 ?_
  intro r_7 hw
  refine lv_if_ne (tgt := 13) hx hb dX6_mate_8 (by decide) (fun c_8 => ?_) (fun c_8 => ?_)
  · have hw := hw.1 c_8
    refine lv_aload_n hx hb dX6_mate_13 rfl (lv_at hl 0 rfl) ?_
    refine gz (q0 := 0) (v := .ref oN) fx hK hP fl_X6_19 rfl rfl dX6_mate_14 ?_
    refine gz (q0 := 6) (v := .int (FN 0)) fx hK hP fl_X6_130 rfl rfl dX6_mate_17 ?_
    refine lv_iconst (v := (2 : Int32)) hx hb dX6_mate_20 (by decide) ?_
    refine lv_icmp_ne (tgt := 37) hx hb dX6_mate_21 (by decide) (fun c_9 => ?_) (fun c_9 => ?_)
    · have hw := hw.1 c_9
      refine lv_aload_n hx hb dX6_mate_37 rfl (lv_at hl 0 rfl) ?_
      refine gz (q0 := 0) (v := .ref oN) fx hK hP fl_X6_19 rfl rfl dX6_mate_38 ?_
      refine gz (q0 := 6) (v := .int (FN 0)) fx hK hP fl_X6_130 rfl rfl dX6_mate_41 ?_
      refine lv_iconst (v := (3 : Int32)) hx hb dX6_mate_44 (by decide) ?_
      refine lv_icmp_ne (tgt := 63) hx hb dX6_mate_45 (by decide) (fun c_10 => ?_) (fun c_10 => ?_)
      · have hw := hw.1 c_10
        refine lv_bipush (v := (-2 : Int32)) hx hb dX6_mate_63 (by decide) ?_
        exact hret _ _ _ dX6_mate_65 rfl hw
      · have hw := hw.2 c_10
        refine lv_aload_n hx hb dX6_mate_48 rfl (lv_at hl 0 rfl) ?_
        refine gz (q0 := 0) (v := .ref oN) fx hK hP fl_X6_19 rfl rfl dX6_mate_49 ?_
        refine lv_aload_n hx hb dX6_mate_52 rfl (lv_at hl 0 rfl) ?_
        refine gz (q0 := 0) (v := .int (FX 5)) fx hK hP fl_X6_82 rfl rfl dX6_mate_53 ?_
        refine lv_iload_n hx hb dX6_mate_56 rfl (lv_at hl 1 rfl) ?_
        refine caRoV (rest := []) (As := [.int (FX 5), .int x1]) fx hK lk_X6_136 (c_X1_parentOf l dC dI cA oN gN FN AN (FX 5) x1 _ hw) (hP.sub [6, 7, 8] rfl) 0 rfl rfl ⟨(Nat.le_of_ble_eq_true rfl), (Nat.le_of_ble_eq_true rfl)⟩ rfl hl.1 rfl (Nat.le_of_ble_eq_true rfl) dX6_mate_57 ?_
        intro r_11 hw
        refine lv_goto (tgt := 65) hx hb dX6_mate_60 (by decide) ?_
        exact hret _ _ _ dX6_mate_65 rfl hw
    · have hw := hw.2 c_9
      refine lv_aload_n hx hb dX6_mate_24 rfl (lv_at hl 0 rfl) ?_
      refine gz (q0 := 0) (v := .ref oN) fx hK hP fl_X6_19 rfl rfl dX6_mate_25 ?_
      refine lv_aload_n hx hb dX6_mate_28 rfl (lv_at hl 0 rfl) ?_
      refine gz (q0 := 0) (v := .int (FX 5)) fx hK hP fl_X6_82 rfl rfl dX6_mate_29 ?_
      refine lv_iload_n hx hb dX6_mate_32 rfl (lv_at hl 1 rfl) ?_
      refine caRoV (rest := []) (As := [.int (FX 5), .int x1]) fx hK lk_X6_133 (c_X1_matchOf l dC dI cA oN gN FN AN (FX 5) x1 _ hw) (hP.sub [6, 7, 8] rfl) 0 rfl rfl ⟨(Nat.le_of_ble_eq_true rfl), (Nat.le_of_ble_eq_true rfl)⟩ rfl hl.1 rfl (Nat.le_of_ble_eq_true rfl) dX6_mate_33 ?_
      intro r_12 hw
      exact hret _ _ _ dX6_mate_36 rfl hw
  · have hw := hw.2 c_8
    refine lv_iconst (v := (-1 : Int32)) hx hb dX6_mate_11 (by decide) ?_
    exact hret _ _ _ dX6_mate_12 rfl hw
set_option maxHeartbeats 4000000 in
set_option maxRecDepth 100000 in
theorem c_X6_undo (l : Launch) (dC : Nat → ClassId) (dI : Nat → Nat → Nat) (cA : ClassId) (oX : Nat) (oT : Nat) (gT : Nat → Nat) (oD : Nat) (gD : Nat → Nat) (oN : Nat) (gN : Nat → Nat) (oS : Nat) (gS : Nat → Nat) (oP : Nat) (gP : Nat → Nat) (FX : Nat → Int32) (FT : Nat → Int32) (AT : Nat → Nat → Int32) (FD : Nat → Int32) (AD : Nat → Nat → Int32) (FN : Nat → Int32) (AN : Nat → Nat → Int32) (FS : Nat → Int32) (AS : Nat → Nat → Int32) (FP : Nat → Int32) (AP : Nat → Nat → Int32) (Post : Int32 → (Nat → Int32) → (Nat → Int32) → (Nat → Nat → Int32) → Prop) (hw : wp_X6_undo FX FT AT FD AD FN AN FS AS FP AP Post) : MuI (dC, dI) cA l yX6_undo cX6_undo 1 .int 2 41 [.ref oX] ((xW oX oT oN oD oS oP FX) ++ ((tW oT gT cA FT AT) ++ ((nW oD gD cA FD AD) ++ ((nW oN gN cA FN AN) ++ ((sW oS gS cA FS AS) ++ (pW oP gP cA FP AP)))))) (fun r (u : (Nat → Int32) × (Nat → Int32) × (Nat → Nat → Int32)) => Post r (u.1) (u.2.1) (u.2.2)) (fun u => ((xW oX oT oN oD oS oP (u.1)) ++ ((tW oT gT cA FT AT) ++ ((nW oD gD cA FD AD) ++ ((nW oN gN cA FN AN) ++ ((sW oS gS cA FS AS) ++ (pW oP gP cA (u.2.1) (u.2.2)))))))) := by
  refine enMu (by decide) (Nat.le_of_ble_eq_true rfl) ?_
  intro p e s m args below meth c Q ls A fx hK hP hD hS hA hret hl
  obtain ⟨hx, hb, hml, hown, hts⟩ := id fx
  have hl : lv_has ls 1 [(0, .ref oX)] := hl
  have hP : va_P (dC, dI) vwCl ((xW oX oT oN oD oS oP FX) ++ ((tW oT gT cA FT AT) ++ ((nW oD gD cA FD AD) ++ ((nW oN gN cA FN AN) ++ ((sW oS gS cA FS AS) ++ (pW oP gP cA FP AP)))))) s.heap := hP
  refine lv_aload_n hx hb dX6_undo_0 rfl (lv_at hl 0 rfl) ?_
  refine gz (q0 := 0) (v := .ref oP) fx hK hP fl_X6_36 rfl rfl dX6_undo_1 ?_
  refine caRoV (rest := []) (As := []) fx hK lk_X6_139 (c_X2_size l dC dI cA oP gP FP AP _ hw) (hP.sub [16, 17, 18] rfl) 0 rfl rfl ⟨(Nat.le_of_ble_eq_true rfl), (Nat.le_of_ble_eq_true rfl)⟩ rfl hl.1 rfl (Nat.le_of_ble_eq_true rfl) dX6_undo_4 ?_
  intro r_9 hw
  refine lv_if_ne (tgt := 13) hx hb dX6_undo_7 (by decide) (fun c_10 => ?_) (fun c_10 => ?_)
  · have hw := hw.1 c_10
    refine lv_aload_n hx hb dX6_undo_13 rfl (lv_at hl 0 rfl) ?_
    refine lv_aload_n hx hb dX6_undo_14 rfl (lv_at hl 0 rfl) ?_
    refine gz (q0 := 0) (v := .ref oP) fx hK hP fl_X6_36 rfl rfl dX6_undo_15 ?_
    refine caRoV (rest := [.ref oX]) (As := []) fx hK lk_X6_142 (c_X2_lastState l dC dI cA oP gP FP AP _ hw) (hP.sub [16, 17, 18] rfl) 0 rfl rfl ⟨(Nat.le_of_ble_eq_true rfl), (Nat.le_of_ble_eq_true rfl)⟩ rfl hl.1 rfl (Nat.le_of_ble_eq_true rfl) dX6_undo_18 ?_
    intro r_11 hw
    refine pz (q0 := 0) (v := .int r_11) fx hK hP hD hS fp_X6_82 rfl rfl rfl (Nat.le_of_ble_eq_true rfl) dX6_undo_21 (fun H locs hP hD hS => ?_)
    have hP : va_P (dC, dI) vwCl ((xW oX oT oN oD oS oP (uF FX 5 r_11)) ++ ((tW oT gT cA FT AT) ++ ((nW oD gD cA FD AD) ++ ((nW oN gN cA FN AN) ++ ((sW oS gS cA FS AS) ++ (pW oP gP cA FP AP)))))) H := hP
    have hD : va_D A ((xW oX oT oN oD oS oP (uF FX 5 r_11)) ++ ((tW oT gT cA FT AT) ++ ((nW oD gD cA FD AD) ++ ((nW oN gN cA FN AN) ++ ((sW oS gS cA FS AS) ++ (pW oP gP cA FP AP)))))) := hD
    refine lv_aload_n hx hb dX6_undo_24 rfl (lv_at hl 0 rfl) ?_
    refine lv_aload_n hx hb dX6_undo_25 rfl (lv_at hl 0 rfl) ?_
    refine gz (q0 := 0) (v := .ref oP) fx hK hP fl_X6_36 rfl rfl dX6_undo_26 ?_
    refine caRoV (rest := [.ref oX]) (As := []) fx hK lk_X6_145 (c_X2_lastMover l dC dI cA oP gP FP AP _ hw) (hP.sub [16, 17, 18] rfl) 0 rfl rfl ⟨(Nat.le_of_ble_eq_true rfl), (Nat.le_of_ble_eq_true rfl)⟩ rfl hl.1 rfl (Nat.le_of_ble_eq_true rfl) dX6_undo_29 ?_
    intro r_12 hw
    refine pz (q0 := 0) (v := .int r_12) fx hK hP hD hS fp_X6_85 rfl rfl rfl (Nat.le_of_ble_eq_true rfl) dX6_undo_32 (fun H locs hP hD hS => ?_)
    have hP : va_P (dC, dI) vwCl ((xW oX oT oN oD oS oP (uF (uF FX 5 r_11) 6 r_12)) ++ ((tW oT gT cA FT AT) ++ ((nW oD gD cA FD AD) ++ ((nW oN gN cA FN AN) ++ ((sW oS gS cA FS AS) ++ (pW oP gP cA FP AP)))))) H := hP
    have hD : va_D A ((xW oX oT oN oD oS oP (uF (uF FX 5 r_11) 6 r_12)) ++ ((tW oT gT cA FT AT) ++ ((nW oD gD cA FD AD) ++ ((nW oN gN cA FN AN) ++ ((sW oS gS cA FS AS) ++ (pW oP gP cA FP AP)))))) := hD
    refine lv_aload_n hx hb dX6_undo_35 rfl (lv_at hl 0 rfl) ?_
    refine gz (q0 := 0) (v := .ref oP) fx hK hP fl_X6_36 rfl rfl dX6_undo_36 ?_
    refine caMuVv (rest := []) (As := []) (w1 := ((xW oX oT oN oD oS oP (uF (uF FX 5 r_11) 6 r_12)) ++ ((tW oT gT cA FT AT) ++ ((nW oD gD cA FD AD) ++ ((nW oN gN cA FN AN) ++ (sW oS gS cA FS AS)))))) (w2 := ([] : va_W)) fx hK lk_X6_148 (c_X2_drop l dC dI cA oP gP FP AP _ hw) hP hD hS hA 0 rfl rfl ⟨(Nat.le_of_ble_eq_true rfl), (Nat.le_of_ble_eq_true rfl)⟩ rfl hl.1 rfl (Nat.le_of_ble_eq_true rfl) dX6_undo_39 ?_
    intro u_15 H locs hw hP hD hS
    obtain ⟨FP_13, AP_14⟩ := u_15
    have hP : va_P (dC, dI) vwCl ((xW oX oT oN oD oS oP (uF (uF FX 5 r_11) 6 r_12)) ++ ((tW oT gT cA FT AT) ++ ((nW oD gD cA FD AD) ++ ((nW oN gN cA FN AN) ++ ((sW oS gS cA FS AS) ++ (pW oP gP cA FP_13 AP_14)))))) H := hP
    have hD : va_D A ((xW oX oT oN oD oS oP (uF (uF FX 5 r_11) 6 r_12)) ++ ((tW oT gT cA FT AT) ++ ((nW oD gD cA FD AD) ++ ((nW oN gN cA FN AN) ++ ((sW oS gS cA FS AS) ++ (pW oP gP cA FP_13 AP_14)))))) := hD
    try dsimp only at hw
    refine lv_aload_n hx hb dX6_undo_42 rfl (lv_at hl 0 rfl) ?_
    refine gz (q0 := 0) (v := .ref oP) fx hK hP fl_X6_36 rfl rfl dX6_undo_43 ?_
    refine caRoV (rest := []) (As := []) fx hK lk_X6_139 (c_X2_size l dC dI cA oP gP FP_13 AP_14 _ hw) (hP.sub [16, 17, 18] rfl) 0 rfl rfl ⟨(Nat.le_of_ble_eq_true rfl), (Nat.le_of_ble_eq_true rfl)⟩ rfl hl.1 rfl (Nat.le_of_ble_eq_true rfl) dX6_undo_46 ?_
    intro r_16 hw
    exact hret _ ((uF (uF FX 5 r_11) 6 r_12), FP_13, AP_14) _ _ _ _ dX6_undo_49 rfl hw hP hD hS
  · have hw := hw.2 c_10
    refine lv_bipush (v := (-2 : Int32)) hx hb dX6_undo_10 (by decide) ?_
    exact hret _ (FX, FP, AP) _ _ _ _ dX6_undo_12 rfl hw hP hD hS
set_option maxHeartbeats 4000000 in
set_option maxRecDepth 100000 in
theorem c_X6_drawOf (l : Launch) (dC : Nat → ClassId) (dI : Nat → Nat → Nat) (cA : ClassId) (x0 : Int32) (x1 : Int32) (Post : Int32 → Prop) (hw : wp_X6_drawOf x0 x1 Post) : RoI (dC, dI) cA l yX6_drawOf cX6_drawOf 4 .int 0 0 [.int x0, .int x1] ([] : va_W) Post := by
  refine enRo (by decide) (Nat.le_of_ble_eq_true rfl) ?_
  intro p e s m args below meth c Q ls fx hK hP hret hl
  obtain ⟨hx, hb, hml, hown, hts⟩ := id fx
  have hl : lv_has ls 4 [(0, .int x0), (1, .int x1)] := hl
  refine lv_ldc2 (v := (7919 : Int64)) hx hb hown (hts _ (List.mem_cons_of_mem _ q_26_12)) dX6_drawOf_0 ?_
  refine lv_iload_n hx hb dX6_drawOf_3 rfl (lv_at hl 0 rfl) ?_
  refine lv_i2l (v := (Int32.toInt64 x0)) hx hb dX6_drawOf_4 rfl ?_
  refine lv_lmul hx hb dX6_drawOf_5 ?_
  refine lv_ldc2 (v := (6151 : Int64)) hx hb hown (hts _ (List.mem_cons_of_mem _ q_26_13)) dX6_drawOf_6 ?_
  refine lv_iload_n hx hb dX6_drawOf_9 rfl (lv_at hl 1 rfl) ?_
  refine lv_i2l (v := (Int32.toInt64 x1)) hx hb dX6_drawOf_10 rfl ?_
  refine lv_lmul hx hb dX6_drawOf_11 ?_
  refine lv_ladd hx hb dX6_drawOf_12 ?_
  refine lv_lconst (v := (1 : Int64)) hx hb dX6_drawOf_13 (by decide) ?_
  refine lv_ladd hx hb dX6_drawOf_14 ?_
  refine lv_lstore_n (lv' := [(2, .long ((((7919 : Int64) * (Int32.toInt64 x0)) + ((6151 : Int64) * (Int32.toInt64 x1))) + (1 : Int64))), (0, .int x0), (1, .int x1)]) hx hb dX6_drawOf_15 rfl hl (by decide) rfl (fun ls hl => ?_)
  refine lv_lload_n hx hb dX6_drawOf_16 rfl (lv_at hl 0 rfl) ?_
  refine lv_lload_n hx hb dX6_drawOf_17 rfl (lv_at hl 0 rfl) ?_
  refine lv_lmul hx hb dX6_drawOf_18 ?_
  refine lv_ldc2 (v := (65521 : Int64)) hx hb hown (hts _ (List.mem_cons_of_mem _ q_26_14)) dX6_drawOf_19 ?_
  refine lv_lrem hx hb dX6_drawOf_22 (by decide) ?_
  refine lv_l2i (v := (Int64.toInt32 ((((((7919 : Int64) * (Int32.toInt64 x0)) + ((6151 : Int64) * (Int32.toInt64 x1))) + (1 : Int64)) * ((((7919 : Int64) * (Int32.toInt64 x0)) + ((6151 : Int64) * (Int32.toInt64 x1))) + (1 : Int64))) - (((((7919 : Int64) * (Int32.toInt64 x0)) + ((6151 : Int64) * (Int32.toInt64 x1))) + (1 : Int64)) * ((((7919 : Int64) * (Int32.toInt64 x0)) + ((6151 : Int64) * (Int32.toInt64 x1))) + (1 : Int64))) / (65521 : Int64) * (65521 : Int64)))) hx hb dX6_drawOf_23 rfl ?_
  exact hret _ _ _ dX6_drawOf_24 rfl hw
set_option maxHeartbeats 4000000 in
set_option maxRecDepth 100000 in
theorem c_X6_cruellest (l : Launch) (dC : Nat → ClassId) (dI : Nat → Nat → Nat) (cA : ClassId) (oX : Nat) (oT : Nat) (gT : Nat → Nat) (oD : Nat) (gD : Nat → Nat) (oN : Nat) (gN : Nat → Nat) (oS : Nat) (gS : Nat → Nat) (oP : Nat) (gP : Nat → Nat) (FX : Nat → Int32) (FT : Nat → Int32) (AT : Nat → Nat → Int32) (FD : Nat → Int32) (AD : Nat → Nat → Int32) (FN : Nat → Int32) (AN : Nat → Nat → Int32) (FS : Nat → Int32) (AS : Nat → Nat → Int32) (FP : Nat → Int32) (AP : Nat → Nat → Int32) (x1 : Int32) (x2 : Int32) (Post : Int32 → Prop) (hw : wp_X6_cruellest FX FT AT FD AD FN AN FS AS FP AP x1 x2 Post) : RoI (dC, dI) cA l yX6_cruellest cX6_cruellest 7 .int 3 68 [.ref oX, .int x1, .int x2] ((xW oX oT oN oD oS oP FX) ++ ((tW oT gT cA FT AT) ++ ((nW oD gD cA FD AD) ++ ((nW oN gN cA FN AN) ++ ((sW oS gS cA FS AS) ++ (pW oP gP cA FP AP)))))) Post := by
  refine enRo (by decide) (Nat.le_of_ble_eq_true rfl) ?_
  intro p e s m args below meth c Q ls fx hK hP hret hl
  obtain ⟨hx, hb, hml, hown, hts⟩ := id fx
  have hl : lv_has ls 7 [(0, .ref oX), (1, .int x1), (2, .int x2)] := hl
  have b_8 : ∀ (x3 : Int32) (x4 : Int32) (x5 : Int32) (ls : Array Slot), lv_has ls 7 [(0, .ref oX), (1, .int x1), (2, .int x2), (3, .int x3), (4, .int x4), (5, .int x5)] → wp_X6_cruellest_8 FX FT AT FD AD FN AN FS AS FP AP x1 x2 x3 x4 x5 Post → W p l e ({ frames := 3, cells := 0, slots := 0, locals := 68 } : Room) s m args below meth c s.heap [] 0 0 Q (F0 m 8 ls []) := by
    intro x3 x4 x5 ls hl hw
    refine Lp_go (C := fun (t : Int32 × Int32 × Int32) => ∀ (ls : Array Slot), lv_has ls 7 [(0, .ref oX), (1, .int x1), (2, .int x2), (3, .int (t.1)), (4, .int (t.2.1)), (5, .int (t.2.2))] → W p l e ({ frames := 3, cells := 0, slots := 0, locals := 68 } : Room) s m args below meth c s.heap [] 0 0 Q (F0 m 8 ls [])) ?_ hw ls hl
    intro k_8 hk_8 t
    obtain ⟨x3, x4, x5⟩ := t
    intro hw ls hl
    have hl : lv_has ls 7 [(0, .ref oX), (1, .int x1), (2, .int x2), (3, .int x3), (4, .int x4), (5, .int x5)] := hl
    have hw : st_X6_cruellest_8 FX FT AT FD AD FN AN FS AS FP AP x1 x2 Post k_8 x3 x4 x5 := hw
    refine lv_iload hx hb dX6_cruellest_8 (lv_at hl 5 rfl) ?_
    refine lv_aload_n hx hb dX6_cruellest_10 rfl (lv_at hl 0 rfl) ?_
    refine gz (q0 := 0) (v := .ref oN) fx hK hP fl_X6_19 rfl rfl dX6_cruellest_11 ?_
    refine gz (q0 := 6) (v := .int (FN 1)) fx hK hP fl_X6_204 rfl rfl dX6_cruellest_14 ?_
    refine lv_icmp_ge (tgt := 77) hx hb dX6_cruellest_17 (by decide) (fun c_1 => ?_) (fun c_1 => ?_)
    · have hw := hw.1 c_1
      refine lv_iload_n hx hb dX6_cruellest_77 rfl (lv_at hl 3 rfl) ?_
      exact hret _ _ _ dX6_cruellest_78 rfl hw
    · have hw := hw.2 c_1
      refine lv_iload_n hx hb dX6_cruellest_20 rfl (lv_at hl 2 rfl) ?_
      refine lv_iload hx hb dX6_cruellest_21 (lv_at hl 5 rfl) ?_
      refine caRoS (rest := []) (As := [.int x2, .int x5]) fx hK lk_X6_216 (c_X0_has l dC dI cA x2 x5 _ hw) (hP.sub [] rfl) ⟨(Nat.le_of_ble_eq_true rfl), (Nat.le_of_ble_eq_true rfl)⟩ rfl hl.1 rfl (Nat.le_of_ble_eq_true rfl) dX6_cruellest_23 ?_
      intro r_2 hw
      refine lv_if_eq (tgt := 71) hx hb dX6_cruellest_26 (by decide) (fun c_3 => ?_) (fun c_3 => ?_)
      · have hw := hw.1 c_3
        refine lv_iinc (v := (x5 + 1)) (lv' := [(5, .int (x5 + 1)), (0, .ref oX), (1, .int x1), (2, .int x2), (3, .int x3), (4, .int x4)]) hx hb dX6_cruellest_71 hl (k := 5) rfl rfl (by decide) rfl (fun ls hl => ?_)
        refine lv_goto (tgt := 8) hx hb dX6_cruellest_74 (by decide) ?_
        exact hk_8 (x3, x4, (x5 + 1)) hw _ (lv_sub hl [1, 2, 3, 4, 5, 0] rfl)
      · have hw := hw.2 c_3
        refine lv_aload_n hx hb dX6_cruellest_29 rfl (lv_at hl 0 rfl) ?_
        refine gz (q0 := 0) (v := .ref oS) fx hK hP fl_X6_29 rfl rfl dX6_cruellest_30 ?_
        refine lv_aload_n hx hb dX6_cruellest_33 rfl (lv_at hl 0 rfl) ?_
        refine gz (q0 := 0) (v := .ref oS) fx hK hP fl_X6_29 rfl rfl dX6_cruellest_34 ?_
        refine lv_aload_n hx hb dX6_cruellest_37 rfl (lv_at hl 0 rfl) ?_
        refine gz (q0 := 0) (v := .ref oN) fx hK hP fl_X6_19 rfl rfl dX6_cruellest_38 ?_
        refine lv_iload_n hx hb dX6_cruellest_41 rfl (lv_at hl 1 rfl) ?_
        refine lv_iload hx hb dX6_cruellest_42 (lv_at hl 5 rfl) ?_
        refine caRoV (rest := [.ref oS]) (As := [.ref oN, .int x1, .int x5]) fx hK lk_X6_219 (c_X4_behind l dC dI cA oN gN oS gS FN AN FS AS x1 x5 _ hw) (hP.sub [6, 7, 8, 9, 10, 11, 12, 13, 14, 15] rfl) 3 rfl rfl ⟨(Nat.le_of_ble_eq_true rfl), (Nat.le_of_ble_eq_true rfl)⟩ rfl hl.1 rfl (Nat.le_of_ble_eq_true rfl) dX6_cruellest_44 ?_
        intro r_4 hw
        refine caRoV (rest := []) (As := [.int r_4]) fx hK lk_X6_223 (c_X4_worstOf l dC dI cA oS gS FS AS r_4 _ hw) (hP.sub [9, 10, 11, 12, 13, 14, 15] rfl) 0 rfl rfl ⟨(Nat.le_of_ble_eq_true rfl), (Nat.le_of_ble_eq_true rfl)⟩ rfl hl.1 rfl (Nat.le_of_ble_eq_true rfl) dX6_cruellest_47 ?_
        intro r_5 hw
        refine caRoS (rest := []) (As := [.int r_5]) fx hK lk_X6_226 (c_X4_rankOf l dC dI cA r_5 _ hw) (hP.sub [] rfl) ⟨(Nat.le_of_ble_eq_true rfl), (Nat.le_of_ble_eq_true rfl)⟩ rfl hl.1 rfl (Nat.le_of_ble_eq_true rfl) dX6_cruellest_50 ?_
        intro r_6 hw
        refine lv_istore (lv' := [(6, .int r_6), (0, .ref oX), (1, .int x1), (2, .int x2), (3, .int x3), (4, .int x4), (5, .int x5)]) hx hb dX6_cruellest_53 hl (by decide) rfl (fun ls hl => ?_)
        refine lv_iload hx hb dX6_cruellest_55 (lv_at hl 0 rfl) ?_
        refine lv_iload hx hb dX6_cruellest_57 (lv_at hl 5 rfl) ?_
        refine lv_icmp_le (tgt := 71) hx hb dX6_cruellest_59 (by decide) (fun c_7 => ?_) (fun c_7 => ?_)
        · have hw := hw.1 c_7
          refine lv_iinc (v := (x5 + 1)) (lv' := [(5, .int (x5 + 1)), (6, .int r_6), (0, .ref oX), (1, .int x1), (2, .int x2), (3, .int x3), (4, .int x4)]) hx hb dX6_cruellest_71 hl (k := 6) rfl rfl (by decide) rfl (fun ls hl => ?_)
          refine lv_goto (tgt := 8) hx hb dX6_cruellest_74 (by decide) ?_
          exact hk_8 (x3, x4, (x5 + 1)) hw _ (lv_sub hl [2, 3, 4, 5, 6, 0] rfl)
        · have hw := hw.2 c_7
          refine lv_iload hx hb dX6_cruellest_62 (lv_at hl 0 rfl) ?_
          refine lv_istore (lv' := [(4, .int r_6), (6, .int r_6), (0, .ref oX), (1, .int x1), (2, .int x2), (3, .int x3), (5, .int x5)]) hx hb dX6_cruellest_64 hl (by decide) rfl (fun ls hl => ?_)
          refine lv_iconst (v := (1 : Int32)) hx hb dX6_cruellest_66 (by decide) ?_
          refine lv_iload hx hb dX6_cruellest_67 (lv_at hl 6 rfl) ?_
          refine lv_ishl hx hb dX6_cruellest_69 ?_
          refine lv_istore_n (lv' := [(3, .int ((1 : Int32) <<< (x5 &&& 31))), (4, .int r_6), (6, .int r_6), (0, .ref oX), (1, .int x1), (2, .int x2), (5, .int x5)]) hx hb dX6_cruellest_70 rfl hl (by decide) rfl (fun ls hl => ?_)
          refine lv_iinc (v := (x5 + 1)) (lv' := [(5, .int (x5 + 1)), (3, .int ((1 : Int32) <<< (x5 &&& 31))), (4, .int r_6), (6, .int r_6), (0, .ref oX), (1, .int x1), (2, .int x2)]) hx hb dX6_cruellest_71 hl (k := 6) rfl rfl (by decide) rfl (fun ls hl => ?_)
          refine lv_goto (tgt := 8) hx hb dX6_cruellest_74 (by decide) ?_
          exact hk_8 (((1 : Int32) <<< (x5 &&& 31)), r_6, (x5 + 1)) hw _ (lv_sub hl [4, 5, 6, 1, 2, 0] rfl)
  refine lv_iconst (v := (0 : Int32)) hx hb dX6_cruellest_0 (by decide) ?_
  refine lv_istore_n (lv' := [(3, .int (0 : Int32)), (0, .ref oX), (1, .int x1), (2, .int x2)]) hx hb dX6_cruellest_1 rfl hl (by decide) rfl (fun ls hl => ?_)
  refine lv_iconst (v := (-1 : Int32)) hx hb dX6_cruellest_2 (by decide) ?_
  refine lv_istore (lv' := [(4, .int (-1 : Int32)), (3, .int (0 : Int32)), (0, .ref oX), (1, .int x1), (2, .int x2)]) hx hb dX6_cruellest_3 hl (by decide) rfl (fun ls hl => ?_)
  refine lv_iconst (v := (0 : Int32)) hx hb dX6_cruellest_5 (by decide) ?_
  refine lv_istore (lv' := [(5, .int (0 : Int32)), (4, .int (-1 : Int32)), (3, .int (0 : Int32)), (0, .ref oX), (1, .int x1), (2, .int x2)]) hx hb dX6_cruellest_6 hl (by decide) rfl (fun ls hl => ?_)
  exact b_8 (0 : Int32) (-1 : Int32) (0 : Int32) _ (lv_sub hl [3, 4, 5, 2, 1, 0] rfl) hw
set_option maxHeartbeats 4000000 in
set_option maxRecDepth 100000 in
theorem c_X6_moversOf (l : Launch) (dC : Nat → ClassId) (dI : Nat → Nat → Nat) (cA : ClassId) (oX : Nat) (oT : Nat) (gT : Nat → Nat) (oD : Nat) (gD : Nat → Nat) (oN : Nat) (gN : Nat → Nat) (oS : Nat) (gS : Nat → Nat) (oP : Nat) (gP : Nat → Nat) (FX : Nat → Int32) (FT : Nat → Int32) (AT : Nat → Nat → Int32) (FD : Nat → Int32) (AD : Nat → Nat → Int32) (FN : Nat → Int32) (AN : Nat → Nat → Int32) (FS : Nat → Int32) (AS : Nat → Nat → Int32) (FP : Nat → Int32) (AP : Nat → Nat → Int32) (x1 : Int32) (x2 : Int32) (x3 : Int32) (x4 : Int32) (Post : Int32 → Prop) (hw : wp_X6_moversOf FX FT AT FD AD FN AN FS AS FP AP x1 x2 x3 x4 Post) : RoI (dC, dI) cA l yX6_moversOf cX6_moversOf 6 .int 5 116 [.ref oX, .int x1, .int x2, .int x3, .int x4] ((xW oX oT oN oD oS oP FX) ++ ((tW oT gT cA FT AT) ++ ((nW oD gD cA FD AD) ++ ((nW oN gN cA FN AN) ++ ((sW oS gS cA FS AS) ++ (pW oP gP cA FP AP)))))) Post := by
  refine enRo (by decide) (Nat.le_of_ble_eq_true rfl) ?_
  intro p e s m args below meth c Q ls fx hK hP hret hl
  obtain ⟨hx, hb, hml, hown, hts⟩ := id fx
  have hl : lv_has ls 6 [(0, .ref oX), (1, .int x1), (2, .int x2), (3, .int x3), (4, .int x4)] := hl
  refine lv_aload_n hx hb dX6_moversOf_0 rfl (lv_at hl 0 rfl) ?_
  refine gz (q0 := 0) (v := .ref oN) fx hK hP fl_X6_19 rfl rfl dX6_moversOf_1 ?_
  refine lv_iload_n hx hb dX6_moversOf_4 rfl (lv_at hl 2 rfl) ?_
  refine caRoV (rest := []) (As := [.int x2]) fx hK lk_X6_123 (c_X1_whoMay l dC dI cA oN gN FN AN x2 _ hw) (hP.sub [6, 7, 8] rfl) 0 rfl rfl ⟨(Nat.le_of_ble_eq_true rfl), (Nat.le_of_ble_eq_true rfl)⟩ rfl hl.1 rfl (Nat.le_of_ble_eq_true rfl) dX6_moversOf_5 ?_
  intro r_10 hw
  refine lv_istore (lv' := [(5, .int r_10), (0, .ref oX), (1, .int x1), (2, .int x2), (3, .int x3), (4, .int x4)]) hx hb dX6_moversOf_8 hl (by decide) rfl (fun ls hl => ?_)
  refine lv_iload_n hx hb dX6_moversOf_10 rfl (lv_at hl 2 rfl) ?_
  by_cases c_11 : x1 = (0 : Int32)
  · have hw := hw.1 c_11
    refine lv_tableIn (off := 29) (tgt := 40) hx hb dX6_moversOf_11 (by rw [c_11]; decide) (by rw [c_11]; decide) (by rw [c_11]; rfl) (by decide) ?_
    refine lv_iload hx hb dX6_moversOf_40 (lv_at hl 0 rfl) ?_
    refine caRoS (rest := []) (As := [.int r_10]) fx hK lk_X6_199 (c_X0_lowest l dC dI cA r_10 _ hw) (hP.sub [] rfl) ⟨(Nat.le_of_ble_eq_true rfl), (Nat.le_of_ble_eq_true rfl)⟩ rfl hl.1 rfl (Nat.le_of_ble_eq_true rfl) dX6_moversOf_42 ?_
    intro r_12 hw
    exact hret _ _ _ dX6_moversOf_45 rfl hw
  · have hw := hw.2 c_11
    by_cases c_13 : x1 = (1 : Int32)
    · have hw := hw.1 c_13
      refine lv_tableIn (off := 35) (tgt := 46) hx hb dX6_moversOf_11 (by rw [c_13]; decide) (by rw [c_13]; decide) (by rw [c_13]; rfl) (by decide) ?_
      refine lv_iload hx hb dX6_moversOf_46 (lv_at hl 0 rfl) ?_
      refine lv_iload_n hx hb dX6_moversOf_48 rfl (lv_at hl 4 rfl) ?_
      refine lv_aload_n hx hb dX6_moversOf_49 rfl (lv_at hl 1 rfl) ?_
      refine gz (q0 := 0) (v := .ref oN) fx hK hP fl_X6_19 rfl rfl dX6_moversOf_50 ?_
      refine gz (q0 := 6) (v := .int (FN 1)) fx hK hP fl_X6_204 rfl rfl dX6_moversOf_53 ?_
      refine caRoS (rest := []) (As := [.int r_10, .int x3, .int (FN 1)]) fx hK lk_X6_207 (c_X0_nextInRing l dC dI cA r_10 x3 (FN 1) _ hw) (hP.sub [] rfl) ⟨(Nat.le_of_ble_eq_true rfl), (Nat.le_of_ble_eq_true rfl)⟩ rfl hl.1 rfl (Nat.le_of_ble_eq_true rfl) dX6_moversOf_56 ?_
      intro r_14 hw
      exact hret _ _ _ dX6_moversOf_59 rfl hw
    · have hw := hw.2 c_13
      by_cases c_15 : x1 = (2 : Int32)
      · have hw := hw.1 c_15
        refine lv_tableIn (off := 49) (tgt := 60) hx hb dX6_moversOf_11 (by rw [c_15]; decide) (by rw [c_15]; decide) (by rw [c_15]; rfl) (by decide) ?_
        refine lv_iload hx hb dX6_moversOf_60 (lv_at hl 0 rfl) ?_
        exact hret _ _ _ dX6_moversOf_62 rfl hw
      · have hw := hw.2 c_15
        by_cases c_16 : x1 = (3 : Int32)
        · have hw := hw.1 c_16
          refine lv_tableIn (off := 52) (tgt := 63) hx hb dX6_moversOf_11 (by rw [c_16]; decide) (by rw [c_16]; decide) (by rw [c_16]; rfl) (by decide) ?_
          refine lv_iload hx hb dX6_moversOf_63 (lv_at hl 0 rfl) ?_
          refine lv_iload hx hb dX6_moversOf_65 (lv_at hl 5 rfl) ?_
          refine caRoS (rest := []) (As := [.int r_10, .int x4]) fx hK lk_X6_210 (c_X0_drawn l dC dI cA r_10 x4 _ hw) (hP.sub [] rfl) ⟨(Nat.le_of_ble_eq_true rfl), (Nat.le_of_ble_eq_true rfl)⟩ rfl hl.1 rfl (Nat.le_of_ble_eq_true rfl) dX6_moversOf_67 ?_
          intro r_17 hw
          exact hret _ _ _ dX6_moversOf_70 rfl hw
        · have hw := hw.2 c_16
          refine lv_tableOut (tgt := 71) hx hb dX6_moversOf_11 (by have := ne_i 0 _ (by decide) c_11; have := ne_i 1 _ (by decide) c_13; have := ne_i 2 _ (by decide) c_15; have := ne_i 3 _ (by decide) c_16; omega) (by decide) ?_
          refine lv_aload_n hx hb dX6_moversOf_71 rfl (lv_at hl 1 rfl) ?_
          refine lv_iload_n hx hb dX6_moversOf_72 rfl (lv_at hl 3 rfl) ?_
          refine lv_iload hx hb dX6_moversOf_73 (lv_at hl 0 rfl) ?_
          refine caRoV (rest := []) (As := [.int x2, .int r_10]) fx hK lk_X6_213 (c_X6_cruellest l dC dI cA oX oT gT oD gD oN gN oS gS oP gP FX FT AT FD AD FN AN FS AS FP AP x2 r_10 _ hw) (hP.sub [0, 1, 2, 3, 4, 5, 6, 7, 8, 9, 10, 11, 12, 13, 14, 15, 16, 17, 18] rfl) 0 rfl rfl ⟨(Nat.le_of_ble_eq_true rfl), (Nat.le_of_ble_eq_true rfl)⟩ rfl hl.1 rfl (Nat.le_of_ble_eq_true rfl) dX6_moversOf_75 ?_
          intro r_18 hw
          exact hret _ _ _ dX6_moversOf_78 rfl hw
set_option maxHeartbeats 4000000 in
set_option maxRecDepth 100000 in
theorem c_X6_lastBehind (l : Launch) (dC : Nat → ClassId) (dI : Nat → Nat → Nat) (cA : ClassId) (x0 : Int32) (x1 : Int32) (x2 : Int32) (Post : Int32 → Prop) (hw : wp_X6_lastBehind x0 x1 x2 Post) : RoI (dC, dI) cA l yX6_lastBehind cX6_lastBehind 3 .int 2 40 [.int x0, .int x1, .int x2] ([] : va_W) Post := by
  refine enRo (by decide) (Nat.le_of_ble_eq_true rfl) ?_
  intro p e s m args below meth c Q ls fx hK hP hret hl
  obtain ⟨hx, hb, hml, hown, hts⟩ := id fx
  have hl : lv_has ls 3 [(0, .int x0), (1, .int x1), (2, .int x2)] := hl
  refine lv_iload_n hx hb dX6_lastBehind_0 rfl (lv_at hl 0 rfl) ?_
  refine lv_iconst (v := (1 : Int32)) hx hb dX6_lastBehind_1 (by decide) ?_
  refine lv_icmp_ne (tgt := 16) hx hb dX6_lastBehind_2 (by decide) (fun c_4 => ?_) (fun c_4 => ?_)
  · have hw := hw.1 c_4
    refine lv_iload_n hx hb dX6_lastBehind_16 rfl (lv_at hl 1 rfl) ?_
    exact hret _ _ _ dX6_lastBehind_17 rfl hw
  · have hw := hw.2 c_4
    refine lv_iload_n hx hb dX6_lastBehind_5 rfl (lv_at hl 2 rfl) ?_
    refine lv_if_eq (tgt := 16) hx hb dX6_lastBehind_6 (by decide) (fun c_5 => ?_) (fun c_5 => ?_)
    · have hw := hw.1 c_5
      refine lv_iload_n hx hb dX6_lastBehind_16 rfl (lv_at hl 1 rfl) ?_
      exact hret _ _ _ dX6_lastBehind_17 rfl hw
    · have hw := hw.2 c_5
      refine lv_iload_n hx hb dX6_lastBehind_9 rfl (lv_at hl 2 rfl) ?_
      refine caRoS (rest := []) (As := [.int x2]) fx hK lk_X6_229 (c_X0_indexOf l dC dI cA x2 _ hw) (hP.sub [] rfl) ⟨(Nat.le_of_ble_eq_true rfl), (Nat.le_of_ble_eq_true rfl)⟩ rfl hl.1 rfl (Nat.le_of_ble_eq_true rfl) dX6_lastBehind_10 ?_
      intro r_6 hw
      refine lv_goto (tgt := 17) hx hb dX6_lastBehind_13 (by decide) ?_
      exact hret _ _ _ dX6_lastBehind_17 rfl hw
set_option maxHeartbeats 4000000 in
set_option maxRecDepth 100000 in
theorem c_X6_run (l : Launch) (dC : Nat → ClassId) (dI : Nat → Nat → Nat) (cA : ClassId) (oX : Nat) (oT : Nat) (gT : Nat → Nat) (oD : Nat) (gD : Nat → Nat) (oN : Nat) (gN : Nat → Nat) (oS : Nat) (gS : Nat → Nat) (oP : Nat) (gP : Nat → Nat) (FX : Nat → Int32) (FT : Nat → Int32) (AT : Nat → Nat → Int32) (FD : Nat → Int32) (AD : Nat → Nat → Int32) (FN : Nat → Int32) (AN : Nat → Nat → Int32) (FS : Nat → Int32) (AS : Nat → Nat → Int32) (FP : Nat → Int32) (AP : Nat → Nat → Int32) (x1 : Int32) (x2 : Int32) (x3 : Int32) (Post : Int32 → (Nat → Int32) → (Nat → Int32) → (Nat → Nat → Int32) → (Nat → Int32) → (Nat → Nat → Int32) → Prop) (hw : wp_X6_run FX FT AT FD AD FN AN FS AS FP AP x1 x2 x3 Post) : MuI (dC, dI) cA l yX6_run cX6_run 9 .int 6 148 [.ref oX, .int x1, .int x2, .int x3] ((xW oX oT oN oD oS oP FX) ++ ((tW oT gT cA FT AT) ++ ((nW oD gD cA FD AD) ++ ((nW oN gN cA FN AN) ++ ((sW oS gS cA FS AS) ++ (pW oP gP cA FP AP)))))) (fun r (u : (Nat → Int32) × (Nat → Int32) × (Nat → Nat → Int32) × (Nat → Int32) × (Nat → Nat → Int32)) => Post r (u.1) (u.2.1) (u.2.2.1) (u.2.2.2.1) (u.2.2.2.2)) (fun u => ((xW oX oT oN oD oS oP (u.1)) ++ ((tW oT gT cA FT AT) ++ ((nW oD gD cA FD AD) ++ ((nW oN gN cA FN AN) ++ ((sW oS gS cA (u.2.1) (u.2.2.1)) ++ (pW oP gP cA (u.2.2.2.1) (u.2.2.2.2)))))))) := by
  refine enMu (by decide) (Nat.le_of_ble_eq_true rfl) ?_
  intro p e s m args below meth c Q ls A fx hK hP hD hS hA hret hl
  obtain ⟨hx, hb, hml, hown, hts⟩ := id fx
  have hl : lv_has ls 9 [(0, .ref oX), (1, .int x1), (2, .int x2), (3, .int x3)] := hl
  have hP : va_P (dC, dI) vwCl ((xW oX oT oN oD oS oP FX) ++ ((tW oT gT cA FT AT) ++ ((nW oD gD cA FD AD) ++ ((nW oN gN cA FN AN) ++ ((sW oS gS cA FS AS) ++ (pW oP gP cA FP AP)))))) s.heap := hP
  have b_147 : ∀ (FX : Nat → Int32) (FS : Nat → Int32) (AS : Nat → Nat → Int32) (FP : Nat → Int32) (AP : Nat → Nat → Int32) (x4 : Int32) (x5 : Int32) (x6 : Int32) (H : Heap) (locs : List Loc) (ls : Array Slot), va_P (dC, dI) vwCl ((xW oX oT oN oD oS oP FX) ++ ((tW oT gT cA FT AT) ++ ((nW oD gD cA FD AD) ++ ((nW oN gN cA FN AN) ++ ((sW oS gS cA FS AS) ++ (pW oP gP cA FP AP)))))) H → va_D A ((xW oX oT oN oD oS oP FX) ++ ((tW oT gT cA FT AT) ++ ((nW oD gD cA FD AD) ++ ((nW oN gN cA FN AN) ++ ((sW oS gS cA FS AS) ++ (pW oP gP cA FP AP)))))) → va_S A s.heap H locs → lv_has ls 9 [(0, .ref oX), (4, .int x4), (5, .int x5), (6, .int x6)] → wp_X6_run_147 FT AT FD AD FN AN FX FS AS FP AP x4 x5 x6 Post → W p l e ({ frames := 6, cells := 0, slots := 0, locals := 148 } : Room) s m args below meth c H locs 0 0 Q (F0 m 147 ls []) := by
    intro FX FS AS FP AP x4 x5 x6 H locs ls hP hD hS hl hw
    refine lv_iload hx hb dX6_run_147 (lv_at hl 3 rfl) ?_
    refine lv_if_le (tgt := 164) hx hb dX6_run_149 (by decide) (fun c_11 => ?_) (fun c_11 => ?_)
    · have hw := hw.1 c_11
      refine lv_iload hx hb dX6_run_164 (lv_at hl 3 rfl) ?_
      exact hret _ (FX, FS, AS, FP, AP) _ _ _ _ dX6_run_166 rfl hw hP hD hS
    · have hw := hw.2 c_11
      refine lv_aload_n hx hb dX6_run_152 rfl (lv_at hl 0 rfl) ?_
      refine lv_iload hx hb dX6_run_153 (lv_at hl 1 rfl) ?_
      refine caMuVv (rest := []) (As := [.int x4]) (w1 := ([] : va_W)) (w2 := ([] : va_W)) fx hK lk_X6_106 (c_X6_change l dC dI cA oX oT gT oD gD oN gN oS gS oP gP FX FT AT FD AD FN AN FS AS FP AP x4 _ hw) hP hD hS hA 0 rfl rfl ⟨(Nat.le_of_ble_eq_true rfl), (Nat.le_of_ble_eq_true rfl)⟩ rfl hl.1 rfl (Nat.le_of_ble_eq_true rfl) dX6_run_155 ?_
      intro u_15 H locs hw hP hD hS
      obtain ⟨FX_12, FP_13, AP_14⟩ := u_15
      have hP : va_P (dC, dI) vwCl ((xW oX oT oN oD oS oP FX_12) ++ ((tW oT gT cA FT AT) ++ ((nW oD gD cA FD AD) ++ ((nW oN gN cA FN AN) ++ ((sW oS gS cA FS AS) ++ (pW oP gP cA FP_13 AP_14)))))) H := hP
      have hD : va_D A ((xW oX oT oN oD oS oP FX_12) ++ ((tW oT gT cA FT AT) ++ ((nW oD gD cA FD AD) ++ ((nW oN gN cA FN AN) ++ ((sW oS gS cA FS AS) ++ (pW oP gP cA FP_13 AP_14)))))) := hD
      try dsimp only at hw
      refine lv_aload_n hx hb dX6_run_158 rfl (lv_at hl 0 rfl) ?_
      refine lv_iload hx hb dX6_run_159 (lv_at hl 2 rfl) ?_
      refine pz (q0 := 0) (v := .int x5) fx hK hP hD hS fp_X6_85 rfl rfl rfl (Nat.le_of_ble_eq_true rfl) dX6_run_161 (fun H locs hP hD hS => ?_)
      have hP : va_P (dC, dI) vwCl ((xW oX oT oN oD oS oP (uF FX_12 6 x5)) ++ ((tW oT gT cA FT AT) ++ ((nW oD gD cA FD AD) ++ ((nW oN gN cA FN AN) ++ ((sW oS gS cA FS AS) ++ (pW oP gP cA FP_13 AP_14)))))) H := hP
      have hD : va_D A ((xW oX oT oN oD oS oP (uF FX_12 6 x5)) ++ ((tW oT gT cA FT AT) ++ ((nW oD gD cA FD AD) ++ ((nW oN gN cA FN AN) ++ ((sW oS gS cA FS AS) ++ (pW oP gP cA FP_13 AP_14)))))) := hD
      refine lv_iload hx hb dX6_run_164 (lv_at hl 3 rfl) ?_
      exact hret _ ((uF FX_12 6 x5), FS, AS, FP_13, AP_14) _ _ _ _ dX6_run_166 rfl hw hP hD hS
  have b_68 : ∀ (FX : Nat → Int32) (FS : Nat → Int32) (AS : Nat → Nat → Int32) (FP : Nat → Int32) (AP : Nat → Nat → Int32) (x4 : Int32) (x5 : Int32) (x6 : Int32) (x7 : Int32) (H : Heap) (locs : List Loc) (ls : Array Slot), va_P (dC, dI) vwCl ((xW oX oT oN oD oS oP FX) ++ ((tW oT gT cA FT AT) ++ ((nW oD gD cA FD AD) ++ ((nW oN gN cA FN AN) ++ ((sW oS gS cA FS AS) ++ (pW oP gP cA FP AP)))))) H → va_D A ((xW oX oT oN oD oS oP FX) ++ ((tW oT gT cA FT AT) ++ ((nW oD gD cA FD AD) ++ ((nW oN gN cA FN AN) ++ ((sW oS gS cA FS AS) ++ (pW oP gP cA FP AP)))))) → va_S A s.heap H locs → lv_has ls 9 [(0, .ref oX), (1, .int x1), (2, .int x2), (3, .int x3), (4, .int x4), (5, .int x5), (6, .int x6), (7, .int x7)] → wp_X6_run_68 FT AT FD AD FN AN FX FS AS FP AP x1 x2 x3 x4 x5 x6 x7 Post → W p l e ({ frames := 6, cells := 0, slots := 0, locals := 148 } : Room) s m args below meth c H locs 0 0 Q (F0 m 68 ls []) := by
    intro FX FS AS FP AP x4 x5 x6 x7 H locs ls hP hD hS hl hw
    refine Lp_go (C := fun (t : Int32 × Int32 × Int32 × Int32) => ∀ (H : Heap) (locs : List Loc) (ls : Array Slot), va_P (dC, dI) vwCl ((xW oX oT oN oD oS oP FX) ++ ((tW oT gT cA FT AT) ++ ((nW oD gD cA FD AD) ++ ((nW oN gN cA FN AN) ++ ((sW oS gS cA FS AS) ++ (pW oP gP cA FP AP)))))) H → va_D A ((xW oX oT oN oD oS oP FX) ++ ((tW oT gT cA FT AT) ++ ((nW oD gD cA FD AD) ++ ((nW oN gN cA FN AN) ++ ((sW oS gS cA FS AS) ++ (pW oP gP cA FP AP)))))) → va_S A s.heap H locs → lv_has ls 9 [(0, .ref oX), (1, .int x1), (2, .int x2), (3, .int x3), (4, .int (t.1)), (5, .int (t.2.1)), (6, .int (t.2.2.1)), (7, .int (t.2.2.2))] → W p l e ({ frames := 6, cells := 0, slots := 0, locals := 148 } : Room) s m args below meth c H locs 0 0 Q (F0 m 68 ls [])) ?_ hw H locs ls hP hD hS hl
    intro k_68 hk_68 t
    obtain ⟨x4, x5, x6, x7⟩ := t
    intro hw H locs ls hP hD hS hl
    have hP : va_P (dC, dI) vwCl ((xW oX oT oN oD oS oP FX) ++ ((tW oT gT cA FT AT) ++ ((nW oD gD cA FD AD) ++ ((nW oN gN cA FN AN) ++ ((sW oS gS cA FS AS) ++ (pW oP gP cA FP AP)))))) H := hP
    have hD : va_D A ((xW oX oT oN oD oS oP FX) ++ ((tW oT gT cA FT AT) ++ ((nW oD gD cA FD AD) ++ ((nW oN gN cA FN AN) ++ ((sW oS gS cA FS AS) ++ (pW oP gP cA FP AP)))))) := hD
    have hl : lv_has ls 9 [(0, .ref oX), (1, .int x1), (2, .int x2), (3, .int x3), (4, .int x4), (5, .int x5), (6, .int x6), (7, .int x7)] := hl
    have hw : st_X6_run_68 FT AT FD AD FN AN FX FS AS FP AP x1 x2 x3 Post k_68 x4 x5 x6 x7 := hw
    refine lv_iload hx hb dX6_run_68 (lv_at hl 7 rfl) ?_
    refine lv_iload_n hx hb dX6_run_70 rfl (lv_at hl 3 rfl) ?_
    refine lv_icmp_ge (tgt := 147) hx hb dX6_run_71 (by decide) (fun c_16 => ?_) (fun c_16 => ?_)
    · have hw := hw.1 c_16
      exact b_147 FX FS AS FP AP x4 x5 x6 _ _ _ hP hD hS (lv_sub hl [0, 4, 5, 6] rfl) hw
    · have hw := hw.2 c_16
      refine lv_aload_n hx hb dX6_run_74 rfl (lv_at hl 0 rfl) ?_
      refine gz (q0 := 0) (v := .ref oN) fx hK hP fl_X6_19 rfl rfl dX6_run_75 ?_
      refine lv_iload hx hb dX6_run_78 (lv_at hl 4 rfl) ?_
      refine caRoV (rest := []) (As := [.int x4]) fx hK lk_X6_127 (c_X1_isLegal l dC dI cA oN gN FN AN x4 _ hw) (hP.sub [6, 7, 8] rfl) 0 rfl rfl ⟨(Nat.le_of_ble_eq_true rfl), (Nat.le_of_ble_eq_true rfl)⟩ rfl hl.1 rfl (Nat.le_of_ble_eq_true rfl) dX6_run_80 ?_
      intro r_17 hw
      refine lv_if_ne (tgt := 147) hx hb dX6_run_83 (by decide) (fun c_18 => ?_) (fun c_18 => ?_)
      · have hw := hw.1 c_18
        exact b_147 FX FS AS FP AP x4 x5 x6 _ _ _ hP hD hS (lv_sub hl [0, 4, 5, 6] rfl) hw
      · have hw := hw.2 c_18
        refine lv_aload_n hx hb dX6_run_86 rfl (lv_at hl 0 rfl) ?_
        refine gz (q0 := 0) (v := .ref oN) fx hK hP fl_X6_19 rfl rfl dX6_run_87 ?_
        refine lv_iload hx hb dX6_run_90 (lv_at hl 4 rfl) ?_
        refine caRoV (rest := []) (As := [.int x4]) fx hK lk_X6_123 (c_X1_whoMay l dC dI cA oN gN FN AN x4 _ hw) (hP.sub [6, 7, 8] rfl) 0 rfl rfl ⟨(Nat.le_of_ble_eq_true rfl), (Nat.le_of_ble_eq_true rfl)⟩ rfl hl.1 rfl (Nat.le_of_ble_eq_true rfl) dX6_run_92 ?_
        intro r_19 hw
        refine lv_if_eq (tgt := 147) hx hb dX6_run_95 (by decide) (fun c_20 => ?_) (fun c_20 => ?_)
        · have hw := hw.1 c_20
          exact b_147 FX FS AS FP AP x4 x5 x6 _ _ _ hP hD hS (lv_sub hl [0, 4, 5, 6] rfl) hw
        · have hw := hw.2 c_20
          refine lv_aload_n hx hb dX6_run_98 rfl (lv_at hl 0 rfl) ?_
          refine lv_iload_n hx hb dX6_run_99 rfl (lv_at hl 1 rfl) ?_
          refine lv_iload hx hb dX6_run_100 (lv_at hl 4 rfl) ?_
          refine lv_iload hx hb dX6_run_102 (lv_at hl 5 rfl) ?_
          refine lv_iload_n hx hb dX6_run_104 rfl (lv_at hl 2 rfl) ?_
          refine lv_iload hx hb dX6_run_105 (lv_at hl 7 rfl) ?_
          refine caRoS (rest := [.int x5, .int x4, .int x1, .ref oX]) (As := [.int x2, .int x7]) fx hK lk_X6_158 (c_X6_drawOf l dC dI cA x2 x7 _ hw) (hP.sub [] rfl) ⟨(Nat.le_of_ble_eq_true rfl), (Nat.le_of_ble_eq_true rfl)⟩ rfl hl.1 rfl (Nat.le_of_ble_eq_true rfl) dX6_run_107 ?_
          intro r_21 hw
          refine caRoV (rest := []) (As := [.int x1, .int x4, .int x5, .int r_21]) fx hK lk_X6_161 (c_X6_moversOf l dC dI cA oX oT gT oD gD oN gN oS gS oP gP FX FT AT FD AD FN AN FS AS FP AP x1 x4 x5 r_21 _ hw) (hP.sub [0, 1, 2, 3, 4, 5, 6, 7, 8, 9, 10, 11, 12, 13, 14, 15, 16, 17, 18] rfl) 0 rfl rfl ⟨(Nat.le_of_ble_eq_true rfl), (Nat.le_of_ble_eq_true rfl)⟩ rfl hl.1 rfl (Nat.le_of_ble_eq_true rfl) dX6_run_110 ?_
          intro r_22 hw
          refine lv_istore (lv' := [(8, .int r_22), (0, .ref oX), (1, .int x1), (2, .int x2), (3, .int x3), (4, .int x4), (5, .int x5), (6, .int x6), (7, .int x7)]) hx hb dX6_run_113 hl (by decide) rfl (fun ls hl => ?_)
          refine lv_iload_n hx hb dX6_run_115 rfl (lv_at hl 2 rfl) ?_
          refine lv_iload hx hb dX6_run_116 (lv_at hl 6 rfl) ?_
          refine lv_iload hx hb dX6_run_118 (lv_at hl 0 rfl) ?_
          refine caRoS (rest := []) (As := [.int x1, .int x5, .int r_22]) fx hK lk_X6_165 (c_X6_lastBehind l dC dI cA x1 x5 r_22 _ hw) (hP.sub [] rfl) ⟨(Nat.le_of_ble_eq_true rfl), (Nat.le_of_ble_eq_true rfl)⟩ rfl hl.1 rfl (Nat.le_of_ble_eq_true rfl) dX6_run_120 ?_
          intro r_23 hw
          refine lv_istore (lv' := [(5, .int r_23), (8, .int r_22), (0, .ref oX), (1, .int x1), (2, .int x2), (3, .int x3), (4, .int x4), (6, .int x6), (7, .int x7)]) hx hb dX6_run_123 hl (by decide) rfl (fun ls hl => ?_)
          refine lv_aload_n hx hb dX6_run_125 rfl (lv_at hl 2 rfl) ?_
          refine gz (q0 := 0) (v := .ref oN) fx hK hP fl_X6_19 rfl rfl dX6_run_126 ?_
          refine lv_iload hx hb dX6_run_129 (lv_at hl 6 rfl) ?_
          refine lv_iload hx hb dX6_run_131 (lv_at hl 1 rfl) ?_
          refine caRoV (rest := []) (As := [.int x4, .int r_22]) fx hK lk_X6_168 (c_X1_moved l dC dI cA oN gN FN AN x4 r_22 _ hw) (hP.sub [6, 7, 8] rfl) 0 rfl rfl ⟨(Nat.le_of_ble_eq_true rfl), (Nat.le_of_ble_eq_true rfl)⟩ rfl hl.1 rfl (Nat.le_of_ble_eq_true rfl) dX6_run_133 ?_
          intro r_24 hw
          refine lv_istore (lv' := [(4, .int r_24), (5, .int r_23), (8, .int r_22), (0, .ref oX), (1, .int x1), (2, .int x2), (3, .int x3), (6, .int x6), (7, .int x7)]) hx hb dX6_run_136 hl (by decide) rfl (fun ls hl => ?_)
          refine lv_iinc (v := (x6 + 1)) (lv' := [(6, .int (x6 + 1)), (4, .int r_24), (5, .int r_23), (8, .int r_22), (0, .ref oX), (1, .int x1), (2, .int x2), (3, .int x3), (7, .int x7)]) hx hb dX6_run_138 hl (k := 7) rfl rfl (by decide) rfl (fun ls hl => ?_)
          refine lv_iinc (v := (x7 + 1)) (lv' := [(7, .int (x7 + 1)), (6, .int (x6 + 1)), (4, .int r_24), (5, .int r_23), (8, .int r_22), (0, .ref oX), (1, .int x1), (2, .int x2), (3, .int x3)]) hx hb dX6_run_141 hl (k := 8) rfl rfl (by decide) rfl (fun ls hl => ?_)
          refine lv_goto (tgt := 68) hx hb dX6_run_144 (by decide) ?_
          exact hk_68 (r_24, r_23, (x6 + 1), (x7 + 1)) hw _ _ _ hP hD hS (lv_sub hl [5, 6, 7, 8, 2, 3, 1, 0] rfl)
  have b_50 : ∀ (FX : Nat → Int32) (FS : Nat → Int32) (AS : Nat → Nat → Int32) (FP : Nat → Int32) (AP : Nat → Nat → Int32) (H : Heap) (locs : List Loc) (ls : Array Slot), va_P (dC, dI) vwCl ((xW oX oT oN oD oS oP FX) ++ ((tW oT gT cA FT AT) ++ ((nW oD gD cA FD AD) ++ ((nW oN gN cA FN AN) ++ ((sW oS gS cA FS AS) ++ (pW oP gP cA FP AP)))))) H → va_D A ((xW oX oT oN oD oS oP FX) ++ ((tW oT gT cA FT AT) ++ ((nW oD gD cA FD AD) ++ ((nW oN gN cA FN AN) ++ ((sW oS gS cA FS AS) ++ (pW oP gP cA FP AP)))))) → va_S A s.heap H locs → lv_has ls 9 [(0, .ref oX), (1, .int x1), (2, .int x2), (3, .int x3)] → wp_X6_run_50 FT AT FD AD FN AN FX FS AS FP AP x1 x2 x3 Post → W p l e ({ frames := 6, cells := 0, slots := 0, locals := 148 } : Room) s m args below meth c H locs 0 0 Q (F0 m 50 ls []) := by
    intro FX FS AS FP AP H locs ls hP hD hS hl hw
    refine lv_aload_n hx hb dX6_run_50 rfl (lv_at hl 0 rfl) ?_
    refine gz (q0 := 0) (v := .int (FX 5)) fx hK hP fl_X6_82 rfl rfl dX6_run_51 ?_
    refine lv_istore (lv' := [(4, .int (FX 5)), (0, .ref oX), (1, .int x1), (2, .int x2), (3, .int x3)]) hx hb dX6_run_54 hl (by decide) rfl (fun ls hl => ?_)
    refine lv_aload_n hx hb dX6_run_56 rfl (lv_at hl 1 rfl) ?_
    refine gz (q0 := 0) (v := .int (FX 6)) fx hK hP fl_X6_85 rfl rfl dX6_run_57 ?_
    refine lv_istore (lv' := [(5, .int (FX 6)), (4, .int (FX 5)), (0, .ref oX), (1, .int x1), (2, .int x2), (3, .int x3)]) hx hb dX6_run_60 hl (by decide) rfl (fun ls hl => ?_)
    refine lv_iconst (v := (0 : Int32)) hx hb dX6_run_62 (by decide) ?_
    refine lv_istore (lv' := [(6, .int (0 : Int32)), (5, .int (FX 6)), (4, .int (FX 5)), (0, .ref oX), (1, .int x1), (2, .int x2), (3, .int x3)]) hx hb dX6_run_63 hl (by decide) rfl (fun ls hl => ?_)
    refine lv_iconst (v := (0 : Int32)) hx hb dX6_run_65 (by decide) ?_
    refine lv_istore (lv' := [(7, .int (0 : Int32)), (6, .int (0 : Int32)), (5, .int (FX 6)), (4, .int (FX 5)), (0, .ref oX), (1, .int x1), (2, .int x2), (3, .int x3)]) hx hb dX6_run_66 hl (by decide) rfl (fun ls hl => ?_)
    exact b_68 FX FS AS FP AP (FX 5) (FX 6) (0 : Int32) (0 : Int32) _ _ _ hP hD hS (lv_sub hl [4, 5, 6, 7, 3, 2, 1, 0] rfl) hw
  refine lv_iload_n hx hb dX6_run_0 rfl (lv_at hl 1 rfl) ?_
  refine lv_if_lt (tgt := 32) hx hb dX6_run_1 (by decide) (fun c_25 => ?_) (fun c_25 => ?_)
  · have hw := hw.1 c_25
    refine lv_iconst (v := (-1 : Int32)) hx hb dX6_run_32 (by decide) ?_
    exact hret _ (FX, FS, AS, FP, AP) _ _ _ _ dX6_run_33 rfl hw hP hD hS
  · have hw := hw.2 c_25
    refine lv_iload_n hx hb dX6_run_4 rfl (lv_at hl 1 rfl) ?_
    refine lv_iconst (v := (4 : Int32)) hx hb dX6_run_5 (by decide) ?_
    refine lv_icmp_gt (tgt := 32) hx hb dX6_run_6 (by decide) (fun c_26 => ?_) (fun c_26 => ?_)
    · have hw := hw.1 c_26
      refine lv_iconst (v := (-1 : Int32)) hx hb dX6_run_32 (by decide) ?_
      exact hret _ (FX, FS, AS, FP, AP) _ _ _ _ dX6_run_33 rfl hw hP hD hS
    · have hw := hw.2 c_26
      refine lv_iload_n hx hb dX6_run_9 rfl (lv_at hl 2 rfl) ?_
      refine lv_if_lt (tgt := 32) hx hb dX6_run_10 (by decide) (fun c_27 => ?_) (fun c_27 => ?_)
      · have hw := hw.1 c_27
        refine lv_iconst (v := (-1 : Int32)) hx hb dX6_run_32 (by decide) ?_
        exact hret _ (FX, FS, AS, FP, AP) _ _ _ _ dX6_run_33 rfl hw hP hD hS
      · have hw := hw.2 c_27
        refine lv_iload_n hx hb dX6_run_13 rfl (lv_at hl 2 rfl) ?_
        refine lv_sipush (v := (9999 : Int32)) hx hb dX6_run_14 (by decide) ?_
        refine lv_icmp_gt (tgt := 32) hx hb dX6_run_17 (by decide) (fun c_28 => ?_) (fun c_28 => ?_)
        · have hw := hw.1 c_28
          refine lv_iconst (v := (-1 : Int32)) hx hb dX6_run_32 (by decide) ?_
          exact hret _ (FX, FS, AS, FP, AP) _ _ _ _ dX6_run_33 rfl hw hP hD hS
        · have hw := hw.2 c_28
          refine lv_iload_n hx hb dX6_run_20 rfl (lv_at hl 3 rfl) ?_
          refine lv_iconst (v := (1 : Int32)) hx hb dX6_run_21 (by decide) ?_
          refine lv_icmp_lt (tgt := 32) hx hb dX6_run_22 (by decide) (fun c_29 => ?_) (fun c_29 => ?_)
          · have hw := hw.1 c_29
            refine lv_iconst (v := (-1 : Int32)) hx hb dX6_run_32 (by decide) ?_
            exact hret _ (FX, FS, AS, FP, AP) _ _ _ _ dX6_run_33 rfl hw hP hD hS
          · have hw := hw.2 c_29
            refine lv_iload_n hx hb dX6_run_25 rfl (lv_at hl 3 rfl) ?_
            refine lv_sipush (v := (300 : Int32)) hx hb dX6_run_26 (by decide) ?_
            refine lv_icmp_le (tgt := 34) hx hb dX6_run_29 (by decide) (fun c_30 => ?_) (fun c_30 => ?_)
            · have hw := hw.1 c_30
              refine lv_iload_n hx hb dX6_run_34 rfl (lv_at hl 1 rfl) ?_
              refine lv_iconst (v := (4 : Int32)) hx hb dX6_run_35 (by decide) ?_
              refine lv_icmp_ne (tgt := 50) hx hb dX6_run_36 (by decide) (fun c_31 => ?_) (fun c_31 => ?_)
              · have hw := hw.1 c_31
                exact b_50 FX FS AS FP AP _ _ _ hP hD hS (lv_sub hl [0, 1, 2, 3] rfl) hw
              · have hw := hw.2 c_31
                refine lv_aload_n hx hb dX6_run_39 rfl (lv_at hl 0 rfl) ?_
                refine gz (q0 := 0) (v := .ref oS) fx hK hP fl_X6_29 rfl rfl dX6_run_40 ?_
                refine lv_aload_n hx hb dX6_run_43 rfl (lv_at hl 0 rfl) ?_
                refine gz (q0 := 0) (v := .ref oN) fx hK hP fl_X6_19 rfl rfl dX6_run_44 ?_
                refine caMuVv (rest := []) (As := [.ref oN]) (w1 := ((xW oX oT oN oD oS oP FX) ++ ((tW oT gT cA FT AT) ++ (nW oD gD cA FD AD)))) (w2 := (pW oP gP cA FP AP)) fx hK lk_X6_155 (c_X4_make l dC dI cA oN gN oS gS FN AN FS AS _ hw) hP hD hS hA 3 rfl rfl ⟨(Nat.le_of_ble_eq_true rfl), (Nat.le_of_ble_eq_true rfl)⟩ rfl hl.1 rfl (Nat.le_of_ble_eq_true rfl) dX6_run_47 ?_
                intro u_34 H locs hw hP hD hS
                obtain ⟨FS_32, AS_33⟩ := u_34
                have hP : va_P (dC, dI) vwCl ((xW oX oT oN oD oS oP FX) ++ ((tW oT gT cA FT AT) ++ ((nW oD gD cA FD AD) ++ ((nW oN gN cA FN AN) ++ ((sW oS gS cA FS_32 AS_33) ++ (pW oP gP cA FP AP)))))) H := hP
                have hD : va_D A ((xW oX oT oN oD oS oP FX) ++ ((tW oT gT cA FT AT) ++ ((nW oD gD cA FD AD) ++ ((nW oN gN cA FN AN) ++ ((sW oS gS cA FS_32 AS_33) ++ (pW oP gP cA FP AP)))))) := hD
                try dsimp only at hw
                exact b_50 FX FS_32 AS_33 FP AP _ _ _ hP hD hS (lv_sub hl [0, 1, 2, 3] rfl) hw
            · have hw := hw.2 c_30
              refine lv_iconst (v := (-1 : Int32)) hx hb dX6_run_32 (by decide) ?_
              exact hret _ (FX, FS, AS, FP, AP) _ _ _ _ dX6_run_33 rfl hw hP hD hS
set_option maxHeartbeats 4000000 in
set_option maxRecDepth 100000 in
theorem c_X6_next (l : Launch) (dC : Nat → ClassId) (dI : Nat → Nat → Nat) (cA : ClassId) (oX : Nat) (oT : Nat) (gT : Nat → Nat) (oD : Nat) (gD : Nat → Nat) (oN : Nat) (gN : Nat → Nat) (oS : Nat) (gS : Nat → Nat) (oP : Nat) (gP : Nat → Nat) (FX : Nat → Int32) (FT : Nat → Int32) (AT : Nat → Nat → Int32) (FD : Nat → Int32) (AD : Nat → Nat → Int32) (FN : Nat → Int32) (AN : Nat → Nat → Int32) (FS : Nat → Int32) (AS : Nat → Nat → Int32) (FP : Nat → Int32) (AP : Nat → Nat → Int32) (x1 : Int32) (Post : Int32 → (Nat → Int32) → (Nat → Nat → Int32) → Prop) (hw : wp_X6_next FX FT AT FD AD FN AN FS AS FP AP x1 Post) : MuI (dC, dI) cA l yX6_next cX6_next 2 .int 6 148 [.ref oX, .int x1] ((xW oX oT oN oD oS oP FX) ++ ((tW oT gT cA FT AT) ++ ((nW oD gD cA FD AD) ++ ((nW oN gN cA FN AN) ++ ((sW oS gS cA FS AS) ++ (pW oP gP cA FP AP)))))) (fun r (u : (Nat → Int32) × (Nat → Nat → Int32)) => Post r (u.1) (u.2)) (fun u => ((xW oX oT oN oD oS oP FX) ++ ((tW oT gT cA FT AT) ++ ((nW oD gD cA FD AD) ++ ((nW oN gN cA FN AN) ++ ((sW oS gS cA (u.1) (u.2)) ++ (pW oP gP cA FP AP))))))) := by
  refine enMu (by decide) (Nat.le_of_ble_eq_true rfl) ?_
  intro p e s m args below meth c Q ls A fx hK hP hD hS hA hret hl
  obtain ⟨hx, hb, hml, hown, hts⟩ := id fx
  have hl : lv_has ls 2 [(0, .ref oX), (1, .int x1)] := hl
  have hP : va_P (dC, dI) vwCl ((xW oX oT oN oD oS oP FX) ++ ((tW oT gT cA FT AT) ++ ((nW oD gD cA FD AD) ++ ((nW oN gN cA FN AN) ++ ((sW oS gS cA FS AS) ++ (pW oP gP cA FP AP)))))) s.heap := hP
  have b_32 : ∀ (FS : Nat → Int32) (AS : Nat → Nat → Int32) (H : Heap) (locs : List Loc) (ls : Array Slot), va_P (dC, dI) vwCl ((xW oX oT oN oD oS oP FX) ++ ((tW oT gT cA FT AT) ++ ((nW oD gD cA FD AD) ++ ((nW oN gN cA FN AN) ++ ((sW oS gS cA FS AS) ++ (pW oP gP cA FP AP)))))) H → va_D A ((xW oX oT oN oD oS oP FX) ++ ((tW oT gT cA FT AT) ++ ((nW oD gD cA FD AD) ++ ((nW oN gN cA FN AN) ++ ((sW oS gS cA FS AS) ++ (pW oP gP cA FP AP)))))) → va_S A s.heap H locs → lv_has ls 2 [(0, .ref oX), (1, .int x1)] → wp_X6_next_32 FX FT AT FD AD FN AN FP AP FS AS x1 Post → W p l e ({ frames := 6, cells := 0, slots := 0, locals := 148 } : Room) s m args below meth c H locs 0 0 Q (F0 m 32 ls []) := by
    intro FS AS H locs ls hP hD hS hl hw
    refine lv_aload_n hx hb dX6_next_32 rfl (lv_at hl 0 rfl) ?_
    refine lv_iload_n hx hb dX6_next_33 rfl (lv_at hl 1 rfl) ?_
    refine lv_aload_n hx hb dX6_next_34 rfl (lv_at hl 0 rfl) ?_
    refine gz (q0 := 0) (v := .int (FX 5)) fx hK hP fl_X6_82 rfl rfl dX6_next_35 ?_
    refine lv_aload_n hx hb dX6_next_38 rfl (lv_at hl 0 rfl) ?_
    refine gz (q0 := 0) (v := .int (FX 6)) fx hK hP fl_X6_85 rfl rfl dX6_next_39 ?_
    refine lv_iconst (v := (0 : Int32)) hx hb dX6_next_42 (by decide) ?_
    refine caRoV (rest := []) (As := [.int x1, .int (FX 5), .int (FX 6), .int (0 : Int32)]) fx hK lk_X6_161 (c_X6_moversOf l dC dI cA oX oT gT oD gD oN gN oS gS oP gP FX FT AT FD AD FN AN FS AS FP AP x1 (FX 5) (FX 6) (0 : Int32) _ hw) (hP.sub [0, 1, 2, 3, 4, 5, 6, 7, 8, 9, 10, 11, 12, 13, 14, 15, 16, 17, 18] rfl) 0 rfl rfl ⟨(Nat.le_of_ble_eq_true rfl), (Nat.le_of_ble_eq_true rfl)⟩ rfl hl.1 rfl (Nat.le_of_ble_eq_true rfl) dX6_next_43 ?_
    intro r_8 hw
    exact hret _ (FS, AS) _ _ _ _ dX6_next_46 rfl hw hP hD hS
  refine lv_iload_n hx hb dX6_next_0 rfl (lv_at hl 1 rfl) ?_
  refine lv_if_lt (tgt := 14) hx hb dX6_next_1 (by decide) (fun c_9 => ?_) (fun c_9 => ?_)
  · have hw := hw.1 c_9
    refine lv_iconst (v := (-1 : Int32)) hx hb dX6_next_14 (by decide) ?_
    exact hret _ (FS, AS) _ _ _ _ dX6_next_15 rfl hw hP hD hS
  · have hw := hw.2 c_9
    refine lv_iload_n hx hb dX6_next_4 rfl (lv_at hl 1 rfl) ?_
    refine lv_iconst (v := (4 : Int32)) hx hb dX6_next_5 (by decide) ?_
    refine lv_icmp_gt (tgt := 14) hx hb dX6_next_6 (by decide) (fun c_10 => ?_) (fun c_10 => ?_)
    · have hw := hw.1 c_10
      refine lv_iconst (v := (-1 : Int32)) hx hb dX6_next_14 (by decide) ?_
      exact hret _ (FS, AS) _ _ _ _ dX6_next_15 rfl hw hP hD hS
    · have hw := hw.2 c_10
      refine lv_iload_n hx hb dX6_next_9 rfl (lv_at hl 1 rfl) ?_
      refine lv_iconst (v := (3 : Int32)) hx hb dX6_next_10 (by decide) ?_
      refine lv_icmp_ne (tgt := 16) hx hb dX6_next_11 (by decide) (fun c_11 => ?_) (fun c_11 => ?_)
      · have hw := hw.1 c_11
        refine lv_iload_n hx hb dX6_next_16 rfl (lv_at hl 1 rfl) ?_
        refine lv_iconst (v := (4 : Int32)) hx hb dX6_next_17 (by decide) ?_
        refine lv_icmp_ne (tgt := 32) hx hb dX6_next_18 (by decide) (fun c_12 => ?_) (fun c_12 => ?_)
        · have hw := hw.1 c_12
          exact b_32 FS AS _ _ _ hP hD hS (lv_sub hl [0, 1] rfl) hw
        · have hw := hw.2 c_12
          refine lv_aload_n hx hb dX6_next_21 rfl (lv_at hl 0 rfl) ?_
          refine gz (q0 := 0) (v := .ref oS) fx hK hP fl_X6_29 rfl rfl dX6_next_22 ?_
          refine lv_aload_n hx hb dX6_next_25 rfl (lv_at hl 0 rfl) ?_
          refine gz (q0 := 0) (v := .ref oN) fx hK hP fl_X6_19 rfl rfl dX6_next_26 ?_
          refine caMuVv (rest := []) (As := [.ref oN]) (w1 := ((xW oX oT oN oD oS oP FX) ++ ((tW oT gT cA FT AT) ++ (nW oD gD cA FD AD)))) (w2 := (pW oP gP cA FP AP)) fx hK lk_X6_155 (c_X4_make l dC dI cA oN gN oS gS FN AN FS AS _ hw) hP hD hS hA 3 rfl rfl ⟨(Nat.le_of_ble_eq_true rfl), (Nat.le_of_ble_eq_true rfl)⟩ rfl hl.1 rfl (Nat.le_of_ble_eq_true rfl) dX6_next_29 ?_
          intro u_15 H locs hw hP hD hS
          obtain ⟨FS_13, AS_14⟩ := u_15
          have hP : va_P (dC, dI) vwCl ((xW oX oT oN oD oS oP FX) ++ ((tW oT gT cA FT AT) ++ ((nW oD gD cA FD AD) ++ ((nW oN gN cA FN AN) ++ ((sW oS gS cA FS_13 AS_14) ++ (pW oP gP cA FP AP)))))) H := hP
          have hD : va_D A ((xW oX oT oN oD oS oP FX) ++ ((tW oT gT cA FT AT) ++ ((nW oD gD cA FD AD) ++ ((nW oN gN cA FN AN) ++ ((sW oS gS cA FS_13 AS_14) ++ (pW oP gP cA FP AP)))))) := hD
          try dsimp only at hw
          exact b_32 FS_13 AS_14 _ _ _ hP hD hS (lv_sub hl [0, 1] rfl) hw
      · have hw := hw.2 c_11
        refine lv_iconst (v := (-1 : Int32)) hx hb dX6_next_14 (by decide) ?_
        exact hret _ (FS, AS) _ _ _ _ dX6_next_15 rfl hw hP hD hS
set_option maxHeartbeats 4000000 in
set_option maxRecDepth 100000 in
theorem c_X6_loop (l : Launch) (dC : Nat → ClassId) (dI : Nat → Nat → Nat) (cA : ClassId) (oX : Nat) (oT : Nat) (gT : Nat → Nat) (oD : Nat) (gD : Nat → Nat) (oN : Nat) (gN : Nat → Nat) (oS : Nat) (gS : Nat → Nat) (oP : Nat) (gP : Nat → Nat) (FX : Nat → Int32) (FT : Nat → Int32) (AT : Nat → Nat → Int32) (FD : Nat → Int32) (AD : Nat → Nat → Int32) (FN : Nat → Int32) (AN : Nat → Nat → Int32) (FS : Nat → Int32) (AS : Nat → Nat → Int32) (FP : Nat → Int32) (AP : Nat → Nat → Int32) (x1 : Int32) (x2 : Int32) (Post : Int32 → (Nat → Int32) → (Nat → Nat → Int32) → Prop) (hw : wp_X6_loop FX FT AT FD AD FN AN FS AS FP AP x1 x2 Post) : MuI (dC, dI) cA l yX6_loop cX6_loop 7 .int 6 148 [.ref oX, .int x1, .int x2] ((xW oX oT oN oD oS oP FX) ++ ((tW oT gT cA FT AT) ++ ((nW oD gD cA FD AD) ++ ((nW oN gN cA FN AN) ++ ((sW oS gS cA FS AS) ++ (pW oP gP cA FP AP)))))) (fun r (u : (Nat → Int32) × (Nat → Nat → Int32)) => Post r (u.1) (u.2)) (fun u => ((xW oX oT oN oD oS oP FX) ++ ((tW oT gT cA FT AT) ++ ((nW oD gD cA FD AD) ++ ((nW oN gN cA FN AN) ++ ((sW oS gS cA (u.1) (u.2)) ++ (pW oP gP cA FP AP))))))) := by
  refine enMu (by decide) (Nat.le_of_ble_eq_true rfl) ?_
  intro p e s m args below meth c Q ls A fx hK hP hD hS hA hret hl
  obtain ⟨hx, hb, hml, hown, hts⟩ := id fx
  have hl : lv_has ls 7 [(0, .ref oX), (1, .int x1), (2, .int x2)] := hl
  have hP : va_P (dC, dI) vwCl ((xW oX oT oN oD oS oP FX) ++ ((tW oT gT cA FT AT) ++ ((nW oD gD cA FD AD) ++ ((nW oN gN cA FN AN) ++ ((sW oS gS cA FS AS) ++ (pW oP gP cA FP AP)))))) s.heap := hP
  have b_58 : ∀ (FS : Nat → Int32) (AS : Nat → Nat → Int32) (x4 : Int32) (x5 : Int32) (H : Heap) (locs : List Loc) (ls : Array Slot), va_P (dC, dI) vwCl ((xW oX oT oN oD oS oP FX) ++ ((tW oT gT cA FT AT) ++ ((nW oD gD cA FD AD) ++ ((nW oN gN cA FN AN) ++ ((sW oS gS cA FS AS) ++ (pW oP gP cA FP AP)))))) H → va_D A ((xW oX oT oN oD oS oP FX) ++ ((tW oT gT cA FT AT) ++ ((nW oD gD cA FD AD) ++ ((nW oN gN cA FN AN) ++ ((sW oS gS cA FS AS) ++ (pW oP gP cA FP AP)))))) → va_S A s.heap H locs → lv_has ls 7 [(0, .ref oX), (1, .int x1), (2, .int x2), (3, .ref (gS 7)), (4, .int x4), (5, .int x5)] → wp_X6_loop_58 FX FT AT FD AD FN AN FP AP FS AS x1 x2 x4 x5 Post → W p l e ({ frames := 6, cells := 0, slots := 0, locals := 148 } : Room) s m args below meth c H locs 0 0 Q (F0 m 58 ls []) := by
    intro FS AS x4 x5 H locs ls hP hD hS hl hw
    refine Lp_go (C := fun (t : Int32 × Int32 × (Nat → Int32) × (Nat → Nat → Int32)) => ∀ (H : Heap) (locs : List Loc) (ls : Array Slot), va_P (dC, dI) vwCl ((xW oX oT oN oD oS oP FX) ++ ((tW oT gT cA FT AT) ++ ((nW oD gD cA FD AD) ++ ((nW oN gN cA FN AN) ++ ((sW oS gS cA (t.2.2.1) (t.2.2.2)) ++ (pW oP gP cA FP AP)))))) H → va_D A ((xW oX oT oN oD oS oP FX) ++ ((tW oT gT cA FT AT) ++ ((nW oD gD cA FD AD) ++ ((nW oN gN cA FN AN) ++ ((sW oS gS cA (t.2.2.1) (t.2.2.2)) ++ (pW oP gP cA FP AP)))))) → va_S A s.heap H locs → lv_has ls 7 [(0, .ref oX), (1, .int x1), (2, .int x2), (3, .ref (gS 7)), (4, .int (t.1)), (5, .int (t.2.1))] → W p l e ({ frames := 6, cells := 0, slots := 0, locals := 148 } : Room) s m args below meth c H locs 0 0 Q (F0 m 58 ls [])) ?_ hw H locs ls hP hD hS hl
    intro k_58 hk_58 t
    obtain ⟨x4, x5, FS, AS⟩ := t
    intro hw H locs ls hP hD hS hl
    have hP : va_P (dC, dI) vwCl ((xW oX oT oN oD oS oP FX) ++ ((tW oT gT cA FT AT) ++ ((nW oD gD cA FD AD) ++ ((nW oN gN cA FN AN) ++ ((sW oS gS cA FS AS) ++ (pW oP gP cA FP AP)))))) H := hP
    have hD : va_D A ((xW oX oT oN oD oS oP FX) ++ ((tW oT gT cA FT AT) ++ ((nW oD gD cA FD AD) ++ ((nW oN gN cA FN AN) ++ ((sW oS gS cA FS AS) ++ (pW oP gP cA FP AP)))))) := hD
    have hl : lv_has ls 7 [(0, .ref oX), (1, .int x1), (2, .int x2), (3, .ref (gS 7)), (4, .int x4), (5, .int x5)] := hl
    have hw : st_X6_loop_58 FX FT AT FD AD FN AN FP AP x1 x2 Post k_58 x4 x5 FS AS := hw
    refine lv_iload hx hb dX6_loop_58 (lv_at hl 5 rfl) ?_
    refine lv_aload_n hx hb dX6_loop_60 rfl (lv_at hl 0 rfl) ?_
    refine gz (q0 := 0) (v := .ref oN) fx hK hP fl_X6_19 rfl rfl dX6_loop_61 ?_
    refine gz (q0 := 6) (v := .int (FN 3)) fx hK hP fl_X6_71 rfl rfl dX6_loop_64 ?_
    refine lv_icmp_gt (tgt := 133) hx hb dX6_loop_67 (by decide) (fun c_4 => ?_) (fun c_4 => ?_)
    · have hw := hw.1 c_4
      refine lv_iconst (v := (-1 : Int32)) hx hb dX6_loop_133 (by decide) ?_
      exact hret _ (FS, AS) _ _ _ _ dX6_loop_134 rfl hw hP hD hS
    · have hw := hw.2 c_4
      refine lv_aload_n hx hb dX6_loop_70 rfl (lv_at hl 3 rfl) ?_
      refine lv_iload hx hb dX6_loop_71 (lv_at hl 4 rfl) ?_
      refine caRoS (rest := []) (As := [.ref (gS 7), .int x4]) fx hK lk_X6_175 (c_at l (dC, dI) cA (gS 7) 4096 (AS 7) x4 (by decide)) (hP.sub [15] rfl) ⟨(Nat.le_of_ble_eq_true rfl), (Nat.le_of_ble_eq_true rfl)⟩ rfl hl.1 rfl (Nat.le_of_ble_eq_true rfl) dX6_loop_73 ?_
      intro r_5 e_6
      have hw := hw r_5 e_6
      refine lv_istore (lv' := [(6, .int r_5), (0, .ref oX), (1, .int x1), (2, .int x2), (3, .ref (gS 7)), (4, .int x4), (5, .int x5)]) hx hb dX6_loop_76 hl (by decide) rfl (fun ls hl => ?_)
      refine lv_iload hx hb dX6_loop_78 (lv_at hl 0 rfl) ?_
      refine lv_if_lt (tgt := 98) hx hb dX6_loop_80 (by decide) (fun c_7 => ?_) (fun c_7 => ?_)
      · have hw := hw.1 c_7
        refine lv_aload_n hx hb dX6_loop_98 rfl (lv_at hl 4 rfl) ?_
        refine lv_iload hx hb dX6_loop_99 (lv_at hl 5 rfl) ?_
        refine lv_iload hx hb dX6_loop_101 (lv_at hl 6 rfl) ?_
        refine caCell (rest := []) (As := [.ref (gS 7), .int x4, .int x5]) fx hK lk_X6_181 (c_put l (dC, dI) cA (gS 7) 4096 (AS 7) x4 x5 (by decide)) hP hD hS hA 15 rfl ⟨(Nat.le_of_ble_eq_true rfl), (Nat.le_of_ble_eq_true rfl)⟩ rfl hl.1 rfl (Nat.le_of_ble_eq_true rfl) dX6_loop_103 ?_
        intro g_8 H locs e_9 hP hD hS
        have hw := hw g_8 e_9
        have hP : va_P (dC, dI) vwCl ((xW oX oT oN oD oS oP FX) ++ ((tW oT gT cA FT AT) ++ ((nW oD gD cA FD AD) ++ ((nW oN gN cA FN AN) ++ ((sW oS gS cA FS (uA AS 7 g_8)) ++ (pW oP gP cA FP AP)))))) H := hP
        have hD : va_D A ((xW oX oT oN oD oS oP FX) ++ ((tW oT gT cA FT AT) ++ ((nW oD gD cA FD AD) ++ ((nW oN gN cA FN AN) ++ ((sW oS gS cA FS (uA AS 7 g_8)) ++ (pW oP gP cA FP AP)))))) := hD
        refine lv_aload_n hx hb dX6_loop_106 rfl (lv_at hl 1 rfl) ?_
        refine gz (q0 := 0) (v := .ref oN) fx hK hP fl_X6_19 rfl rfl dX6_loop_107 ?_
        refine lv_iload hx hb dX6_loop_110 (lv_at hl 5 rfl) ?_
        refine lv_aload_n hx hb dX6_loop_112 rfl (lv_at hl 1 rfl) ?_
        refine lv_iload_n hx hb dX6_loop_113 rfl (lv_at hl 2 rfl) ?_
        refine lv_iload hx hb dX6_loop_114 (lv_at hl 5 rfl) ?_
        refine lv_bipush (v := (-4 : Int32)) hx hb dX6_loop_116 (by decide) ?_
        refine lv_iconst (v := (0 : Int32)) hx hb dX6_loop_118 (by decide) ?_
        refine caRoV (rest := [.int x4, .ref oN]) (As := [.int x1, .int x4, .int (-4 : Int32), .int (0 : Int32)]) fx hK lk_X6_161 (c_X6_moversOf l dC dI cA oX oT gT oD gD oN gN oS gS oP gP FX FT AT FD AD FN AN FS (uA AS 7 g_8) FP AP x1 x4 (-4 : Int32) (0 : Int32) _ hw) (hP.sub [0, 1, 2, 3, 4, 5, 6, 7, 8, 9, 10, 11, 12, 13, 14, 15, 16, 17, 18] rfl) 0 rfl rfl ⟨(Nat.le_of_ble_eq_true rfl), (Nat.le_of_ble_eq_true rfl)⟩ rfl hl.1 rfl (Nat.le_of_ble_eq_true rfl) dX6_loop_119 ?_
        intro r_10 hw
        refine caRoV (rest := []) (As := [.int x4, .int r_10]) fx hK lk_X6_168 (c_X1_moved l dC dI cA oN gN FN AN x4 r_10 _ hw) (hP.sub [6, 7, 8] rfl) 0 rfl rfl ⟨(Nat.le_of_ble_eq_true rfl), (Nat.le_of_ble_eq_true rfl)⟩ rfl hl.1 rfl (Nat.le_of_ble_eq_true rfl) dX6_loop_122 ?_
        intro r_11 hw
        refine lv_istore (lv' := [(4, .int r_11), (6, .int r_5), (0, .ref oX), (1, .int x1), (2, .int x2), (3, .ref (gS 7)), (5, .int x5)]) hx hb dX6_loop_125 hl (by decide) rfl (fun ls hl => ?_)
        refine lv_iinc (v := (x5 + 1)) (lv' := [(5, .int (x5 + 1)), (4, .int r_11), (6, .int r_5), (0, .ref oX), (1, .int x1), (2, .int x2), (3, .ref (gS 7))]) hx hb dX6_loop_127 hl (k := 6) rfl rfl (by decide) rfl (fun ls hl => ?_)
        refine lv_goto (tgt := 58) hx hb dX6_loop_130 (by decide) ?_
        exact hk_58 (r_11, (x5 + 1), FS, (uA AS 7 g_8)) hw _ _ _ hP hD hS (lv_sub hl [3, 4, 5, 6, 1, 0] rfl)
      · have hw := hw.2 c_7
        refine lv_iload_n hx hb dX6_loop_83 rfl (lv_at hl 3 rfl) ?_
        refine lv_if_ne (tgt := 92) hx hb dX6_loop_84 (by decide) (fun c_12 => ?_) (fun c_12 => ?_)
        · have hw := hw.1 c_12
          refine lv_iload hx hb dX6_loop_92 (lv_at hl 6 rfl) ?_
          refine lv_iload hx hb dX6_loop_94 (lv_at hl 0 rfl) ?_
          refine lv_isub hx hb dX6_loop_96 ?_
          exact hret _ (FS, AS) _ _ _ _ dX6_loop_97 rfl hw hP hD hS
        · have hw := hw.2 c_12
          refine lv_iload hx hb dX6_loop_87 (lv_at hl 0 rfl) ?_
          refine lv_goto (tgt := 97) hx hb dX6_loop_89 (by decide) ?_
          exact hret _ (FS, AS) _ _ _ _ dX6_loop_97 rfl hw hP hD hS
  have b_41 : ∀ (FS : Nat → Int32) (AS : Nat → Nat → Int32) (H : Heap) (locs : List Loc) (ls : Array Slot), va_P (dC, dI) vwCl ((xW oX oT oN oD oS oP FX) ++ ((tW oT gT cA FT AT) ++ ((nW oD gD cA FD AD) ++ ((nW oN gN cA FN AN) ++ ((sW oS gS cA FS AS) ++ (pW oP gP cA FP AP)))))) H → va_D A ((xW oX oT oN oD oS oP FX) ++ ((tW oT gT cA FT AT) ++ ((nW oD gD cA FD AD) ++ ((nW oN gN cA FN AN) ++ ((sW oS gS cA FS AS) ++ (pW oP gP cA FP AP)))))) → va_S A s.heap H locs → lv_has ls 7 [(0, .ref oX), (1, .int x1), (2, .int x2)] → wp_X6_loop_41 FX FT AT FD AD FN AN FP AP FS AS x1 x2 Post → W p l e ({ frames := 6, cells := 0, slots := 0, locals := 148 } : Room) s m args below meth c H locs 0 0 Q (F0 m 41 ls []) := by
    intro FS AS H locs ls hP hD hS hl hw
    refine lv_aload_n hx hb dX6_loop_41 rfl (lv_at hl 0 rfl) ?_
    refine gz (q0 := 0) (v := .ref oS) fx hK hP fl_X6_29 rfl rfl dX6_loop_42 ?_
    refine caMuVr (rest := []) (As := []) (w1 := ((xW oX oT oN oD oS oP FX) ++ ((tW oT gT cA FT AT) ++ ((nW oD gD cA FD AD) ++ (nW oN gN cA FN AN))))) (w2 := (pW oP gP cA FP AP)) fx hK lk_X6_171 (c_X4_clearedSpare l dC dI cA oS gS FS AS _ hw) hP hD hS hA 0 rfl rfl ⟨(Nat.le_of_ble_eq_true rfl), (Nat.le_of_ble_eq_true rfl)⟩ rfl hl.1 rfl (Nat.le_of_ble_eq_true rfl) dX6_loop_45 ?_
    intro u_15 H locs hw hP hD hS
    obtain ⟨FS_13, AS_14⟩ := u_15
    have hP : va_P (dC, dI) vwCl ((xW oX oT oN oD oS oP FX) ++ ((tW oT gT cA FT AT) ++ ((nW oD gD cA FD AD) ++ ((nW oN gN cA FN AN) ++ ((sW oS gS cA FS_13 AS_14) ++ (pW oP gP cA FP AP)))))) H := hP
    have hD : va_D A ((xW oX oT oN oD oS oP FX) ++ ((tW oT gT cA FT AT) ++ ((nW oD gD cA FD AD) ++ ((nW oN gN cA FN AN) ++ ((sW oS gS cA FS_13 AS_14) ++ (pW oP gP cA FP AP)))))) := hD
    try dsimp only at hw
    refine lv_astore_n (lv' := [(3, .ref (gS 7)), (0, .ref oX), (1, .int x1), (2, .int x2)]) hx hb dX6_loop_48 rfl hl (by decide) rfl (fun ls hl => ?_)
    refine lv_aload_n hx hb dX6_loop_49 rfl (lv_at hl 1 rfl) ?_
    refine gz (q0 := 0) (v := .int (FX 5)) fx hK hP fl_X6_82 rfl rfl dX6_loop_50 ?_
    refine lv_istore (lv' := [(4, .int (FX 5)), (3, .ref (gS 7)), (0, .ref oX), (1, .int x1), (2, .int x2)]) hx hb dX6_loop_53 hl (by decide) rfl (fun ls hl => ?_)
    refine lv_iconst (v := (0 : Int32)) hx hb dX6_loop_55 (by decide) ?_
    refine lv_istore (lv' := [(5, .int (0 : Int32)), (4, .int (FX 5)), (3, .ref (gS 7)), (0, .ref oX), (1, .int x1), (2, .int x2)]) hx hb dX6_loop_56 hl (by decide) rfl (fun ls hl => ?_)
    exact b_58 FS_13 AS_14 (FX 5) (0 : Int32) _ _ _ hP hD hS (lv_sub hl [3, 4, 5, 2, 1, 0] rfl) hw
  have b_14 : ∀ (FS : Nat → Int32) (AS : Nat → Nat → Int32) (H : Heap) (locs : List Loc) (ls : Array Slot), va_P (dC, dI) vwCl ((xW oX oT oN oD oS oP FX) ++ ((tW oT gT cA FT AT) ++ ((nW oD gD cA FD AD) ++ ((nW oN gN cA FN AN) ++ ((sW oS gS cA FS AS) ++ (pW oP gP cA FP AP)))))) H → va_D A ((xW oX oT oN oD oS oP FX) ++ ((tW oT gT cA FT AT) ++ ((nW oD gD cA FD AD) ++ ((nW oN gN cA FN AN) ++ ((sW oS gS cA FS AS) ++ (pW oP gP cA FP AP)))))) → va_S A s.heap H locs → lv_has ls 7 [(0, .ref oX), (1, .int x1), (2, .int x2)] → wp_X6_loop_14 FX FT AT FD AD FN AN FP AP FS AS x1 x2 Post → W p l e ({ frames := 6, cells := 0, slots := 0, locals := 148 } : Room) s m args below meth c H locs 0 0 Q (F0 m 14 ls []) := by
    intro FS AS H locs ls hP hD hS hl hw
    refine lv_iload_n hx hb dX6_loop_14 rfl (lv_at hl 2 rfl) ?_
    refine lv_if_lt (tgt := 23) hx hb dX6_loop_15 (by decide) (fun c_16 => ?_) (fun c_16 => ?_)
    · have hw := hw.1 c_16
      refine lv_iconst (v := (-1 : Int32)) hx hb dX6_loop_23 (by decide) ?_
      exact hret _ (FS, AS) _ _ _ _ dX6_loop_24 rfl hw hP hD hS
    · have hw := hw.2 c_16
      refine lv_iload_n hx hb dX6_loop_18 rfl (lv_at hl 2 rfl) ?_
      refine lv_iconst (v := (1 : Int32)) hx hb dX6_loop_19 (by decide) ?_
      refine lv_icmp_le (tgt := 25) hx hb dX6_loop_20 (by decide) (fun c_17 => ?_) (fun c_17 => ?_)
      · have hw := hw.1 c_17
        refine lv_iload_n hx hb dX6_loop_25 rfl (lv_at hl 1 rfl) ?_
        refine lv_iconst (v := (4 : Int32)) hx hb dX6_loop_26 (by decide) ?_
        refine lv_icmp_ne (tgt := 41) hx hb dX6_loop_27 (by decide) (fun c_18 => ?_) (fun c_18 => ?_)
        · have hw := hw.1 c_18
          exact b_41 FS AS _ _ _ hP hD hS (lv_sub hl [0, 1, 2] rfl) hw
        · have hw := hw.2 c_18
          refine lv_aload_n hx hb dX6_loop_30 rfl (lv_at hl 0 rfl) ?_
          refine gz (q0 := 0) (v := .ref oS) fx hK hP fl_X6_29 rfl rfl dX6_loop_31 ?_
          refine lv_aload_n hx hb dX6_loop_34 rfl (lv_at hl 0 rfl) ?_
          refine gz (q0 := 0) (v := .ref oN) fx hK hP fl_X6_19 rfl rfl dX6_loop_35 ?_
          refine caMuVv (rest := []) (As := [.ref oN]) (w1 := ((xW oX oT oN oD oS oP FX) ++ ((tW oT gT cA FT AT) ++ (nW oD gD cA FD AD)))) (w2 := (pW oP gP cA FP AP)) fx hK lk_X6_155 (c_X4_make l dC dI cA oN gN oS gS FN AN FS AS _ hw) hP hD hS hA 3 rfl rfl ⟨(Nat.le_of_ble_eq_true rfl), (Nat.le_of_ble_eq_true rfl)⟩ rfl hl.1 rfl (Nat.le_of_ble_eq_true rfl) dX6_loop_38 ?_
          intro u_21 H locs hw hP hD hS
          obtain ⟨FS_19, AS_20⟩ := u_21
          have hP : va_P (dC, dI) vwCl ((xW oX oT oN oD oS oP FX) ++ ((tW oT gT cA FT AT) ++ ((nW oD gD cA FD AD) ++ ((nW oN gN cA FN AN) ++ ((sW oS gS cA FS_19 AS_20) ++ (pW oP gP cA FP AP)))))) H := hP
          have hD : va_D A ((xW oX oT oN oD oS oP FX) ++ ((tW oT gT cA FT AT) ++ ((nW oD gD cA FD AD) ++ ((nW oN gN cA FN AN) ++ ((sW oS gS cA FS_19 AS_20) ++ (pW oP gP cA FP AP)))))) := hD
          try dsimp only at hw
          exact b_41 FS_19 AS_20 _ _ _ hP hD hS (lv_sub hl [0, 1, 2] rfl) hw
      · have hw := hw.2 c_17
        refine lv_iconst (v := (-1 : Int32)) hx hb dX6_loop_23 (by decide) ?_
        exact hret _ (FS, AS) _ _ _ _ dX6_loop_24 rfl hw hP hD hS
  refine lv_iload_n hx hb dX6_loop_0 rfl (lv_at hl 1 rfl) ?_
  refine lv_if_eq (tgt := 14) hx hb dX6_loop_1 (by decide) (fun c_22 => ?_) (fun c_22 => ?_)
  · have hw := hw.1 c_22
    exact b_14 FS AS _ _ _ hP hD hS (lv_sub hl [0, 1, 2] rfl) hw
  · have hw := hw.2 c_22
    refine lv_iload_n hx hb dX6_loop_4 rfl (lv_at hl 1 rfl) ?_
    refine lv_iconst (v := (2 : Int32)) hx hb dX6_loop_5 (by decide) ?_
    refine lv_icmp_eq (tgt := 14) hx hb dX6_loop_6 (by decide) (fun c_23 => ?_) (fun c_23 => ?_)
    · have hw := hw.1 c_23
      exact b_14 FS AS _ _ _ hP hD hS (lv_sub hl [0, 1, 2] rfl) hw
    · have hw := hw.2 c_23
      refine lv_iload_n hx hb dX6_loop_9 rfl (lv_at hl 1 rfl) ?_
      refine lv_iconst (v := (4 : Int32)) hx hb dX6_loop_10 (by decide) ?_
      refine lv_icmp_ne (tgt := 23) hx hb dX6_loop_11 (by decide) (fun c_24 => ?_) (fun c_24 => ?_)
      · have hw := hw.1 c_24
        refine lv_iconst (v := (-1 : Int32)) hx hb dX6_loop_23 (by decide) ?_
        exact hret _ (FS, AS) _ _ _ _ dX6_loop_24 rfl hw hP hD hS
      · have hw := hw.2 c_24
        exact b_14 FS AS _ _ _ hP hD hS (lv_sub hl [0, 1, 2] rfl) hw
set_option maxHeartbeats 4000000 in
set_option maxRecDepth 100000 in
theorem c_X6_storm (l : Launch) (dC : Nat → ClassId) (dI : Nat → Nat → Nat) (cA : ClassId) (oX : Nat) (oT : Nat) (gT : Nat → Nat) (oD : Nat) (gD : Nat → Nat) (oN : Nat) (gN : Nat → Nat) (oS : Nat) (gS : Nat → Nat) (oP : Nat) (gP : Nat → Nat) (FX : Nat → Int32) (FT : Nat → Int32) (AT : Nat → Nat → Int32) (FD : Nat → Int32) (AD : Nat → Nat → Int32) (FN : Nat → Int32) (AN : Nat → Nat → Int32) (FS : Nat → Int32) (AS : Nat → Nat → Int32) (FP : Nat → Int32) (AP : Nat → Nat → Int32) (x1 : Int32) (x2 : Int32) (x3 : Int32) (x4 : Int32) (Post : Int32 → Prop) (hw : wp_X6_storm FX FT AT FD AD FN AN FS AS FP AP x1 x2 x3 x4 Post) : RoI (dC, dI) cA l yX6_storm cX6_storm 13 .int 6 141 [.ref oX, .int x1, .int x2, .int x3, .int x4] ((xW oX oT oN oD oS oP FX) ++ ((tW oT gT cA FT AT) ++ ((nW oD gD cA FD AD) ++ ((nW oN gN cA FN AN) ++ ((sW oS gS cA FS AS) ++ (pW oP gP cA FP AP)))))) Post := by
  refine enRo (by decide) (Nat.le_of_ble_eq_true rfl) ?_
  intro p e s m args below meth c Q ls fx hK hP hret hl
  obtain ⟨hx, hb, hml, hown, hts⟩ := id fx
  have hl : lv_has ls 13 [(0, .ref oX), (1, .int x1), (2, .int x2), (3, .int x3), (4, .int x4)] := hl
  have b_69 : ∀ (x5 : Int32) (x6 : Int32) (x7 : Int32) (x8 : Int32) (x9 : Int32) (x10 : Int32) (ls : Array Slot), lv_has ls 13 [(0, .ref oX), (1, .int x1), (2, .int x2), (3, .int x3), (4, .int x4), (5, .int x5), (6, .int x6), (7, .int x7), (8, .int x8), (9, .int x9), (10, .int x10)] → wp_X6_storm_69 FX FT AT FD AD FN AN FS AS FP AP x1 x2 x3 x4 x5 x6 x7 x8 x9 x10 Post → W p l e ({ frames := 6, cells := 0, slots := 0, locals := 141 } : Room) s m args below meth c s.heap [] 0 0 Q (F0 m 69 ls []) := by
    intro x5 x6 x7 x8 x9 x10 ls hl hw
    refine Lp_go (C := fun (t : Int32 × Int32 × Int32 × Int32 × Int32 × Int32) => ∀ (ls : Array Slot), lv_has ls 13 [(0, .ref oX), (1, .int x1), (2, .int x2), (3, .int x3), (4, .int x4), (5, .int (t.1)), (6, .int (t.2.1)), (7, .int (t.2.2.1)), (8, .int (t.2.2.2.1)), (9, .int (t.2.2.2.2.1)), (10, .int (t.2.2.2.2.2))] → W p l e ({ frames := 6, cells := 0, slots := 0, locals := 141 } : Room) s m args below meth c s.heap [] 0 0 Q (F0 m 69 ls [])) ?_ hw ls hl
    intro k_69 hk_69 t
    obtain ⟨x5, x6, x7, x8, x9, x10⟩ := t
    intro hw ls hl
    have hl : lv_has ls 13 [(0, .ref oX), (1, .int x1), (2, .int x2), (3, .int x3), (4, .int x4), (5, .int x5), (6, .int x6), (7, .int x7), (8, .int x8), (9, .int x9), (10, .int x10)] := hl
    have hw : st_X6_storm_69 FX FT AT FD AD FN AN FS AS FP AP x1 x2 x3 x4 Post k_69 x5 x6 x7 x8 x9 x10 := hw
    have b_182 : ∀ (x5 : Int32) (x6 : Int32) (x7 : Int32) (x9 : Int32) (x10 : Int32) (t0 : Int32) (ls : Array Slot), lv_has ls 13 [(0, .ref oX), (1, .int x1), (2, .int x2), (3, .int x3), (4, .int x4), (5, .int x5), (6, .int x6), (7, .int x7), (9, .int x9), (10, .int x10)] → wp_X6_storm_182 FX FT AT FD AD FN AN FS AS FP AP x1 x2 x3 x4 x5 x6 x7 x9 x10 t0 k_69 Post → W p l e ({ frames := 6, cells := 0, slots := 0, locals := 141 } : Room) s m args below meth c s.heap [] 0 0 Q (F0 m 182 ls [.int t0]) := by
      intro x5 x6 x7 x9 x10 t0 ls hl hw
      refine lv_istore (lv' := [(8, .int t0), (0, .ref oX), (1, .int x1), (2, .int x2), (3, .int x3), (4, .int x4), (5, .int x5), (6, .int x6), (7, .int x7), (9, .int x9), (10, .int x10)]) hx hb dX6_storm_182 hl (by decide) rfl (fun ls hl => ?_)
      refine lv_iload hx hb dX6_storm_184 (lv_at hl 9 rfl) ?_
      refine lv_iload hx hb dX6_storm_186 (lv_at hl 0 rfl) ?_
      refine va_mmax hx hb (hml.trans hl.1.symm) hown (hts _ (List.mem_cons_of_mem _ q_31_16)) (hts _ (List.mem_cons_of_mem _ q_31_17)) (hts _ (List.mem_cons_of_mem _ q_18_21)) (hts _ (List.mem_cons_of_mem _ q_31_18)) (Nat.le_of_ble_eq_true rfl) (Nat.le_of_ble_eq_true rfl) (Nat.zero_le _) (Nat.zero_le _) dX6_storm_188 ?_
      refine lv_istore (lv' := [(9, .int (if x9 < t0 then t0 else x9)), (8, .int t0), (0, .ref oX), (1, .int x1), (2, .int x2), (3, .int x3), (4, .int x4), (5, .int x5), (6, .int x6), (7, .int x7), (10, .int x10)]) hx hb dX6_storm_191 hl (by decide) rfl (fun ls hl => ?_)
      refine lv_iinc (v := (x10 + 1)) (lv' := [(10, .int (x10 + 1)), (9, .int (if x9 < t0 then t0 else x9)), (8, .int t0), (0, .ref oX), (1, .int x1), (2, .int x2), (3, .int x3), (4, .int x4), (5, .int x5), (6, .int x6), (7, .int x7)]) hx hb dX6_storm_193 hl (k := 10) rfl rfl (by decide) rfl (fun ls hl => ?_)
      refine lv_goto (tgt := 69) hx hb dX6_storm_196 (by decide) ?_
      exact hk_69 (x5, x6, x7, t0, (if x9 < t0 then t0 else x9), (x10 + 1)) hw _ (lv_sub hl [3, 4, 5, 6, 7, 8, 9, 10, 2, 1, 0] rfl)
    have b_166 : ∀ (x5 : Int32) (x6 : Int32) (x8 : Int32) (x9 : Int32) (x10 : Int32) (x12 : Int32) (t0 : Int32) (t1 : Int32) (ls : Array Slot), lv_has ls 13 [(0, .ref oX), (1, .int x1), (2, .int x2), (3, .int x3), (4, .int x4), (5, .int x5), (6, .int x6), (8, .int x8), (9, .int x9), (10, .int x10), (12, .int x12)] → wp_X6_storm_166 FX FT AT FD AD FN AN FS AS FP AP x1 x2 x3 x4 x5 x6 x8 x9 x10 x12 t0 t1 k_69 Post → W p l e ({ frames := 6, cells := 0, slots := 0, locals := 141 } : Room) s m args below meth c s.heap [] 0 0 Q (F0 m 166 ls [.int t1, .int t0]) := by
      intro x5 x6 x8 x9 x10 x12 t0 t1 ls hl hw
      refine lv_iadd hx hb dX6_storm_166 ?_
      refine lv_istore (lv' := [(7, .int (t0 + t1)), (0, .ref oX), (1, .int x1), (2, .int x2), (3, .int x3), (4, .int x4), (5, .int x5), (6, .int x6), (8, .int x8), (9, .int x9), (10, .int x10), (12, .int x12)]) hx hb dX6_storm_167 hl (by decide) rfl (fun ls hl => ?_)
      refine lv_iload hx hb dX6_storm_169 (lv_at hl 11 rfl) ?_
      refine lv_if_eq (tgt := 178) hx hb dX6_storm_171 (by decide) (fun c_9 => ?_) (fun c_9 => ?_)
      · have hw := hw.1 c_9
        refine lv_iload hx hb dX6_storm_178 (lv_at hl 8 rfl) ?_
        refine lv_iconst (v := (1 : Int32)) hx hb dX6_storm_180 (by decide) ?_
        refine lv_iadd hx hb dX6_storm_181 ?_
        exact b_182 x5 x6 (t0 + t1) x9 x10 (x8 + (1 : Int32)) _ (lv_sub hl [1, 2, 3, 4, 5, 6, 7, 0, 9, 10] rfl) hw
      · have hw := hw.2 c_9
        refine lv_iconst (v := (0 : Int32)) hx hb dX6_storm_174 (by decide) ?_
        refine lv_goto (tgt := 182) hx hb dX6_storm_175 (by decide) ?_
        exact b_182 x5 x6 (t0 + t1) x9 x10 (0 : Int32) _ (lv_sub hl [1, 2, 3, 4, 5, 6, 7, 0, 9, 10] rfl) hw
    have b_143 : ∀ (x5 : Int32) (x6 : Int32) (x7 : Int32) (x8 : Int32) (x9 : Int32) (x10 : Int32) (ls : Array Slot), lv_has ls 13 [(0, .ref oX), (1, .int x1), (2, .int x2), (3, .int x3), (4, .int x4), (5, .int x5), (6, .int x6), (7, .int x7), (8, .int x8), (9, .int x9), (10, .int x10)] → wp_X6_storm_143 FX FT AT FD AD FN AN FS AS FP AP x1 x2 x3 x4 x5 x6 x7 x8 x9 x10 k_69 Post → W p l e ({ frames := 6, cells := 0, slots := 0, locals := 141 } : Room) s m args below meth c s.heap [] 0 0 Q (F0 m 143 ls []) := by
      intro x5 x6 x7 x8 x9 x10 ls hl hw
      refine lv_aload_n hx hb dX6_storm_143 rfl (lv_at hl 0 rfl) ?_
      refine gz (q0 := 0) (v := .ref oN) fx hK hP fl_X6_19 rfl rfl dX6_storm_144 ?_
      refine lv_iload hx hb dX6_storm_147 (lv_at hl 5 rfl) ?_
      refine caRoV (rest := []) (As := [.int x5]) fx hK lk_X6_127 (c_X1_isLegal l dC dI cA oN gN FN AN x5 _ hw) (hP.sub [6, 7, 8] rfl) 0 rfl rfl ⟨(Nat.le_of_ble_eq_true rfl), (Nat.le_of_ble_eq_true rfl)⟩ rfl hl.1 rfl (Nat.le_of_ble_eq_true rfl) dX6_storm_149 ?_
      intro r_10 hw
      refine lv_istore (lv' := [(12, .int r_10), (0, .ref oX), (1, .int x1), (2, .int x2), (3, .int x3), (4, .int x4), (5, .int x5), (6, .int x6), (7, .int x7), (8, .int x8), (9, .int x9), (10, .int x10)]) hx hb dX6_storm_152 hl (by decide) rfl (fun ls hl => ?_)
      refine lv_iload hx hb dX6_storm_154 (lv_at hl 8 rfl) ?_
      refine lv_iload hx hb dX6_storm_156 (lv_at hl 0 rfl) ?_
      refine lv_if_eq (tgt := 165) hx hb dX6_storm_158 (by decide) (fun c_11 => ?_) (fun c_11 => ?_)
      · have hw := hw.1 c_11
        refine lv_iconst (v := (0 : Int32)) hx hb dX6_storm_165 (by decide) ?_
        exact b_166 x5 x6 x8 x9 x10 r_10 x7 (0 : Int32) _ (lv_sub hl [1, 2, 3, 4, 5, 6, 7, 9, 10, 11, 0] rfl) hw
      · have hw := hw.2 c_11
        refine lv_iconst (v := (1 : Int32)) hx hb dX6_storm_161 (by decide) ?_
        refine lv_goto (tgt := 166) hx hb dX6_storm_162 (by decide) ?_
        exact b_166 x5 x6 x8 x9 x10 r_10 x7 (1 : Int32) _ (lv_sub hl [1, 2, 3, 4, 5, 6, 7, 9, 10, 11, 0] rfl) hw
    refine lv_iload hx hb dX6_storm_69 (lv_at hl 10 rfl) ?_
    refine lv_iload_n hx hb dX6_storm_71 rfl (lv_at hl 3 rfl) ?_
    refine lv_icmp_ge (tgt := 199) hx hb dX6_storm_72 (by decide) (fun c_12 => ?_) (fun c_12 => ?_)
    · have hw := hw.1 c_12
      refine lv_iload hx hb dX6_storm_199 (lv_at hl 4 rfl) ?_
      refine lv_if_ne (tgt := 207) hx hb dX6_storm_201 (by decide) (fun c_13 => ?_) (fun c_13 => ?_)
      · have hw := hw.1 c_13
        refine lv_iload hx hb dX6_storm_207 (lv_at hl 4 rfl) ?_
        refine lv_iconst (v := (1 : Int32)) hx hb dX6_storm_209 (by decide) ?_
        refine lv_icmp_ne (tgt := 218) hx hb dX6_storm_210 (by decide) (fun c_14 => ?_) (fun c_14 => ?_)
        · have hw := hw.1 c_14
          refine lv_iload hx hb dX6_storm_218 (lv_at hl 9 rfl) ?_
          exact hret _ _ _ dX6_storm_220 rfl hw
        · have hw := hw.2 c_14
          refine lv_iload hx hb dX6_storm_213 (lv_at hl 5 rfl) ?_
          refine lv_goto (tgt := 220) hx hb dX6_storm_215 (by decide) ?_
          exact hret _ _ _ dX6_storm_220 rfl hw
      · have hw := hw.2 c_13
        refine lv_iload hx hb dX6_storm_204 (lv_at hl 7 rfl) ?_
        exact hret _ _ _ dX6_storm_206 rfl hw
    · have hw := hw.2 c_12
      refine lv_iload_n hx hb dX6_storm_75 rfl (lv_at hl 2 rfl) ?_
      refine lv_iload hx hb dX6_storm_76 (lv_at hl 10 rfl) ?_
      refine caRoS (rest := []) (As := [.int x2, .int x10]) fx hK lk_X6_158 (c_X6_drawOf l dC dI cA x2 x10 _ hw) (hP.sub [] rfl) ⟨(Nat.le_of_ble_eq_true rfl), (Nat.le_of_ble_eq_true rfl)⟩ rfl hl.1 rfl (Nat.le_of_ble_eq_true rfl) dX6_storm_78 ?_
      intro r_15 hw
      refine lv_istore (lv' := [(11, .int r_15), (0, .ref oX), (1, .int x1), (2, .int x2), (3, .int x3), (4, .int x4), (5, .int x5), (6, .int x6), (7, .int x7), (8, .int x8), (9, .int x9), (10, .int x10)]) hx hb dX6_storm_81 hl (by decide) rfl (fun ls hl => ?_)
      refine lv_iload hx hb dX6_storm_83 (lv_at hl 0 rfl) ?_
      refine lv_bipush (v := (8 : Int32)) hx hb dX6_storm_85 (by decide) ?_
      refine lv_irem hx hb dX6_storm_87 (by decide) ?_
      refine lv_if_ne (tgt := 107) hx hb dX6_storm_88 (by decide) (fun c_16 => ?_) (fun c_16 => ?_)
      · have hw := hw.1 c_16
        refine lv_aload_n hx hb dX6_storm_107 rfl (lv_at hl 1 rfl) ?_
        refine lv_iload_n hx hb dX6_storm_108 rfl (lv_at hl 2 rfl) ?_
        refine lv_iload hx hb dX6_storm_109 (lv_at hl 6 rfl) ?_
        refine lv_iload hx hb dX6_storm_111 (lv_at hl 7 rfl) ?_
        refine lv_iload hx hb dX6_storm_113 (lv_at hl 0 rfl) ?_
        refine caRoV (rest := []) (As := [.int x1, .int x5, .int x6, .int r_15]) fx hK lk_X6_161 (c_X6_moversOf l dC dI cA oX oT gT oD gD oN gN oS gS oP gP FX FT AT FD AD FN AN FS AS FP AP x1 x5 x6 r_15 _ hw) (hP.sub [0, 1, 2, 3, 4, 5, 6, 7, 8, 9, 10, 11, 12, 13, 14, 15, 16, 17, 18] rfl) 0 rfl rfl ⟨(Nat.le_of_ble_eq_true rfl), (Nat.le_of_ble_eq_true rfl)⟩ rfl hl.1 rfl (Nat.le_of_ble_eq_true rfl) dX6_storm_115 ?_
        intro r_17 hw
        refine lv_istore (lv' := [(12, .int r_17), (11, .int r_15), (0, .ref oX), (1, .int x1), (2, .int x2), (3, .int x3), (4, .int x4), (5, .int x5), (6, .int x6), (7, .int x7), (8, .int x8), (9, .int x9), (10, .int x10)]) hx hb dX6_storm_118 hl (by decide) rfl (fun ls hl => ?_)
        refine lv_iload_n hx hb dX6_storm_120 rfl (lv_at hl 3 rfl) ?_
        refine lv_iload hx hb dX6_storm_121 (lv_at hl 8 rfl) ?_
        refine lv_iload hx hb dX6_storm_123 (lv_at hl 0 rfl) ?_
        refine caRoS (rest := []) (As := [.int x1, .int x6, .int r_17]) fx hK lk_X6_165 (c_X6_lastBehind l dC dI cA x1 x6 r_17 _ hw) (hP.sub [] rfl) ⟨(Nat.le_of_ble_eq_true rfl), (Nat.le_of_ble_eq_true rfl)⟩ rfl hl.1 rfl (Nat.le_of_ble_eq_true rfl) dX6_storm_125 ?_
        intro r_18 hw
        refine lv_istore (lv' := [(6, .int r_18), (12, .int r_17), (11, .int r_15), (0, .ref oX), (1, .int x1), (2, .int x2), (3, .int x3), (4, .int x4), (5, .int x5), (7, .int x7), (8, .int x8), (9, .int x9), (10, .int x10)]) hx hb dX6_storm_128 hl (by decide) rfl (fun ls hl => ?_)
        refine lv_aload_n hx hb dX6_storm_130 rfl (lv_at hl 3 rfl) ?_
        refine gz (q0 := 0) (v := .ref oN) fx hK hP fl_X6_19 rfl rfl dX6_storm_131 ?_
        refine lv_iload hx hb dX6_storm_134 (lv_at hl 8 rfl) ?_
        refine lv_iload hx hb dX6_storm_136 (lv_at hl 1 rfl) ?_
        refine caRoV (rest := []) (As := [.int x5, .int r_17]) fx hK lk_X6_168 (c_X1_moved l dC dI cA oN gN FN AN x5 r_17 _ hw) (hP.sub [6, 7, 8] rfl) 0 rfl rfl ⟨(Nat.le_of_ble_eq_true rfl), (Nat.le_of_ble_eq_true rfl)⟩ rfl hl.1 rfl (Nat.le_of_ble_eq_true rfl) dX6_storm_138 ?_
        intro r_19 hw
        refine lv_istore (lv' := [(5, .int r_19), (6, .int r_18), (12, .int r_17), (11, .int r_15), (0, .ref oX), (1, .int x1), (2, .int x2), (3, .int x3), (4, .int x4), (7, .int x7), (8, .int x8), (9, .int x9), (10, .int x10)]) hx hb dX6_storm_141 hl (by decide) rfl (fun ls hl => ?_)
        exact b_143 r_19 r_18 x7 x8 x9 x10 _ (lv_sub hl [4, 5, 6, 7, 8, 0, 1, 9, 10, 11, 12] rfl) hw
      · have hw := hw.2 c_16
        refine lv_aload_n hx hb dX6_storm_91 rfl (lv_at hl 1 rfl) ?_
        refine gz (q0 := 0) (v := .ref oN) fx hK hP fl_X6_19 rfl rfl dX6_storm_92 ?_
        refine lv_iload hx hb dX6_storm_95 (lv_at hl 6 rfl) ?_
        refine lv_iload hx hb dX6_storm_97 (lv_at hl 0 rfl) ?_
        refine caRoV (rest := []) (As := [.int x5, .int r_15]) fx hK lk_X6_185 (c_X1_struck l dC dI cA oN gN FN AN x5 r_15 _ hw) (hP.sub [6, 7, 8] rfl) 0 rfl rfl ⟨(Nat.le_of_ble_eq_true rfl), (Nat.le_of_ble_eq_true rfl)⟩ rfl hl.1 rfl (Nat.le_of_ble_eq_true rfl) dX6_storm_99 ?_
        intro r_20 hw
        refine lv_istore (lv' := [(5, .int r_20), (11, .int r_15), (0, .ref oX), (1, .int x1), (2, .int x2), (3, .int x3), (4, .int x4), (6, .int x6), (7, .int x7), (8, .int x8), (9, .int x9), (10, .int x10)]) hx hb dX6_storm_102 hl (by decide) rfl (fun ls hl => ?_)
        refine lv_goto (tgt := 143) hx hb dX6_storm_104 (by decide) ?_
        exact b_143 r_20 x6 x7 x8 x9 x10 _ (lv_sub hl [2, 3, 4, 5, 6, 0, 7, 8, 9, 10, 11] rfl) hw
  refine lv_iload_n hx hb dX6_storm_0 rfl (lv_at hl 1 rfl) ?_
  refine lv_if_lt (tgt := 43) hx hb dX6_storm_1 (by decide) (fun c_21 => ?_) (fun c_21 => ?_)
  · have hw := hw.1 c_21
    refine lv_iconst (v := (-1 : Int32)) hx hb dX6_storm_43 (by decide) ?_
    exact hret _ _ _ dX6_storm_44 rfl hw
  · have hw := hw.2 c_21
    refine lv_iload_n hx hb dX6_storm_4 rfl (lv_at hl 1 rfl) ?_
    refine lv_iconst (v := (2 : Int32)) hx hb dX6_storm_5 (by decide) ?_
    refine lv_icmp_gt (tgt := 43) hx hb dX6_storm_6 (by decide) (fun c_22 => ?_) (fun c_22 => ?_)
    · have hw := hw.1 c_22
      refine lv_iconst (v := (-1 : Int32)) hx hb dX6_storm_43 (by decide) ?_
      exact hret _ _ _ dX6_storm_44 rfl hw
    · have hw := hw.2 c_22
      refine lv_iload_n hx hb dX6_storm_9 rfl (lv_at hl 2 rfl) ?_
      refine lv_if_lt (tgt := 43) hx hb dX6_storm_10 (by decide) (fun c_23 => ?_) (fun c_23 => ?_)
      · have hw := hw.1 c_23
        refine lv_iconst (v := (-1 : Int32)) hx hb dX6_storm_43 (by decide) ?_
        exact hret _ _ _ dX6_storm_44 rfl hw
      · have hw := hw.2 c_23
        refine lv_iload_n hx hb dX6_storm_13 rfl (lv_at hl 2 rfl) ?_
        refine lv_sipush (v := (9999 : Int32)) hx hb dX6_storm_14 (by decide) ?_
        refine lv_icmp_gt (tgt := 43) hx hb dX6_storm_17 (by decide) (fun c_24 => ?_) (fun c_24 => ?_)
        · have hw := hw.1 c_24
          refine lv_iconst (v := (-1 : Int32)) hx hb dX6_storm_43 (by decide) ?_
          exact hret _ _ _ dX6_storm_44 rfl hw
        · have hw := hw.2 c_24
          refine lv_iload_n hx hb dX6_storm_20 rfl (lv_at hl 3 rfl) ?_
          refine lv_iconst (v := (1 : Int32)) hx hb dX6_storm_21 (by decide) ?_
          refine lv_icmp_lt (tgt := 43) hx hb dX6_storm_22 (by decide) (fun c_25 => ?_) (fun c_25 => ?_)
          · have hw := hw.1 c_25
            refine lv_iconst (v := (-1 : Int32)) hx hb dX6_storm_43 (by decide) ?_
            exact hret _ _ _ dX6_storm_44 rfl hw
          · have hw := hw.2 c_25
            refine lv_iload_n hx hb dX6_storm_25 rfl (lv_at hl 3 rfl) ?_
            refine lv_sipush (v := (200 : Int32)) hx hb dX6_storm_26 (by decide) ?_
            refine lv_icmp_gt (tgt := 43) hx hb dX6_storm_29 (by decide) (fun c_26 => ?_) (fun c_26 => ?_)
            · have hw := hw.1 c_26
              refine lv_iconst (v := (-1 : Int32)) hx hb dX6_storm_43 (by decide) ?_
              exact hret _ _ _ dX6_storm_44 rfl hw
            · have hw := hw.2 c_26
              refine lv_iload hx hb dX6_storm_32 (lv_at hl 4 rfl) ?_
              refine lv_if_lt (tgt := 43) hx hb dX6_storm_34 (by decide) (fun c_27 => ?_) (fun c_27 => ?_)
              · have hw := hw.1 c_27
                refine lv_iconst (v := (-1 : Int32)) hx hb dX6_storm_43 (by decide) ?_
                exact hret _ _ _ dX6_storm_44 rfl hw
              · have hw := hw.2 c_27
                refine lv_iload hx hb dX6_storm_37 (lv_at hl 4 rfl) ?_
                refine lv_iconst (v := (2 : Int32)) hx hb dX6_storm_39 (by decide) ?_
                refine lv_icmp_le (tgt := 45) hx hb dX6_storm_40 (by decide) (fun c_28 => ?_) (fun c_28 => ?_)
                · have hw := hw.1 c_28
                  refine lv_aload_n hx hb dX6_storm_45 rfl (lv_at hl 0 rfl) ?_
                  refine gz (q0 := 0) (v := .int (FX 5)) fx hK hP fl_X6_82 rfl rfl dX6_storm_46 ?_
                  refine lv_istore (lv' := [(5, .int (FX 5)), (0, .ref oX), (1, .int x1), (2, .int x2), (3, .int x3), (4, .int x4)]) hx hb dX6_storm_49 hl (by decide) rfl (fun ls hl => ?_)
                  refine lv_aload_n hx hb dX6_storm_51 rfl (lv_at hl 1 rfl) ?_
                  refine gz (q0 := 0) (v := .int (FX 6)) fx hK hP fl_X6_85 rfl rfl dX6_storm_52 ?_
                  refine lv_istore (lv' := [(6, .int (FX 6)), (5, .int (FX 5)), (0, .ref oX), (1, .int x1), (2, .int x2), (3, .int x3), (4, .int x4)]) hx hb dX6_storm_55 hl (by decide) rfl (fun ls hl => ?_)
                  refine lv_iconst (v := (0 : Int32)) hx hb dX6_storm_57 (by decide) ?_
                  refine lv_istore (lv' := [(7, .int (0 : Int32)), (6, .int (FX 6)), (5, .int (FX 5)), (0, .ref oX), (1, .int x1), (2, .int x2), (3, .int x3), (4, .int x4)]) hx hb dX6_storm_58 hl (by decide) rfl (fun ls hl => ?_)
                  refine lv_iconst (v := (0 : Int32)) hx hb dX6_storm_60 (by decide) ?_
                  refine lv_istore (lv' := [(8, .int (0 : Int32)), (7, .int (0 : Int32)), (6, .int (FX 6)), (5, .int (FX 5)), (0, .ref oX), (1, .int x1), (2, .int x2), (3, .int x3), (4, .int x4)]) hx hb dX6_storm_61 hl (by decide) rfl (fun ls hl => ?_)
                  refine lv_iconst (v := (0 : Int32)) hx hb dX6_storm_63 (by decide) ?_
                  refine lv_istore (lv' := [(9, .int (0 : Int32)), (8, .int (0 : Int32)), (7, .int (0 : Int32)), (6, .int (FX 6)), (5, .int (FX 5)), (0, .ref oX), (1, .int x1), (2, .int x2), (3, .int x3), (4, .int x4)]) hx hb dX6_storm_64 hl (by decide) rfl (fun ls hl => ?_)
                  refine lv_iconst (v := (0 : Int32)) hx hb dX6_storm_66 (by decide) ?_
                  refine lv_istore (lv' := [(10, .int (0 : Int32)), (9, .int (0 : Int32)), (8, .int (0 : Int32)), (7, .int (0 : Int32)), (6, .int (FX 6)), (5, .int (FX 5)), (0, .ref oX), (1, .int x1), (2, .int x2), (3, .int x3), (4, .int x4)]) hx hb dX6_storm_67 hl (by decide) rfl (fun ls hl => ?_)
                  exact b_69 (FX 5) (FX 6) (0 : Int32) (0 : Int32) (0 : Int32) (0 : Int32) _ (lv_sub hl [6, 7, 8, 9, 10, 5, 4, 3, 2, 1, 0] rfl) hw
                · have hw := hw.2 c_28
                  refine lv_iconst (v := (-1 : Int32)) hx hb dX6_storm_43 (by decide) ?_
                  exact hret _ _ _ dX6_storm_44 rfl hw
set_option maxHeartbeats 4000000 in
set_option maxRecDepth 100000 in
theorem c_X6_state (l : Launch) (dC : Nat → ClassId) (dI : Nat → Nat → Nat) (cA : ClassId) (oX : Nat) (oT : Nat) (gT : Nat → Nat) (oD : Nat) (gD : Nat → Nat) (oN : Nat) (gN : Nat → Nat) (oS : Nat) (gS : Nat → Nat) (oP : Nat) (gP : Nat → Nat) (FX : Nat → Int32) (FT : Nat → Int32) (AT : Nat → Nat → Int32) (FD : Nat → Int32) (AD : Nat → Nat → Int32) (FN : Nat → Int32) (AN : Nat → Nat → Int32) (FS : Nat → Int32) (AS : Nat → Nat → Int32) (FP : Nat → Int32) (AP : Nat → Nat → Int32) (x1 : Int32) (x2 : Int32) (Post : Int32 → (Nat → Int32) → (Nat → Nat → Int32) → Prop) (hw : wp_X6_state FX FT AT FD AD FN AN FS AS FP AP x1 x2 Post) : MuI (dC, dI) cA l yX6_state cX6_state 3 .int 6 148 [.ref oX, .int x1, .int x2] ((xW oX oT oN oD oS oP FX) ++ ((tW oT gT cA FT AT) ++ ((nW oD gD cA FD AD) ++ ((nW oN gN cA FN AN) ++ ((sW oS gS cA FS AS) ++ (pW oP gP cA FP AP)))))) (fun r (u : (Nat → Int32) × (Nat → Nat → Int32)) => Post r (u.1) (u.2)) (fun u => ((xW oX oT oN oD oS oP FX) ++ ((tW oT gT cA FT AT) ++ ((nW oD gD cA FD AD) ++ ((nW oN gN cA FN AN) ++ ((sW oS gS cA (u.1) (u.2)) ++ (pW oP gP cA FP AP))))))) := by
  refine enMu (by decide) (Nat.le_of_ble_eq_true rfl) ?_
  intro p e s m args below meth c Q ls A fx hK hP hD hS hA hret hl
  obtain ⟨hx, hb, hml, hown, hts⟩ := id fx
  have hl : lv_has ls 3 [(0, .ref oX), (1, .int x1), (2, .int x2)] := hl
  have hP : va_P (dC, dI) vwCl ((xW oX oT oN oD oS oP FX) ++ ((tW oT gT cA FT AT) ++ ((nW oD gD cA FD AD) ++ ((nW oN gN cA FN AN) ++ ((sW oS gS cA FS AS) ++ (pW oP gP cA FP AP)))))) s.heap := hP
  refine lv_aload_n hx hb dX6_state_0 rfl (lv_at hl 0 rfl) ?_
  refine gz (q0 := 0) (v := .ref oN) fx hK hP fl_X6_19 rfl rfl dX6_state_1 ?_
  refine lv_iload_n hx hb dX6_state_4 rfl (lv_at hl 1 rfl) ?_
  refine caRoV (rest := []) (As := [.int x1]) fx hK lk_X6_110 (c_X1_hasState l dC dI cA oN gN FN AN x1 _ hw) (hP.sub [6, 7, 8] rfl) 0 rfl rfl ⟨(Nat.le_of_ble_eq_true rfl), (Nat.le_of_ble_eq_true rfl)⟩ rfl hl.1 rfl (Nat.le_of_ble_eq_true rfl) dX6_state_5 ?_
  intro r_16 hw
  refine lv_if_eq (tgt := 20) hx hb dX6_state_8 (by decide) (fun c_17 => ?_) (fun c_17 => ?_)
  · have hw := hw.1 c_17
    refine lv_iconst (v := (-1 : Int32)) hx hb dX6_state_20 (by decide) ?_
    exact hret _ (FS, AS) _ _ _ _ dX6_state_21 rfl hw hP hD hS
  · have hw := hw.2 c_17
    refine lv_iload_n hx hb dX6_state_11 rfl (lv_at hl 2 rfl) ?_
    refine lv_if_lt (tgt := 20) hx hb dX6_state_12 (by decide) (fun c_18 => ?_) (fun c_18 => ?_)
    · have hw := hw.1 c_18
      refine lv_iconst (v := (-1 : Int32)) hx hb dX6_state_20 (by decide) ?_
      exact hret _ (FS, AS) _ _ _ _ dX6_state_21 rfl hw hP hD hS
    · have hw := hw.2 c_18
      refine lv_iload_n hx hb dX6_state_15 rfl (lv_at hl 2 rfl) ?_
      refine lv_iconst (v := (3 : Int32)) hx hb dX6_state_16 (by decide) ?_
      refine lv_icmp_le (tgt := 22) hx hb dX6_state_17 (by decide) (fun c_19 => ?_) (fun c_19 => ?_)
      · have hw := hw.1 c_19
        refine lv_iload_n hx hb dX6_state_22 rfl (lv_at hl 2 rfl) ?_
        refine lv_iconst (v := (3 : Int32)) hx hb dX6_state_23 (by decide) ?_
        refine lv_icmp_ne (tgt := 44) hx hb dX6_state_24 (by decide) (fun c_20 => ?_) (fun c_20 => ?_)
        · have hw := hw.1 c_20
          refine lv_aload_n hx hb dX6_state_44 rfl (lv_at hl 0 rfl) ?_
          refine gz (q0 := 0) (v := .ref oS) fx hK hP fl_X6_29 rfl rfl dX6_state_45 ?_
          refine lv_aload_n hx hb dX6_state_48 rfl (lv_at hl 0 rfl) ?_
          refine gz (q0 := 0) (v := .ref oN) fx hK hP fl_X6_19 rfl rfl dX6_state_49 ?_
          refine caMuVv (rest := []) (As := [.ref oN]) (w1 := ((xW oX oT oN oD oS oP FX) ++ ((tW oT gT cA FT AT) ++ (nW oD gD cA FD AD)))) (w2 := (pW oP gP cA FP AP)) fx hK lk_X6_155 (c_X4_make l dC dI cA oN gN oS gS FN AN FS AS _ hw) hP hD hS hA 3 rfl rfl ⟨(Nat.le_of_ble_eq_true rfl), (Nat.le_of_ble_eq_true rfl)⟩ rfl hl.1 rfl (Nat.le_of_ble_eq_true rfl) dX6_state_52 ?_
          intro u_23 H locs hw hP hD hS
          obtain ⟨FS_21, AS_22⟩ := u_23
          have hP : va_P (dC, dI) vwCl ((xW oX oT oN oD oS oP FX) ++ ((tW oT gT cA FT AT) ++ ((nW oD gD cA FD AD) ++ ((nW oN gN cA FN AN) ++ ((sW oS gS cA FS_21 AS_22) ++ (pW oP gP cA FP AP)))))) H := hP
          have hD : va_D A ((xW oX oT oN oD oS oP FX) ++ ((tW oT gT cA FT AT) ++ ((nW oD gD cA FD AD) ++ ((nW oN gN cA FN AN) ++ ((sW oS gS cA FS_21 AS_22) ++ (pW oP gP cA FP AP)))))) := hD
          try dsimp only at hw
          refine lv_iload_n hx hb dX6_state_55 rfl (lv_at hl 2 rfl) ?_
          refine lv_iconst (v := (2 : Int32)) hx hb dX6_state_56 (by decide) ?_
          refine lv_icmp_ne (tgt := 69) hx hb dX6_state_57 (by decide) (fun c_24 => ?_) (fun c_24 => ?_)
          · have hw := hw.1 c_24
            refine lv_iload_n hx hb dX6_state_69 rfl (lv_at hl 2 rfl) ?_
            refine lv_if_ne (tgt := 84) hx hb dX6_state_70 (by decide) (fun c_25 => ?_) (fun c_25 => ?_)
            · have hw := hw.1 c_25
              refine lv_aload_n hx hb dX6_state_84 rfl (lv_at hl 0 rfl) ?_
              refine gz (q0 := 0) (v := .ref oS) fx hK hP fl_X6_29 rfl rfl dX6_state_85 ?_
              refine lv_iload_n hx hb dX6_state_88 rfl (lv_at hl 1 rfl) ?_
              refine caRoV (rest := []) (As := [.int x1]) fx hK lk_X6_235 (c_X4_bestOf l dC dI cA oS gS FS_21 AS_22 x1 _ hw) (hP.sub [9, 10, 11, 12, 13, 14, 15] rfl) 0 rfl rfl ⟨(Nat.le_of_ble_eq_true rfl), (Nat.le_of_ble_eq_true rfl)⟩ rfl hl.1 rfl (Nat.le_of_ble_eq_true rfl) dX6_state_89 ?_
              intro r_26 hw
              exact hret _ (FS_21, AS_22) _ _ _ _ dX6_state_92 rfl hw hP hD hS
            · have hw := hw.2 c_25
              refine lv_aload_n hx hb dX6_state_73 rfl (lv_at hl 0 rfl) ?_
              refine gz (q0 := 0) (v := .ref oS) fx hK hP fl_X6_29 rfl rfl dX6_state_74 ?_
              refine lv_iload_n hx hb dX6_state_77 rfl (lv_at hl 1 rfl) ?_
              refine caRoV (rest := []) (As := [.int x1]) fx hK lk_X6_223 (c_X4_worstOf l dC dI cA oS gS FS_21 AS_22 x1 _ hw) (hP.sub [9, 10, 11, 12, 13, 14, 15] rfl) 0 rfl rfl ⟨(Nat.le_of_ble_eq_true rfl), (Nat.le_of_ble_eq_true rfl)⟩ rfl hl.1 rfl (Nat.le_of_ble_eq_true rfl) dX6_state_78 ?_
              intro r_27 hw
              refine lv_goto (tgt := 92) hx hb dX6_state_81 (by decide) ?_
              exact hret _ (FS_21, AS_22) _ _ _ _ dX6_state_92 rfl hw hP hD hS
          · have hw := hw.2 c_24
            refine lv_aload_n hx hb dX6_state_60 rfl (lv_at hl 0 rfl) ?_
            refine gz (q0 := 0) (v := .ref oS) fx hK hP fl_X6_29 rfl rfl dX6_state_61 ?_
            refine lv_iload_n hx hb dX6_state_64 rfl (lv_at hl 1 rfl) ?_
            refine caRoV (rest := []) (As := [.int x1]) fx hK lk_X6_232 (c_X4_hitsOf l dC dI cA oS gS FS_21 AS_22 x1 _ hw) (hP.sub [9, 10, 11, 12, 13, 14, 15] rfl) 0 rfl rfl ⟨(Nat.le_of_ble_eq_true rfl), (Nat.le_of_ble_eq_true rfl)⟩ rfl hl.1 rfl (Nat.le_of_ble_eq_true rfl) dX6_state_65 ?_
            intro r_28 hw
            exact hret _ (FS_21, AS_22) _ _ _ _ dX6_state_68 rfl hw hP hD hS
        · have hw := hw.2 c_20
          refine lv_aload_n hx hb dX6_state_27 rfl (lv_at hl 0 rfl) ?_
          refine gz (q0 := 0) (v := .ref oN) fx hK hP fl_X6_19 rfl rfl dX6_state_28 ?_
          refine lv_iload_n hx hb dX6_state_31 rfl (lv_at hl 1 rfl) ?_
          refine caRoV (rest := []) (As := [.int x1]) fx hK lk_X6_127 (c_X1_isLegal l dC dI cA oN gN FN AN x1 _ hw) (hP.sub [6, 7, 8] rfl) 0 rfl rfl ⟨(Nat.le_of_ble_eq_true rfl), (Nat.le_of_ble_eq_true rfl)⟩ rfl hl.1 rfl (Nat.le_of_ble_eq_true rfl) dX6_state_32 ?_
          intro r_29 hw
          refine lv_if_eq (tgt := 42) hx hb dX6_state_35 (by decide) (fun c_30 => ?_) (fun c_30 => ?_)
          · have hw := hw.1 c_30
            refine lv_iconst (v := (0 : Int32)) hx hb dX6_state_42 (by decide) ?_
            exact hret _ (FS, AS) _ _ _ _ dX6_state_43 rfl hw hP hD hS
          · have hw := hw.2 c_30
            refine lv_iconst (v := (1 : Int32)) hx hb dX6_state_38 (by decide) ?_
            refine lv_goto (tgt := 43) hx hb dX6_state_39 (by decide) ?_
            exact hret _ (FS, AS) _ _ _ _ dX6_state_43 rfl hw hP hD hS
      · have hw := hw.2 c_19
        refine lv_iconst (v := (-1 : Int32)) hx hb dX6_state_20 (by decide) ?_
        exact hret _ (FS, AS) _ _ _ _ dX6_state_21 rfl hw hP hD hS
set_option maxHeartbeats 4000000 in
set_option maxRecDepth 100000 in
theorem c_X6_all (l : Launch) (dC : Nat → ClassId) (dI : Nat → Nat → Nat) (cA : ClassId) (oX : Nat) (oT : Nat) (gT : Nat → Nat) (oD : Nat) (gD : Nat → Nat) (oN : Nat) (gN : Nat → Nat) (oS : Nat) (gS : Nat → Nat) (oP : Nat) (gP : Nat → Nat) (FX : Nat → Int32) (FT : Nat → Int32) (AT : Nat → Nat → Int32) (FD : Nat → Int32) (AD : Nat → Nat → Int32) (FN : Nat → Int32) (AN : Nat → Nat → Int32) (FS : Nat → Int32) (AS : Nat → Nat → Int32) (FP : Nat → Int32) (AP : Nat → Nat → Int32) (x1 : Int32) (Post : Int32 → (Nat → Int32) → (Nat → Nat → Int32) → Prop) (hw : wp_X6_all FX FT AT FD AD FN AN FS AS FP AP x1 Post) : MuI (dC, dI) cA l yX6_all cX6_all 2 .int 6 148 [.ref oX, .int x1] ((xW oX oT oN oD oS oP FX) ++ ((tW oT gT cA FT AT) ++ ((nW oD gD cA FD AD) ++ ((nW oN gN cA FN AN) ++ ((sW oS gS cA FS AS) ++ (pW oP gP cA FP AP)))))) (fun r (u : (Nat → Int32) × (Nat → Nat → Int32)) => Post r (u.1) (u.2)) (fun u => ((xW oX oT oN oD oS oP FX) ++ ((tW oT gT cA FT AT) ++ ((nW oD gD cA FD AD) ++ ((nW oN gN cA FN AN) ++ ((sW oS gS cA (u.1) (u.2)) ++ (pW oP gP cA FP AP))))))) := by
  refine enMu (by decide) (Nat.le_of_ble_eq_true rfl) ?_
  intro p e s m args below meth c Q ls A fx hK hP hD hS hA hret hl
  obtain ⟨hx, hb, hml, hown, hts⟩ := id fx
  have hl : lv_has ls 2 [(0, .ref oX), (1, .int x1)] := hl
  have hP : va_P (dC, dI) vwCl ((xW oX oT oN oD oS oP FX) ++ ((tW oT gT cA FT AT) ++ ((nW oD gD cA FD AD) ++ ((nW oN gN cA FN AN) ++ ((sW oS gS cA FS AS) ++ (pW oP gP cA FP AP)))))) s.heap := hP
  refine lv_iload_n hx hb dX6_all_0 rfl (lv_at hl 1 rfl) ?_
  refine lv_if_lt (tgt := 10) hx hb dX6_all_1 (by decide) (fun c_19 => ?_) (fun c_19 => ?_)
  · have hw := hw.1 c_19
    refine lv_iconst (v := (-1 : Int32)) hx hb dX6_all_10 (by decide) ?_
    exact hret _ (FS, AS) _ _ _ _ dX6_all_11 rfl hw hP hD hS
  · have hw := hw.2 c_19
    refine lv_iload_n hx hb dX6_all_4 rfl (lv_at hl 1 rfl) ?_
    refine lv_bipush (v := (6 : Int32)) hx hb dX6_all_5 (by decide) ?_
    refine lv_icmp_le (tgt := 12) hx hb dX6_all_7 (by decide) (fun c_20 => ?_) (fun c_20 => ?_)
    · have hw := hw.1 c_20
      refine lv_aload_n hx hb dX6_all_12 rfl (lv_at hl 0 rfl) ?_
      refine gz (q0 := 0) (v := .ref oS) fx hK hP fl_X6_29 rfl rfl dX6_all_13 ?_
      refine lv_aload_n hx hb dX6_all_16 rfl (lv_at hl 0 rfl) ?_
      refine gz (q0 := 0) (v := .ref oN) fx hK hP fl_X6_19 rfl rfl dX6_all_17 ?_
      refine caMuVv (rest := []) (As := [.ref oN]) (w1 := ((xW oX oT oN oD oS oP FX) ++ ((tW oT gT cA FT AT) ++ (nW oD gD cA FD AD)))) (w2 := (pW oP gP cA FP AP)) fx hK lk_X6_155 (c_X4_make l dC dI cA oN gN oS gS FN AN FS AS _ hw) hP hD hS hA 3 rfl rfl ⟨(Nat.le_of_ble_eq_true rfl), (Nat.le_of_ble_eq_true rfl)⟩ rfl hl.1 rfl (Nat.le_of_ble_eq_true rfl) dX6_all_20 ?_
      intro u_23 H locs hw hP hD hS
      obtain ⟨FS_21, AS_22⟩ := u_23
      have hP : va_P (dC, dI) vwCl ((xW oX oT oN oD oS oP FX) ++ ((tW oT gT cA FT AT) ++ ((nW oD gD cA FD AD) ++ ((nW oN gN cA FN AN) ++ ((sW oS gS cA FS_21 AS_22) ++ (pW oP gP cA FP AP)))))) H := hP
      have hD : va_D A ((xW oX oT oN oD oS oP FX) ++ ((tW oT gT cA FT AT) ++ ((nW oD gD cA FD AD) ++ ((nW oN gN cA FN AN) ++ ((sW oS gS cA FS_21 AS_22) ++ (pW oP gP cA FP AP)))))) := hD
      try dsimp only at hw
      refine lv_iload_n hx hb dX6_all_23 rfl (lv_at hl 1 rfl) ?_
      by_cases c_24 : x1 = (0 : Int32)
      · have hw := hw.1 c_24
        refine lv_tableIn (off := 40) (tgt := 64) hx hb dX6_all_24 (by rw [c_24]; decide) (by rw [c_24]; decide) (by rw [c_24]; rfl) (by decide) ?_
        refine lv_aload_n hx hb dX6_all_64 rfl (lv_at hl 0 rfl) ?_
        refine gz (q0 := 0) (v := .ref oS) fx hK hP fl_X6_29 rfl rfl dX6_all_65 ?_
        refine caRoV (rest := []) (As := []) fx hK lk_X6_238 (c_X4_legalStates l dC dI cA oS gS FS_21 AS_22 _ hw) (hP.sub [9, 10, 11, 12, 13, 14, 15] rfl) 0 rfl rfl ⟨(Nat.le_of_ble_eq_true rfl), (Nat.le_of_ble_eq_true rfl)⟩ rfl hl.1 rfl (Nat.le_of_ble_eq_true rfl) dX6_all_68 ?_
        intro r_25 hw
        exact hret _ (FS_21, AS_22) _ _ _ _ dX6_all_71 rfl hw hP hD hS
      · have hw := hw.2 c_24
        by_cases c_26 : x1 = (1 : Int32)
        · have hw := hw.1 c_26
          refine lv_tableIn (off := 48) (tgt := 72) hx hb dX6_all_24 (by rw [c_26]; decide) (by rw [c_26]; decide) (by rw [c_26]; rfl) (by decide) ?_
          refine lv_aload_n hx hb dX6_all_72 rfl (lv_at hl 0 rfl) ?_
          refine gz (q0 := 0) (v := .ref oS) fx hK hP fl_X6_29 rfl rfl dX6_all_73 ?_
          refine caRoV (rest := []) (As := []) fx hK lk_X6_241 (c_X4_endlessStates l dC dI cA oS gS FS_21 AS_22 _ hw) (hP.sub [9, 10, 11, 12, 13, 14, 15] rfl) 0 rfl rfl ⟨(Nat.le_of_ble_eq_true rfl), (Nat.le_of_ble_eq_true rfl)⟩ rfl hl.1 rfl (Nat.le_of_ble_eq_true rfl) dX6_all_76 ?_
          intro r_27 hw
          exact hret _ (FS_21, AS_22) _ _ _ _ dX6_all_79 rfl hw hP hD hS
        · have hw := hw.2 c_26
          by_cases c_28 : x1 = (2 : Int32)
          · have hw := hw.1 c_28
            refine lv_tableIn (off := 56) (tgt := 80) hx hb dX6_all_24 (by rw [c_28]; decide) (by rw [c_28]; decide) (by rw [c_28]; rfl) (by decide) ?_
            refine lv_aload_n hx hb dX6_all_80 rfl (lv_at hl 0 rfl) ?_
            refine gz (q0 := 0) (v := .ref oS) fx hK hP fl_X6_29 rfl rfl dX6_all_81 ?_
            refine caRoV (rest := []) (As := []) fx hK lk_X6_244 (c_X4_greatestWorst l dC dI cA oS gS FS_21 AS_22 _ hw) (hP.sub [9, 10, 11, 12, 13, 14, 15] rfl) 0 rfl rfl ⟨(Nat.le_of_ble_eq_true rfl), (Nat.le_of_ble_eq_true rfl)⟩ rfl hl.1 rfl (Nat.le_of_ble_eq_true rfl) dX6_all_84 ?_
            intro r_29 hw
            exact hret _ (FS_21, AS_22) _ _ _ _ dX6_all_87 rfl hw hP hD hS
          · have hw := hw.2 c_28
            by_cases c_30 : x1 = (3 : Int32)
            · have hw := hw.1 c_30
              refine lv_tableIn (off := 64) (tgt := 88) hx hb dX6_all_24 (by rw [c_30]; decide) (by rw [c_30]; decide) (by rw [c_30]; rfl) (by decide) ?_
              refine lv_aload_n hx hb dX6_all_88 rfl (lv_at hl 0 rfl) ?_
              refine gz (q0 := 0) (v := .ref oS) fx hK hP fl_X6_29 rfl rfl dX6_all_89 ?_
              refine caRoV (rest := []) (As := []) fx hK lk_X6_247 (c_X4_lowestOfGreatestWorst l dC dI cA oS gS FS_21 AS_22 _ hw) (hP.sub [9, 10, 11, 12, 13, 14, 15] rfl) 0 rfl rfl ⟨(Nat.le_of_ble_eq_true rfl), (Nat.le_of_ble_eq_true rfl)⟩ rfl hl.1 rfl (Nat.le_of_ble_eq_true rfl) dX6_all_92 ?_
              intro r_31 hw
              exact hret _ (FS_21, AS_22) _ _ _ _ dX6_all_95 rfl hw hP hD hS
            · have hw := hw.2 c_30
              by_cases c_32 : x1 = (4 : Int32)
              · have hw := hw.1 c_32
                refine lv_tableIn (off := 72) (tgt := 96) hx hb dX6_all_24 (by rw [c_32]; decide) (by rw [c_32]; decide) (by rw [c_32]; rfl) (by decide) ?_
                refine lv_aload_n hx hb dX6_all_96 rfl (lv_at hl 0 rfl) ?_
                refine gz (q0 := 0) (v := .ref oS) fx hK hP fl_X6_29 rfl rfl dX6_all_97 ?_
                refine lv_aload_n hx hb dX6_all_100 rfl (lv_at hl 0 rfl) ?_
                refine gz (q0 := 0) (v := .ref oN) fx hK hP fl_X6_19 rfl rfl dX6_all_101 ?_
                refine caRoV (rest := []) (As := [.ref oN]) fx hK lk_X6_250 (c_X4_movesOutOfLegal l dC dI cA oN gN oS gS FN AN FS_21 AS_22 _ hw) (hP.sub [6, 7, 8, 9, 10, 11, 12, 13, 14, 15] rfl) 3 rfl rfl ⟨(Nat.le_of_ble_eq_true rfl), (Nat.le_of_ble_eq_true rfl)⟩ rfl hl.1 rfl (Nat.le_of_ble_eq_true rfl) dX6_all_104 ?_
                intro r_33 hw
                exact hret _ (FS_21, AS_22) _ _ _ _ dX6_all_107 rfl hw hP hD hS
              · have hw := hw.2 c_32
                by_cases c_34 : x1 = (5 : Int32)
                · have hw := hw.1 c_34
                  refine lv_tableIn (off := 84) (tgt := 108) hx hb dX6_all_24 (by rw [c_34]; decide) (by rw [c_34]; decide) (by rw [c_34]; rfl) (by decide) ?_
                  refine lv_aload_n hx hb dX6_all_108 rfl (lv_at hl 0 rfl) ?_
                  refine gz (q0 := 0) (v := .ref oS) fx hK hP fl_X6_29 rfl rfl dX6_all_109 ?_
                  refine caRoV (rest := []) (As := []) fx hK lk_X6_253 (c_X4_sumOfWorsts l dC dI cA oS gS FS_21 AS_22 _ hw) (hP.sub [9, 10, 11, 12, 13, 14, 15] rfl) 0 rfl rfl ⟨(Nat.le_of_ble_eq_true rfl), (Nat.le_of_ble_eq_true rfl)⟩ rfl hl.1 rfl (Nat.le_of_ble_eq_true rfl) dX6_all_112 ?_
                  intro r_35 hw
                  exact hret _ (FS_21, AS_22) _ _ _ _ dX6_all_115 rfl hw hP hD hS
                · have hw := hw.2 c_34
                  refine lv_tableOut (tgt := 116) hx hb dX6_all_24 (by have := ne_i 0 _ (by decide) c_24; have := ne_i 1 _ (by decide) c_26; have := ne_i 2 _ (by decide) c_28; have := ne_i 3 _ (by decide) c_30; have := ne_i 4 _ (by decide) c_32; have := ne_i 5 _ (by decide) c_34; omega) (by decide) ?_
                  refine lv_aload_n hx hb dX6_all_116 rfl (lv_at hl 0 rfl) ?_
                  refine gz (q0 := 0) (v := .ref oS) fx hK hP fl_X6_29 rfl rfl dX6_all_117 ?_
                  refine caRoV (rest := []) (As := []) fx hK lk_X6_256 (c_X4_greatestBest l dC dI cA oS gS FS_21 AS_22 _ hw) (hP.sub [9, 10, 11, 12, 13, 14, 15] rfl) 0 rfl rfl ⟨(Nat.le_of_ble_eq_true rfl), (Nat.le_of_ble_eq_true rfl)⟩ rfl hl.1 rfl (Nat.le_of_ble_eq_true rfl) dX6_all_120 ?_
                  intro r_36 hw
                  exact hret _ (FS_21, AS_22) _ _ _ _ dX6_all_123 rfl hw hP hD hS
    · have hw := hw.2 c_20
      refine lv_iconst (v := (-1 : Int32)) hx hb dX6_all_10 (by decide) ?_
      exact hret _ (FS, AS) _ _ _ _ dX6_all_11 rfl hw hP hD hS
set_option maxHeartbeats 4000000 in
set_option maxRecDepth 100000 in
theorem c_X6_within (l : Launch) (dC : Nat → ClassId) (dI : Nat → Nat → Nat) (cA : ClassId) (oX : Nat) (oT : Nat) (gT : Nat → Nat) (oD : Nat) (gD : Nat → Nat) (oN : Nat) (gN : Nat → Nat) (oS : Nat) (gS : Nat → Nat) (oP : Nat) (gP : Nat → Nat) (FX : Nat → Int32) (FT : Nat → Int32) (AT : Nat → Nat → Int32) (FD : Nat → Int32) (AD : Nat → Nat → Int32) (FN : Nat → Int32) (AN : Nat → Nat → Int32) (FS : Nat → Int32) (AS : Nat → Nat → Int32) (FP : Nat → Int32) (AP : Nat → Nat → Int32) (x1 : Int32) (x2 : Int32) (Post : Int32 → (Nat → Int32) → (Nat → Nat → Int32) → Prop) (hw : wp_X6_within FX FT AT FD AD FN AN FS AS FP AP x1 x2 Post) : MuI (dC, dI) cA l yX6_within cX6_within 4 .int 6 148 [.ref oX, .int x1, .int x2] ((xW oX oT oN oD oS oP FX) ++ ((tW oT gT cA FT AT) ++ ((nW oD gD cA FD AD) ++ ((nW oN gN cA FN AN) ++ ((sW oS gS cA FS AS) ++ (pW oP gP cA FP AP)))))) (fun r (u : (Nat → Int32) × (Nat → Nat → Int32)) => Post r (u.1) (u.2)) (fun u => ((xW oX oT oN oD oS oP FX) ++ ((tW oT gT cA FT AT) ++ ((nW oD gD cA FD AD) ++ ((nW oN gN cA FN AN) ++ ((sW oS gS cA (u.1) (u.2)) ++ (pW oP gP cA FP AP))))))) := by
  refine enMu (by decide) (Nat.le_of_ble_eq_true rfl) ?_
  intro p e s m args below meth c Q ls A fx hK hP hD hS hA hret hl
  obtain ⟨hx, hb, hml, hown, hts⟩ := id fx
  have hl : lv_has ls 4 [(0, .ref oX), (1, .int x1), (2, .int x2)] := hl
  have hP : va_P (dC, dI) vwCl ((xW oX oT oN oD oS oP FX) ++ ((tW oT gT cA FT AT) ++ ((nW oD gD cA FD AD) ++ ((nW oN gN cA FN AN) ++ ((sW oS gS cA FS AS) ++ (pW oP gP cA FP AP)))))) s.heap := hP
  refine lv_iload_n hx hb dX6_within_0 rfl (lv_at hl 1 rfl) ?_
  refine lv_if_lt (tgt := 24) hx hb dX6_within_1 (by decide) (fun c_12 => ?_) (fun c_12 => ?_)
  · have hw := hw.1 c_12
    refine lv_iconst (v := (-1 : Int32)) hx hb dX6_within_24 (by decide) ?_
    exact hret _ (FS, AS) _ _ _ _ dX6_within_25 rfl hw hP hD hS
  · have hw := hw.2 c_12
    refine lv_iload_n hx hb dX6_within_4 rfl (lv_at hl 1 rfl) ?_
    refine lv_aload_n hx hb dX6_within_5 rfl (lv_at hl 0 rfl) ?_
    refine gz (q0 := 0) (v := .ref oN) fx hK hP fl_X6_19 rfl rfl dX6_within_6 ?_
    refine gz (q0 := 6) (v := .int (FN 1)) fx hK hP fl_X6_204 rfl rfl dX6_within_9 ?_
    refine lv_icmp_gt (tgt := 24) hx hb dX6_within_12 (by decide) (fun c_13 => ?_) (fun c_13 => ?_)
    · have hw := hw.1 c_13
      refine lv_iconst (v := (-1 : Int32)) hx hb dX6_within_24 (by decide) ?_
      exact hret _ (FS, AS) _ _ _ _ dX6_within_25 rfl hw hP hD hS
    · have hw := hw.2 c_13
      refine lv_iload_n hx hb dX6_within_15 rfl (lv_at hl 2 rfl) ?_
      refine lv_if_lt (tgt := 24) hx hb dX6_within_16 (by decide) (fun c_14 => ?_) (fun c_14 => ?_)
      · have hw := hw.1 c_14
        refine lv_iconst (v := (-1 : Int32)) hx hb dX6_within_24 (by decide) ?_
        exact hret _ (FS, AS) _ _ _ _ dX6_within_25 rfl hw hP hD hS
      · have hw := hw.2 c_14
        refine lv_iload_n hx hb dX6_within_19 rfl (lv_at hl 2 rfl) ?_
        refine lv_iconst (v := (1 : Int32)) hx hb dX6_within_20 (by decide) ?_
        refine lv_icmp_le (tgt := 26) hx hb dX6_within_21 (by decide) (fun c_15 => ?_) (fun c_15 => ?_)
        · have hw := hw.1 c_15
          refine lv_aload_n hx hb dX6_within_26 rfl (lv_at hl 0 rfl) ?_
          refine gz (q0 := 0) (v := .ref oS) fx hK hP fl_X6_29 rfl rfl dX6_within_27 ?_
          refine lv_aload_n hx hb dX6_within_30 rfl (lv_at hl 0 rfl) ?_
          refine gz (q0 := 0) (v := .ref oN) fx hK hP fl_X6_19 rfl rfl dX6_within_31 ?_
          refine caMuVv (rest := []) (As := [.ref oN]) (w1 := ((xW oX oT oN oD oS oP FX) ++ ((tW oT gT cA FT AT) ++ (nW oD gD cA FD AD)))) (w2 := (pW oP gP cA FP AP)) fx hK lk_X6_155 (c_X4_make l dC dI cA oN gN oS gS FN AN FS AS _ hw) hP hD hS hA 3 rfl rfl ⟨(Nat.le_of_ble_eq_true rfl), (Nat.le_of_ble_eq_true rfl)⟩ rfl hl.1 rfl (Nat.le_of_ble_eq_true rfl) dX6_within_34 ?_
          intro u_18 H locs hw hP hD hS
          obtain ⟨FS_16, AS_17⟩ := u_18
          have hP : va_P (dC, dI) vwCl ((xW oX oT oN oD oS oP FX) ++ ((tW oT gT cA FT AT) ++ ((nW oD gD cA FD AD) ++ ((nW oN gN cA FN AN) ++ ((sW oS gS cA FS_16 AS_17) ++ (pW oP gP cA FP AP)))))) H := hP
          have hD : va_D A ((xW oX oT oN oD oS oP FX) ++ ((tW oT gT cA FT AT) ++ ((nW oD gD cA FD AD) ++ ((nW oN gN cA FN AN) ++ ((sW oS gS cA FS_16 AS_17) ++ (pW oP gP cA FP AP)))))) := hD
          try dsimp only at hw
          refine lv_aload_n hx hb dX6_within_37 rfl (lv_at hl 0 rfl) ?_
          refine gz (q0 := 0) (v := .ref oS) fx hK hP fl_X6_29 rfl rfl dX6_within_38 ?_
          refine lv_iload_n hx hb dX6_within_41 rfl (lv_at hl 1 rfl) ?_
          refine caRoV (rest := []) (As := [.int x1]) fx hK lk_X6_259 (c_X4_statesWithin l dC dI cA oS gS FS_16 AS_17 x1 _ hw) (hP.sub [9, 10, 11, 12, 13, 14, 15] rfl) 0 rfl rfl ⟨(Nat.le_of_ble_eq_true rfl), (Nat.le_of_ble_eq_true rfl)⟩ rfl hl.1 rfl (Nat.le_of_ble_eq_true rfl) dX6_within_42 ?_
          intro r_19 hw
          refine lv_istore_n (lv' := [(3, .int r_19), (0, .ref oX), (1, .int x1), (2, .int x2)]) hx hb dX6_within_45 rfl hl (by decide) rfl (fun ls hl => ?_)
          refine lv_iload_n hx hb dX6_within_46 rfl (lv_at hl 0 rfl) ?_
          refine lv_if_ne (tgt := 53) hx hb dX6_within_47 (by decide) (fun c_20 => ?_) (fun c_20 => ?_)
          · have hw := hw.1 c_20
            refine lv_iload_n hx hb dX6_within_53 rfl (lv_at hl 3 rfl) ?_
            refine lv_if_ne (tgt := 68) hx hb dX6_within_54 (by decide) (fun c_21 => ?_) (fun c_21 => ?_)
            · have hw := hw.1 c_21
              refine lv_iload_n hx hb dX6_within_68 rfl (lv_at hl 0 rfl) ?_
              exact hret _ (FS_16, AS_17) _ _ _ _ dX6_within_69 rfl hw hP hD hS
            · have hw := hw.2 c_21
              refine lv_aload_n hx hb dX6_within_57 rfl (lv_at hl 1 rfl) ?_
              refine gz (q0 := 0) (v := .ref oS) fx hK hP fl_X6_29 rfl rfl dX6_within_58 ?_
              refine lv_iload_n hx hb dX6_within_61 rfl (lv_at hl 2 rfl) ?_
              refine caRoV (rest := []) (As := [.int x1]) fx hK lk_X6_262 (c_X4_greatestWorstWithin l dC dI cA oS gS FS_16 AS_17 x1 _ hw) (hP.sub [9, 10, 11, 12, 13, 14, 15] rfl) 0 rfl rfl ⟨(Nat.le_of_ble_eq_true rfl), (Nat.le_of_ble_eq_true rfl)⟩ rfl hl.1 rfl (Nat.le_of_ble_eq_true rfl) dX6_within_62 ?_
              intro r_22 hw
              refine lv_goto (tgt := 69) hx hb dX6_within_65 (by decide) ?_
              exact hret _ (FS_16, AS_17) _ _ _ _ dX6_within_69 rfl hw hP hD hS
          · have hw := hw.2 c_20
            refine lv_bipush (v := (-4 : Int32)) hx hb dX6_within_50 (by decide) ?_
            exact hret _ (FS_16, AS_17) _ _ _ _ dX6_within_52 rfl hw hP hD hS
        · have hw := hw.2 c_15
          refine lv_iconst (v := (-1 : Int32)) hx hb dX6_within_24 (by decide) ?_
          exact hret _ (FS, AS) _ _ _ _ dX6_within_25 rfl hw hP hD hS
set_option maxHeartbeats 4000000 in
set_option maxRecDepth 100000 in
theorem c_X6_count (l : Launch) (dC : Nat → ClassId) (dI : Nat → Nat → Nat) (cA : ClassId) (oX : Nat) (oT : Nat) (gT : Nat → Nat) (oD : Nat) (gD : Nat → Nat) (oN : Nat) (gN : Nat → Nat) (oS : Nat) (gS : Nat → Nat) (oP : Nat) (gP : Nat → Nat) (FX : Nat → Int32) (FT : Nat → Int32) (AT : Nat → Nat → Int32) (FD : Nat → Int32) (AD : Nat → Nat → Int32) (FN : Nat → Int32) (AN : Nat → Nat → Int32) (FS : Nat → Int32) (AS : Nat → Nat → Int32) (FP : Nat → Int32) (AP : Nat → Nat → Int32) (x1 : Int32) (Post : Int32 → Prop) (hw : wp_X6_count FX FT AT FD AD FN AN FS AS FP AP x1 Post) : RoI (dC, dI) cA l yX6_count cX6_count 2 .int 1 20 [.ref oX, .int x1] ((xW oX oT oN oD oS oP FX) ++ ((tW oT gT cA FT AT) ++ ((nW oD gD cA FD AD) ++ ((nW oN gN cA FN AN) ++ ((sW oS gS cA FS AS) ++ (pW oP gP cA FP AP)))))) Post := by
  refine enRo (by decide) (Nat.le_of_ble_eq_true rfl) ?_
  intro p e s m args below meth c Q ls fx hK hP hret hl
  obtain ⟨hx, hb, hml, hown, hts⟩ := id fx
  have hl : lv_has ls 2 [(0, .ref oX), (1, .int x1)] := hl
  refine lv_iload_n hx hb dX6_count_0 rfl (lv_at hl 1 rfl) ?_
  by_cases c_11 : x1 = (0 : Int32)
  · have hw := hw.1 c_11
    refine lv_tableIn (off := 47) (tgt := 48) hx hb dX6_count_1 (by rw [c_11]; decide) (by rw [c_11]; decide) (by rw [c_11]; rfl) (by decide) ?_
    refine lv_aload_n hx hb dX6_count_48 rfl (lv_at hl 0 rfl) ?_
    refine gz (q0 := 0) (v := .ref oN) fx hK hP fl_X6_19 rfl rfl dX6_count_49 ?_
    refine gz (q0 := 6) (v := .int (FN 0)) fx hK hP fl_X6_130 rfl rfl dX6_count_52 ?_
    exact hret _ _ _ dX6_count_55 rfl hw
  · have hw := hw.2 c_11
    by_cases c_12 : x1 = (1 : Int32)
    · have hw := hw.1 c_12
      refine lv_tableIn (off := 55) (tgt := 56) hx hb dX6_count_1 (by rw [c_12]; decide) (by rw [c_12]; decide) (by rw [c_12]; rfl) (by decide) ?_
      refine lv_aload_n hx hb dX6_count_56 rfl (lv_at hl 0 rfl) ?_
      refine gz (q0 := 0) (v := .ref oN) fx hK hP fl_X6_19 rfl rfl dX6_count_57 ?_
      refine gz (q0 := 6) (v := .int (FN 1)) fx hK hP fl_X6_204 rfl rfl dX6_count_60 ?_
      exact hret _ _ _ dX6_count_63 rfl hw
    · have hw := hw.2 c_12
      by_cases c_13 : x1 = (2 : Int32)
      · have hw := hw.1 c_13
        refine lv_tableIn (off := 63) (tgt := 64) hx hb dX6_count_1 (by rw [c_13]; decide) (by rw [c_13]; decide) (by rw [c_13]; rfl) (by decide) ?_
        refine lv_aload_n hx hb dX6_count_64 rfl (lv_at hl 0 rfl) ?_
        refine gz (q0 := 0) (v := .ref oN) fx hK hP fl_X6_19 rfl rfl dX6_count_65 ?_
        refine gz (q0 := 6) (v := .int (FN 2)) fx hK hP fl_X6_265 rfl rfl dX6_count_68 ?_
        exact hret _ _ _ dX6_count_71 rfl hw
      · have hw := hw.2 c_13
        by_cases c_14 : x1 = (3 : Int32)
        · have hw := hw.1 c_14
          refine lv_tableIn (off := 71) (tgt := 72) hx hb dX6_count_1 (by rw [c_14]; decide) (by rw [c_14]; decide) (by rw [c_14]; rfl) (by decide) ?_
          refine lv_aload_n hx hb dX6_count_72 rfl (lv_at hl 0 rfl) ?_
          refine gz (q0 := 0) (v := .ref oN) fx hK hP fl_X6_19 rfl rfl dX6_count_73 ?_
          refine gz (q0 := 6) (v := .int (FN 4)) fx hK hP fl_X6_268 rfl rfl dX6_count_76 ?_
          exact hret _ _ _ dX6_count_79 rfl hw
        · have hw := hw.2 c_14
          by_cases c_15 : x1 = (4 : Int32)
          · have hw := hw.1 c_15
            refine lv_tableIn (off := 79) (tgt := 80) hx hb dX6_count_1 (by rw [c_15]; decide) (by rw [c_15]; decide) (by rw [c_15]; rfl) (by decide) ?_
            refine lv_aload_n hx hb dX6_count_80 rfl (lv_at hl 0 rfl) ?_
            refine gz (q0 := 0) (v := .ref oN) fx hK hP fl_X6_19 rfl rfl dX6_count_81 ?_
            refine gz (q0 := 6) (v := .int (FN 3)) fx hK hP fl_X6_71 rfl rfl dX6_count_84 ?_
            exact hret _ _ _ dX6_count_87 rfl hw
          · have hw := hw.2 c_15
            by_cases c_16 : x1 = (5 : Int32)
            · have hw := hw.1 c_16
              refine lv_tableIn (off := 87) (tgt := 88) hx hb dX6_count_1 (by rw [c_16]; decide) (by rw [c_16]; decide) (by rw [c_16]; rfl) (by decide) ?_
              refine lv_aload_n hx hb dX6_count_88 rfl (lv_at hl 0 rfl) ?_
              refine gz (q0 := 0) (v := .ref oP) fx hK hP fl_X6_36 rfl rfl dX6_count_89 ?_
              refine caRoV (rest := []) (As := []) fx hK lk_X6_139 (c_X2_size l dC dI cA oP gP FP AP _ hw) (hP.sub [16, 17, 18] rfl) 0 rfl rfl ⟨(Nat.le_of_ble_eq_true rfl), (Nat.le_of_ble_eq_true rfl)⟩ rfl hl.1 rfl (Nat.le_of_ble_eq_true rfl) dX6_count_92 ?_
              intro r_17 hw
              exact hret _ _ _ dX6_count_95 rfl hw
            · have hw := hw.2 c_16
              by_cases c_18 : x1 = (6 : Int32)
              · have hw := hw.1 c_18
                refine lv_tableIn (off := 95) (tgt := 96) hx hb dX6_count_1 (by rw [c_18]; decide) (by rw [c_18]; decide) (by rw [c_18]; rfl) (by decide) ?_
                refine lv_aload_n hx hb dX6_count_96 rfl (lv_at hl 0 rfl) ?_
                refine gz (q0 := 0) (v := .ref oT) fx hK hP fl_X6_10 rfl rfl dX6_count_97 ?_
                refine caRoV (rest := []) (As := []) fx hK lk_X6_66 (c_X5_length l dC dI cA oT gT FT AT _ hw) (hP.sub [1, 2] rfl) 0 rfl rfl ⟨(Nat.le_of_ble_eq_true rfl), (Nat.le_of_ble_eq_true rfl)⟩ rfl hl.1 rfl (Nat.le_of_ble_eq_true rfl) dX6_count_100 ?_
                intro r_19 hw
                exact hret _ _ _ dX6_count_103 rfl hw
              · have hw := hw.2 c_18
                by_cases c_20 : x1 = (7 : Int32)
                · have hw := hw.1 c_20
                  refine lv_tableIn (off := 103) (tgt := 104) hx hb dX6_count_1 (by rw [c_20]; decide) (by rw [c_20]; decide) (by rw [c_20]; rfl) (by decide) ?_
                  refine lv_aload_n hx hb dX6_count_104 rfl (lv_at hl 0 rfl) ?_
                  refine gz (q0 := 0) (v := .int (FX 6)) fx hK hP fl_X6_85 rfl rfl dX6_count_105 ?_
                  exact hret _ _ _ dX6_count_108 rfl hw
                · have hw := hw.2 c_20
                  refine lv_tableOut (tgt := 109) hx hb dX6_count_1 (by have := ne_i 0 _ (by decide) c_11; have := ne_i 1 _ (by decide) c_12; have := ne_i 2 _ (by decide) c_13; have := ne_i 3 _ (by decide) c_14; have := ne_i 4 _ (by decide) c_15; have := ne_i 5 _ (by decide) c_16; have := ne_i 6 _ (by decide) c_18; have := ne_i 7 _ (by decide) c_20; omega) (by decide) ?_
                  refine lv_iconst (v := (-1 : Int32)) hx hb dX6_count_109 (by decide) ?_
                  exact hret _ _ _ dX6_count_110 rfl hw
