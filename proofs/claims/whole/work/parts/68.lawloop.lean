set_option maxHeartbeats 4000000 in
set_option maxRecDepth 100000 in
theorem law_loop {p : Program} {e : Env} {s : State} {m : MethodId} {below : List Frame} {meth : Method} {c : Code} {l : Launch} {b L : Nat} {xs : Nat → Int32} (hL : L ≤ 2560) (C0 : lw_At p s m meth c b L xs) {dC : Nat → ClassId} {dI : Nat → Nat → Nat} {cA : ClassId} (hK : va_K (dC, dI) vwCl [(cA, .int)] s) {o oT : Nat} {gT : Nat → Nat} {oD : Nat} {gD : Nat → Nat} {oN : Nat} {gN : Nat → Nat} {oS : Nat} {gS : Nat → Nat} {oP : Nat} {gP : Nat → Nat} {oM : Nat} {gM : Nat → Nat} : ∀ (n i : Nat), i ≤ L → L ≤ i + n → ∀ (ls : Array Slot), lv_has ls 4 [(0, .ref b), (1, .ref o), (2, .ref oM), (3, .int (nI i))] → ∀ (FX : (Nat → Int32)) (FT : (Nat → Int32)) (AT : (Nat → Nat → Int32)) (FD : (Nat → Int32)) (AD : (Nat → Nat → Int32)) (FN : (Nat → Int32)) (AN : (Nat → Nat → Int32)) (FS : (Nat → Int32)) (AS : (Nat → Nat → Int32)) (FP : (Nat → Int32)) (AP : (Nat → Nat → Int32)) (F : (Nat → Int32)) (A : (Nat → Nat → Int32)) (H : Heap) (locs : List Loc), Rel FX FT AT FN AN FS AS FP AP F A → va_P (dC, dI) vwCl (((xW o oT oN oD oS oP FX) ++ ((tW oT gT cA FT AT) ++ ((nW oD gD cA FD AD) ++ ((nW oN gN cA FN AN) ++ ((sW oS gS cA FS AS) ++ (pW oP gP cA FP AP)))))) ++ (mW oM gM cA F A)) H → va_D (fun q : Nat => s.heap.size ≤ q) (((xW o oT oN oD oS oP FX) ++ ((tW oT gT cA FT AT) ++ ((nW oD gD cA FD AD) ++ ((nW oN gN cA FN AN) ++ ((sW oS gS cA FS AS) ++ (pW oP gP cA FP AP)))))) ++ (mW oM gM cA F A)) → va_S (fun q : Nat => s.heap.size ≤ q) s.heap H locs → W p l e room_1 s m #[Value.ref b] below meth c H locs 33 37477 (lw_Z below #[Value.ref b] s) (F0 m 18 ls []) := by
  have fx := law_fx C0
  obtain ⟨hx, hb, hr, hml, hown, hts, hX, hbl, hlocks, hgv⟩ := id C0
  have hbA : ¬ (fun q : Nat => s.heap.size ≤ q) b := Nat.not_le.mpr hbl
  intro n
  induction n with
  | zero =>
    intro i hi1 hi2 ls hl FX FT AT FD AD FN AN FS AS FP AP F A H locs hRel hP hD hS
    refine lv_iload_n hx hb dL_law_18 rfl (lv_at hl 3 rfl) ?_
    refine lv_aload_n hx hb dL_law_19 rfl (lv_at hl 0 rfl) ?_
    refine va_slen hx hb hX hbl hbA hS dL_law_20 ?_
    refine lv_iconst (v := (5 : Int32)) hx hb dL_law_21 (by decide) ?_
    refine lv_isub hx hb dL_law_22 ?_
    refine lv_icmp_gt (tgt := 732) hx hb dL_law_23 (by decide) (fun _ => ?_) (fun c1 => absurd ((law_gt hL (by omega)).mpr (by omega)) c1)
    refine lv_iconst (v := (1 : Int32)) hx hb dL_law_732 (by decide) ?_
    refine va_forget (fun q h => hS.2.2 q h) ?_
    exact lw_ret hx hb hr hlocks dL_law_733
  | succ n ih =>
    intro i hi1 hi2 ls hl FX FT AT FD AD FN AN FS AS FP AP F A H locs hRel hP hD hS
    refine lv_iload_n hx hb dL_law_18 rfl (lv_at hl 3 rfl) ?_
    refine lv_aload_n hx hb dL_law_19 rfl (lv_at hl 0 rfl) ?_
    refine va_slen hx hb hX hbl hbA hS dL_law_20 ?_
    refine lv_iconst (v := (5 : Int32)) hx hb dL_law_21 (by decide) ?_
    refine lv_isub hx hb dL_law_22 ?_
    refine lv_icmp_gt (tgt := 732) hx hb dL_law_23 (by decide) (fun _ => ?_) (fun c1 => ?_)
    · refine lv_iconst (v := (1 : Int32)) hx hb dL_law_732 (by decide) ?_
      refine va_forget (fun q h => hS.2.2 q h) ?_
      exact lw_ret hx hb hr hlocks dL_law_733
    have hi : i + 5 ≤ L := by
      rcases Nat.lt_or_ge L (i + 5) with h | h
      · exact absurd ((law_gt hL (by omega)).mpr h) c1
      · exact h
    have kk : ∀ (FX : (Nat → Int32)) (FT : (Nat → Int32)) (AT : (Nat → Nat → Int32)) (FD : (Nat → Int32)) (AD : (Nat → Nat → Int32)) (FN : (Nat → Int32)) (AN : (Nat → Nat → Int32)) (FS : (Nat → Int32)) (AS : (Nat → Nat → Int32)) (FP : (Nat → Int32)) (AP : (Nat → Nat → Int32)) (F : (Nat → Int32)) (A : (Nat → Nat → Int32)) (H : Heap) (locs : List Loc), Rel FX FT AT FN AN FS AS FP AP F A → va_P (dC, dI) vwCl (((xW o oT oN oD oS oP FX) ++ ((tW oT gT cA FT AT) ++ ((nW oD gD cA FD AD) ++ ((nW oN gN cA FN AN) ++ ((sW oS gS cA FS AS) ++ (pW oP gP cA FP AP)))))) ++ (mW oM gM cA F A)) H → va_D (fun q : Nat => s.heap.size ≤ q) (((xW o oT oN oD oS oP FX) ++ ((tW oT gT cA FT AT) ++ ((nW oD gD cA FD AD) ++ ((nW oN gN cA FN AN) ++ ((sW oS gS cA FS AS) ++ (pW oP gP cA FP AP)))))) ++ (mW oM gM cA F A)) → va_S (fun q : Nat => s.heap.size ≤ q) s.heap H locs → W p l e room_1 s m #[Value.ref b] below meth c H locs 33 37477 (lw_Z below #[Value.ref b] s) (F0 m 726 ls []) := by
      intro FX FT AT FD AD FN AN FS AS FP AP F A H locs hRel hP hD hS
      refine lv_iinc (v := nI (i + 5)) (lv' := [(3, .int (nI (i + 5))), (0, .ref b), (1, .ref o), (2, .ref oM)]) hx hb dL_law_726 hl (k := 3) rfl (nI_add i 5) (by decide) rfl (fun ls hl => ?_)
      refine lv_goto (tgt := 18) hx hb dL_law_729 (by decide) ?_
      exact ih (i + 5) (by omega) (by omega) ls (lv_sub hl [1, 2, 3, 0] rfl) FX FT AT FD AD FN AN FS AS FP AP F A H locs hRel hP hD hS
    refine lv_aload_n hx hb dL_law_26 rfl (lv_at hl 0 rfl) ?_
    refine lv_iload_n hx hb dL_law_27 rfl (lv_at hl 3 rfl) ?_
    refine va_sld hx hb hX hbl hbA hS (in_nI (by omega) (by omega)) dL_law_28 ?_
    refine lv_bipush (v := (31 : Int32)) hx hb dL_law_29 (by decide) ?_
    refine lv_iand hx hb dL_law_31 ?_
    obtain ⟨j, hj, ej⟩ := pk_andE (xs (nI i).toNatClampNeg) (m := (31 : Int32)) 5 (by decide)
    rw [ej]
    by_cases hj2 : 24 ≤ j
    · refine lv_tableOut (tgt := 726) hx hb dL_law_32 (Or.inr (by rw [nI_toInt (by omega)]; omega)) (by decide) ?_
      exact kk FX FT AT FD AD FN AN FS AS FP AP F A H locs hRel hP hD hS
    rcases (show j = 0 ∨ j = 1 ∨ j = 2 ∨ j = 3 ∨ j = 4 ∨ j = 5 ∨ j = 6 ∨ j = 7 ∨ j = 8 ∨ j = 9 ∨ j = 10 ∨ j = 11 ∨ j = 12 ∨ j = 13 ∨ j = 14 ∨ j = 15 ∨ j = 16 ∨ j = 17 ∨ j = 18 ∨ j = 19 ∨ j = 20 ∨ j = 21 ∨ j = 22 ∨ j = 23 by omega) with rfl | rfl | rfl | rfl | rfl | rfl | rfl | rfl | rfl | rfl | rfl | rfl | rfl | rfl | rfl | rfl | rfl | rfl | rfl | rfl | rfl | rfl | rfl | rfl
    · refine lv_tableIn (off := 112) (tgt := 144) hx hb dL_law_32 (by decide) (by decide) rfl (by decide) ?_
      exact lo_write hL C0 hK hi hl kk FX FT AT FD AD FN AN FS AS FP AP F A H locs hRel hP hD hS
    · refine lv_tableIn (off := 135) (tgt := 167) hx hb dL_law_32 (by decide) (by decide) rfl (by decide) ?_
      exact lo_wipe hL C0 hK hi hl kk FX FT AT FD AD FN AN FS AS FP AP F A H locs hRel hP hD hS
    · refine lv_tableIn (off := 148) (tgt := 180) hx hb dL_law_32 (by decide) (by decide) rfl (by decide) ?_
      exact lo_fault hL C0 hK hi hl kk FX FT AT FD AD FN AN FS AS FP AP F A H locs hRel hP hD hS
    · refine lv_tableIn (off := 161) (tgt := 193) hx hb dL_law_32 (by decide) (by decide) rfl (by decide) ?_
      exact lo_lay hL C0 hK hi hl kk FX FT AT FD AD FN AN FS AS FP AP F A H locs hRel hP hD hS
    · refine lv_tableIn (off := 174) (tgt := 206) hx hb dL_law_32 (by decide) (by decide) rfl (by decide) ?_
      exact lo_value hL C0 hK hi hl kk FX FT AT FD AD FN AN FS AS FP AP F A H locs hRel hP hD hS
    · refine lv_tableIn (off := 197) (tgt := 229) hx hb dL_law_32 (by decide) (by decide) rfl (by decide) ?_
      exact lo_hit hL C0 hK hi hl kk FX FT AT FD AD FN AN FS AS FP AP F A H locs hRel hP hD hS
    · refine lv_tableIn (off := 230) (tgt := 262) hx hb dL_law_32 (by decide) (by decide) rfl (by decide) ?_
      exact lo_code hL C0 hK hi hl kk FX FT AT FD AD FN AN FS AS FP AP F A H locs hRel hP hD hS
    · refine lv_tableIn (off := 243) (tgt := 275) hx hb dL_law_32 (by decide) (by decide) rfl (by decide) ?_
      exact lo_turn hL C0 hK hi hl kk FX FT AT FD AD FN AN FS AS FP AP F A H locs hRel hP hD hS
    · refine lv_tableIn (off := 266) (tgt := 298) hx hb dL_law_32 (by decide) (by decide) rfl (by decide) ?_
      exact lo_wired hL C0 hK hi hl kk FX FT AT FD AD FN AN FS AS FP AP F A H locs hRel hP hD hS
    · refine lv_tableIn (off := 299) (tgt := 331) hx hb dL_law_32 (by decide) (by decide) rfl (by decide) ?_
      exact lo_may hL C0 hK hi hl kk FX FT AT FD AD FN AN FS AS FP AP F A H locs hRel hP hD hS
    · refine lv_tableIn (off := 322) (tgt := 354) hx hb dL_law_32 (by decide) (by decide) rfl (by decide) ?_
      exact lo_becomes hL C0 hK hi hl kk FX FT AT FD AD FN AN FS AS FP AP F A H locs hRel hP hD hS
    · refine lv_tableIn (off := 345) (tgt := 377) hx hb dL_law_32 (by decide) (by decide) rfl (by decide) ?_
      exact lo_move hL C0 hK hi hl kk FX FT AT FD AD FN AN FS AS FP AP F A H locs hRel hP hD hS
    · refine lv_tableIn (off := 368) (tgt := 400) hx hb dL_law_32 (by decide) (by decide) rfl (by decide) ?_
      exact lo_tokens hL C0 hK hi hl kk FX FT AT FD AD FN AN FS AS FP AP F A H locs hRel hP hD hS
    · refine lv_tableIn (off := 381) (tgt := 413) hx hb dL_law_32 (by decide) (by decide) rfl (by decide) ?_
      exact lo_legal hL C0 hK hi hl kk FX FT AT FD AD FN AN FS AS FP AP F A H locs hRel hP hD hS
    · refine lv_tableIn (off := 394) (tgt := 426) hx hb dL_law_32 (by decide) (by decide) rfl (by decide) ?_
      exact lo_mate hL C0 hK hi hl kk FX FT AT FD AD FN AN FS AS FP AP F A H locs hRel hP hD hS
    · refine lv_tableIn (off := 417) (tgt := 449) hx hb dL_law_32 (by decide) (by decide) rfl (by decide) ?_
      exact lo_undo hL C0 hK hi hl kk FX FT AT FD AD FN AN FS AS FP AP F A H locs hRel hP hD hS
    · refine lv_tableIn (off := 430) (tgt := 462) hx hb dL_law_32 (by decide) (by decide) rfl (by decide) ?_
      exact lo_run hL C0 hK hi hl kk FX FT AT FD AD FN AN FS AS FP AP F A H locs hRel hP hD hS
    · refine lv_tableIn (off := 473) (tgt := 505) hx hb dL_law_32 (by decide) (by decide) rfl (by decide) ?_
      exact lo_next hL C0 hK hi hl kk FX FT AT FD AD FN AN FS AS FP AP F A H locs hRel hP hD hS
    · refine lv_tableIn (off := 496) (tgt := 528) hx hb dL_law_32 (by decide) (by decide) rfl (by decide) ?_
      exact lo_loop hL C0 hK hi hl kk FX FT AT FD AD FN AN FS AS FP AP F A H locs hRel hP hD hS
    · refine lv_tableIn (off := 529) (tgt := 561) hx hb dL_law_32 (by decide) (by decide) rfl (by decide) ?_
      exact lo_storm hL C0 hK hi hl kk FX FT AT FD AD FN AN FS AS FP AP F A H locs hRel hP hD hS
    · refine lv_tableIn (off := 582) (tgt := 614) hx hb dL_law_32 (by decide) (by decide) rfl (by decide) ?_
      exact lo_state hL C0 hK hi hl kk FX FT AT FD AD FN AN FS AS FP AP F A H locs hRel hP hD hS
    · refine lv_tableIn (off := 615) (tgt := 647) hx hb dL_law_32 (by decide) (by decide) rfl (by decide) ?_
      exact lo_all hL C0 hK hi hl kk FX FT AT FD AD FN AN FS AS FP AP F A H locs hRel hP hD hS
    · refine lv_tableIn (off := 638) (tgt := 670) hx hb dL_law_32 (by decide) (by decide) rfl (by decide) ?_
      exact lo_within hL C0 hK hi hl kk FX FT AT FD AD FN AN FS AS FP AP F A H locs hRel hP hD hS
    · refine lv_tableIn (off := 671) (tgt := 703) hx hb dL_law_32 (by decide) (by decide) rfl (by decide) ?_
      exact lo_count hL C0 hK hi hl kk FX FT AT FD AD FN AN FS AS FP AP F A H locs hRel hP hD hS
