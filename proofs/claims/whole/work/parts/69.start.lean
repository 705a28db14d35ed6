def tbI : List (List Int32) := [[103, 49, 52, 53, 59, 120, 48, 51, 59, 120, 49, 49, 59, 120, 50, 52, 59, 120, 51, 50, 59]]
theorem tbI_tq : ∀ j, j < 21 → (tbI.getD 0 []).getD j 0 = nI (tq j) := by decide +kernel
theorem T_to {ty : FieldType} {t N : Nat} {f g : Nat → Value} {A : Nat → Prop} {U : State} {H : Heap} (h : va_T ty t N f A U H) (hfg : ∀ j, j < N → f j = g j) : va_T ty t N g A U H := by
  obtain ⟨cell, h1, h2, h3, h4, h5, h6, h7⟩ := h
  exact ⟨cell, h1, h2, h3, h4, h5, fun j hj => by rw [h6 j hj, hfg j hj], h7⟩
theorem law_text {p : Program} {s : State} {m : MethodId} {meth : Method} {c : Code} {b L : Nat} {xs : Nat → Int32} (C0 : lw_At p s m meth c b L xs) : ∃ q v : Nat, vk_R RX6 40 "g145;x03;x11;x24;x32;" q s ∧ skP q v (fun q : Nat => s.heap.size ≤ q) s s.heap := by
  obtain ⟨hx, hb, hr, hml, hown, hts, hX, hbl, hlocks, hgv⟩ := id C0
  have hcs := flat_of_before _ hgv
  have hA : ∀ a : Nat, a < s.heap.size → ¬ (fun q : Nat => s.heap.size ≤ q) a := fun a h => Nat.not_le.mpr h
  have one : ∀ i : Nat, i < 1 → i = 0 := fun i h => by omega
  obtain ⟨adK, adV, ⟨h1, -⟩, h2⟩ := vk_Sof (args := #[Value.ref b]) (s := s) (N := 1) (tm := fun _ => Term.string "HomingNets" 40) (len := [21]) (byt := tbI) (A := (fun q : Nat => s.heap.size ≤ q)) (fun i hi => by rw [one i hi]; decide) (fun i hi => hcs _ (by decide +kernel)) (fun i hi => hcs _ (by decide +kernel)) (fun i hi => hcs _ (by decide +kernel)) (fun i hi => by rw [one i hi]; exact hcs _ (by decide +kernel)) (fun i hi j hj => by
    have e := one i hi
    subst e
    have hj : j < 21 := hj
    rcases (show j = 0 ∨ j = 1 ∨ j = 2 ∨ j = 3 ∨ j = 4 ∨ j = 5 ∨ j = 6 ∨ j = 7 ∨ j = 8 ∨ j = 9 ∨ j = 10 ∨ j = 11 ∨ j = 12 ∨ j = 13 ∨ j = 14 ∨ j = 15 ∨ j = 16 ∨ j = 17 ∨ j = 18 ∨ j = 19 ∨ j = 20 by omega) with rfl | rfl | rfl | rfl | rfl | rfl | rfl | rfl | rfl | rfl | rfl | rfl | rfl | rfl | rfl | rfl | rfl | rfl | rfl | rfl | rfl <;> exact hcs _ (by decide +kernel)) (fun i j hi hj hij => absurd ((one i hi).trans (one j hj).symm) hij) hA
  obtain ⟨k1, k2, k3, k4⟩ := h1 0 (by decide)
  have hZ : va_Z "java/lang/String" "COMPACT_STRINGS" "Z" (.int 1) (fun q : Nat => s.heap.size ≤ q) s s.heap := va_Zof (hts (.laysStatic "java/lang/String" "COMPACT_STRINGS" "Z") (tw_1 _ (List.mem_of_getElem? (i := 136) rfl))) (hts (.initialized RJ0) (wsL_law_in _ (in_r3 _ (List.mem_of_getElem? (i := 12) rfl)))) (va_eqt (hcs _ (by decide +kernel))) hA
  have hQ : va_Zq "jdk/internal/util/Preconditions" "SIOOBE_FORMATTER" "Ljava/util/function/BiFunction;" (fun q : Nat => s.heap.size ≤ q) s s.heap := va_Zqof (hts (.laysStatic "jdk/internal/util/Preconditions" "SIOOBE_FORMATTER" "Ljava/util/function/BiFunction;") (tw_1 _ (List.mem_of_getElem? (i := 152) rfl))) (hts (.initialized RJ3) (wsL_law_in _ (in_r4 _ (List.mem_of_getElem? (i := 15) rfl)))) (hcs _ (by decide +kernel)) hA
  exact ⟨adK 0, adV 0, vk_R.of (hts (.stringRef "HomingNets" 40 "g145;x03;x11;x24;x32;") (tw_1 _ (List.mem_of_getElem? (i := 126) rfl))) (h2 0 (by decide)), k1, k2, k3, T_to k4 (fun j hj => congrArg Value.int (tbI_tq j hj)), hZ, hQ⟩
theorem law_known {p : Program} {s : State} {m : MethodId} {meth : Method} {c : Code} {b L : Nat} {xs : Nat → Int32} (C0 : lw_At p s m meth c b L xs) : ∃ (dC : Nat → ClassId) (dI : Nat → Nat → Nat) (cA : ClassId), va_K (dC, dI) vwCl [(cA, .int)] s := by
  obtain ⟨hx, hb, hr, hml, hown, hts, hX, hbl, hlocks, hgv⟩ := id C0
  obtain ⟨c0, j0, hk0⟩ := u_known (C := RX1) (T := TX1) (N := 8) (n := 8) hts wu_X1 (hts (.instantiable RX1 8) (wsL_law_in _ (in_r1 _ (List.mem_of_getElem? (i := 17) rfl))))
  obtain ⟨c1, j1, hk1⟩ := u_known (C := RX2) (T := TX2) (N := 3) (n := 3) hts wu_X2 (hts (.instantiable RX2 3) (wsL_law_in _ (in_r2 _ (List.mem_of_getElem? (i := 2) rfl))))
  obtain ⟨c2, j2, hk2⟩ := u_known (C := RX4) (T := TX4) (N := 8) (n := 8) hts wu_X4 (hts (.instantiable RX4 8) (wsL_law_in _ (in_r1 _ (List.mem_of_getElem? (i := 22) rfl))))
  obtain ⟨c3, j3, hk3⟩ := u_known (C := RX5) (T := TX5) (N := 2) (n := 2) hts wu_X5 (hts (.instantiable RX5 2) (wsL_law_in _ (in_r1 _ (List.mem_of_getElem? (i := 13) rfl))))
  obtain ⟨c4, j4, hk4⟩ := u_known (C := RX6) (T := TX6) (N := 7) (n := 7) hts wu_X6 (hts (.instantiable RX6 7) (wsL_law_in _ (in_r1 _ (List.mem_of_getElem? (i := 1) rfl))))
  obtain ⟨c5, j5, hk5⟩ := u_known (C := RX7) (T := TX7) (N := 27) (n := 27) hts wu_X7 (hts (.instantiable RX7 27) (wsL_law_in _ (in_r1 _ (List.mem_of_getElem? (i := 4) rfl))))
  obtain ⟨cA, kA, comp, a1, a2, a3⟩ := Cond.arrayClass_spec (hts (.arrayClass .int) (wsL_law_in _ (in_r2 _ (List.mem_of_getElem? (i := 9) rfl))))
  refine ⟨fun k => if k = 0 then c0 else if k = 1 then c1 else if k = 2 then c2 else if k = 3 then c3 else if k = 4 then c4 else c5, fun k => if k = 0 then j0 else if k = 1 then j1 else if k = 2 then j2 else if k = 3 then j3 else if k = 4 then j4 else j5, cA, fun k q hq => ?_, fun k q hq => ?_⟩
  · match k, hq with
    | 0, hq => cases hq; exact hk0
    | 1, hq => cases hq; exact hk1
    | 2, hq => cases hq; exact hk2
    | 3, hq => cases hq; exact hk3
    | 4, hq => cases hq; exact hk4
    | 5, hq => cases hq; exact hk5
    | k + 6, hq => simp [vwCl] at hq
  · match k, hq with
    | 0, hq => cases hq; exact ⟨fun n z => ⟨fun k h => (by cases h), kA, a2, comp, a3⟩, a1⟩
    | k + 1, hq => simp at hq
set_option maxHeartbeats 4000000 in
set_option maxRecDepth 100000 in
theorem whole_start {p : Program} {e : Env} {s : State} {m : MethodId} {below : List Frame} {meth : Method} {c : Code} (l : Launch) (hflags : l.flags = flags0) {b L : Nat} {xs : Nat → Int32} (hL : L ≤ 2560) (C0 : lw_At p s m meth c b L xs) : W p l e room_1 s m #[Value.ref b] below meth c s.heap [] 0 0 (lw_Z below #[Value.ref b] s) (entryFrame m ([Value.ref b] : List Value).toArray 4) := by
  have fx := law_fx C0
  obtain ⟨hx, hb, hr, hml, hown, hts, hX, hbl, hlocks, hgv⟩ := id C0
  obtain ⟨q, v, hR, hsk⟩ := law_text C0
  obtain ⟨dC, dI, cA, hK⟩ := law_known C0
  have hA : ∀ q : Nat, s.heap.size ≤ q → (fun q : Nat => s.heap.size ≤ q) q := fun _ h => h
  have hS : va_S (fun q : Nat => s.heap.size ≤ q) s.heap s.heap [] := va_S.rf
  have hP : va_P (dC, dI) vwCl [] s.heap := fun k q h => by simp at h
  have hD : va_D (fun q : Nat => s.heap.size ≤ q) [] := ⟨fun i j p q h => by simp at h, fun k q h => by simp at h⟩
  have hl := lv_entry ([.ref b]) (n := 4) (Nat.le_of_ble_eq_true rfl)
  rw [lg_entry_eq]
  generalize (lg_sl ([.ref b]) ++ List.replicate (4 - (lg_sl ([.ref b])).length) Slot.unset).toArray = ls at hl ⊢
  have hl : lv_has ls 4 [(0, .ref b)] := hl
  refine knO (ci := 4) (fs := [.null, .null, .null, .null, .null, .int 0, .int 0]) fx hK hP hD hS hA rfl no_L_7 (fun j hj => by rcases (show j = 0 ∨ j = 1 ∨ j = 2 ∨ j = 3 ∨ j = 4 ∨ j = 5 ∨ j = 6 by omega) with rfl | rfl | rfl | rfl | rfl | rfl | rfl <;> rfl) ⟨Nat.le_of_ble_eq_true rfl, Nat.le_of_ble_eq_true rfl⟩ dL_law_0 (fun o H hP hD hS => ?_)
  have hP : va_P (dC, dI) vwCl [(o, .inr (4, [.null, .null, .null, .null, .null, .int 0, .int 0]))] H := hP
  have hD : va_D (fun q : Nat => s.heap.size ≤ q) [(o, .inr (4, [.null, .null, .null, .null, .null, .int 0, .int 0]))] := hD
  have hFc : ∀ z, va_A [(o, .inr (4, [.null, .null, .null, .null, .null, .int 0, .int 0]))] H.size z → (fun q : Nat => s.heap.size ≤ q) z := v_midF (w1 := ([] : va_W)) (w2 := ([] : va_W)) hD hS hA
  refine lv_dup hx hb dL_law_3 rfl ?_
  refine kaIn (rest := [.ref o]) (w1 := ([] : va_W)) (w2 := ([] : va_W)) fx ⟨Nat.le_of_ble_eq_true rfl, Nat.le_of_ble_eq_true rfl⟩ hK li_L_9 (c_X6_init l dC dI cA o q v) (fun A U g mk a h => ⟨vk_R.same (U := U.calling g mk a) rfl h.1, skP.moved (U := U.calling g mk a) (Vm.Alike.refl U.vm) h.2⟩) (fun U hU hW => ⟨vk_R.warm hW hR, by rw [hU]; exact ((hsk.kept hS.2.1).narrow hFc).moved hW.alike⟩) hP hD hS hA ⟨Nat.le_of_ble_eq_true rfl, Nat.le_of_ble_eq_true rfl⟩ hl.1 rfl (Nat.le_of_ble_eq_true rfl) dL_law_4 ?_
  intro u H locs hpo hP hD hS
  obtain ⟨⟨oT, gT, oD, gD, oN, gN, oS, gS, oP, gP⟩, FX, FT, AT, FD, AD, FN, AN, FS, AS, FP, AP⟩ := u
  have hP : va_P (dC, dI) vwCl ((xW o oT oN oD oS oP FX) ++ ((tW oT gT cA FT AT) ++ ((nW oD gD cA FD AD) ++ ((nW oN gN cA FN AN) ++ ((sW oS gS cA FS AS) ++ (pW oP gP cA FP AP)))))) H := hP
  have hD : va_D (fun q : Nat => s.heap.size ≤ q) ((xW o oT oN oD oS oP FX) ++ ((tW oT gT cA FT AT) ++ ((nW oD gD cA FD AD) ++ ((nW oN gN cA FN AN) ++ ((sW oS gS cA FS AS) ++ (pW oP gP cA FP AP)))))) := hD
  have hpo : Xi FX FN AN FS FP ∧ FT 1 = nI 0 := hpo
  refine lv_astore_n (lv' := [(1, .ref o), (0, .ref b)]) hx hb dL_law_7 rfl hl (by decide) rfl (fun ls hl => ?_)
  refine knO (ci := 5) (fs := [.int 0, .null, .int 0, .int 0, .int 0, .int 0, .int 0, .null, .null, .null, .int 0, .int 0, .int 0, .int 0, .int 0, .null, .null, .int 0, .null, .null, .null, .null, .null, .int 0, .null, .null, .int 0]) fx hK hP hD hS hA rfl no_L_10 (fun j hj => by rcases (show j = 0 ∨ j = 1 ∨ j = 2 ∨ j = 3 ∨ j = 4 ∨ j = 5 ∨ j = 6 ∨ j = 7 ∨ j = 8 ∨ j = 9 ∨ j = 10 ∨ j = 11 ∨ j = 12 ∨ j = 13 ∨ j = 14 ∨ j = 15 ∨ j = 16 ∨ j = 17 ∨ j = 18 ∨ j = 19 ∨ j = 20 ∨ j = 21 ∨ j = 22 ∨ j = 23 ∨ j = 24 ∨ j = 25 ∨ j = 26 by omega) with rfl | rfl | rfl | rfl | rfl | rfl | rfl | rfl | rfl | rfl | rfl | rfl | rfl | rfl | rfl | rfl | rfl | rfl | rfl | rfl | rfl | rfl | rfl | rfl | rfl | rfl | rfl <;> rfl) ⟨Nat.le_of_ble_eq_true rfl, Nat.le_of_ble_eq_true rfl⟩ dL_law_8 (fun oM H hP hD hS => ?_)
  have hP : va_P (dC, dI) vwCl (((xW o oT oN oD oS oP FX) ++ ((tW oT gT cA FT AT) ++ ((nW oD gD cA FD AD) ++ ((nW oN gN cA FN AN) ++ ((sW oS gS cA FS AS) ++ (pW oP gP cA FP AP)))))) ++ [(oM, .inr (5, [.int 0, .null, .int 0, .int 0, .int 0, .int 0, .int 0, .null, .null, .null, .int 0, .int 0, .int 0, .int 0, .int 0, .null, .null, .int 0, .null, .null, .null, .null, .null, .int 0, .null, .null, .int 0]))]) H := hP
  have hD : va_D (fun q : Nat => s.heap.size ≤ q) (((xW o oT oN oD oS oP FX) ++ ((tW oT gT cA FT AT) ++ ((nW oD gD cA FD AD) ++ ((nW oN gN cA FN AN) ++ ((sW oS gS cA FS AS) ++ (pW oP gP cA FP AP)))))) ++ [(oM, .inr (5, [.int 0, .null, .int 0, .int 0, .int 0, .int 0, .int 0, .null, .null, .null, .int 0, .int 0, .int 0, .int 0, .int 0, .null, .null, .int 0, .null, .null, .null, .null, .null, .int 0, .null, .null, .int 0]))]) := hD
  refine lv_dup hx hb dL_law_11 rfl ?_
  refine kaIn (rest := [.ref oM]) (w1 := ((xW o oT oN oD oS oP FX) ++ ((tW oT gT cA FT AT) ++ ((nW oD gD cA FD AD) ++ ((nW oN gN cA FN AN) ++ ((sW oS gS cA FS AS) ++ (pW oP gP cA FP AP))))))) (w2 := ([] : va_W)) fx ⟨Nat.le_of_ble_eq_true rfl, Nat.le_of_ble_eq_true rfl⟩ hK li_L_12 (c_X7_init l dC dI cA oM) (fun _ _ _ _ _ h => h) (fun _ _ _ => trivial) hP hD hS hA ⟨Nat.le_of_ble_eq_true rfl, Nat.le_of_ble_eq_true rfl⟩ hl.1 rfl (Nat.le_of_ble_eq_true rfl) dL_law_12 ?_
  intro u H locs hM hP hD hS
  obtain ⟨gM, F, A⟩ := u
  have hP : va_P (dC, dI) vwCl (((xW o oT oN oD oS oP FX) ++ ((tW oT gT cA FT AT) ++ ((nW oD gD cA FD AD) ++ ((nW oN gN cA FN AN) ++ ((sW oS gS cA FS AS) ++ (pW oP gP cA FP AP)))))) ++ (mW oM gM cA F A)) H := hP
  have hD : va_D (fun q : Nat => s.heap.size ≤ q) (((xW o oT oN oD oS oP FX) ++ ((tW oT gT cA FT AT) ++ ((nW oD gD cA FD AD) ++ ((nW oN gN cA FN AN) ++ ((sW oS gS cA FS AS) ++ (pW oP gP cA FP AP)))))) ++ (mW oM gM cA F A)) := hD
  have hM : Mi F A := hM
  refine lv_astore_n (lv' := [(2, .ref oM), (1, .ref o), (0, .ref b)]) hx hb dL_law_15 rfl hl (by decide) rfl (fun ls hl => ?_)
  refine lv_iconst (v := nI 0) hx hb dL_law_16 (by decide) ?_
  refine lv_istore_n (lv' := [(3, .int (nI 0)), (2, .ref oM), (1, .ref o), (0, .ref b)]) hx hb dL_law_17 rfl hl (by decide) rfl (fun ls hl => ?_)
  refine W.widen (k := 33) (n := 37477) (Nat.le_of_ble_eq_true rfl) (Nat.le_of_ble_eq_true rfl) ?_
  exact law_loop hL C0 hK L 0 (Nat.zero_le L) (by omega) ls (lv_sub hl [3, 2, 1, 0] rfl) FX FT AT FD AD FN AN FS AS FP AP F A H locs (rel0 hpo.1 hpo.2 hM) hP hD hS
