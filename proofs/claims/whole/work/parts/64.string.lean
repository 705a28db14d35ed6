/-! the constant text on the machine: its String, the bytes behind it, the statics that its methods read -/
def skP (q v : Nat) (A : Nat → Prop) (U : State) (H : Heap) : Prop := va_O "java/lang/String" q A U H ∧ va_OF "java/lang/String" "coder" "B" (.int 0) q A U H ∧ va_OF "java/lang/String" "value" "[B" (.ref v) q A U H ∧ va_T .byte v 21 (fun j => .int (nI (tq j))) A U H ∧ va_Z "java/lang/String" "COMPACT_STRINGS" "Z" (.int 1) A U H ∧ va_Zq "jdk/internal/util/Preconditions" "SIOOBE_FORMATTER" "Ljava/util/function/BiFunction;" A U H
theorem skP.moved {q v : Nat} {A : Nat → Prop} {u U : State} {H : Heap} (hvm : u.vm.Alike U.vm) (h : skP q v A u H) : skP q v A U H := ⟨va_O.moved hvm h.1, va_OF.moved hvm h.2.1, va_OF.moved hvm h.2.2.1, va_T.moved hvm h.2.2.2.1, va_Z.moved hvm h.2.2.2.2.1, va_Zq.moved hvm h.2.2.2.2.2⟩
theorem skP.kept {q v : Nat} {A : Nat → Prop} {U : State} {H H1 : Heap} (h : skP q v A U H) (hq : ∀ a : Nat, a < H.size → ¬ A a → H1[a]? = H[a]?) : skP q v A U H1 := ⟨h.1.kept hq, h.2.1.kept hq, h.2.2.1.kept hq, h.2.2.2.1.kept hq, h.2.2.2.2.1.kept hq, h.2.2.2.2.2.kept hq⟩
theorem skP.narrow {q v : Nat} {A B : Nat → Prop} {U : State} {H : Heap} (h : skP q v A U H) (hAB : ∀ q, B q → A q) : skP q v B U H := ⟨h.1.narrow hAB, h.2.1.narrow hAB, h.2.2.1.narrow hAB, h.2.2.2.1.narrow hAB, h.2.2.2.2.1.narrow hAB, h.2.2.2.2.2.narrow hAB⟩
def Sv0 : Array Value → State → Outcome → State → Prop := fun _ st o t => o = .returned none ∧ t.heap = st.heap
def StI (l : Launch) (y : MethodName) (cc : ByteArray) (nL : Nat) (rt : FieldType) (fr lo : Nat) (av : List Value) (q v : Nat) (post : Int32 → Prop) : Prop :=
  Met l y (wz y cc nL (some rt)) { frames := fr, cells := 0, slots := 0, locals := lo } (va_Pc av (fun U => skP q v (fun _ => False) U U.heap)) (vp_Si post) 0 0 (fun _ => False)
def StV (l : Launch) (y : MethodName) (cc : ByteArray) (nL : Nat) (fr lo : Nat) (av : List Value) (q v : Nat) : Prop :=
  Met l y (wz y cc nL none) { frames := fr, cells := 0, slots := 0, locals := lo } (va_Pc av (fun U => skP q v (fun _ => False) U U.heap)) Sv0 0 0 (fun _ => False)
theorem skP_blind {q v : Nat} {av : List Value} : FrameBlind (va_Pc av (fun U => skP q v (fun _ => False) U U.heap)) := fun a U g mk z => by
  obtain ⟨q0, qX⟩ := z
  exact ⟨q0, skP.moved (u := U) (U := U.calling g mk a) (Vm.Alike.refl U.vm) qX⟩
section ENST
variable {l : Launch} {y : MethodName} {cc : ByteArray} {nL : Nat} {rt : FieldType} {fr lo : Nat} {av : List Value} {q v : Nat}
theorem enSt {post : Int32 → Prop} (hy : plainName y.cls = true) (hn : (lg_sl av).length ≤ nL)
    (body : ∀ (p : Program) (e : Env) (s : State) (m : MethodId) (args : Array Value) (below : List Frame) (meth : Method) (c : Code) (Q : State → Prop) (ls : Array Slot), CallFix p m c cc nL s args (wz y cc nL (some rt)) y.cls → skP q v (fun _ => False) s s.heap →
      (∀ (r : Int32) (pc : Nat) (ls : Array Slot), decode cc pc = .ok (.ireturn, 1) → narrow rt (.int r) = .int r → post r → W p l e { frames := fr, cells := 0, slots := 0, locals := lo } s m args below meth c s.heap [] 0 0 Q (F0 m pc ls [.int r])) →
      lv_has ls nL (lv_args 0 av) → W p l e { frames := fr, cells := 0, slots := 0, locals := lo } s m args below meth c s.heap [] 0 0 Q (F0 m 0 ls [])) : StI l y cc nL rt fr lo av q v post := by
  refine Met.ofW (cc := cc) (maxL := nL) (ret := some rt) hy rfl ?_
  intro p e s m args below meth c s₁ B hml hv
  obtain ⟨rfl, hX⟩ := hv
  have hl := lv_entry av (n := nL) hn
  have hlocks := B.notSynchronized
  rw [lg_entry_eq]
  generalize (lg_sl av ++ List.replicate (nL - (lg_sl av).length) Slot.unset).toArray = ls at hl ⊢
  exact body p e s m _ below meth c _ ls ⟨B.exec, B.bytes, hml, findClass_of_methodNamed B.named, atoms_spec B.pre⟩ hX (fun r pc ls hd hn hp => W.zret B.exec B.bytes B.returns hn (fun t ht hW => ⟨r, rfl, hp, ht⟩) (fun q hq => by cases hq) hd hlocks) hl
theorem enSv (hy : plainName y.cls = true) (hn : (lg_sl av).length ≤ nL)
    (body : ∀ (p : Program) (e : Env) (s : State) (m : MethodId) (args : Array Value) (below : List Frame) (meth : Method) (c : Code) (Q : State → Prop) (ls : Array Slot), CallFix p m c cc nL s args (wz y cc nL none) y.cls → skP q v (fun _ => False) s s.heap →
      (∀ (pc : Nat) (ls : Array Slot), decode cc pc = .ok (.return_, 1) → W p l e { frames := fr, cells := 0, slots := 0, locals := lo } s m args below meth c s.heap [] 0 0 Q (F0 m pc ls [])) →
      lv_has ls nL (lv_args 0 av) → W p l e { frames := fr, cells := 0, slots := 0, locals := lo } s m args below meth c s.heap [] 0 0 Q (F0 m 0 ls [])) : StV l y cc nL fr lo av q v := by
  refine Met.ofW (cc := cc) (maxL := nL) (ret := none) hy rfl ?_
  intro p e s m args below meth c s₁ B hml hv
  obtain ⟨rfl, hX⟩ := hv
  have hl := lv_entry av (n := nL) hn
  have hlocks := B.notSynchronized
  rw [lg_entry_eq]
  generalize (lg_sl av ++ List.replicate (nL - (lg_sl av).length) Slot.unset).toArray = ls at hl ⊢
  exact body p e s m _ below meth c _ ls ⟨B.exec, B.bytes, hml, findClass_of_methodNamed B.named, atoms_spec B.pre⟩ hX (fun pc ls hd => W.vret B.exec B.bytes B.returns (fun t ht hW => ⟨rfl, ht⟩) (fun q hq => by cases hq) hd hlocks) hl
end ENST
section CAST
variable {p : Program} {l : Launch} {e : Env} {R : Room} {s : State} {m : MethodId} {args : Array Value} {below : List Frame} {meth : Method} {c : Code} {H : Heap} {locs : List Loc} {Q : State → Prop} {A0 : Nat → Prop} {cells slots : Nat}
  {pc : Nat} {ls : Array Slot} {rest st0 : List Value} {cc cc0 cc1 : ByteArray} {nL nL0 nL1 idx n fr lo : Nat} {own : String} {y y0 : MethodName} {rt : FieldType} {rt0 : Option FieldType} {q v : Nat} {As : List Value}
theorem callSn {a : Array Value} (hr : CallRun p l e R s m args below meth c H locs cells slots 0 0 (F0 m pc ls st0) rest (Sv0 a) (fun _ => False))
    (kk : W p l e R s m args below meth c H locs cells slots Q (F0 m (pc + 3) ls rest)) : W p l e R s m args below meth c H locs cells slots Q (F0 m pc ls st0) := by
  intro T hT X
  obtain ⟨v, st₀, t, T', L, h0, X', hL, e1, ⟨hv, hh⟩, st⟩ := hr T hT X
  cases hv
  obtain ⟨t2, a1, b1⟩ := kk T' (by rw [e1, hh, h0]) (Stand.forget X' (fun q h => (hL q h).elim))
  exact ⟨t2, st t2 a1, b1⟩
theorem skU (hs : skP q v A0 s s.heap) (hS : va_S A0 s.heap H locs) (U : State) (hU : U.heap = H) (hW : s.WarmedH U.vm) : skP q v (fun _ => False) U U.heap := by
  rw [hU]
  exact ((hs.kept hS.2.1).narrow (fun _ h => h.elim)).moved hW.alike
theorem caStV {post : Int32 → Prop} (fx : CallFix p m c cc nL s args (wz y0 cc0 nL0 rt0) own) (hf : cells ≤ R.cells ∧ slots ≤ R.slots) (k : LkV own idx RJ0 y cc1 nL1 (some rt) n) (hM : StI l y cc1 nL1 rt fr lo (.ref q :: As) q v post) (hs : skP q v A0 s s.heap) (hS : va_S A0 s.heap H locs)
    (hR : fr + 1 ≤ R.frames ∧ 8 + (nL1 + 11) + lo ≤ R.locals) (hn : As.length = n) (hl : ls.size = nL) (hst : st0 = As.reverse ++ .ref q :: rest) (hW : (rest.map fun v => v.category).sum ≤ 8) (hdg : decode cc pc = .ok (.invokevirtual idx, 3))
    (kk : ∀ r : Int32, post r → W p l e R s m args below meth c H locs cells slots Q (F0 m (pc + 3) ls (.int r :: rest))) : W p l e R s m args below meth c H locs cells slots Q (F0 m pc ls st0) := by
  obtain ⟨cell, h1, h2, h3, -⟩ := hs.1.kept hS.2.1
  exact vp_callSi (W.runV (rest := rest) fx hM (cwzV fx.2.2.2.2 k hR) ⟨skP_blind, ⟨cell, h1, h2, h3⟩, fun U hU hW => ⟨rfl, skU hs hS U hU hW⟩⟩ rfl hn hl hst (lv_room hW) hdg hf) kk
theorem caStS {post : Int32 → Prop} (fx : CallFix p m c cc nL s args (wz y0 cc0 nL0 rt0) own) (hf : cells ≤ R.cells ∧ slots ≤ R.slots) (k : LkS own idx y cc1 nL1 (some rt) n) (hM : StI l y cc1 nL1 rt fr lo As q v post) (hs : skP q v A0 s s.heap) (hS : va_S A0 s.heap H locs)
    (hR : fr + 1 ≤ R.frames ∧ 8 + (nL1 + 11) + lo ≤ R.locals) (hn : As.length = n) (hl : ls.size = nL) (hst : st0 = As.reverse ++ rest) (hW : (rest.map fun v => v.category).sum ≤ 8) (hdg : decode cc pc = .ok (.invokestatic idx, 3))
    (kk : ∀ r : Int32, post r → W p l e R s m args below meth c H locs cells slots Q (F0 m (pc + 3) ls (.int r :: rest))) : W p l e R s m args below meth c H locs cells slots Q (F0 m pc ls st0) :=
  vp_callSi (W.runS (rest := rest) fx hM (cwzS fx.2.2.2.2 k hR) ⟨skP_blind, fun U hU hW => ⟨rfl, skU hs hS U hU hW⟩⟩ rfl hn hl hst (lv_room hW) hdg hf) kk
theorem caStN (fx : CallFix p m c cc nL s args (wz y0 cc0 nL0 rt0) own) (hf : cells ≤ R.cells ∧ slots ≤ R.slots) (k : LkS own idx y cc1 nL1 none n) (hM : StV l y cc1 nL1 fr lo As q v) (hs : skP q v A0 s s.heap) (hS : va_S A0 s.heap H locs)
    (hR : fr + 1 ≤ R.frames ∧ 8 + (nL1 + 11) + lo ≤ R.locals) (hn : As.length = n) (hl : ls.size = nL) (hst : st0 = As.reverse ++ rest) (hW : (rest.map fun v => v.category).sum ≤ 8) (hdg : decode cc pc = .ok (.invokestatic idx, 3))
    (kk : W p l e R s m args below meth c H locs cells slots Q (F0 m (pc + 3) ls rest)) : W p l e R s m args below meth c H locs cells slots Q (F0 m pc ls st0) :=
  callSn (W.runS (rest := rest) fx hM (cwzS fx.2.2.2.2 k hR) ⟨skP_blind, fun U hU hW => ⟨rfl, skU hs hS U hU hW⟩⟩ rfl hn hl hst (lv_room hW) hdg hf) kk
end CAST
theorem lk_J0_335 : LkV RJ0 335 RJ0 yJ0_coder_7d493 cJ0_coder_7d493 1 (some .byte) 0 := ⟨(in_r3 _ (List.mem_of_getElem? (i := 15) rfl)), (in_r3 _ (List.mem_of_getElem? (i := 16) rfl)), (in_r3 _ (List.mem_of_getElem? (i := 17) rfl)), (in_r3 _ (List.mem_of_getElem? (i := 12) rfl)), (in_r3 _ (List.mem_of_getElem? (i := 18) rfl)), by decide +kernel⟩
theorem lk_J0_492 : LkV RJ0 492 RJ0 yJ0_isLatin1_aae02 cJ0_isLatin1_aae02 1 (some .boolean) 0 := ⟨(in_r4 _ (List.mem_of_getElem? (i := 1) rfl)), (in_r4 _ (List.mem_of_getElem? (i := 2) rfl)), (in_r4 _ (List.mem_of_getElem? (i := 3) rfl)), (in_r3 _ (List.mem_of_getElem? (i := 12) rfl)), (in_r4 _ (List.mem_of_getElem? (i := 4) rfl)), by decide +kernel⟩
theorem lk_J0_495 : LkS RJ0 495 yJ1_charAt_3b067 cJ1_charAt_3b067 2 (some .char) 2 := ⟨(in_r4 _ (List.mem_of_getElem? (i := 5) rfl)), (in_r4 _ (List.mem_of_getElem? (i := 6) rfl)), (in_r4 _ (List.mem_of_getElem? (i := 7) rfl)), (in_r4 _ (List.mem_of_getElem? (i := 8) rfl)), by decide +kernel⟩
theorem lk_J1_9 : LkS RJ1 9 yJ0_checkIndex_df160 cJ0_checkIndex_df160 2 none 2 := ⟨(in_r4 _ (List.mem_of_getElem? (i := 9) rfl)), (in_r4 _ (List.mem_of_getElem? (i := 10) rfl)), (in_r3 _ (List.mem_of_getElem? (i := 12) rfl)), (in_r4 _ (List.mem_of_getElem? (i := 11) rfl)), by decide +kernel⟩
theorem lk_J0_1059 : LkS RJ0 1059 yJ3_checkIndex_8e157 cJ3_checkIndex_8e157 3 (some .int) 3 := ⟨(in_r4 _ (List.mem_of_getElem? (i := 13) rfl)), (in_r4 _ (List.mem_of_getElem? (i := 14) rfl)), (in_r4 _ (List.mem_of_getElem? (i := 15) rfl)), (in_r4 _ (List.mem_of_getElem? (i := 16) rfl)), by decide +kernel⟩
theorem lk_X6_42 : LkV RX6 42 RJ0 yJ0_length_8abf5 cJ0_length_8abf5 1 (some .int) 0 := ⟨(in_r3 _ (List.mem_of_getElem? (i := 9) rfl)), (in_r3 _ (List.mem_of_getElem? (i := 10) rfl)), (in_r3 _ (List.mem_of_getElem? (i := 11) rfl)), (in_r3 _ (List.mem_of_getElem? (i := 12) rfl)), (in_r3 _ (List.mem_of_getElem? (i := 13) rfl)), by decide +kernel⟩
theorem lk_X6_48 : LkV RX6 48 RJ0 yJ0_charAt_5068e cJ0_charAt_5068e 2 (some .char) 1 := ⟨(in_r3 _ (List.mem_of_getElem? (i := 21) rfl)), (in_r3 _ (List.mem_of_getElem? (i := 22) rfl)), (in_r3 _ (List.mem_of_getElem? (i := 23) rfl)), (in_r3 _ (List.mem_of_getElem? (i := 12) rfl)), (in_r4 _ (List.mem_of_getElem? (i := 0) rfl)), by decide +kernel⟩
set_option maxHeartbeats 4000000 in
theorem c_J0_coder (l : Launch) (q v : Nat) : StI l yJ0_coder_7d493 cJ0_coder_7d493 1 .byte 0 0 [.ref q] q v (fun r => r = 0) := by
  refine enSt (by decide) (Nat.le_of_ble_eq_true rfl) ?_
  intro p e s m args below meth c Q ls fx hs hret hl
  obtain ⟨hx, hb, hml, hown, hts⟩ := id fx
  obtain ⟨s1, s2, s3, s4, s5, s6⟩ := id hs
  have hl : lv_has ls 1 [(0, .ref q)] := hl
  refine va_gets (ref := "java/lang/String") hx hb s5 va_S.rf hown (hts (.fieldLink RJ0 38 "java/lang/String" "COMPACT_STRINGS" "Z") (List.mem_cons_of_mem _ (in_r3 _ (List.mem_of_getElem? (i := 19) rfl)))) (fun _ h => h) dJ0_coder_7d493_0 ?_
  refine lv_if_eq (tgt := 13) hx hb dJ0_coder_7d493_3 (by decide) (fun c1 => absurd c1 (by decide)) (fun _ => ?_)
  refine lv_aload_n hx hb dJ0_coder_7d493_6 rfl (lv_at hl 0 rfl) ?_
  refine vk_getf (ref := "java/lang/String") hx hb s2 va_S.rf hown (hts (.fieldLink RJ0 15 "java/lang/String" "coder" "B") (List.mem_cons_of_mem _ (in_r3 _ (List.mem_of_getElem? (i := 20) rfl)))) (fun _ h => h) dJ0_coder_7d493_7 ?_
  refine lv_goto (tgt := 14) hx hb dJ0_coder_7d493_10 (by decide) ?_
  exact hret _ _ _ dJ0_coder_7d493_14 rfl rfl
set_option maxHeartbeats 4000000 in
theorem c_J0_isLatin1 (l : Launch) (q v : Nat) : StI l yJ0_isLatin1_aae02 cJ0_isLatin1_aae02 1 .boolean 0 0 [.ref q] q v (fun r => r = 1) := by
  refine enSt (by decide) (Nat.le_of_ble_eq_true rfl) ?_
  intro p e s m args below meth c Q ls fx hs hret hl
  obtain ⟨hx, hb, hml, hown, hts⟩ := id fx
  obtain ⟨s1, s2, s3, s4, s5, s6⟩ := id hs
  have hl : lv_has ls 1 [(0, .ref q)] := hl
  refine va_gets (ref := "java/lang/String") hx hb s5 va_S.rf hown (hts (.fieldLink RJ0 38 "java/lang/String" "COMPACT_STRINGS" "Z") (List.mem_cons_of_mem _ (in_r3 _ (List.mem_of_getElem? (i := 19) rfl)))) (fun _ h => h) dJ0_isLatin1_aae02_0 ?_
  refine lv_if_eq (tgt := 17) hx hb dJ0_isLatin1_aae02_3 (by decide) (fun c1 => absurd c1 (by decide)) (fun _ => ?_)
  refine lv_aload_n hx hb dJ0_isLatin1_aae02_6 rfl (lv_at hl 0 rfl) ?_
  refine vk_getf (ref := "java/lang/String") hx hb s2 va_S.rf hown (hts (.fieldLink RJ0 15 "java/lang/String" "coder" "B") (List.mem_cons_of_mem _ (in_r3 _ (List.mem_of_getElem? (i := 20) rfl)))) (fun _ h => h) dJ0_isLatin1_aae02_7 ?_
  refine lv_if_ne (tgt := 17) hx hb dJ0_isLatin1_aae02_10 (by decide) (fun c1 => absurd rfl c1) (fun _ => ?_)
  refine lv_iconst (v := (1 : Int32)) hx hb dJ0_isLatin1_aae02_13 (by decide) ?_
  refine lv_goto (tgt := 18) hx hb dJ0_isLatin1_aae02_14 (by decide) ?_
  exact hret _ _ _ dJ0_isLatin1_aae02_18 rfl rfl
set_option maxHeartbeats 4000000 in
theorem c_J0_length (l : Launch) (q v : Nat) : StI l yJ0_length_8abf5 cJ0_length_8abf5 1 .int 1 20 [.ref q] q v (fun r => r = nI 21) := by
  refine enSt (by decide) (Nat.le_of_ble_eq_true rfl) ?_
  intro p e s m args below meth c Q ls fx hs hret hl
  obtain ⟨hx, hb, hml, hown, hts⟩ := id fx
  obtain ⟨s1, s2, s3, s4, s5, s6⟩ := id hs
  have hl : lv_has ls 1 [(0, .ref q)] := hl
  refine lv_aload_n hx hb dJ0_length_8abf5_0 rfl (lv_at hl 0 rfl) ?_
  refine vk_getf (ref := "java/lang/String") hx hb s3 va_S.rf hown (hts (.fieldLink RJ0 9 "java/lang/String" "value" "[B") (List.mem_cons_of_mem _ (in_r3 _ (List.mem_of_getElem? (i := 14) rfl)))) (fun _ h => h) dJ0_length_8abf5_1 ?_
  refine va_tlen (v := nI 21) hx hb s4 va_S.rf rfl dJ0_length_8abf5_4 ?_
  refine lv_aload_n hx hb dJ0_length_8abf5_5 rfl (lv_at hl 0 rfl) ?_
  refine caStV (rest := [.int (nI 21)]) (As := []) fx ⟨Nat.le_of_ble_eq_true rfl, Nat.le_of_ble_eq_true rfl⟩ lk_J0_335 (c_J0_coder l q v) hs va_S.rf ⟨Nat.le_of_ble_eq_true rfl, Nat.le_of_ble_eq_true rfl⟩ rfl hl.1 rfl (Nat.le_of_ble_eq_true rfl) dJ0_length_8abf5_6 ?_
  rintro _ rfl
  refine lv_ishr hx hb dJ0_length_8abf5_9 ?_
  exact hret _ _ _ dJ0_length_8abf5_10 rfl (by decide)
set_option maxHeartbeats 4000000 in
theorem c_J3_checkIndex (l : Launch) (q v k : Nat) (hk : k < 21) (z : Value) (hz : z = .null ∨ ∃ t : Nat, z = .ref t) : StI l yJ3_checkIndex_8e157 cJ3_checkIndex_8e157 3 .int 0 0 [.int (nI k), .int (nI 21), z] q v (fun _ => True) := by
  have e : ∀ (ls : Array Slot), lv_has ls 3 (lv_args 0 [.int (nI k), .int (nI 21), z]) → lv_has ls 3 [(0, .int (nI k)), (1, .int (nI 21)), (2, z)] := fun ls h => h
  refine enSt (by decide) (by rcases hz with rfl | ⟨t, rfl⟩ <;> exact Nat.le_of_ble_eq_true rfl) ?_
  intro p e1 s m args below meth c Q ls fx hs hret hl
  obtain ⟨hx, hb, hml, hown, hts⟩ := id fx
  have hl := e ls hl
  refine lv_iload_n hx hb dJ3_checkIndex_8e157_0 rfl (lv_at hl 0 rfl) ?_
  refine lv_if_lt (tgt := 9) hx hb dJ3_checkIndex_8e157_1 (by decide) (fun c1 => absurd c1 (nI_pos (by omega))) (fun _ => ?_)
  refine lv_iload_n hx hb dJ3_checkIndex_8e157_4 rfl (lv_at hl 0 rfl) ?_
  refine lv_iload_n hx hb dJ3_checkIndex_8e157_5 rfl (lv_at hl 1 rfl) ?_
  refine lv_icmp_lt (tgt := 16) hx hb dJ3_checkIndex_8e157_6 (by decide) (fun _ => ?_) (fun c1 => absurd (nI_lt hk (by omega)) c1)
  refine lv_iload_n hx hb dJ3_checkIndex_8e157_16 rfl (lv_at hl 0 rfl) ?_
  exact hret _ _ _ dJ3_checkIndex_8e157_17 rfl trivial
set_option maxHeartbeats 4000000 in
theorem c_J0_checkIndex (l : Launch) (q v k : Nat) (hk : k < 21) : StV l yJ0_checkIndex_df160 cJ0_checkIndex_df160 2 1 22 [.int (nI k), .int (nI 21)] q v := by
  refine enSv (by decide) (Nat.le_of_ble_eq_true rfl) ?_
  intro p e s m args below meth c Q ls fx hs hret hl
  obtain ⟨hx, hb, hml, hown, hts⟩ := id fx
  obtain ⟨s1, s2, s3, s4, s5, s6⟩ := id hs
  have hl : lv_has ls 2 [(0, .int (nI k)), (1, .int (nI 21))] := hl
  refine lv_iload_n hx hb dJ0_checkIndex_df160_0 rfl (lv_at hl 0 rfl) ?_
  refine lv_iload_n hx hb dJ0_checkIndex_df160_1 rfl (lv_at hl 1 rfl) ?_
  have go : ∀ z : Value, (z = .null ∨ ∃ t : Nat, z = .ref t) → va_Z "jdk/internal/util/Preconditions" "SIOOBE_FORMATTER" "Ljava/util/function/BiFunction;" z (fun _ => False) s s.heap → W p l e { frames := 1, cells := 0, slots := 0, locals := 22 } s m args below meth c s.heap [] 0 0 Q (F0 m 2 ls [.int (nI 21), .int (nI k)]) := by
    intro z hz hZ
    refine va_gets (ref := "jdk/internal/util/Preconditions") hx hb hZ va_S.rf hown (hts (.fieldLink RJ0 1053 "jdk/internal/util/Preconditions" "SIOOBE_FORMATTER" "Ljava/util/function/BiFunction;") (List.mem_cons_of_mem _ (in_r4 _ (List.mem_of_getElem? (i := 12) rfl)))) (fun _ h => h) dJ0_checkIndex_df160_2 ?_
    refine caStS (rest := []) (As := [.int (nI k), .int (nI 21), z]) fx ⟨Nat.le_of_ble_eq_true rfl, Nat.le_of_ble_eq_true rfl⟩ lk_J0_1059 (c_J3_checkIndex l q v k hk z hz) hs va_S.rf ⟨Nat.le_of_ble_eq_true rfl, Nat.le_of_ble_eq_true rfl⟩ rfl hl.1 rfl (Nat.le_of_ble_eq_true rfl) dJ0_checkIndex_df160_5 ?_
    intro r _
    refine lv_pop hx hb dJ0_checkIndex_df160_8 rfl ?_
    exact hret _ _ dJ0_checkIndex_df160_9
  rcases s6 with h | ⟨t, h⟩
  · exact go _ (Or.inl rfl) h
  · exact go _ (Or.inr ⟨t, rfl⟩) h
theorem tq_ch : ∀ k, k < 21 → ((nI (tq k) &&& 255).toUInt32 % 65536).toInt32 = nI (tq k) := by decide +kernel
theorem tq_nar (k : Nat) (hk : k < 21) : narrow .char (.int (nI (tq k))) = .int (nI (tq k)) := (pk_charN (Nat.lt_of_le_of_lt (tq_le k hk) (by omega))).1
set_option maxHeartbeats 4000000 in
theorem c_J1_charAt (l : Launch) (q v k : Nat) (hk : k < 21) : StI l yJ1_charAt_3b067 cJ1_charAt_3b067 2 .char 2 43 [.ref v, .int (nI k)] q v (fun r => r = nI (tq k)) := by
  refine enSt (by decide) (Nat.le_of_ble_eq_true rfl) ?_
  intro p e s m args below meth c Q ls fx hs hret hl
  obtain ⟨hx, hb, hml, hown, hts⟩ := id fx
  obtain ⟨s1, s2, s3, s4, s5, s6⟩ := id hs
  have hl : lv_has ls 2 [(0, .ref v), (1, .int (nI k))] := hl
  refine lv_iload_n hx hb dJ1_charAt_3b067_0 rfl (lv_at hl 1 rfl) ?_
  refine lv_aload_n hx hb dJ1_charAt_3b067_1 rfl (lv_at hl 0 rfl) ?_
  refine va_tlen (v := nI 21) hx hb s4 va_S.rf rfl dJ1_charAt_3b067_2 ?_
  refine caStN (rest := []) (As := [.int (nI k), .int (nI 21)]) fx ⟨Nat.le_of_ble_eq_true rfl, Nat.le_of_ble_eq_true rfl⟩ lk_J1_9 (c_J0_checkIndex l q v k hk) hs va_S.rf ⟨Nat.le_of_ble_eq_true rfl, Nat.le_of_ble_eq_true rfl⟩ rfl hl.1 rfl (Nat.le_of_ble_eq_true rfl) dJ1_charAt_3b067_3 ?_
  refine lv_aload_n hx hb dJ1_charAt_3b067_6 rfl (lv_at hl 0 rfl) ?_
  refine lv_iload_n hx hb dJ1_charAt_3b067_7 rfl (lv_at hl 1 rfl) ?_
  refine va_tb (v := .int (nI (tq k))) hx hb s4 va_S.rf (vp_in_nI hk (by omega)) (by rw [nI_clamp (by omega)]) dJ1_charAt_3b067_8 ?_
  refine lv_sipush (v := (255 : Int32)) hx hb dJ1_charAt_3b067_9 (by decide) ?_
  refine lv_iand hx hb dJ1_charAt_3b067_12 ?_
  refine lv_i2c hx hb dJ1_charAt_3b067_13 (tq_ch k hk) ?_
  exact hret _ _ _ dJ1_charAt_3b067_14 (tq_nar k hk) rfl
set_option maxHeartbeats 4000000 in
theorem c_J0_charAt (l : Launch) (q v k : Nat) (hk : k < 21) : StI l yJ0_charAt_5068e cJ0_charAt_5068e 2 .char 3 64 [.ref q, .int (nI k)] q v (fun r => r = nI (tq k)) := by
  refine enSt (by decide) (Nat.le_of_ble_eq_true rfl) ?_
  intro p e s m args below meth c Q ls fx hs hret hl
  obtain ⟨hx, hb, hml, hown, hts⟩ := id fx
  obtain ⟨s1, s2, s3, s4, s5, s6⟩ := id hs
  have hl : lv_has ls 2 [(0, .ref q), (1, .int (nI k))] := hl
  refine lv_aload_n hx hb dJ0_charAt_5068e_0 rfl (lv_at hl 0 rfl) ?_
  refine caStV (rest := []) (As := []) fx ⟨Nat.le_of_ble_eq_true rfl, Nat.le_of_ble_eq_true rfl⟩ lk_J0_492 (c_J0_isLatin1 l q v) hs va_S.rf ⟨Nat.le_of_ble_eq_true rfl, Nat.le_of_ble_eq_true rfl⟩ rfl hl.1 rfl (Nat.le_of_ble_eq_true rfl) dJ0_charAt_5068e_1 ?_
  rintro _ rfl
  refine lv_if_eq (tgt := 16) hx hb dJ0_charAt_5068e_4 (by decide) (fun c1 => absurd c1 (by decide)) (fun _ => ?_)
  refine lv_aload_n hx hb dJ0_charAt_5068e_7 rfl (lv_at hl 0 rfl) ?_
  refine vk_getf (ref := "java/lang/String") hx hb s3 va_S.rf hown (hts (.fieldLink RJ0 9 "java/lang/String" "value" "[B") (List.mem_cons_of_mem _ (in_r3 _ (List.mem_of_getElem? (i := 14) rfl)))) (fun _ h => h) dJ0_charAt_5068e_8 ?_
  refine lv_iload_n hx hb dJ0_charAt_5068e_11 rfl (lv_at hl 1 rfl) ?_
  refine caStS (rest := []) (As := [.ref v, .int (nI k)]) fx ⟨Nat.le_of_ble_eq_true rfl, Nat.le_of_ble_eq_true rfl⟩ lk_J0_495 (c_J1_charAt l q v k hk) hs va_S.rf ⟨Nat.le_of_ble_eq_true rfl, Nat.le_of_ble_eq_true rfl⟩ rfl hl.1 rfl (Nat.le_of_ble_eq_true rfl) dJ0_charAt_5068e_12 ?_
  rintro _ rfl
  exact hret _ _ _ dJ0_charAt_5068e_15 (tq_nar k hk) rfl
