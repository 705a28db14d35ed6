/-! a field's words, for a constructor's store into a final field; words of a call of a constructor; words of new -/
def FF (own : String) (idx ci k : Nat) (ty : FieldType) : Prop := ∃ (C : String) (T : u_T) (N : Nat), vwCl[ci]? = some (C, T, N) ∧ (∀ w ∈ u_ws C T N, w ∈ wsL_law) ∧ k < N ∧ Cond.fieldLink own idx C (T k).2.1 (T k).2.2.1 ∈ wsL_law ∧ (T k).1 = C ∧ (T k).2.2.2 = true ∧ C = own ∧ parseFieldDescriptor (T k).2.2.1 = some ty ∧ (∃ ty0 : Nat → FieldType, ∀ k, k < N → parseFieldDescriptor (T k).2.2.1 = some (ty0 k)) ∧ (∀ a, a < N → ∀ b, b < N → a ≠ b → (T a).2.1 ≠ (T b).2.1)
def LkI (own : String) (idx : Nat) (y : MethodName) (cc : ByteArray) (nL : Nat) : Prop :=
  Cond.methodLink own idx y ∈ wsL_law ∧ Cond.instanceMethod y ∈ wsL_law ∧ Cond.initialized y.cls ∈ wsL_law ∧ Cond.code y cc nL none ∈ wsL_law ∧ y.name = "<init>" ∧ (y.cls ≠ "java/lang/invoke/MethodHandle" ∧ y.cls ≠ "java/lang/invoke/VarHandle" ∧ (parseMethodDescriptor y.desc).map (fun d => d.parameters.length) = some 0)
def NO (own : String) (idx : Nat) (C : String) (T : u_T) (N : Nat) (ty : Nat → FieldType) : Prop := (∀ w ∈ u_ws C T N, w ∈ wsL_law) ∧ (∀ k, k < N → parseFieldDescriptor (T k).2.2.1 = some (ty k)) ∧ Cond.classLink own idx C ∈ wsL_law ∧ Cond.instantiable C N ∈ wsL_law ∧ Cond.initialized C ∈ wsL_law
/-! a constructor's contract: it makes mc cells of ms slots; X says what it needs of cells that are not its own -/
def inP (D : va_G) (cA : ClassId) (w : va_W) (X : (Nat → Prop) → State → Prop) (sz : Nat) (U : State) : Prop := muP D cA w sz U ∧ X (va_A w sz) U
def InV (D : va_G) (cA : ClassId) (l : Launch) (y : MethodName) (cc : ByteArray) (nL : Nat) (fr lo mc ms : Nat) (X : (Nat → Prop) → State → Prop) (av : List Value) (w : va_W) {S : Type} (post : S → Prop) (w' : S → va_W) : Prop :=
  ∀ sz : Nat, Met l y (wz y cc nL none) { frames := fr, cells := mc, slots := ms, locals := lo } (va_Pc av (inP D cA w X sz)) (va_Qv post (muB D w sz w') (va_A w sz)) mc ms (va_A w sz)
theorem enIn {D : va_G} {cA : ClassId} {l : Launch} {y : MethodName} {cc : ByteArray} {nL : Nat} {fr lo mc ms : Nat} {X : (Nat → Prop) → State → Prop} {av : List Value} {w : va_W} {S : Type} {w' : S → va_W} {post : S → Prop} (hy : plainName y.cls = true) (hnm : y.name = "<init>") (hn : (lg_sl av).length ≤ nL)
    (body : ∀ (p : Program) (e : Env) (s : State) (m : MethodId) (args : Array Value) (below : List Frame) (meth : Method) (c : Code) (Q : State → Prop) (ls : Array Slot) (A : Nat → Prop), CallFix p m c cc nL s args (wz y cc nL none) y.cls → meth.name = "<init>" → va_K D vwCl [(cA, .int)] s → va_P D vwCl w s.heap → va_D A w → va_S A s.heap s.heap [] → (∀ q, s.heap.size ≤ q → A q) → X A s →
      (∀ (u : S) (H : Heap) (locs : List Loc) (pc : Nat) (ls : Array Slot), decode cc pc = .ok (.return_, 1) → post u → va_P D vwCl (w' u) H → va_D A (w' u) → va_S A s.heap H locs → W p l e { frames := fr, cells := mc, slots := ms, locals := lo } s m args below meth c H locs mc ms Q (F0 m pc ls [])) →
      lv_has ls nL (lv_args 0 av) → W p l e { frames := fr, cells := mc, slots := ms, locals := lo } s m args below meth c s.heap [] 0 0 Q (F0 m 0 ls [])) : InV D cA l y cc nL fr lo mc ms X av w post w' := by
  intro sz
  refine Met.ofW (cc := cc) (maxL := nL) (ret := none) hy rfl ?_
  intro p e s m args below meth c s₁ B hml hv
  obtain ⟨rfl, ⟨rfl, hP, hK, hD⟩, hX⟩ := hv
  have hl := lv_entry av (n := nL) hn
  have hlocks := B.notSynchronized
  have hin : meth.name = "<init>" := (name_of_methodNamed B.named B.method).1.trans hnm
  rw [lg_entry_eq]
  generalize (lg_sl av ++ List.replicate (nL - (lg_sl av).length) Slot.unset).toArray = ls at hl ⊢
  exact body p e s m _ below meth c _ ls (va_A w s.heap.size) ⟨B.exec, B.bytes, hml, findClass_of_methodNamed B.named, atoms_spec B.pre⟩ hin hK hP hD.self va_S.rf (fun q h => Or.inr h) hX (fun u H locs pc ls hd hp hP hD hS => W.vret B.exec B.bytes B.returns (fun t ht hW => ⟨⟨u, rfl, hp, by rw [ht]; exact hP, hD⟩, hS.F ht⟩) hS.2.2 hd hlocks) hl
section KA
variable {p : Program} {l : Launch} {e : Env} {R : Room} {s : State} {m : MethodId} {args : Array Value} {below : List Frame} {meth : Method} {c : Code} {H H0 : Heap} {locs : List Loc} {Q : State → Prop} {cells slots : Nat} {A0 : Nat → Prop}
  {pc : Nat} {ls : Array Slot} {rest st0 : List Value} {D : va_G} {cA : ClassId} {cc cc0 cc1 : ByteArray} {nL nL0 nL1 idx n fr lo : Nat} {own C : String} {y y0 : MethodName} {rt : FieldType} {rt0 : Option FieldType} {b : Nat} {As : List Value} {w w1 w2 : va_W}
theorem kaRoV {post : Int32 → Prop} (fx : CallFix p m c cc nL s args (wz y0 cc0 nL0 rt0) own) (hf : cells ≤ R.cells ∧ slots ≤ R.slots) (hK : va_K D vwCl [(cA, .int)] s) (k : LkV own idx C y cc1 nL1 (some rt) n) (hM : RoI D cA l y cc1 nL1 rt fr lo (.ref b :: As) w post) (hP : va_P D vwCl w H)
    (q0 : Nat) {ci : Nat} {fs : List Value} (he : w[q0]? = some (b, .inr (ci, fs))) {T : u_T} {N : Nat} (hc : vwCl[ci]? = some (C, T, N)) (hR : fr + 1 ≤ R.frames ∧ 8 + (nL1 + 11) + lo ≤ R.locals) (hn : As.length = n) (hl : ls.size = nL) (hst : st0 = As.reverse ++ .ref b :: rest) (hW : (rest.map fun v => v.category).sum ≤ 8) (hdg : decode cc pc = .ok (.invokevirtual idx, 3))
    (kk : ∀ r : Int32, post r → W p l e R s m args below meth c H locs cells slots Q (F0 m (pc + 3) ls (.int r :: rest))) : W p l e R s m args below meth c H locs cells slots Q (F0 m pc ls st0) :=
  vp_callSi (W.runV (rest := rest) fx hM (cwzV fx.2.2.2.2 k hR) ⟨roP_blind, va_recv hK hP hc he, fun U hU hW => ⟨rfl, by rw [hU]; exact hP, va_K.moved hW.alike hK⟩⟩ rfl hn hl hst (lv_room hW) hdg hf) kk
theorem kaMuV {S : Type} {post : Int32 → S → Prop} {w' : S → va_W} (fx : CallFix p m c cc nL s args (wz y0 cc0 nL0 rt0) own) (hf : cells ≤ R.cells ∧ slots ≤ R.slots) (hK : va_K D vwCl [(cA, .int)] s) (k : LkV own idx C y cc1 nL1 (some rt) n) (hM : MuI D cA l y cc1 nL1 rt fr lo (.ref b :: As) w post w')
    (hP : va_P D vwCl (w1 ++ (w ++ w2)) H) (hD : va_D A0 (w1 ++ (w ++ w2))) (hS : va_S A0 H0 H locs) (hA : ∀ q, H0.size ≤ q → A0 q)
    (q0 : Nat) {ci : Nat} {fs : List Value} (he : w[q0]? = some (b, .inr (ci, fs))) {T : u_T} {N : Nat} (hc : vwCl[ci]? = some (C, T, N)) (hR : fr + 1 ≤ R.frames ∧ 8 + (nL1 + 11) + lo ≤ R.locals) (hn : As.length = n) (hl : ls.size = nL) (hst : st0 = As.reverse ++ .ref b :: rest) (hW : (rest.map fun v => v.category).sum ≤ 8) (hdg : decode cc pc = .ok (.invokevirtual idx, 3))
    (kk : ∀ (r : Int32) (u : S) (H1 : Heap) (locs1 : List Loc), post r u → va_P D vwCl (w1 ++ (w' u ++ w2)) H1 → va_D A0 (w1 ++ (w' u ++ w2)) → va_S A0 H0 H1 locs1 → W p l e R s m args below meth c H1 locs1 cells slots Q (F0 m (pc + 3) ls (.int r :: rest))) : W p l e R s m args below meth c H locs cells slots Q (F0 m pc ls st0) := by
  have hPc := v_mid0 (A0 := A0) hP
  have hFc := v_midF hD hS hA
  refine va_calli (va_runV (rest := rest) fx (hM H.size) (cwzV fx.2.2.2.2 k hR) ⟨muP_blind, va_recv hK hPc hc he, fun U hU hW => ⟨rfl, by rw [hU], by rw [hU]; exact hPc, va_K.moved hW.alike hK, (v_midD hD).weaken (fun _ _ _ _ => trivial)⟩⟩ rfl hn hl hst (lv_room hW) hdg hf) hS (fun q _ h => hFc q h) hFc (fun r u t H1 locs1 ht hvm hw hB hz1 hk1 hS1 => ?_)
  obtain ⟨hP1, hD1⟩ := hB
  rw [ht] at hP1
  obtain ⟨hP2, hD2⟩ := v_mid hP hD hk1 hFc hP1 hD1
  exact kk r u H1 locs1 hw hP2 hD2 hS1
theorem kaMuVv {S : Type} {post : S → Prop} {w' : S → va_W} (fx : CallFix p m c cc nL s args (wz y0 cc0 nL0 rt0) own) (hf : cells ≤ R.cells ∧ slots ≤ R.slots) (hK : va_K D vwCl [(cA, .int)] s) (k : LkV own idx C y cc1 nL1 none n) (hM : MuV D cA l y cc1 nL1 fr lo (.ref b :: As) w post w')
    (hP : va_P D vwCl (w1 ++ (w ++ w2)) H) (hD : va_D A0 (w1 ++ (w ++ w2))) (hS : va_S A0 H0 H locs) (hA : ∀ q, H0.size ≤ q → A0 q)
    (q0 : Nat) {ci : Nat} {fs : List Value} (he : w[q0]? = some (b, .inr (ci, fs))) {T : u_T} {N : Nat} (hc : vwCl[ci]? = some (C, T, N)) (hR : fr + 1 ≤ R.frames ∧ 8 + (nL1 + 11) + lo ≤ R.locals) (hn : As.length = n) (hl : ls.size = nL) (hst : st0 = As.reverse ++ .ref b :: rest) (hW : (rest.map fun v => v.category).sum ≤ 8) (hdg : decode cc pc = .ok (.invokevirtual idx, 3))
    (kk : ∀ (u : S) (H1 : Heap) (locs1 : List Loc), post u → va_P D vwCl (w1 ++ (w' u ++ w2)) H1 → va_D A0 (w1 ++ (w' u ++ w2)) → va_S A0 H0 H1 locs1 → W p l e R s m args below meth c H1 locs1 cells slots Q (F0 m (pc + 3) ls rest)) : W p l e R s m args below meth c H locs cells slots Q (F0 m pc ls st0) := by
  have hPc := v_mid0 (A0 := A0) hP
  have hFc := v_midF hD hS hA
  refine va_callv (va_runV (rest := rest) fx (hM H.size) (cwzV fx.2.2.2.2 k hR) ⟨muP_blind, va_recv hK hPc hc he, fun U hU hW => ⟨rfl, by rw [hU], by rw [hU]; exact hPc, va_K.moved hW.alike hK, (v_midD hD).weaken (fun _ _ _ _ => trivial)⟩⟩ rfl hn hl hst (lv_room hW) hdg hf) hS (fun q _ h => hFc q h) hFc (fun u t H1 locs1 ht hvm hw hB hz1 hk1 hS1 => ?_)
  obtain ⟨hP1, hD1⟩ := hB
  rw [ht] at hP1
  obtain ⟨hP2, hD2⟩ := v_mid hP hD hk1 hFc hP1 hD1
  exact kk u H1 locs1 hw hP2 hD2 hS1
theorem kgz {ws : va_W} {ci k q0 a : Nat} {fs : List Value} {v : Value} (fx : CallFix p m c cc nL s args (wz y0 cc0 nL0 rt0) own) (hK : va_K D vwCl [(cA, .int)] s) (hP : va_P D vwCl ws H) (fl : FL own idx ci k) (he : ws[q0]? = some (a, .inr (ci, fs))) (hv : fs[k]? = some v) (hdg : decode cc pc = .ok (.getfield idx, 3))
    (kk : W p l e R s m args below meth c H locs cells slots Q (F0 m (pc + 3) ls (v :: rest))) : W p l e R s m args below meth c H locs cells slots Q (F0 m pc ls (.ref a :: rest)) := by
  obtain ⟨C, T, N, hc, hin, hk, hl, hd⟩ := fl
  obtain ⟨hx, hb, hml, hown, hts⟩ := fx
  exact va_get (ref := C) hx hb hts (fun w h => List.mem_cons_of_mem _ (hin w h)) hown hK hP q0 he hc k hk (hts _ (List.mem_cons_of_mem _ hl)) (fun _ h => by rw [← hd]; exact h) hv hdg kk
theorem kpz {ws : va_W} {ci k q0 a : Nat} {fs : List Value} {v : Value} {ty : FieldType} (fx : CallFix p m c cc nL s args (wz y0 cc0 nL0 rt0) own) (hK : va_K D vwCl [(cA, .int)] s) (hP : va_P D vwCl ws H) (hD : va_D A0 ws) (hS : va_S A0 H0 H locs) (fl : FP own idx ci k ty) (he : ws[q0]? = some (a, .inr (ci, fs))) (hn : narrow ty v = v) (hfit : fits ty v = true) (hl : k < fs.length) (hdg : decode cc pc = .ok (.putfield idx, 3))
    (kk : ∀ (H1 : Heap) (locs1 : List Loc), va_P D vwCl (ws.set q0 (a, .inr (ci, fs.set k v))) H1 → va_D A0 (ws.set q0 (a, .inr (ci, fs.set k v))) → va_S A0 H0 H1 locs1 → W p l e R s m args below meth c H1 locs1 cells slots Q (F0 m (pc + 3) ls rest)) : W p l e R s m args below meth c H locs cells slots Q (F0 m pc ls (v :: .ref a :: rest)) := by
  obtain ⟨C, T, N, hc, hin, hk, hlk, hd, hfin, hty, ⟨ty0, h0⟩, hnm⟩ := fl
  obtain ⟨hx, hb, hml, hown, hts⟩ := fx
  exact va_put (ref := C) hx hb hts (fun w h => List.mem_cons_of_mem _ (hin w h)) ty0 h0 hnm hown hK hP hD hS q0 he hc k hk (hts _ (List.mem_cons_of_mem _ hlk)) (fun _ h => by rw [← hd]; exact h) hfin hty hn hfit hl hdg kk
theorem kaz {ws : va_W} {nA a : Nat} {f : Nat → Int32} {i x : Int32} (hx : p.tables.exec = Jvm.exec) (hb : c.code = cc) (hK : va_K D vwCl [(cA, .int)] s) (hP : va_P D vwCl ws H) (hD : va_D A0 ws) (hS : va_S A0 H0 H locs) (q0 : Nat) (ha : ws[q0]? = some (a, .inl (cA, nA, .inl f))) (hin : vp_in i nA) (hdg : decode cc pc = .ok (.iastore, 1))
    (kk : ∀ (g : Nat → Int32) (H1 : Heap) (locs1 : List Loc), g = upd f i.toNatClampNeg x → va_P D vwCl (ws.set q0 (a, .inl (cA, nA, .inl g))) H1 → va_D A0 (ws.set q0 (a, .inl (cA, nA, .inl g))) → va_S A0 H0 H1 locs1 → W p l e R s m args below meth c H1 locs1 cells slots Q (F0 m (pc + 1) ls rest)) : W p l e R s m args below meth c H locs cells slots Q (F0 m pc ls (.int x :: .int i :: .ref a :: rest)) :=
  va_iast hx hb hK hP hD hS q0 0 ha rfl hin hdg (fun H1 locs1 h1 h2 h3 => kk _ H1 locs1 rfl h1 h2 h3)
theorem kpF {ws : va_W} {ci k q0 a : Nat} {fs : List Value} {v : Value} {ty : FieldType} (fx : CallFix p m c cc nL s args (wz y0 cc0 nL0 rt0) own) (hin : meth.name = "<init>") (hK : va_K D vwCl [(cA, .int)] s) (hP : va_P D vwCl ws H) (hD : va_D A0 ws) (hS : va_S A0 H0 H locs) (fl : FF own idx ci k ty) (he : ws[q0]? = some (a, .inr (ci, fs))) (hn : narrow ty v = v) (hfit : fits ty v = true) (hl : k < fs.length) (hdg : decode cc pc = .ok (.putfield idx, 3))
    (kk : ∀ (H1 : Heap) (locs1 : List Loc), va_P D vwCl (ws.set q0 (a, .inr (ci, fs.set k v))) H1 → va_D A0 (ws.set q0 (a, .inr (ci, fs.set k v))) → va_S A0 H0 H1 locs1 → W p l e R s m args below meth c H1 locs1 cells slots Q (F0 m (pc + 3) ls rest)) : W p l e R s m args below meth c H locs cells slots Q (F0 m pc ls (v :: .ref a :: rest)) := by
  obtain ⟨C, T, N, hc, hin1, hk, hlk, hd, hfin, hdecl, hty, ⟨ty0, h0⟩, hnm⟩ := fl
  obtain ⟨hx, hb, hml, hown, hts⟩ := fx
  exact va_putF (ref := C) hx hb hts (fun w h => List.mem_cons_of_mem _ (hin1 w h)) ty0 h0 hnm hown hK hP hD hS q0 he hc k hk (hts _ (List.mem_cons_of_mem _ hlk)) (fun _ h => by rw [← hd]; exact h) hfin hin (hd.trans hdecl) hty hn hfit hl hdg kk
theorem knA {ws : va_W} {n : Int32} {N' : Nat} (fx : CallFix p m c cc nL s args (wz y0 cc0 nL0 rt0) own) (hK : va_K D vwCl [(cA, .int)] s) (hP : va_P D vwCl ws H) (hD : va_D A0 ws) (hS : va_S A0 H0 H locs) (hA : ∀ q, H0.size ≤ q → A0 q) (hn : ¬ n < 0) (hN : n.toNatClampNeg = N') (hbytes : N' * componentBytes .int ≤ 536870912) (hf : cells + 1 ≤ R.cells ∧ slots + N' ≤ R.slots) (hdg : decode cc pc = .ok (.newarray .int, 2))
    (kk : ∀ (q : Nat) (H1 : Heap), va_P D vwCl (ws ++ [(q, .inl (cA, N', .inl (fun _ => (0 : Int32))))]) H1 → va_D A0 (ws ++ [(q, .inl (cA, N', .inl (fun _ => (0 : Int32))))]) → va_S A0 H0 H1 locs → W p l e R s m args below meth c H1 locs (cells + 1) (slots + N') Q (F0 m (pc + 2) ls (.ref q :: rest))) : W p l e R s m args below meth c H locs cells slots Q (F0 m pc ls (.int n :: rest)) := by
  obtain ⟨hx, hb, hml, hown, hts⟩ := fx
  refine va_newa (atype := .int) (ty := .int) (a0 := (N', .inl (fun _ => (0 : Int32)))) hx hb (hts (.arrayClass .int) (List.mem_cons_of_mem _ (in_r2 _ (List.mem_of_getElem? (i := 9) rfl)))) rfl hK hP hD hS hA (fun _ => rfl) hn hN hbytes hf.1 hf.2 hdg (fun q cB H1 hK1 hP1 hD1 hS1 => ?_)
  have e1 : s.vm.findClass ("[" ++ FieldType.int.toString) = some cB := (hK1.2 1 _ rfl).2
  have e2 : s.vm.findClass ("[" ++ FieldType.int.toString) = some cA := (hK.2 0 _ rfl).2
  have e : cB = cA := Option.some.inj (e1.symm.trans e2)
  subst e
  exact kk q H1 hP1 hD1 hS1
theorem knO {ws : va_W} {ci : Nat} {T : u_T} {N : Nat} {ty : Nat → FieldType} {fs : List Value} (fx : CallFix p m c cc nL s args (wz y0 cc0 nL0 rt0) own) (hK : va_K D vwCl [(cA, .int)] s) (hP : va_P D vwCl ws H) (hD : va_D A0 ws) (hS : va_S A0 H0 H locs) (hA : ∀ q, H0.size ≤ q → A0 q) (hc : vwCl[ci]? = some (C, T, N)) (no : NO own idx C T N ty) (hfs : ∀ j, j < N → defaultValue (ty j) = vp_V fs j) (hf : cells + 1 ≤ R.cells ∧ slots + N ≤ R.slots) (hdg : decode cc pc = .ok (.new idx, 3))
    (kk : ∀ (q : Nat) (H1 : Heap), va_P D vwCl (ws ++ [(q, .inr (ci, fs))]) H1 → va_D A0 (ws ++ [(q, .inr (ci, fs))]) → va_S A0 H0 H1 locs → W p l e R s m args below meth c H1 locs (cells + 1) (slots + N) Q (F0 m (pc + 3) ls (.ref q :: rest))) : W p l e R s m args below meth c H locs cells slots Q (F0 m pc ls rest) := by
  obtain ⟨hx, hb, hml, hown, hts⟩ := fx
  obtain ⟨n1, n2, n3, n4, n5⟩ := no
  exact va_new hx hb hts (fun w h => List.mem_cons_of_mem _ (n1 w h)) ty n2 hown (hts _ (List.mem_cons_of_mem _ n3)) (hts _ (List.mem_cons_of_mem _ n4)) (hts _ (List.mem_cons_of_mem _ n5)) hK hP hD hS hA hc hfs hf.1 hf.2 hdg kk
theorem kOb {a : Nat} (fx : CallFix p m c cc nL s args (wz y0 cc0 nL0 rt0) own) (hk : Cond.methodLink own idx objectInit ∈ wsL_law) (hl : ls.size = nL) (hR : 1 ≤ R.frames ∧ 12 ≤ R.locals) (hdg : decode cc pc = .ok (.invokespecial idx, 3))
    (kk : W p l e R s m args below meth c H locs cells slots Q (F0 m (pc + 3) ls [])) : W p l e R s m args below meth c H locs cells slots Q (F0 m pc ls [.ref a]) := by
  obtain ⟨hx, hb, hml, hown, hts⟩ := fx
  exact W.objInit (rest := []) hx hb hown (hts _ (List.mem_cons_of_mem _ hk)) (hts (.instanceMethod objectInit) (List.mem_cons_of_mem _ (in_r1 _ (List.mem_of_getElem? (i := 10) rfl)))) (hts (.code objectInit ⟨#[0xb1]⟩ 1 none) (List.mem_cons_of_mem _ (in_r1 _ (List.mem_of_getElem? (i := 11) rfl)))) rfl (hl.trans hml.symm) rfl hdg hR.1 hR.2 kk
theorem kaIn {S : Type} {mc ms : Nat} {X : (Nat → Prop) → State → Prop} {post : S → Prop} {w' : S → va_W} (fx : CallFix p m c cc nL s args (wz y0 cc0 nL0 rt0) own) (hf : cells + mc ≤ R.cells ∧ slots + ms ≤ R.slots) (hK : va_K D vwCl [(cA, .int)] s) (k : LkI own idx y cc1 nL1) (hM : InV D cA l y cc1 nL1 fr lo mc ms X [.ref b] w post w')
    (hX1 : ∀ (A : Nat → Prop) (U : State) (g : JFrame) (mk : MethodId) (a : Array Value), X A U → X A (U.calling g mk a)) (hX2 : ∀ U : State, U.heap = H → s.WarmedH U.vm → X (va_A w H.size) U)
    (hP : va_P D vwCl (w1 ++ (w ++ w2)) H) (hD : va_D A0 (w1 ++ (w ++ w2))) (hS : va_S A0 H0 H locs) (hA : ∀ q, H0.size ≤ q → A0 q)
    (hR : fr + 1 ≤ R.frames ∧ 8 + (nL1 + 11) + lo ≤ R.locals) (hl : ls.size = nL) (hst : st0 = .ref b :: rest) (hW : (rest.map fun v => v.category).sum ≤ 8) (hdg : decode cc pc = .ok (.invokespecial idx, 3))
    (kk : ∀ (u : S) (H1 : Heap) (locs1 : List Loc), post u → va_P D vwCl (w1 ++ (w' u ++ w2)) H1 → va_D A0 (w1 ++ (w' u ++ w2)) → va_S A0 H0 H1 locs1 → W p l e R s m args below meth c H1 locs1 (cells + mc) (slots + ms) Q (F0 m (pc + 3) ls rest)) : W p l e R s m args below meth c H locs cells slots Q (F0 m pc ls st0) := by
  have hPc := v_mid0 (A0 := A0) hP
  have hFc := v_midF hD hS hA
  obtain ⟨k1, k2, k3, k4, k5, k6⟩ := k
  have hts := fx.2.2.2.2
  refine va_callv (va_runI (As := []) (rest := rest) fx (hM H.size) (cwI 0 hts (wz_in k4) rfl rfl rfl (hts _ (List.mem_cons_of_mem _ k3)) (hts _ (List.mem_cons_of_mem _ k1)) (hts _ (List.mem_cons_of_mem _ k2)) k5 k6 hR) ⟨fun a U g mk q => ?_, fun U hU hW => ⟨rfl, ⟨by rw [hU], by rw [hU]; exact hPc, va_K.moved hW.alike hK, (v_midD hD).weaken (fun _ _ _ _ => trivial)⟩, hX2 U hU hW⟩⟩ rfl rfl hl hst (lv_room hW) hdg hf) hS (fun q _ h => hFc q h) hFc (fun u t H1 locs1 ht hvm hw hB hz1 hk1 hS1 => ?_)
  · obtain ⟨q0, ⟨q1, qP, qK, qD⟩, qX⟩ := q
    exact ⟨q0, ⟨q1, qP, va_K.moved (u := U) (U := U.calling g mk a) (Vm.Alike.refl U.vm) qK, qD⟩, hX1 _ U g mk a qX⟩
  · obtain ⟨hP1, hD1⟩ := hB
    rw [ht] at hP1
    obtain ⟨hP2, hD2⟩ := v_mid hP hD hk1 hFc hP1 hD1
    exact kk u H1 locs1 hw hP2 hD2 hS1
end KA
