theorem tb_good : wsL_law.all goodWord = true := by decide +kernel
def wz (y : MethodName) (cc : ByteArray) (nL : Nat) (rt : Option FieldType) : List Cond := .code y cc nL rt :: wsL_law
theorem wz_good : ∀ w ∈ wsL_law, (w.onTables && w.keeps) = true ∨ ∃ ty, w = .arrayClass ty := fun w h => good_of_word (List.all_eq_true.mp tb_good w h)
theorem wz_in {y y2 : MethodName} {cc cc2 : ByteArray} {nL nL2 : Nat} {rt rt2 : Option FieldType} (h : Cond.code y2 cc2 nL2 rt2 ∈ wsL_law) : GoodIn (wz y cc nL rt) (wz y2 cc2 nL2 rt2) := by
  intro w hw
  rcases List.mem_cons.mp hw with rfl | hw
  · exact ⟨List.mem_cons_of_mem _ h, wz_good _ h⟩
  · exact ⟨List.mem_cons_of_mem _ hw, wz_good _ hw⟩
theorem wz_g1 {y : MethodName} {cc : ByteArray} {nL : Nat} {rt : Option FieldType} {w : Cond} (h : w ∈ wsL_law) : w ∈ wz y cc nL rt ∧ ((w.onTables && w.keeps) = true ∨ ∃ ty, w = .arrayClass ty) := ⟨List.mem_cons_of_mem _ h, wz_good _ h⟩
/-- a virtual call's words -/
def LkV (own : String) (idx : Nat) (C : String) (y : MethodName) (cc : ByteArray) (nL : Nat) (rt : Option FieldType) (n : Nat) : Prop :=
  Cond.methodLink own idx y ∈ wsL_law ∧ Cond.instanceMethod y ∈ wsL_law ∧ Cond.selects C y y ∈ wsL_law ∧ Cond.initialized C ∈ wsL_law ∧ Cond.code y cc nL rt ∈ wsL_law ∧ (y.cls = C ∧ y.cls ≠ "java/lang/invoke/MethodHandle" ∧ y.cls ≠ "java/lang/invoke/VarHandle" ∧ (parseMethodDescriptor y.desc).map (fun d => d.parameters.length) = some n)
/-- a static call's words -/
def LkS (own : String) (idx : Nat) (y : MethodName) (cc : ByteArray) (nL : Nat) (rt : Option FieldType) (n : Nat) : Prop :=
  Cond.methodLink own idx y ∈ wsL_law ∧ Cond.static y ∈ wsL_law ∧ Cond.initialized y.cls ∈ wsL_law ∧ Cond.code y cc nL rt ∈ wsL_law ∧ (y.cls ≠ "java/lang/invoke/MethodHandle" ∧ y.cls ≠ "java/lang/invoke/VarHandle" ∧ (parseMethodDescriptor y.desc).map (fun d => d.parameters.length) = some n)
/-- a field's words -/
def FL (own : String) (idx ci k : Nat) : Prop := ∃ (C : String) (T : u_T) (N : Nat), vwCl[ci]? = some (C, T, N) ∧ (∀ w ∈ u_ws C T N, w ∈ wsL_law) ∧ k < N ∧ Cond.fieldLink own idx C (T k).2.1 (T k).2.2.1 ∈ wsL_law ∧ (T k).1 = C
/-- a field's words, for a store -/
def FP (own : String) (idx ci k : Nat) (ty : FieldType) : Prop := ∃ (C : String) (T : u_T) (N : Nat), vwCl[ci]? = some (C, T, N) ∧ (∀ w ∈ u_ws C T N, w ∈ wsL_law) ∧ k < N ∧ Cond.fieldLink own idx C (T k).2.1 (T k).2.2.1 ∈ wsL_law ∧ (T k).1 = C ∧ (T k).2.2.2 = false ∧ parseFieldDescriptor (T k).2.2.1 = some ty ∧ (∃ ty0 : Nat → FieldType, ∀ k, k < N → parseFieldDescriptor (T k).2.2.1 = some (ty0 k)) ∧ (∀ a, a < N → ∀ b, b < N → a ≠ b → (T a).2.1 ≠ (T b).2.1)
theorem cwzV {R : Room} {s : State} {args : Array Value} {own C : String} {idx nL nL0 n fr lo : Nat} {y y0 : MethodName} {cc cc0 : ByteArray} {rt rt0 : Option FieldType} (hts : ∀ w ∈ wz y0 cc0 nL0 rt0, w.before args s = true) (k : LkV own idx C y cc nL rt n) (hR : fr + 1 ≤ R.frames ∧ 8 + (nL + 11) + lo ≤ R.locals) : CallW R s args own C idx y cc nL rt (wz y cc nL rt) { frames := fr, cells := 0, slots := 0, locals := lo } 0 0 n := by
  obtain ⟨h1, h2, h3, h4, h5, h6⟩ := k
  refine cwV n hts (fun w hw => ?_) rfl rfl rfl h6 hR
  rcases List.mem_append.mp hw with hw | hw
  · simp only [List.mem_cons, List.not_mem_nil, or_false] at hw
    rcases hw with rfl | rfl | rfl | rfl
    · exact wz_g1 h1
    · exact wz_g1 h2
    · exact wz_g1 h3
    · exact wz_g1 h4
  · exact wz_in h5 w hw
theorem cwzS {R : Room} {s : State} {args : Array Value} {own : String} {idx nL nL0 n fr lo : Nat} {y y0 : MethodName} {cc cc0 : ByteArray} {rt rt0 : Option FieldType} (hts : ∀ w ∈ wz y0 cc0 nL0 rt0, w.before args s = true) (k : LkS own idx y cc nL rt n) (hR : fr + 1 ≤ R.frames ∧ 8 + (nL + 11) + lo ≤ R.locals) : CallB R s args own idx y cc nL rt (wz y cc nL rt) { frames := fr, cells := 0, slots := 0, locals := lo } 0 0 n ∧ (Cond.static y).before args s = true := by
  obtain ⟨h1, h2, h3, h4, h5⟩ := k
  have g : ∀ {w : Cond}, w ∈ wsL_law → w.before args s = true := fun h => hts _ (List.mem_cons_of_mem _ h)
  exact ⟨callB_of n hts (wz_in h4) rfl rfl rfl (g h3) (g h1) h5 hR, g h2⟩
/-! contracts: a method that changes no cell -/
def roP (D : va_G) (cA : ClassId) (w : va_W) (U : State) : Prop := va_P D vwCl w U.heap ∧ va_K D vwCl [(cA, .int)] U
theorem roP_blind {D : va_G} {cA : ClassId} {w : va_W} {av : List Value} : FrameBlind (va_Pc av (roP D cA w)) := fun a U g mk q => by
  obtain ⟨q0, qP, qK⟩ := q
  exact ⟨q0, qP, va_K.moved (u := U) (U := U.calling g mk a) (Vm.Alike.refl U.vm) qK⟩
def RoI (D : va_G) (cA : ClassId) (l : Launch) (y : MethodName) (cc : ByteArray) (nL : Nat) (rt : FieldType) (fr lo : Nat) (av : List Value) (w : va_W) (post : Int32 → Prop) : Prop :=
  Met l y (wz y cc nL (some rt)) { frames := fr, cells := 0, slots := 0, locals := lo } (va_Pc av (roP D cA w)) (vp_Si post) 0 0 (fun _ => False)
def RoL (D : va_G) (cA : ClassId) (l : Launch) (y : MethodName) (cc : ByteArray) (nL : Nat) (fr lo : Nat) (av : List Value) (w : va_W) (post : Int64 → Prop) : Prop :=
  Met l y (wz y cc nL (some .long)) { frames := fr, cells := 0, slots := 0, locals := lo } (va_Pc av (roP D cA w)) (vp_Sl post) 0 0 (fun _ => False)
theorem enRo {D : va_G} {cA : ClassId} {l : Launch} {y : MethodName} {cc : ByteArray} {nL : Nat} {rt : FieldType} {fr lo : Nat} {av : List Value} {w : va_W} {post : Int32 → Prop} (hy : plainName y.cls = true) (hn : (lg_sl av).length ≤ nL)
    (body : ∀ (p : Program) (e : Env) (s : State) (m : MethodId) (args : Array Value) (below : List Frame) (meth : Method) (c : Code) (Q : State → Prop) (ls : Array Slot), CallFix p m c cc nL s args (wz y cc nL (some rt)) y.cls → va_K D vwCl [(cA, .int)] s → va_P D vwCl w s.heap →
      (∀ (r : Int32) (pc : Nat) (ls : Array Slot), decode cc pc = .ok (.ireturn, 1) → narrow rt (.int r) = .int r → post r → W p l e { frames := fr, cells := 0, slots := 0, locals := lo } s m args below meth c s.heap [] 0 0 Q (F0 m pc ls [.int r])) →
      lv_has ls nL (lv_args 0 av) → W p l e { frames := fr, cells := 0, slots := 0, locals := lo } s m args below meth c s.heap [] 0 0 Q (F0 m 0 ls [])) : RoI D cA l y cc nL rt fr lo av w post := by
  refine Met.ofW (cc := cc) (maxL := nL) (ret := some rt) hy rfl ?_
  intro p e s m args below meth c s₁ B hml hv
  obtain ⟨rfl, hP, hK⟩ := hv
  have hl := lv_entry av (n := nL) hn
  have hlocks := B.notSynchronized
  rw [lg_entry_eq]
  generalize (lg_sl av ++ List.replicate (nL - (lg_sl av).length) Slot.unset).toArray = ls at hl ⊢
  exact body p e s m _ below meth c _ ls ⟨B.exec, B.bytes, hml, findClass_of_methodNamed B.named, atoms_spec B.pre⟩ hK hP (fun r pc ls hd hn hp => W.zret B.exec B.bytes B.returns hn (fun t ht hW => ⟨r, rfl, hp, ht⟩) (fun q hq => by cases hq) hd hlocks) hl
theorem enRoL {D : va_G} {cA : ClassId} {l : Launch} {y : MethodName} {cc : ByteArray} {nL : Nat} {fr lo : Nat} {av : List Value} {w : va_W} {post : Int64 → Prop} (hy : plainName y.cls = true) (hn : (lg_sl av).length ≤ nL)
    (body : ∀ (p : Program) (e : Env) (s : State) (m : MethodId) (args : Array Value) (below : List Frame) (meth : Method) (c : Code) (Q : State → Prop) (ls : Array Slot), CallFix p m c cc nL s args (wz y cc nL (some .long)) y.cls → va_K D vwCl [(cA, .int)] s → va_P D vwCl w s.heap →
      (∀ (r : Int64) (pc : Nat) (ls : Array Slot), decode cc pc = .ok (.lreturn, 1) → post r → W p l e { frames := fr, cells := 0, slots := 0, locals := lo } s m args below meth c s.heap [] 0 0 Q (F0 m pc ls [.long r])) →
      lv_has ls nL (lv_args 0 av) → W p l e { frames := fr, cells := 0, slots := 0, locals := lo } s m args below meth c s.heap [] 0 0 Q (F0 m 0 ls [])) : RoL D cA l y cc nL fr lo av w post := by
  refine Met.ofW (cc := cc) (maxL := nL) (ret := some .long) hy rfl ?_
  intro p e s m args below meth c s₁ B hml hv
  obtain ⟨rfl, hP, hK⟩ := hv
  have hl := lv_entry av (n := nL) hn
  have hlocks := B.notSynchronized
  rw [lg_entry_eq]
  generalize (lg_sl av ++ List.replicate (nL - (lg_sl av).length) Slot.unset).toArray = ls at hl ⊢
  exact body p e s m _ below meth c _ ls ⟨B.exec, B.bytes, hml, findClass_of_methodNamed B.named, atoms_spec B.pre⟩ hK hP (fun r pc ls hd hp => W.lret B.exec B.bytes B.returns (fun t ht hW => ⟨r, rfl, hp, ht⟩) (fun q hq => by cases hq) hd hlocks) hl
/-! contracts: a method that changes cells of its world w to w' u, and makes none -/
def muP (D : va_G) (cA : ClassId) (w : va_W) (sz : Nat) (U : State) : Prop := U.heap.size = sz ∧ va_P D vwCl w U.heap ∧ va_K D vwCl [(cA, .int)] U ∧ va_D (fun _ => True) w
theorem muP_blind {D : va_G} {cA : ClassId} {w : va_W} {sz : Nat} {av : List Value} : FrameBlind (va_Pc av (muP D cA w sz)) := fun a U g mk q => by
  obtain ⟨q0, q1, qP, qK, qD⟩ := q
  exact ⟨q0, q1, qP, va_K.moved (u := U) (U := U.calling g mk a) (Vm.Alike.refl U.vm) qK, qD⟩
def muB (D : va_G) (w : va_W) (sz : Nat) {S : Type} (w' : S → va_W) (u : S) (t : State) : Prop := va_P D vwCl (w' u) t.heap ∧ va_D (va_A w sz) (w' u)
def MuI (D : va_G) (cA : ClassId) (l : Launch) (y : MethodName) (cc : ByteArray) (nL : Nat) (rt : FieldType) (fr lo : Nat) (av : List Value) (w : va_W) {S : Type} (post : Int32 → S → Prop) (w' : S → va_W) : Prop :=
  ∀ sz : Nat, Met l y (wz y cc nL (some rt)) { frames := fr, cells := 0, slots := 0, locals := lo } (va_Pc av (muP D cA w sz)) (va_Qi post (muB D w sz w') (va_A w sz)) 0 0 (va_A w sz)
def MuV (D : va_G) (cA : ClassId) (l : Launch) (y : MethodName) (cc : ByteArray) (nL : Nat) (fr lo : Nat) (av : List Value) (w : va_W) {S : Type} (post : S → Prop) (w' : S → va_W) : Prop :=
  ∀ sz : Nat, Met l y (wz y cc nL none) { frames := fr, cells := 0, slots := 0, locals := lo } (va_Pc av (muP D cA w sz)) (va_Qv post (muB D w sz w') (va_A w sz)) 0 0 (va_A w sz)
/-- the answer is the cell a0 -/
def MuR (D : va_G) (cA : ClassId) (l : Launch) (y : MethodName) (cc : ByteArray) (nL : Nat) (rt : FieldType) (fr lo : Nat) (av : List Value) (w : va_W) (a0 : Nat) {S : Type} (post : S → Prop) (w' : S → va_W) : Prop :=
  ∀ sz : Nat, Met l y (wz y cc nL (some rt)) { frames := fr, cells := 0, slots := 0, locals := lo } (va_Pc av (muP D cA w sz)) (va_Qr post (fun u a t => a = a0 ∧ muB D w sz w' u t) (va_A w sz)) 0 0 (va_A w sz)
section ENMU
variable {D : va_G} {cA : ClassId} {l : Launch} {y : MethodName} {cc : ByteArray} {nL : Nat} {rt : FieldType} {fr lo : Nat} {av : List Value} {w : va_W} {S : Type} {w' : S → va_W}
theorem enMu {post : Int32 → S → Prop} (hy : plainName y.cls = true) (hn : (lg_sl av).length ≤ nL)
    (body : ∀ (p : Program) (e : Env) (s : State) (m : MethodId) (args : Array Value) (below : List Frame) (meth : Method) (c : Code) (Q : State → Prop) (ls : Array Slot) (A : Nat → Prop), CallFix p m c cc nL s args (wz y cc nL (some rt)) y.cls → va_K D vwCl [(cA, .int)] s → va_P D vwCl w s.heap → va_D A w → va_S A s.heap s.heap [] → (∀ q, s.heap.size ≤ q → A q) →
      (∀ (r : Int32) (u : S) (H : Heap) (locs : List Loc) (pc : Nat) (ls : Array Slot), decode cc pc = .ok (.ireturn, 1) → narrow rt (.int r) = .int r → post r u → va_P D vwCl (w' u) H → va_D A (w' u) → va_S A s.heap H locs → W p l e { frames := fr, cells := 0, slots := 0, locals := lo } s m args below meth c H locs 0 0 Q (F0 m pc ls [.int r])) →
      lv_has ls nL (lv_args 0 av) → W p l e { frames := fr, cells := 0, slots := 0, locals := lo } s m args below meth c s.heap [] 0 0 Q (F0 m 0 ls [])) : MuI D cA l y cc nL rt fr lo av w post w' := by
  intro sz
  refine Met.ofW (cc := cc) (maxL := nL) (ret := some rt) hy rfl ?_
  intro p e s m args below meth c s₁ B hml hv
  obtain ⟨rfl, rfl, hP, hK, hD⟩ := hv
  have hl := lv_entry av (n := nL) hn
  have hlocks := B.notSynchronized
  rw [lg_entry_eq]
  generalize (lg_sl av ++ List.replicate (nL - (lg_sl av).length) Slot.unset).toArray = ls at hl ⊢
  exact body p e s m _ below meth c _ ls (va_A w s.heap.size) ⟨B.exec, B.bytes, hml, findClass_of_methodNamed B.named, atoms_spec B.pre⟩ hK hP hD.self va_S.rf (fun q h => Or.inr h) (fun r u H locs pc ls hd hn hp hP hD hS => W.zret B.exec B.bytes B.returns hn (fun t ht hW => ⟨⟨r, u, rfl, hp, by rw [ht]; exact hP, hD⟩, hS.F ht⟩) hS.2.2 hd hlocks) hl
theorem enMv {post : S → Prop} (hy : plainName y.cls = true) (hn : (lg_sl av).length ≤ nL)
    (body : ∀ (p : Program) (e : Env) (s : State) (m : MethodId) (args : Array Value) (below : List Frame) (meth : Method) (c : Code) (Q : State → Prop) (ls : Array Slot) (A : Nat → Prop), CallFix p m c cc nL s args (wz y cc nL none) y.cls → va_K D vwCl [(cA, .int)] s → va_P D vwCl w s.heap → va_D A w → va_S A s.heap s.heap [] → (∀ q, s.heap.size ≤ q → A q) →
      (∀ (u : S) (H : Heap) (locs : List Loc) (pc : Nat) (ls : Array Slot), decode cc pc = .ok (.return_, 1) → post u → va_P D vwCl (w' u) H → va_D A (w' u) → va_S A s.heap H locs → W p l e { frames := fr, cells := 0, slots := 0, locals := lo } s m args below meth c H locs 0 0 Q (F0 m pc ls [])) →
      lv_has ls nL (lv_args 0 av) → W p l e { frames := fr, cells := 0, slots := 0, locals := lo } s m args below meth c s.heap [] 0 0 Q (F0 m 0 ls [])) : MuV D cA l y cc nL fr lo av w post w' := by
  intro sz
  refine Met.ofW (cc := cc) (maxL := nL) (ret := none) hy rfl ?_
  intro p e s m args below meth c s₁ B hml hv
  obtain ⟨rfl, rfl, hP, hK, hD⟩ := hv
  have hl := lv_entry av (n := nL) hn
  have hlocks := B.notSynchronized
  rw [lg_entry_eq]
  generalize (lg_sl av ++ List.replicate (nL - (lg_sl av).length) Slot.unset).toArray = ls at hl ⊢
  exact body p e s m _ below meth c _ ls (va_A w s.heap.size) ⟨B.exec, B.bytes, hml, findClass_of_methodNamed B.named, atoms_spec B.pre⟩ hK hP hD.self va_S.rf (fun q h => Or.inr h) (fun u H locs pc ls hd hp hP hD hS => W.vret B.exec B.bytes B.returns (fun t ht hW => ⟨⟨u, rfl, hp, by rw [ht]; exact hP, hD⟩, hS.F ht⟩) hS.2.2 hd hlocks) hl
theorem enMr {a0 : Nat} {post : S → Prop} (hrt : (∃ n, rt = .object n) ∨ ∃ t, rt = .array t) (hy : plainName y.cls = true) (hn : (lg_sl av).length ≤ nL)
    (body : ∀ (p : Program) (e : Env) (s : State) (m : MethodId) (args : Array Value) (below : List Frame) (meth : Method) (c : Code) (Q : State → Prop) (ls : Array Slot) (A : Nat → Prop), CallFix p m c cc nL s args (wz y cc nL (some rt)) y.cls → va_K D vwCl [(cA, .int)] s → va_P D vwCl w s.heap → va_D A w → va_S A s.heap s.heap [] → (∀ q, s.heap.size ≤ q → A q) →
      (∀ (u : S) (H : Heap) (locs : List Loc) (pc : Nat) (ls : Array Slot), decode cc pc = .ok (.areturn, 1) → post u → va_P D vwCl (w' u) H → va_D A (w' u) → va_S A s.heap H locs → W p l e { frames := fr, cells := 0, slots := 0, locals := lo } s m args below meth c H locs 0 0 Q (F0 m pc ls [.ref a0])) →
      lv_has ls nL (lv_args 0 av) → W p l e { frames := fr, cells := 0, slots := 0, locals := lo } s m args below meth c s.heap [] 0 0 Q (F0 m 0 ls [])) : MuR D cA l y cc nL rt fr lo av w a0 post w' := by
  intro sz
  refine Met.ofW (cc := cc) (maxL := nL) (ret := some rt) hy rfl ?_
  intro p e s m args below meth c s₁ B hml hv
  obtain ⟨rfl, rfl, hP, hK, hD⟩ := hv
  have hl := lv_entry av (n := nL) hn
  have hlocks := B.notSynchronized
  rw [lg_entry_eq]
  generalize (lg_sl av ++ List.replicate (nL - (lg_sl av).length) Slot.unset).toArray = ls at hl ⊢
  exact body p e s m _ below meth c _ ls (va_A w s.heap.size) ⟨B.exec, B.bytes, hml, findClass_of_methodNamed B.named, atoms_spec B.pre⟩ hK hP hD.self va_S.rf (fun q h => Or.inr h) (fun u H locs pc ls hd hp hP hD hS => W.aret B.exec B.bytes B.returns hrt (Or.inr ⟨_, rfl⟩) (fun t ht hW => ⟨⟨u, a0, rfl, hp, rfl, by rw [ht]; exact hP, hD⟩, hS.F ht⟩) hS.2.2 hd hlocks) hl
end ENMU
