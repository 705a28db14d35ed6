theorem vP_iff {D : va_G} {cl : List vw_C} {ws : va_W} {H : Heap} : va_P D cl ws H ↔ ∀ q ∈ ws, va_at D cl q H :=
  ⟨fun h q hq => by obtain ⟨k, hk⟩ := List.getElem?_of_mem hq; exact h k q hk, fun h k q hk => h q (List.mem_of_getElem? hk)⟩
theorem vD_iff {A : Nat → Prop} {ws : va_W} : va_D A ws ↔ (ws.map Prod.fst).Nodup ∧ ∀ q ∈ ws, A q.1 := by
  constructor
  · intro h
    refine ⟨?_, fun q hq => by obtain ⟨k, hk⟩ := List.getElem?_of_mem hq; exact h.2 k q hk⟩
    rw [List.Nodup, List.pairwise_iff_getElem]
    intro i j hi hj hij he
    simp only [List.length_map] at hi hj
    simp only [List.getElem_map] at he
    have := h.1 i j ws[i] ws[j] (List.getElem?_eq_getElem hi) (List.getElem?_eq_getElem hj) he
    omega
  · intro h
    refine ⟨?_, fun k q hk => h.2 q (List.mem_of_getElem? hk)⟩
    intro i j p q hi hj hpq
    obtain ⟨hi', rfl⟩ := List.getElem?_eq_some_iff.mp hi
    obtain ⟨hj', rfl⟩ := List.getElem?_eq_some_iff.mp hj
    have hn := h.1
    rw [List.Nodup, List.pairwise_iff_getElem] at hn
    rcases Nat.lt_trichotomy i j with c | c | c
    · have e := hn i j (by simpa using hi') (by simpa using hj') c
      simp only [List.getElem_map] at e
      exact absurd hpq e
    · exact c
    · have e := hn j i (by simpa using hj') (by simpa using hi') c
      simp only [List.getElem_map] at e
      exact absurd hpq.symm e
/-- behind a call on the middle of a world -/
theorem v_mid {A0 : Nat → Prop} {D : va_G} {cl : List vw_C} {w1 w w2 wn : va_W} {H H1 : Heap} (hP : va_P D cl (w1 ++ (w ++ w2)) H) (hD : va_D A0 (w1 ++ (w ++ w2)))
    (hk : ∀ q : Nat, q < H.size → ¬ va_A w H.size q → H1[q]? = H[q]?) (hF : ∀ q, va_A w H.size q → A0 q) (hP1 : va_P D cl wn H1) (hD1 : va_D (va_A w H.size) wn) : va_P D cl (w1 ++ (wn ++ w2)) H1 ∧ va_D A0 (w1 ++ (wn ++ w2)) := by
  rw [vP_iff] at hP hP1
  rw [vD_iff] at hD hD1
  obtain ⟨hn, hA⟩ := hD
  have hn1 : (((w1 ++ w2) ++ w).map Prod.fst).Nodup := by
    refine (List.Perm.nodup_iff (List.Perm.map _ ?_)).mp hn
    rw [List.append_assoc]
    exact List.Perm.append_left _ List.perm_append_comm
  rw [List.map_append, List.nodup_append] at hn1
  have ap : ∀ q ∈ w1 ++ w2, q.1 < H.size ∧ ¬ va_A w H.size q.1 := by
    intro q hq
    have hl : q.1 < H.size := (hP q (by simp only [List.mem_append] at hq ⊢; rcases hq with h | h <;> simp [h])).lt
    refine ⟨hl, fun h => ?_⟩
    rcases h with ⟨k, e, h⟩ | h
    · exact hn1.2.2 q.1 (List.mem_map.mpr ⟨q, hq, rfl⟩) q.1 (List.mem_map.mpr ⟨(q.1, e), List.mem_of_getElem? h, rfl⟩) rfl
    · omega
  constructor
  · rw [vP_iff]
    intro q hq
    simp only [List.mem_append] at hq
    have out : q ∈ w1 ++ w2 → va_at D cl q H1 := fun h => (hP q (by simp only [List.mem_append] at h ⊢; rcases h with h | h <;> simp [h])).kept (hk q.1 (ap q h).1 (ap q h).2)
    rcases hq with h | h | h
    · exact out (by simp [h])
    · exact hP1 q h
    · exact out (by simp [h])
  · rw [vD_iff]
    constructor
    · refine (List.Perm.nodup_iff (List.Perm.map _ (?_ : ((w1 ++ w2) ++ wn).Perm _))).mp ?_
      · rw [List.append_assoc]
        exact List.Perm.append_left _ List.perm_append_comm
      · rw [List.map_append, List.nodup_append]
        refine ⟨hn1.1, hD1.1, fun a ha b hb hab => ?_⟩
        obtain ⟨q, hq, rfl⟩ := List.mem_map.mp ha
        obtain ⟨r, hr, rfl⟩ := List.mem_map.mp hb
        exact (ap q hq).2 (by rw [hab]; exact hD1.2 r hr)
    · intro q hq
      simp only [List.mem_append] at hq
      rcases hq with h | h | h
      · exact hA q (by simp [h])
      · exact hF q.1 (hD1.2 q h)
      · exact hA q (by simp [h])
theorem v_mid0 {A0 : Nat → Prop} {D : va_G} {cl : List vw_C} {w1 w w2 : va_W} {H : Heap} (hP : va_P D cl (w1 ++ (w ++ w2)) H) : va_P D cl w H := by
  rw [vP_iff] at hP ⊢
  exact fun q hq => hP q (by simp [hq])
theorem v_midD {A0 : Nat → Prop} {w1 w w2 : va_W} (hD : va_D A0 (w1 ++ (w ++ w2))) : va_D A0 w := by
  rw [vD_iff] at hD ⊢
  refine ⟨?_, fun q hq => hD.2 q (by simp [hq])⟩
  have h := hD.1
  rw [List.map_append, List.map_append, List.nodup_append, List.nodup_append] at h
  exact h.2.1.1
theorem v_midF {A0 : Nat → Prop} {w1 w w2 : va_W} {H0 H : Heap} {locs : List Loc} (hD : va_D A0 (w1 ++ (w ++ w2))) (hS : va_S A0 H0 H locs) (hA : ∀ q, H0.size ≤ q → A0 q) : ∀ q, va_A w H.size q → A0 q := by
  intro q h
  rcases h with ⟨k, e, h⟩ | h
  · exact (v_midD hD).2 k (q, e) h
  · exact hA q (Nat.le_trans hS.1 h)
section CA
variable {p : Program} {l : Launch} {e : Env} {R : Room} {s : State} {m : MethodId} {args : Array Value} {below : List Frame} {meth : Method} {c : Code} {H H0 : Heap} {locs : List Loc} {Q : State → Prop} {A0 : Nat → Prop}
  {pc : Nat} {ls : Array Slot} {rest st0 : List Value} {D : va_G} {cA : ClassId} {cc cc0 cc1 : ByteArray} {nL nL0 nL1 idx n fr lo : Nat} {own C : String} {y y0 : MethodName} {rt : FieldType} {rt0 : Option FieldType} {b : Nat} {As : List Value} {w w1 w2 : va_W}
theorem caRoV {post : Int32 → Prop} (fx : CallFix p m c cc nL s args (wz y0 cc0 nL0 rt0) own) (hK : va_K D vwCl [(cA, .int)] s) (k : LkV own idx C y cc1 nL1 (some rt) n) (hM : RoI D cA l y cc1 nL1 rt fr lo (.ref b :: As) w post) (hP : va_P D vwCl w H)
    (q0 : Nat) {ci : Nat} {fs : List Value} (he : w[q0]? = some (b, .inr (ci, fs))) {T : u_T} {N : Nat} (hc : vwCl[ci]? = some (C, T, N)) (hR : fr + 1 ≤ R.frames ∧ 8 + (nL1 + 11) + lo ≤ R.locals) (hn : As.length = n) (hl : ls.size = nL) (hst : st0 = As.reverse ++ .ref b :: rest) (hW : (rest.map fun v => v.category).sum ≤ 8) (hdg : decode cc pc = .ok (.invokevirtual idx, 3))
    (kk : ∀ r : Int32, post r → W p l e R s m args below meth c H locs 0 0 Q (F0 m (pc + 3) ls (.int r :: rest))) : W p l e R s m args below meth c H locs 0 0 Q (F0 m pc ls st0) :=
  vp_callSi (W.runV (rest := rest) fx hM (cwzV fx.2.2.2.2 k hR) ⟨roP_blind, va_recv hK hP hc he, fun U hU hW => ⟨rfl, by rw [hU]; exact hP, va_K.moved hW.alike hK⟩⟩ rfl hn hl hst (lv_room hW) hdg ⟨Nat.zero_le _, Nat.zero_le _⟩) kk
theorem caRoS {post : Int32 → Prop} (fx : CallFix p m c cc nL s args (wz y0 cc0 nL0 rt0) own) (hK : va_K D vwCl [(cA, .int)] s) (k : LkS own idx y cc1 nL1 (some rt) n) (hM : RoI D cA l y cc1 nL1 rt fr lo As w post) (hP : va_P D vwCl w H)
    (hR : fr + 1 ≤ R.frames ∧ 8 + (nL1 + 11) + lo ≤ R.locals) (hn : As.length = n) (hl : ls.size = nL) (hst : st0 = As.reverse ++ rest) (hW : (rest.map fun v => v.category).sum ≤ 8) (hdg : decode cc pc = .ok (.invokestatic idx, 3))
    (kk : ∀ r : Int32, post r → W p l e R s m args below meth c H locs 0 0 Q (F0 m (pc + 3) ls (.int r :: rest))) : W p l e R s m args below meth c H locs 0 0 Q (F0 m pc ls st0) :=
  vp_callSi (W.runS (rest := rest) fx hM (cwzS fx.2.2.2.2 k hR) ⟨roP_blind, fun U hU hW => ⟨rfl, by rw [hU]; exact hP, va_K.moved hW.alike hK⟩⟩ rfl hn hl hst (lv_room hW) hdg ⟨Nat.zero_le _, Nat.zero_le _⟩) kk
theorem caRoLS {post : Int64 → Prop} (fx : CallFix p m c cc nL s args (wz y0 cc0 nL0 rt0) own) (hK : va_K D vwCl [(cA, .int)] s) (k : LkS own idx y cc1 nL1 (some .long) n) (hM : RoL D cA l y cc1 nL1 fr lo As w post) (hP : va_P D vwCl w H)
    (hR : fr + 1 ≤ R.frames ∧ 8 + (nL1 + 11) + lo ≤ R.locals) (hn : As.length = n) (hl : ls.size = nL) (hst : st0 = As.reverse ++ rest) (hW : (rest.map fun v => v.category).sum ≤ 8) (hdg : decode cc pc = .ok (.invokestatic idx, 3))
    (kk : ∀ r : Int64, post r → W p l e R s m args below meth c H locs 0 0 Q (F0 m (pc + 3) ls (.long r :: rest))) : W p l e R s m args below meth c H locs 0 0 Q (F0 m pc ls st0) :=
  vp_callSl (W.runS (rest := rest) fx hM (cwzS fx.2.2.2.2 k hR) ⟨roP_blind, fun U hU hW => ⟨rfl, by rw [hU]; exact hP, va_K.moved hW.alike hK⟩⟩ rfl hn hl hst (lv_room hW) hdg ⟨Nat.zero_le _, Nat.zero_le _⟩) kk
theorem caMuV {S : Type} {post : Int32 → S → Prop} {w' : S → va_W} (fx : CallFix p m c cc nL s args (wz y0 cc0 nL0 rt0) own) (hK : va_K D vwCl [(cA, .int)] s) (k : LkV own idx C y cc1 nL1 (some rt) n) (hM : MuI D cA l y cc1 nL1 rt fr lo (.ref b :: As) w post w')
    (hP : va_P D vwCl (w1 ++ (w ++ w2)) H) (hD : va_D A0 (w1 ++ (w ++ w2))) (hS : va_S A0 H0 H locs) (hA : ∀ q, H0.size ≤ q → A0 q)
    (q0 : Nat) {ci : Nat} {fs : List Value} (he : w[q0]? = some (b, .inr (ci, fs))) {T : u_T} {N : Nat} (hc : vwCl[ci]? = some (C, T, N)) (hR : fr + 1 ≤ R.frames ∧ 8 + (nL1 + 11) + lo ≤ R.locals) (hn : As.length = n) (hl : ls.size = nL) (hst : st0 = As.reverse ++ .ref b :: rest) (hW : (rest.map fun v => v.category).sum ≤ 8) (hdg : decode cc pc = .ok (.invokevirtual idx, 3))
    (kk : ∀ (r : Int32) (u : S) (H1 : Heap) (locs1 : List Loc), post r u → va_P D vwCl (w1 ++ (w' u ++ w2)) H1 → va_D A0 (w1 ++ (w' u ++ w2)) → va_S A0 H0 H1 locs1 → W p l e R s m args below meth c H1 locs1 0 0 Q (F0 m (pc + 3) ls (.int r :: rest))) : W p l e R s m args below meth c H locs 0 0 Q (F0 m pc ls st0) := by
  have hPc := v_mid0 (A0 := A0) hP
  have hFc := v_midF hD hS hA
  refine va_calli (va_runV (rest := rest) fx (hM H.size) (cwzV fx.2.2.2.2 k hR) ⟨muP_blind, va_recv hK hPc hc he, fun U hU hW => ⟨rfl, by rw [hU], by rw [hU]; exact hPc, va_K.moved hW.alike hK, (v_midD hD).weaken (fun _ _ _ _ => trivial)⟩⟩ rfl hn hl hst (lv_room hW) hdg ⟨Nat.zero_le _, Nat.zero_le _⟩) hS (fun q _ h => hFc q h) hFc (fun r u t H1 locs1 ht hvm hw hB hz1 hk1 hS1 => ?_)
  obtain ⟨hP1, hD1⟩ := hB
  rw [ht] at hP1
  obtain ⟨hP2, hD2⟩ := v_mid hP hD hk1 hFc hP1 hD1
  exact kk r u H1 locs1 hw hP2 hD2 hS1
theorem caMuVv {S : Type} {post : S → Prop} {w' : S → va_W} (fx : CallFix p m c cc nL s args (wz y0 cc0 nL0 rt0) own) (hK : va_K D vwCl [(cA, .int)] s) (k : LkV own idx C y cc1 nL1 none n) (hM : MuV D cA l y cc1 nL1 fr lo (.ref b :: As) w post w')
    (hP : va_P D vwCl (w1 ++ (w ++ w2)) H) (hD : va_D A0 (w1 ++ (w ++ w2))) (hS : va_S A0 H0 H locs) (hA : ∀ q, H0.size ≤ q → A0 q)
    (q0 : Nat) {ci : Nat} {fs : List Value} (he : w[q0]? = some (b, .inr (ci, fs))) {T : u_T} {N : Nat} (hc : vwCl[ci]? = some (C, T, N)) (hR : fr + 1 ≤ R.frames ∧ 8 + (nL1 + 11) + lo ≤ R.locals) (hn : As.length = n) (hl : ls.size = nL) (hst : st0 = As.reverse ++ .ref b :: rest) (hW : (rest.map fun v => v.category).sum ≤ 8) (hdg : decode cc pc = .ok (.invokevirtual idx, 3))
    (kk : ∀ (u : S) (H1 : Heap) (locs1 : List Loc), post u → va_P D vwCl (w1 ++ (w' u ++ w2)) H1 → va_D A0 (w1 ++ (w' u ++ w2)) → va_S A0 H0 H1 locs1 → W p l e R s m args below meth c H1 locs1 0 0 Q (F0 m (pc + 3) ls rest)) : W p l e R s m args below meth c H locs 0 0 Q (F0 m pc ls st0) := by
  have hPc := v_mid0 (A0 := A0) hP
  have hFc := v_midF hD hS hA
  refine va_callv (va_runV (rest := rest) fx (hM H.size) (cwzV fx.2.2.2.2 k hR) ⟨muP_blind, va_recv hK hPc hc he, fun U hU hW => ⟨rfl, by rw [hU], by rw [hU]; exact hPc, va_K.moved hW.alike hK, (v_midD hD).weaken (fun _ _ _ _ => trivial)⟩⟩ rfl hn hl hst (lv_room hW) hdg ⟨Nat.zero_le _, Nat.zero_le _⟩) hS (fun q _ h => hFc q h) hFc (fun u t H1 locs1 ht hvm hw hB hz1 hk1 hS1 => ?_)
  obtain ⟨hP1, hD1⟩ := hB
  rw [ht] at hP1
  obtain ⟨hP2, hD2⟩ := v_mid hP hD hk1 hFc hP1 hD1
  exact kk u H1 locs1 hw hP2 hD2 hS1
theorem caMuVr {S : Type} {a0 : Nat} {post : S → Prop} {w' : S → va_W} (fx : CallFix p m c cc nL s args (wz y0 cc0 nL0 rt0) own) (hK : va_K D vwCl [(cA, .int)] s) (k : LkV own idx C y cc1 nL1 (some rt) n) (hM : MuR D cA l y cc1 nL1 rt fr lo (.ref b :: As) w a0 post w')
    (hP : va_P D vwCl (w1 ++ (w ++ w2)) H) (hD : va_D A0 (w1 ++ (w ++ w2))) (hS : va_S A0 H0 H locs) (hA : ∀ q, H0.size ≤ q → A0 q)
    (q0 : Nat) {ci : Nat} {fs : List Value} (he : w[q0]? = some (b, .inr (ci, fs))) {T : u_T} {N : Nat} (hc : vwCl[ci]? = some (C, T, N)) (hR : fr + 1 ≤ R.frames ∧ 8 + (nL1 + 11) + lo ≤ R.locals) (hn : As.length = n) (hl : ls.size = nL) (hst : st0 = As.reverse ++ .ref b :: rest) (hW : (rest.map fun v => v.category).sum ≤ 8) (hdg : decode cc pc = .ok (.invokevirtual idx, 3))
    (kk : ∀ (u : S) (H1 : Heap) (locs1 : List Loc), post u → va_P D vwCl (w1 ++ (w' u ++ w2)) H1 → va_D A0 (w1 ++ (w' u ++ w2)) → va_S A0 H0 H1 locs1 → W p l e R s m args below meth c H1 locs1 0 0 Q (F0 m (pc + 3) ls (.ref a0 :: rest))) : W p l e R s m args below meth c H locs 0 0 Q (F0 m pc ls st0) := by
  have hPc := v_mid0 (A0 := A0) hP
  have hFc := v_midF hD hS hA
  refine va_callr (va_runV (rest := rest) fx (hM H.size) (cwzV fx.2.2.2.2 k hR) ⟨muP_blind, va_recv hK hPc hc he, fun U hU hW => ⟨rfl, by rw [hU], by rw [hU]; exact hPc, va_K.moved hW.alike hK, (v_midD hD).weaken (fun _ _ _ _ => trivial)⟩⟩ rfl hn hl hst (lv_room hW) hdg ⟨Nat.zero_le _, Nat.zero_le _⟩) hS (fun q _ h => hFc q h) hFc ?_
  intro u a t H1 locs1 ht hvm hw hB hz1 hk1 hS1
  obtain ⟨rfl, hP1, hD1⟩ := hB
  rw [ht] at hP1
  obtain ⟨hP2, hD2⟩ := v_mid hP hD hk1 hFc hP1 hD1
  exact kk u H1 locs1 hw hP2 hD2 hS1
theorem caMuSv {S : Type} {post : S → Prop} {w' : S → va_W} (fx : CallFix p m c cc nL s args (wz y0 cc0 nL0 rt0) own) (hK : va_K D vwCl [(cA, .int)] s) (k : LkS own idx y cc1 nL1 none n) (hM : MuV D cA l y cc1 nL1 fr lo As w post w')
    (hP : va_P D vwCl (w1 ++ (w ++ w2)) H) (hD : va_D A0 (w1 ++ (w ++ w2))) (hS : va_S A0 H0 H locs) (hA : ∀ q, H0.size ≤ q → A0 q)
    (hR : fr + 1 ≤ R.frames ∧ 8 + (nL1 + 11) + lo ≤ R.locals) (hn : As.length = n) (hl : ls.size = nL) (hst : st0 = As.reverse ++ rest) (hW : (rest.map fun v => v.category).sum ≤ 8) (hdg : decode cc pc = .ok (.invokestatic idx, 3))
    (kk : ∀ (u : S) (H1 : Heap) (locs1 : List Loc), post u → va_P D vwCl (w1 ++ (w' u ++ w2)) H1 → va_D A0 (w1 ++ (w' u ++ w2)) → va_S A0 H0 H1 locs1 → W p l e R s m args below meth c H1 locs1 0 0 Q (F0 m (pc + 3) ls rest)) : W p l e R s m args below meth c H locs 0 0 Q (F0 m pc ls st0) := by
  have hPc := v_mid0 (A0 := A0) hP
  have hFc := v_midF hD hS hA
  refine va_callv (va_runS (rest := rest) fx (hM H.size) (cwzS fx.2.2.2.2 k hR) ⟨muP_blind, fun U hU hW => ⟨rfl, by rw [hU], by rw [hU]; exact hPc, va_K.moved hW.alike hK, (v_midD hD).weaken (fun _ _ _ _ => trivial)⟩⟩ rfl hn hl hst (lv_room hW) hdg ⟨Nat.zero_le _, Nat.zero_le _⟩) hS (fun q _ h => hFc q h) hFc (fun u t H1 locs1 ht hvm hw hB hz1 hk1 hS1 => ?_)
  obtain ⟨hP1, hD1⟩ := hB
  rw [ht] at hP1
  obtain ⟨hP2, hD2⟩ := v_mid hP hD hk1 hFc hP1 hD1
  exact kk u H1 locs1 hw hP2 hD2 hS1
/-- a static call that changes the one cell at place q0 (Rows.put, Arrays.fill) -/
theorem caCell {f : Nat → Int32} {post : (Nat → Int32) → Prop} {nA a : Nat} {ws : va_W} (fx : CallFix p m c cc nL s args (wz y0 cc0 nL0 rt0) own) (hK : va_K D vwCl [(cA, .int)] s) (k : LkS own idx y cc1 nL1 none n) (hM : MuV D cA l y cc1 nL1 fr lo As [(a, .inl (cA, nA, .inl f))] post (fun u => [(a, .inl (cA, nA, .inl u))]))
    (hP : va_P D vwCl ws H) (hD : va_D A0 ws) (hS : va_S A0 H0 H locs) (hA : ∀ q, H0.size ≤ q → A0 q) (q0 : Nat) (he : ws[q0]? = some (a, .inl (cA, nA, .inl f)))
    (hR : fr + 1 ≤ R.frames ∧ 8 + (nL1 + 11) + lo ≤ R.locals) (hn : As.length = n) (hl : ls.size = nL) (hst : st0 = As.reverse ++ rest) (hW : (rest.map fun v => v.category).sum ≤ 8) (hdg : decode cc pc = .ok (.invokestatic idx, 3))
    (kk : ∀ (u : Nat → Int32) (H1 : Heap) (locs1 : List Loc), post u → va_P D vwCl (ws.set q0 (a, .inl (cA, nA, .inl u))) H1 → va_D A0 (ws.set q0 (a, .inl (cA, nA, .inl u))) → va_S A0 H0 H1 locs1 → W p l e R s m args below meth c H1 locs1 0 0 Q (F0 m (pc + 3) ls rest)) : W p l e R s m args below meth c H locs 0 0 Q (F0 m pc ls st0) := by
  obtain ⟨hq, hx⟩ := List.getElem?_eq_some_iff.mp he
  have hsplit : ws = ws.take q0 ++ ([(a, .inl (cA, nA, .inl f))] ++ ws.drop (q0 + 1)) := by
    rw [← hx]
    simp
  have hset : ∀ v, ws.set q0 v = ws.take q0 ++ ([v] ++ ws.drop (q0 + 1)) := fun v => by
    rw [List.set_eq_take_append_cons_drop, if_pos hq]; rfl
  rw [hsplit] at hP hD
  refine caMuSv fx hK k hM hP hD hS hA hR hn hl hst hW hdg (fun u H1 locs1 hu hP1 hD1 hS1 => ?_)
  have kk := kk u H1 locs1 hu
  rw [hset] at kk
  exact kk hP1 hD1 hS1
theorem gz {ws : va_W} {ci k q0 a : Nat} {fs : List Value} {v : Value} (fx : CallFix p m c cc nL s args (wz y0 cc0 nL0 rt0) own) (hK : va_K D vwCl [(cA, .int)] s) (hP : va_P D vwCl ws H) (fl : FL own idx ci k) (he : ws[q0]? = some (a, .inr (ci, fs))) (hv : fs[k]? = some v) (hdg : decode cc pc = .ok (.getfield idx, 3))
    (kk : W p l e R s m args below meth c H locs 0 0 Q (F0 m (pc + 3) ls (v :: rest))) : W p l e R s m args below meth c H locs 0 0 Q (F0 m pc ls (.ref a :: rest)) := by
  obtain ⟨C, T, N, hc, hin, hk, hl, hd⟩ := fl
  obtain ⟨hx, hb, hml, hown, hts⟩ := fx
  exact va_get (ref := C) hx hb hts (fun w h => List.mem_cons_of_mem _ (hin w h)) hown hK hP q0 he hc k hk (hts _ (List.mem_cons_of_mem _ hl)) (fun _ h => by rw [← hd]; exact h) hv hdg kk
theorem pz {ws : va_W} {ci k q0 a : Nat} {fs : List Value} {v : Value} {ty : FieldType} (fx : CallFix p m c cc nL s args (wz y0 cc0 nL0 rt0) own) (hK : va_K D vwCl [(cA, .int)] s) (hP : va_P D vwCl ws H) (hD : va_D A0 ws) (hS : va_S A0 H0 H locs) (fl : FP own idx ci k ty) (he : ws[q0]? = some (a, .inr (ci, fs))) (hn : narrow ty v = v) (hfit : fits ty v = true) (hl : k < fs.length) (hdg : decode cc pc = .ok (.putfield idx, 3))
    (kk : ∀ (H1 : Heap) (locs1 : List Loc), va_P D vwCl (ws.set q0 (a, .inr (ci, fs.set k v))) H1 → va_D A0 (ws.set q0 (a, .inr (ci, fs.set k v))) → va_S A0 H0 H1 locs1 → W p l e R s m args below meth c H1 locs1 0 0 Q (F0 m (pc + 3) ls rest)) : W p l e R s m args below meth c H locs 0 0 Q (F0 m pc ls (v :: .ref a :: rest)) := by
  obtain ⟨C, T, N, hc, hin, hk, hlk, hd, hfin, hty, ⟨ty0, h0⟩, hnm⟩ := fl
  obtain ⟨hx, hb, hml, hown, hts⟩ := fx
  exact va_put (ref := C) hx hb hts (fun w h => List.mem_cons_of_mem _ (hin w h)) ty0 h0 hnm hown hK hP hD hS q0 he hc k hk (hts _ (List.mem_cons_of_mem _ hlk)) (fun _ h => by rw [← hd]; exact h) hfin hty hn hfit hl hdg kk
theorem az {ws : va_W} {nA a : Nat} {f : Nat → Int32} {i x : Int32} (hx : p.tables.exec = Jvm.exec) (hb : c.code = cc) (hK : va_K D vwCl [(cA, .int)] s) (hP : va_P D vwCl ws H) (hD : va_D A0 ws) (hS : va_S A0 H0 H locs) (q0 : Nat) (ha : ws[q0]? = some (a, .inl (cA, nA, .inl f))) (hin : vp_in i nA) (hdg : decode cc pc = .ok (.iastore, 1))
    (kk : ∀ (g : Nat → Int32) (H1 : Heap) (locs1 : List Loc), g = upd f i.toNatClampNeg x → va_P D vwCl (ws.set q0 (a, .inl (cA, nA, .inl g))) H1 → va_D A0 (ws.set q0 (a, .inl (cA, nA, .inl g))) → va_S A0 H0 H1 locs1 → W p l e R s m args below meth c H1 locs1 0 0 Q (F0 m (pc + 1) ls rest)) : W p l e R s m args below meth c H locs 0 0 Q (F0 m pc ls (.int x :: .int i :: .ref a :: rest)) :=
  va_iast hx hb hK hP hD hS q0 0 ha rfl hin hdg (fun H1 locs1 h1 h2 h3 => kk _ H1 locs1 rfl h1 h2 h3)
end CA
/-! loops: an invariant and a measure -/
def Lp {σ : Type} (step : (σ → Prop) → σ → Prop) (s : σ) : Prop := ∃ (I : σ → Prop) (μ : σ → Nat), I s ∧ ∀ t, I t → step (fun t' => I t' ∧ μ t' < μ t) t
theorem Lp_go {σ : Type} {step : (σ → Prop) → σ → Prop} {C : σ → Prop} (hb : ∀ k : σ → Prop, (∀ t, k t → C t) → ∀ t, step k t → C t) {s : σ} (h : Lp step s) : C s := by
  obtain ⟨I, μ, h0, hs⟩ := h
  have go : ∀ (n : Nat) (t : σ), μ t < n → I t → C t := by
    intro n
    induction n with
    | zero => intro t h; omega
    | succ n ih => intro t hm hI; exact hb _ (fun t' h => ih t' (by omega) h.1) t (hs t hI)
  exact go _ s (Nat.lt_succ_self _) h0
abbrev ix (i : Int32) : Nat := i.toNatClampNeg
theorem ne_i {x : Int32} (k : Int) (c : Int32) (hc : c.toInt = k) (h : ¬ x = c) : x.toInt ≠ k := fun h2 => h (Int32.toInt_inj.mp (by rw [h2, hc]))
