theorem in_r1 : ∀ w ∈ wsL_law_r1, w ∈ wsL_law := fun w h => by unfold wsL_law; simp only [List.mem_append, h, true_or, or_true]
theorem in_r2 : ∀ w ∈ wsL_law_r2, w ∈ wsL_law := fun w h => by unfold wsL_law; simp only [List.mem_append, h, true_or, or_true]
theorem in_r3 : ∀ w ∈ wsL_law_r3, w ∈ wsL_law := fun w h => by unfold wsL_law; simp only [List.mem_append, h, true_or, or_true]
theorem in_r4 : ∀ w ∈ wsL_law_r4, w ∈ wsL_law := fun w h => by unfold wsL_law; simp only [List.mem_append, h, true_or, or_true]
theorem in_r5 : ∀ w ∈ wsL_law_r5, w ∈ wsL_law := fun w h => by unfold wsL_law; simp only [List.mem_append, h, true_or, or_true]
theorem in_r6 : ∀ w ∈ wsL_law_r6, w ∈ wsL_law := fun w h => by unfold wsL_law; simp only [List.mem_append, h, true_or, or_true]
theorem in_r7 : ∀ w ∈ wsL_law_r7, w ∈ wsL_law := fun w h => by unfold wsL_law; simp only [List.mem_append, h, true_or, or_true]
theorem in_r8 : ∀ w ∈ wsL_law_r8, w ∈ wsL_law := fun w h => by unfold wsL_law; simp only [List.mem_append, h, true_or, or_true]
theorem in_r9 : ∀ w ∈ wsL_law_r9, w ∈ wsL_law := fun w h => by unfold wsL_law; simp only [List.mem_append, h, true_or, or_true]
theorem in_r10 : ∀ w ∈ wsL_law_r10, w ∈ wsL_law := fun w h => by unfold wsL_law; simp only [List.mem_append, h, true_or, or_true]
theorem in_r11 : ∀ w ∈ wsL_law_r11, w ∈ wsL_law := fun w h => by unfold wsL_law; simp only [List.mem_append, h, true_or, or_true]
theorem in_r12 : ∀ w ∈ wsL_law_r12, w ∈ wsL_law := fun w h => by unfold wsL_law; simp only [List.mem_append, h, true_or, or_true]
theorem in_r13 : ∀ w ∈ wsL_law_r13, w ∈ wsL_law := fun w h => by unfold wsL_law; simp only [List.mem_append, h, true_or, or_true]
theorem in_r14 : ∀ w ∈ wsL_law_r14, w ∈ wsL_law := fun w h => by unfold wsL_law; simp only [List.mem_append, h, true_or, or_true]
theorem in_r15 : ∀ w ∈ wsL_law_r15, w ∈ wsL_law := fun w h => by unfold wsL_law; simp only [List.mem_append, h, true_or, or_true]
theorem in_r16 : ∀ w ∈ wsL_law_r16, w ∈ wsL_law := fun w h => by unfold wsL_law; simp only [List.mem_append, h, true_or, or_true]
theorem in_r17 : ∀ w ∈ wsL_law_r17, w ∈ wsL_law := fun w h => by unfold wsL_law; simp only [List.mem_append, h, true_or, or_true]
theorem in_r18 : ∀ w ∈ wsL_law_r18, w ∈ wsL_law := fun w h => by unfold wsL_law; simp only [List.mem_append, h, true_or, or_true]
theorem in_r19 : ∀ w ∈ wsL_law_r19, w ∈ wsL_law := fun w h => by unfold wsL_law; simp only [List.mem_append, h, true_or, or_true]
theorem in_r20 : ∀ w ∈ wsL_law_r20, w ∈ wsL_law := fun w h => by unfold wsL_law; simp only [List.mem_append, h, true_or, or_true]
theorem in_r21 : ∀ w ∈ wsL_law_r21, w ∈ wsL_law := fun w h => by unfold wsL_law; simp only [List.mem_append, h, true_or, or_true]
theorem in_r22 : ∀ w ∈ wsL_law_r22, w ∈ wsL_law := fun w h => by unfold wsL_law; simp only [List.mem_append, h, true_or, or_true]
theorem in_r23 : ∀ w ∈ wsL_law_r23, w ∈ wsL_law := fun w h => by unfold wsL_law; simp only [List.mem_append, h, true_or, or_true]
theorem in_r24 : ∀ w ∈ wsL_law_r24, w ∈ wsL_law := fun w h => by unfold wsL_law; simp only [List.mem_append, h, true_or, or_true]
theorem in_r25 : ∀ w ∈ wsL_law_r25, w ∈ wsL_law := fun w h => by unfold wsL_law; simp only [List.mem_append, h, true_or, or_true]
theorem in_r26 : ∀ w ∈ wsL_law_r26, w ∈ wsL_law := fun w h => by unfold wsL_law; simp only [List.mem_append, h, true_or, or_true]
theorem in_r27 : ∀ w ∈ wsL_law_r27, w ∈ wsL_law := fun w h => by unfold wsL_law; simp only [List.mem_append, h, true_or, or_true]
theorem in_r28 : ∀ w ∈ wsL_law_r28, w ∈ wsL_law := fun w h => by unfold wsL_law; simp only [List.mem_append, h, true_or, or_true]
theorem in_r29 : ∀ w ∈ wsL_law_r29, w ∈ wsL_law := fun w h => by unfold wsL_law; simp only [List.mem_append, h, true_or, or_true]
theorem in_r30 : ∀ w ∈ wsL_law_r30, w ∈ wsL_law := fun w h => by unfold wsL_law; simp only [List.mem_append, h, true_or, or_true]
theorem in_r31 : ∀ w ∈ wsL_law_r31, w ∈ wsL_law := fun w h => by unfold wsL_law; simp only [List.mem_append, h, true_or, or_true]
theorem in_r32 : ∀ w ∈ wsL_law_r32, w ∈ wsL_law := fun w h => by unfold wsL_law; simp only [List.mem_append, h, true_or, or_true]
theorem in_r33 : ∀ w ∈ wsL_law_r33, w ∈ wsL_law := fun w h => by unfold wsL_law; simp only [List.mem_append, h, true_or, or_true]
theorem in_r34 : ∀ w ∈ wsL_law_r34, w ∈ wsL_law := fun w h => by unfold wsL_law; simp only [List.mem_append, h, true_or, or_true]
theorem in_r35 : ∀ w ∈ wsL_law_r35, w ∈ wsL_law := fun w h => by unfold wsL_law; simp only [List.mem_append, h, true_or, or_true]
theorem in_r36 : ∀ w ∈ wsL_law_r36, w ∈ wsL_law := fun w h => by unfold wsL_law; simp only [List.mem_append, h, true_or, or_true]
theorem inlX1 : ∀ w ∈ wsX10, w ∈ wsL_law := fun _ h => List.mem_append_left _ (List.mem_append_left _ (List.mem_append_left _ (List.mem_append_right _ h)))
theorem inlX2 : ∀ w ∈ wsX20, w ∈ wsL_law := fun _ h => List.mem_append_left _ (List.mem_append_right _ h)
theorem inlX4 : ∀ w ∈ wsX40, w ∈ wsL_law := fun _ h => List.mem_append_left _ (List.mem_append_left _ (List.mem_append_right _ h))
theorem inlX5 : ∀ w ∈ wsX50, w ∈ wsL_law := fun _ h => List.mem_append_left _ (List.mem_append_left _ (List.mem_append_left _ (List.mem_append_left _ (List.mem_append_right _ h))))
theorem inlX6 : ∀ w ∈ wsX60, w ∈ wsL_law := fun _ h => List.mem_append_left _ (List.mem_append_left _ (List.mem_append_left _ (List.mem_append_left _ (List.mem_append_left _ (List.mem_append_left _ (List.mem_append_right _ h))))))
theorem inlX7 : ∀ w ∈ wsX70, w ∈ wsL_law := fun _ h => List.mem_append_left _ (List.mem_append_left _ (List.mem_append_left _ (List.mem_append_left _ (List.mem_append_left _ (List.mem_append_right _ h)))))
theorem q_1_2 : Cond.initialized RX6 ∈ wsL_law := in_r1 _ (List.mem_of_getElem? (i := 2) rfl)
theorem q_1_5 : Cond.initialized RX7 ∈ wsL_law := in_r1 _ (List.mem_of_getElem? (i := 5) rfl)
theorem q_1_14 : Cond.initialized RX5 ∈ wsL_law := in_r1 _ (List.mem_of_getElem? (i := 14) rfl)
theorem q_1_15 : Cond.fieldLink RX6 10 "HomingNets" "text" "LHomingNets$Text;" ∈ wsL_law := in_r1 _ (List.mem_of_getElem? (i := 15) rfl)
theorem q_1_18 : Cond.initialized RX1 ∈ wsL_law := in_r1 _ (List.mem_of_getElem? (i := 18) rfl)
theorem q_1_19 : Cond.fieldLink RX6 19 "HomingNets" "net" "LHomingNets$Net;" ∈ wsL_law := in_r1 _ (List.mem_of_getElem? (i := 19) rfl)
theorem q_1_20 : Cond.fieldLink RX6 23 "HomingNets" "draft" "LHomingNets$Net;" ∈ wsL_law := in_r1 _ (List.mem_of_getElem? (i := 20) rfl)
theorem q_1_23 : Cond.initialized RX4 ∈ wsL_law := in_r1 _ (List.mem_of_getElem? (i := 23) rfl)
theorem q_2_0 : Cond.fieldLink RX6 29 "HomingNets" "survey" "LHomingNets$Survey;" ∈ wsL_law := in_r2 _ (List.mem_of_getElem? (i := 0) rfl)
theorem q_2_3 : Cond.initialized RX2 ∈ wsL_law := in_r2 _ (List.mem_of_getElem? (i := 3) rfl)
theorem q_2_4 : Cond.fieldLink RX6 36 "HomingNets" "past" "LHomingNets$Past;" ∈ wsL_law := in_r2 _ (List.mem_of_getElem? (i := 4) rfl)
theorem q_2_10 : Cond.fieldLink RX5 9 "HomingNets$Text" "letters" "[I" ∈ wsL_law := in_r2 _ (List.mem_of_getElem? (i := 10) rfl)
theorem q_2_15 : Cond.fieldLink RX1 9 "HomingNets$Net" "linked" "[I" ∈ wsL_law := in_r2 _ (List.mem_of_getElem? (i := 15) rfl)
theorem q_2_16 : Cond.fieldLink RX1 15 "HomingNets$Net" "weight" "[I" ∈ wsL_law := in_r2 _ (List.mem_of_getElem? (i := 16) rfl)
theorem q_2_21 : Cond.fieldLink RX4 9 "HomingNets$Survey" "wanted" "[I" ∈ wsL_law := in_r2 _ (List.mem_of_getElem? (i := 21) rfl)
theorem q_2_22 : Cond.fieldLink RX4 15 "HomingNets$Survey" "movesLeft" "[I" ∈ wsL_law := in_r2 _ (List.mem_of_getElem? (i := 22) rfl)
theorem q_2_23 : Cond.fieldLink RX4 18 "HomingNets$Survey" "worst" "[I" ∈ wsL_law := in_r2 _ (List.mem_of_getElem? (i := 23) rfl)
theorem q_3_0 : Cond.fieldLink RX4 21 "HomingNets$Survey" "best" "[I" ∈ wsL_law := in_r3 _ (List.mem_of_getElem? (i := 0) rfl)
theorem q_3_1 : Cond.fieldLink RX4 24 "HomingNets$Survey" "hits" "[I" ∈ wsL_law := in_r3 _ (List.mem_of_getElem? (i := 1) rfl)
theorem q_3_2 : Cond.fieldLink RX4 27 "HomingNets$Survey" "spare" "[I" ∈ wsL_law := in_r3 _ (List.mem_of_getElem? (i := 2) rfl)
theorem q_3_7 : Cond.fieldLink RX2 9 "HomingNets$Past" "states" "[I" ∈ wsL_law := in_r3 _ (List.mem_of_getElem? (i := 7) rfl)
theorem q_3_8 : Cond.fieldLink RX2 15 "HomingNets$Past" "movers" "[I" ∈ wsL_law := in_r3 _ (List.mem_of_getElem? (i := 8) rfl)
theorem q_5_10 : Cond.methodLink RX6 52 yX5_append ∈ wsL_law := in_r5 _ (List.mem_of_getElem? (i := 10) rfl)
theorem q_5_11 : Cond.instanceMethod yX5_append ∈ wsL_law := in_r5 _ (List.mem_of_getElem? (i := 11) rfl)
theorem q_5_12 : Cond.selects RX5 yX5_append yX5_append ∈ wsL_law := in_r5 _ (List.mem_of_getElem? (i := 12) rfl)
theorem q_5_13 : Cond.code yX5_append cX5_append 2 (some .boolean) ∈ wsL_law := in_r5 _ (List.mem_of_getElem? (i := 13) rfl)
theorem q_5_14 : Cond.fieldLink RX5 15 "HomingNets$Text" "many" "I" ∈ wsL_law := in_r5 _ (List.mem_of_getElem? (i := 14) rfl)
theorem q_5_15 : Cond.methodLink RX5 19 yX3_put ∈ wsL_law := in_r5 _ (List.mem_of_getElem? (i := 15) rfl)
theorem q_5_16 : Cond.static yX3_put ∈ wsL_law := in_r5 _ (List.mem_of_getElem? (i := 16) rfl)
theorem q_5_17 : Cond.initialized RX3 ∈ wsL_law := in_r5 _ (List.mem_of_getElem? (i := 17) rfl)
theorem q_5_18 : Cond.code yX3_put cX3_put 3 none ∈ wsL_law := in_r5 _ (List.mem_of_getElem? (i := 18) rfl)
theorem q_5_19 : Cond.methodLink RX6 56 yX5_readInto ∈ wsL_law := in_r5 _ (List.mem_of_getElem? (i := 19) rfl)
theorem q_5_20 : Cond.instanceMethod yX5_readInto ∈ wsL_law := in_r5 _ (List.mem_of_getElem? (i := 20) rfl)
theorem q_5_21 : Cond.selects RX5 yX5_readInto yX5_readInto ∈ wsL_law := in_r5 _ (List.mem_of_getElem? (i := 21) rfl)
theorem q_5_22 : Cond.code yX5_readInto cX5_readInto 4 (some .int) ∈ wsL_law := in_r5 _ (List.mem_of_getElem? (i := 22) rfl)
theorem q_5_23 : Cond.methodLink RX5 25 yX5_readItem ∈ wsL_law := in_r5 _ (List.mem_of_getElem? (i := 23) rfl)
theorem q_6_0 : Cond.instanceMethod yX5_readItem ∈ wsL_law := in_r6 _ (List.mem_of_getElem? (i := 0) rfl)
theorem q_6_1 : Cond.selects RX5 yX5_readItem yX5_readItem ∈ wsL_law := in_r6 _ (List.mem_of_getElem? (i := 1) rfl)
theorem q_6_2 : Cond.code yX5_readItem cX5_readItem 6 (some .boolean) ∈ wsL_law := in_r6 _ (List.mem_of_getElem? (i := 2) rfl)
theorem q_6_3 : Cond.methodLink RX5 33 yX5_figureAt ∈ wsL_law := in_r6 _ (List.mem_of_getElem? (i := 3) rfl)
theorem q_6_4 : Cond.instanceMethod yX5_figureAt ∈ wsL_law := in_r6 _ (List.mem_of_getElem? (i := 4) rfl)
theorem q_6_5 : Cond.selects RX5 yX5_figureAt yX5_figureAt ∈ wsL_law := in_r6 _ (List.mem_of_getElem? (i := 5) rfl)
theorem q_6_6 : Cond.code yX5_figureAt cX5_figureAt 3 (some .int) ∈ wsL_law := in_r6 _ (List.mem_of_getElem? (i := 6) rfl)
theorem q_6_7 : Cond.methodLink RX5 29 yX5_letterAt ∈ wsL_law := in_r6 _ (List.mem_of_getElem? (i := 7) rfl)
theorem q_6_8 : Cond.instanceMethod yX5_letterAt ∈ wsL_law := in_r6 _ (List.mem_of_getElem? (i := 8) rfl)
theorem q_6_9 : Cond.selects RX5 yX5_letterAt yX5_letterAt ∈ wsL_law := in_r6 _ (List.mem_of_getElem? (i := 9) rfl)
theorem q_6_10 : Cond.code yX5_letterAt cX5_letterAt 2 (some .int) ∈ wsL_law := in_r6 _ (List.mem_of_getElem? (i := 10) rfl)
theorem q_6_11 : Cond.methodLink RX5 49 yX3_at ∈ wsL_law := in_r6 _ (List.mem_of_getElem? (i := 11) rfl)
theorem q_6_12 : Cond.static yX3_at ∈ wsL_law := in_r6 _ (List.mem_of_getElem? (i := 12) rfl)
theorem q_6_13 : Cond.code yX3_at cX3_at 2 (some .int) ∈ wsL_law := in_r6 _ (List.mem_of_getElem? (i := 13) rfl)
theorem q_6_14 : Cond.methodLink RX5 36 yX1_begin ∈ wsL_law := in_r6 _ (List.mem_of_getElem? (i := 14) rfl)
theorem q_6_15 : Cond.instanceMethod yX1_begin ∈ wsL_law := in_r6 _ (List.mem_of_getElem? (i := 15) rfl)
theorem q_6_16 : Cond.selects RX1 yX1_begin yX1_begin ∈ wsL_law := in_r6 _ (List.mem_of_getElem? (i := 16) rfl)
theorem q_6_17 : Cond.code yX1_begin cX1_begin 6 (some .boolean) ∈ wsL_law := in_r6 _ (List.mem_of_getElem? (i := 17) rfl)
theorem q_6_18 : Cond.fieldLink RX1 24 "HomingNets$Net" "kind" "I" ∈ wsL_law := in_r6 _ (List.mem_of_getElem? (i := 18) rfl)
theorem q_6_19 : Cond.fieldLink RX1 28 "HomingNets$Net" "machines" "I" ∈ wsL_law := in_r6 _ (List.mem_of_getElem? (i := 19) rfl)
theorem q_6_20 : Cond.fieldLink RX1 31 "HomingNets$Net" "range" "I" ∈ wsL_law := in_r6 _ (List.mem_of_getElem? (i := 20) rfl)
theorem q_6_21 : Cond.fieldLink RX1 34 "HomingNets$Net" "states" "I" ∈ wsL_law := in_r6 _ (List.mem_of_getElem? (i := 21) rfl)
theorem q_6_22 : Cond.fieldLink RX1 37 "HomingNets$Net" "wires" "I" ∈ wsL_law := in_r6 _ (List.mem_of_getElem? (i := 22) rfl)
theorem q_6_23 : Cond.fieldLink RX1 40 "HomingNets$Net" "start" "I" ∈ wsL_law := in_r6 _ (List.mem_of_getElem? (i := 23) rfl)
theorem q_7_0 : Cond.methodLink RX1 18 yX3_put ∈ wsL_law := in_r7 _ (List.mem_of_getElem? (i := 0) rfl)
theorem q_7_1 : Cond.methodLink RX5 42 yX1_addWire ∈ wsL_law := in_r7 _ (List.mem_of_getElem? (i := 1) rfl)
theorem q_7_2 : Cond.instanceMethod yX1_addWire ∈ wsL_law := in_r7 _ (List.mem_of_getElem? (i := 2) rfl)
theorem q_7_3 : Cond.selects RX1 yX1_addWire yX1_addWire ∈ wsL_law := in_r7 _ (List.mem_of_getElem? (i := 3) rfl)
theorem q_7_4 : Cond.code yX1_addWire cX1_addWire 3 (some .boolean) ∈ wsL_law := in_r7 _ (List.mem_of_getElem? (i := 4) rfl)
theorem q_7_5 : Cond.methodLink RX1 43 yX1_hasMachine ∈ wsL_law := in_r7 _ (List.mem_of_getElem? (i := 5) rfl)
theorem q_7_6 : Cond.instanceMethod yX1_hasMachine ∈ wsL_law := in_r7 _ (List.mem_of_getElem? (i := 6) rfl)
theorem q_7_7 : Cond.selects RX1 yX1_hasMachine yX1_hasMachine ∈ wsL_law := in_r7 _ (List.mem_of_getElem? (i := 7) rfl)
theorem q_7_8 : Cond.code yX1_hasMachine cX1_hasMachine 2 (some .boolean) ∈ wsL_law := in_r7 _ (List.mem_of_getElem? (i := 8) rfl)
theorem q_7_9 : Cond.methodLink RX1 47 yX1_isLinked ∈ wsL_law := in_r7 _ (List.mem_of_getElem? (i := 9) rfl)
theorem q_7_10 : Cond.instanceMethod yX1_isLinked ∈ wsL_law := in_r7 _ (List.mem_of_getElem? (i := 10) rfl)
theorem q_7_11 : Cond.selects RX1 yX1_isLinked yX1_isLinked ∈ wsL_law := in_r7 _ (List.mem_of_getElem? (i := 11) rfl)
theorem q_7_12 : Cond.code yX1_isLinked cX1_isLinked 3 (some .boolean) ∈ wsL_law := in_r7 _ (List.mem_of_getElem? (i := 12) rfl)
theorem q_7_13 : Cond.methodLink RX1 51 yX3_at ∈ wsL_law := in_r7 _ (List.mem_of_getElem? (i := 13) rfl)
theorem q_7_14 : Cond.methodLink RX5 46 yX1_startWith ∈ wsL_law := in_r7 _ (List.mem_of_getElem? (i := 14) rfl)
theorem q_7_15 : Cond.instanceMethod yX1_startWith ∈ wsL_law := in_r7 _ (List.mem_of_getElem? (i := 15) rfl)
theorem q_7_16 : Cond.selects RX1 yX1_startWith yX1_startWith ∈ wsL_law := in_r7 _ (List.mem_of_getElem? (i := 16) rfl)
theorem q_7_17 : Cond.code yX1_startWith cX1_startWith 3 (some .boolean) ∈ wsL_law := in_r7 _ (List.mem_of_getElem? (i := 17) rfl)
theorem q_7_18 : Cond.methodLink RX1 55 yX1_hasValue ∈ wsL_law := in_r7 _ (List.mem_of_getElem? (i := 18) rfl)
theorem q_7_19 : Cond.instanceMethod yX1_hasValue ∈ wsL_law := in_r7 _ (List.mem_of_getElem? (i := 19) rfl)
theorem q_7_20 : Cond.selects RX1 yX1_hasValue yX1_hasValue ∈ wsL_law := in_r7 _ (List.mem_of_getElem? (i := 20) rfl)
theorem q_7_21 : Cond.code yX1_hasValue cX1_hasValue 2 (some .boolean) ∈ wsL_law := in_r7 _ (List.mem_of_getElem? (i := 21) rfl)
theorem q_7_22 : Cond.methodLink RX1 58 yX1_withValue ∈ wsL_law := in_r7 _ (List.mem_of_getElem? (i := 22) rfl)
theorem q_7_23 : Cond.instanceMethod yX1_withValue ∈ wsL_law := in_r7 _ (List.mem_of_getElem? (i := 23) rfl)
theorem q_8_0 : Cond.selects RX1 yX1_withValue yX1_withValue ∈ wsL_law := in_r8 _ (List.mem_of_getElem? (i := 0) rfl)
theorem q_8_1 : Cond.code yX1_withValue cX1_withValue 4 (some .int) ∈ wsL_law := in_r8 _ (List.mem_of_getElem? (i := 1) rfl)
theorem q_8_2 : Cond.methodLink RX1 68 yX1_valueAt ∈ wsL_law := in_r8 _ (List.mem_of_getElem? (i := 2) rfl)
theorem q_8_3 : Cond.instanceMethod yX1_valueAt ∈ wsL_law := in_r8 _ (List.mem_of_getElem? (i := 3) rfl)
theorem q_8_4 : Cond.selects RX1 yX1_valueAt yX1_valueAt ∈ wsL_law := in_r8 _ (List.mem_of_getElem? (i := 4) rfl)
theorem q_8_5 : Cond.code yX1_valueAt cX1_valueAt 3 (some .int) ∈ wsL_law := in_r8 _ (List.mem_of_getElem? (i := 5) rfl)
theorem q_8_6 : Cond.methodLink RX6 60 yX6_takeDraft ∈ wsL_law := in_r8 _ (List.mem_of_getElem? (i := 6) rfl)
theorem q_8_7 : Cond.instanceMethod yX6_takeDraft ∈ wsL_law := in_r8 _ (List.mem_of_getElem? (i := 7) rfl)
theorem q_8_8 : Cond.selects RX6 yX6_takeDraft yX6_takeDraft ∈ wsL_law := in_r8 _ (List.mem_of_getElem? (i := 8) rfl)
theorem q_8_9 : Cond.code yX6_takeDraft cX6_takeDraft 1 none ∈ wsL_law := in_r8 _ (List.mem_of_getElem? (i := 9) rfl)
theorem q_8_10 : Cond.fieldLink RX6 79 "HomingNets$Net" "start" "I" ∈ wsL_law := in_r8 _ (List.mem_of_getElem? (i := 10) rfl)
theorem q_8_11 : Cond.fieldLink RX6 82 "HomingNets" "now" "I" ∈ wsL_law := in_r8 _ (List.mem_of_getElem? (i := 11) rfl)
theorem q_8_12 : Cond.fieldLink RX6 85 "HomingNets" "lastInRing" "I" ∈ wsL_law := in_r8 _ (List.mem_of_getElem? (i := 12) rfl)
theorem q_8_13 : Cond.methodLink RX6 75 yX1_copyFrom ∈ wsL_law := in_r8 _ (List.mem_of_getElem? (i := 13) rfl)
theorem q_8_14 : Cond.instanceMethod yX1_copyFrom ∈ wsL_law := in_r8 _ (List.mem_of_getElem? (i := 14) rfl)
theorem q_8_15 : Cond.selects RX1 yX1_copyFrom yX1_copyFrom ∈ wsL_law := in_r8 _ (List.mem_of_getElem? (i := 15) rfl)
theorem q_8_16 : Cond.code yX1_copyFrom cX1_copyFrom 3 none ∈ wsL_law := in_r8 _ (List.mem_of_getElem? (i := 16) rfl)
theorem q_8_17 : Cond.methodLink RX6 88 yX2_clear ∈ wsL_law := in_r8 _ (List.mem_of_getElem? (i := 17) rfl)
theorem q_8_18 : Cond.instanceMethod yX2_clear ∈ wsL_law := in_r8 _ (List.mem_of_getElem? (i := 18) rfl)
theorem q_8_19 : Cond.selects RX2 yX2_clear yX2_clear ∈ wsL_law := in_r8 _ (List.mem_of_getElem? (i := 19) rfl)
theorem q_8_20 : Cond.code yX2_clear cX2_clear 1 none ∈ wsL_law := in_r8 _ (List.mem_of_getElem? (i := 20) rfl)
theorem q_8_21 : Cond.fieldLink RX2 18 "HomingNets$Past" "many" "I" ∈ wsL_law := in_r8 _ (List.mem_of_getElem? (i := 21) rfl)
theorem q_8_22 : Cond.methodLink RX6 89 yX4_forget ∈ wsL_law := in_r8 _ (List.mem_of_getElem? (i := 22) rfl)
theorem q_8_23 : Cond.instanceMethod yX4_forget ∈ wsL_law := in_r8 _ (List.mem_of_getElem? (i := 23) rfl)
theorem q_9_0 : Cond.selects RX4 yX4_forget yX4_forget ∈ wsL_law := in_r9 _ (List.mem_of_getElem? (i := 0) rfl)
theorem q_9_1 : Cond.code yX4_forget cX4_forget 1 none ∈ wsL_law := in_r9 _ (List.mem_of_getElem? (i := 1) rfl)
theorem q_9_2 : Cond.fieldLink RX4 30 "HomingNets$Survey" "made" "Z" ∈ wsL_law := in_r9 _ (List.mem_of_getElem? (i := 2) rfl)
theorem q_9_3 : Cond.methodLink RX6 63 yX5_clear ∈ wsL_law := in_r9 _ (List.mem_of_getElem? (i := 3) rfl)
theorem q_9_4 : Cond.instanceMethod yX5_clear ∈ wsL_law := in_r9 _ (List.mem_of_getElem? (i := 4) rfl)
theorem q_9_5 : Cond.selects RX5 yX5_clear yX5_clear ∈ wsL_law := in_r9 _ (List.mem_of_getElem? (i := 5) rfl)
theorem q_9_6 : Cond.code yX5_clear cX5_clear 1 none ∈ wsL_law := in_r9 _ (List.mem_of_getElem? (i := 6) rfl)
theorem q_9_11 : Cond.fieldLink RX7 7 "HomingNetsModel" "text" "[I" ∈ wsL_law := in_r9 _ (List.mem_of_getElem? (i := 11) rfl)
theorem q_9_12 : Cond.fieldLink RX7 13 "HomingNetsModel" "wiredRow" "[I" ∈ wsL_law := in_r9 _ (List.mem_of_getElem? (i := 12) rfl)
theorem q_9_13 : Cond.fieldLink RX7 16 "HomingNetsModel" "powers" "[I" ∈ wsL_law := in_r9 _ (List.mem_of_getElem? (i := 13) rfl)
theorem q_9_14 : Cond.fieldLink RX7 19 "HomingNetsModel" "values" "[I" ∈ wsL_law := in_r9 _ (List.mem_of_getElem? (i := 14) rfl)
theorem q_9_15 : Cond.fieldLink RX7 22 "HomingNetsModel" "toldRow" "[I" ∈ wsL_law := in_r9 _ (List.mem_of_getElem? (i := 15) rfl)
theorem q_9_16 : Cond.fieldLink RX7 25 "HomingNetsModel" "toldValues" "[I" ∈ wsL_law := in_r9 _ (List.mem_of_getElem? (i := 16) rfl)
theorem q_9_17 : Cond.fieldLink RX7 28 "HomingNetsModel" "oldCodes" "[I" ∈ wsL_law := in_r9 _ (List.mem_of_getElem? (i := 17) rfl)
theorem q_9_18 : Cond.fieldLink RX7 31 "HomingNetsModel" "oldLasts" "[I" ∈ wsL_law := in_r9 _ (List.mem_of_getElem? (i := 18) rfl)
theorem q_9_19 : Cond.fieldLink RX7 34 "HomingNetsModel" "worst" "[I" ∈ wsL_law := in_r9 _ (List.mem_of_getElem? (i := 19) rfl)
theorem q_9_20 : Cond.fieldLink RX7 37 "HomingNetsModel" "best" "[I" ∈ wsL_law := in_r9 _ (List.mem_of_getElem? (i := 20) rfl)
theorem q_9_21 : Cond.fieldLink RX7 40 "HomingNetsModel" "hits" "[I" ∈ wsL_law := in_r9 _ (List.mem_of_getElem? (i := 21) rfl)
theorem q_9_22 : Cond.fieldLink RX7 43 "HomingNetsModel" "row" "[I" ∈ wsL_law := in_r9 _ (List.mem_of_getElem? (i := 22) rfl)
theorem q_9_23 : Cond.fieldLink RX7 46 "HomingNetsModel" "then" "[I" ∈ wsL_law := in_r9 _ (List.mem_of_getElem? (i := 23) rfl)
theorem q_10_0 : Cond.fieldLink RX7 49 "HomingNetsModel" "sort" "I" ∈ wsL_law := in_r10 _ (List.mem_of_getElem? (i := 0) rfl)
theorem q_10_1 : Cond.fieldLink RX7 53 "HomingNetsModel" "many" "I" ∈ wsL_law := in_r10 _ (List.mem_of_getElem? (i := 1) rfl)
theorem q_10_2 : Cond.fieldLink RX7 56 "HomingNetsModel" "wide" "I" ∈ wsL_law := in_r10 _ (List.mem_of_getElem? (i := 2) rfl)
theorem q_10_3 : Cond.methodLink RX7 59 yX7_begins ∈ wsL_law := in_r10 _ (List.mem_of_getElem? (i := 3) rfl)
theorem q_10_4 : Cond.instanceMethod yX7_begins ∈ wsL_law := in_r10 _ (List.mem_of_getElem? (i := 4) rfl)
theorem q_10_5 : Cond.selects RX7 yX7_begins yX7_begins ∈ wsL_law := in_r10 _ (List.mem_of_getElem? (i := 5) rfl)
theorem q_10_6 : Cond.code yX7_begins cX7_begins 2 none ∈ wsL_law := in_r10 _ (List.mem_of_getElem? (i := 6) rfl)
theorem q_10_7 : Cond.fieldLink RX7 62 "HomingNetsModel" "states" "I" ∈ wsL_law := in_r10 _ (List.mem_of_getElem? (i := 7) rfl)
theorem q_10_8 : Cond.fieldLink RX7 65 "HomingNetsModel" "last" "I" ∈ wsL_law := in_r10 _ (List.mem_of_getElem? (i := 8) rfl)
theorem q_10_9 : Cond.fieldLink RX7 68 "HomingNetsModel" "done" "I" ∈ wsL_law := in_r10 _ (List.mem_of_getElem? (i := 9) rfl)
theorem q_10_10 : Cond.fieldLink RX7 71 "HomingNetsModel" "isMeasured" "Z" ∈ wsL_law := in_r10 _ (List.mem_of_getElem? (i := 10) rfl)
theorem q_10_15 : Cond.methodLink RX6 66 yX5_length ∈ wsL_law := in_r10 _ (List.mem_of_getElem? (i := 15) rfl)
theorem q_10_16 : Cond.instanceMethod yX5_length ∈ wsL_law := in_r10 _ (List.mem_of_getElem? (i := 16) rfl)
theorem q_10_17 : Cond.selects RX5 yX5_length yX5_length ∈ wsL_law := in_r10 _ (List.mem_of_getElem? (i := 17) rfl)
theorem q_10_18 : Cond.code yX5_length cX5_length 1 (some .int) ∈ wsL_law := in_r10 _ (List.mem_of_getElem? (i := 18) rfl)
theorem q_10_23 : Cond.fieldLink RX7 75 "HomingNetsModel" "length" "I" ∈ wsL_law := in_r10 _ (List.mem_of_getElem? (i := 23) rfl)
theorem q_11_16 : Cond.methodLink RX7 109 yX7_reads ∈ wsL_law := in_r11 _ (List.mem_of_getElem? (i := 16) rfl)
theorem q_11_17 : Cond.instanceMethod yX7_reads ∈ wsL_law := in_r11 _ (List.mem_of_getElem? (i := 17) rfl)
theorem q_11_18 : Cond.selects RX7 yX7_reads yX7_reads ∈ wsL_law := in_r11 _ (List.mem_of_getElem? (i := 18) rfl)
theorem q_11_19 : Cond.code yX7_reads cX7_reads 3 (some .int) ∈ wsL_law := in_r11 _ (List.mem_of_getElem? (i := 19) rfl)
theorem q_11_20 : Cond.fieldLink RX7 85 "HomingNetsModel" "toldSort" "I" ∈ wsL_law := in_r11 _ (List.mem_of_getElem? (i := 20) rfl)
theorem q_11_21 : Cond.fieldLink RX7 102 "HomingNetsModel" "toldWires" "I" ∈ wsL_law := in_r11 _ (List.mem_of_getElem? (i := 21) rfl)
theorem q_11_22 : Cond.methodLink RX7 105 yX7_readsItem ∈ wsL_law := in_r11 _ (List.mem_of_getElem? (i := 22) rfl)
theorem q_11_23 : Cond.instanceMethod yX7_readsItem ∈ wsL_law := in_r11 _ (List.mem_of_getElem? (i := 23) rfl)
theorem q_12_0 : Cond.selects RX7 yX7_readsItem yX7_readsItem ∈ wsL_law := in_r12 _ (List.mem_of_getElem? (i := 0) rfl)
theorem q_12_1 : Cond.code yX7_readsItem cX7_readsItem 5 (some .int) ∈ wsL_law := in_r12 _ (List.mem_of_getElem? (i := 1) rfl)
theorem q_12_2 : Cond.fieldLink RX7 92 "HomingNetsModel" "toldMany" "I" ∈ wsL_law := in_r12 _ (List.mem_of_getElem? (i := 2) rfl)
theorem q_12_3 : Cond.fieldLink RX7 95 "HomingNetsModel" "toldWide" "I" ∈ wsL_law := in_r12 _ (List.mem_of_getElem? (i := 3) rfl)
theorem q_12_4 : Cond.methodLink RX7 98 yX7_readsNet ∈ wsL_law := in_r12 _ (List.mem_of_getElem? (i := 4) rfl)
theorem q_12_5 : Cond.instanceMethod yX7_readsNet ∈ wsL_law := in_r12 _ (List.mem_of_getElem? (i := 5) rfl)
theorem q_12_6 : Cond.selects RX7 yX7_readsNet yX7_readsNet ∈ wsL_law := in_r12 _ (List.mem_of_getElem? (i := 6) rfl)
theorem q_12_7 : Cond.code yX7_readsNet cX7_readsNet 7 (some .boolean) ∈ wsL_law := in_r12 _ (List.mem_of_getElem? (i := 7) rfl)
theorem q_12_8 : Cond.methodLink RX7 82 yX7_figure ∈ wsL_law := in_r12 _ (List.mem_of_getElem? (i := 8) rfl)
theorem q_12_9 : Cond.instanceMethod yX7_figure ∈ wsL_law := in_r12 _ (List.mem_of_getElem? (i := 9) rfl)
theorem q_12_10 : Cond.selects RX7 yX7_figure yX7_figure ∈ wsL_law := in_r12 _ (List.mem_of_getElem? (i := 10) rfl)
theorem q_12_11 : Cond.code yX7_figure cX7_figure 3 (some .int) ∈ wsL_law := in_r12 _ (List.mem_of_getElem? (i := 11) rfl)
theorem q_12_12 : Cond.methodLink RX7 78 yX7_letterAt ∈ wsL_law := in_r12 _ (List.mem_of_getElem? (i := 12) rfl)
theorem q_12_13 : Cond.instanceMethod yX7_letterAt ∈ wsL_law := in_r12 _ (List.mem_of_getElem? (i := 13) rfl)
theorem q_12_14 : Cond.selects RX7 yX7_letterAt yX7_letterAt ∈ wsL_law := in_r12 _ (List.mem_of_getElem? (i := 14) rfl)
theorem q_12_15 : Cond.code yX7_letterAt cX7_letterAt 2 (some .int) ∈ wsL_law := in_r12 _ (List.mem_of_getElem? (i := 15) rfl)
theorem q_12_16 : Cond.methodLink RX7 88 yX7_isIn ∈ wsL_law := in_r12 _ (List.mem_of_getElem? (i := 16) rfl)
theorem q_12_17 : Cond.static yX7_isIn ∈ wsL_law := in_r12 _ (List.mem_of_getElem? (i := 17) rfl)
theorem q_12_18 : Cond.code yX7_isIn cX7_isIn 3 (some .boolean) ∈ wsL_law := in_r12 _ (List.mem_of_getElem? (i := 18) rfl)
theorem q_12_23 : Cond.fieldLink RX6 71 "HomingNets$Net" "states" "I" ∈ wsL_law := in_r12 _ (List.mem_of_getElem? (i := 23) rfl)
theorem q_13_0 : Cond.methodLink RX6 67 yX1_hasColoursEnough ∈ wsL_law := in_r13 _ (List.mem_of_getElem? (i := 0) rfl)
theorem q_13_1 : Cond.instanceMethod yX1_hasColoursEnough ∈ wsL_law := in_r13 _ (List.mem_of_getElem? (i := 1) rfl)
theorem q_13_2 : Cond.selects RX1 yX1_hasColoursEnough yX1_hasColoursEnough ∈ wsL_law := in_r13 _ (List.mem_of_getElem? (i := 2) rfl)
theorem q_13_3 : Cond.code yX1_hasColoursEnough cX1_hasColoursEnough 2 (some .boolean) ∈ wsL_law := in_r13 _ (List.mem_of_getElem? (i := 3) rfl)
theorem q_13_4 : Cond.methodLink RX1 62 yJ6_bitCount_0f7a4 ∈ wsL_law := in_r13 _ (List.mem_of_getElem? (i := 4) rfl)
theorem q_13_5 : Cond.static yJ6_bitCount_0f7a4 ∈ wsL_law := in_r13 _ (List.mem_of_getElem? (i := 5) rfl)
theorem q_13_6 : Cond.initialized RJ6 ∈ wsL_law := in_r13 _ (List.mem_of_getElem? (i := 6) rfl)
theorem q_13_7 : Cond.code yJ6_bitCount_0f7a4 cJ6_bitCount_0f7a4 1 (some .int) ∈ wsL_law := in_r13 _ (List.mem_of_getElem? (i := 7) rfl)
theorem q_13_8 : Cond.constant RJ6 265 (1431655765) ∈ wsL_law := in_r13 _ (List.mem_of_getElem? (i := 8) rfl)
theorem q_13_9 : Cond.constant RJ6 266 (858993459) ∈ wsL_law := in_r13 _ (List.mem_of_getElem? (i := 9) rfl)
theorem q_13_10 : Cond.constant RJ6 267 (252645135) ∈ wsL_law := in_r13 _ (List.mem_of_getElem? (i := 10) rfl)
theorem q_13_15 : Cond.fieldLink RX7 113 "HomingNetsModel" "wires" "I" ∈ wsL_law := in_r13 _ (List.mem_of_getElem? (i := 15) rfl)
theorem q_13_20 : Cond.methodLink RX6 92 yX1_hasMachine ∈ wsL_law := in_r13 _ (List.mem_of_getElem? (i := 20) rfl)
theorem q_13_21 : Cond.methodLink RX6 95 yX1_valueAt ∈ wsL_law := in_r13 _ (List.mem_of_getElem? (i := 21) rfl)
theorem q_14_2 : Cond.methodLink RX7 148 yX7_isMachine ∈ wsL_law := in_r14 _ (List.mem_of_getElem? (i := 2) rfl)
theorem q_14_3 : Cond.instanceMethod yX7_isMachine ∈ wsL_law := in_r14 _ (List.mem_of_getElem? (i := 3) rfl)
theorem q_14_4 : Cond.selects RX7 yX7_isMachine yX7_isMachine ∈ wsL_law := in_r14 _ (List.mem_of_getElem? (i := 4) rfl)
theorem q_14_5 : Cond.code yX7_isMachine cX7_isMachine 2 (some .boolean) ∈ wsL_law := in_r14 _ (List.mem_of_getElem? (i := 5) rfl)
theorem q_14_10 : Cond.methodLink RX6 99 yX1_hasValue ∈ wsL_law := in_r14 _ (List.mem_of_getElem? (i := 10) rfl)
theorem q_14_11 : Cond.methodLink RX6 102 yX1_withValue ∈ wsL_law := in_r14 _ (List.mem_of_getElem? (i := 11) rfl)
theorem q_14_12 : Cond.methodLink RX6 106 yX6_change ∈ wsL_law := in_r14 _ (List.mem_of_getElem? (i := 12) rfl)
theorem q_14_13 : Cond.instanceMethod yX6_change ∈ wsL_law := in_r14 _ (List.mem_of_getElem? (i := 13) rfl)
theorem q_14_14 : Cond.selects RX6 yX6_change yX6_change ∈ wsL_law := in_r14 _ (List.mem_of_getElem? (i := 14) rfl)
theorem q_14_15 : Cond.code yX6_change cX6_change 2 none ∈ wsL_law := in_r14 _ (List.mem_of_getElem? (i := 15) rfl)
theorem q_14_16 : Cond.methodLink RX6 151 yX2_keep ∈ wsL_law := in_r14 _ (List.mem_of_getElem? (i := 16) rfl)
theorem q_14_17 : Cond.instanceMethod yX2_keep ∈ wsL_law := in_r14 _ (List.mem_of_getElem? (i := 17) rfl)
theorem q_14_18 : Cond.selects RX2 yX2_keep yX2_keep ∈ wsL_law := in_r14 _ (List.mem_of_getElem? (i := 18) rfl)
theorem q_14_19 : Cond.code yX2_keep cX2_keep 3 none ∈ wsL_law := in_r14 _ (List.mem_of_getElem? (i := 19) rfl)
theorem q_14_20 : Cond.methodLink RX2 22 yX2_forgetOldest ∈ wsL_law := in_r14 _ (List.mem_of_getElem? (i := 20) rfl)
theorem q_14_21 : Cond.instanceMethod yX2_forgetOldest ∈ wsL_law := in_r14 _ (List.mem_of_getElem? (i := 21) rfl)
theorem q_14_22 : Cond.selects RX2 yX2_forgetOldest yX2_forgetOldest ∈ wsL_law := in_r14 _ (List.mem_of_getElem? (i := 22) rfl)
theorem q_14_23 : Cond.code yX2_forgetOldest cX2_forgetOldest 2 none ∈ wsL_law := in_r14 _ (List.mem_of_getElem? (i := 23) rfl)
theorem q_15_0 : Cond.methodLink RX2 31 yX3_at ∈ wsL_law := in_r15 _ (List.mem_of_getElem? (i := 0) rfl)
theorem q_15_1 : Cond.methodLink RX2 25 yX3_put ∈ wsL_law := in_r15 _ (List.mem_of_getElem? (i := 1) rfl)
theorem q_15_6 : Cond.methodLink RX7 157 yX7_keeps ∈ wsL_law := in_r15 _ (List.mem_of_getElem? (i := 6) rfl)
theorem q_15_7 : Cond.instanceMethod yX7_keeps ∈ wsL_law := in_r15 _ (List.mem_of_getElem? (i := 7) rfl)
theorem q_15_8 : Cond.selects RX7 yX7_keeps yX7_keeps ∈ wsL_law := in_r15 _ (List.mem_of_getElem? (i := 8) rfl)
theorem q_15_9 : Cond.code yX7_keeps cX7_keeps 2 none ∈ wsL_law := in_r15 _ (List.mem_of_getElem? (i := 9) rfl)
theorem q_15_10 : Cond.methodLink RX7 151 yX7_rowNow ∈ wsL_law := in_r15 _ (List.mem_of_getElem? (i := 10) rfl)
theorem q_15_11 : Cond.instanceMethod yX7_rowNow ∈ wsL_law := in_r15 _ (List.mem_of_getElem? (i := 11) rfl)
theorem q_15_12 : Cond.selects RX7 yX7_rowNow yX7_rowNow ∈ wsL_law := in_r15 _ (List.mem_of_getElem? (i := 12) rfl)
theorem q_15_13 : Cond.code yX7_rowNow cX7_rowNow 2 none ∈ wsL_law := in_r15 _ (List.mem_of_getElem? (i := 13) rfl)
theorem q_15_14 : Cond.methodLink RX7 154 yX7_codeOf ∈ wsL_law := in_r15 _ (List.mem_of_getElem? (i := 14) rfl)
theorem q_15_15 : Cond.instanceMethod yX7_codeOf ∈ wsL_law := in_r15 _ (List.mem_of_getElem? (i := 15) rfl)
theorem q_15_16 : Cond.selects RX7 yX7_codeOf yX7_codeOf ∈ wsL_law := in_r15 _ (List.mem_of_getElem? (i := 16) rfl)
theorem q_15_17 : Cond.code yX7_codeOf cX7_codeOf 3 (some .int) ∈ wsL_law := in_r15 _ (List.mem_of_getElem? (i := 17) rfl)
theorem q_15_23 : Cond.instanceMethod yX7_code ∈ wsL_law := in_r15 _ (List.mem_of_getElem? (i := 23) rfl)
theorem q_16_0 : Cond.selects RX7 yX7_code yX7_code ∈ wsL_law := in_r16 _ (List.mem_of_getElem? (i := 0) rfl)
theorem q_16_1 : Cond.code yX7_code cX7_code 1 (some .int) ∈ wsL_law := in_r16 _ (List.mem_of_getElem? (i := 1) rfl)
theorem q_16_6 : Cond.methodLink RX6 110 yX1_hasState ∈ wsL_law := in_r16 _ (List.mem_of_getElem? (i := 6) rfl)
theorem q_16_7 : Cond.instanceMethod yX1_hasState ∈ wsL_law := in_r16 _ (List.mem_of_getElem? (i := 7) rfl)
theorem q_16_8 : Cond.selects RX1 yX1_hasState yX1_hasState ∈ wsL_law := in_r16 _ (List.mem_of_getElem? (i := 8) rfl)
theorem q_16_9 : Cond.code yX1_hasState cX1_hasState 2 (some .boolean) ∈ wsL_law := in_r16 _ (List.mem_of_getElem? (i := 9) rfl)
theorem q_16_14 : Cond.methodLink RX7 160 yX7_code ∈ wsL_law := in_r16 _ (List.mem_of_getElem? (i := 14) rfl)
theorem q_16_15 : Cond.methodLink RX7 163 yX7_valuesOf ∈ wsL_law := in_r16 _ (List.mem_of_getElem? (i := 15) rfl)
theorem q_16_16 : Cond.instanceMethod yX7_valuesOf ∈ wsL_law := in_r16 _ (List.mem_of_getElem? (i := 16) rfl)
theorem q_16_17 : Cond.selects RX7 yX7_valuesOf yX7_valuesOf ∈ wsL_law := in_r16 _ (List.mem_of_getElem? (i := 17) rfl)
theorem q_16_18 : Cond.code yX7_valuesOf cX7_valuesOf 3 none ∈ wsL_law := in_r16 _ (List.mem_of_getElem? (i := 18) rfl)
theorem q_16_19 : Cond.methodLink RX7 144 yX7_rowOf ∈ wsL_law := in_r16 _ (List.mem_of_getElem? (i := 19) rfl)
theorem q_16_20 : Cond.instanceMethod yX7_rowOf ∈ wsL_law := in_r16 _ (List.mem_of_getElem? (i := 20) rfl)
theorem q_16_21 : Cond.selects RX7 yX7_rowOf yX7_rowOf ∈ wsL_law := in_r16 _ (List.mem_of_getElem? (i := 21) rfl)
theorem q_16_22 : Cond.code yX7_rowOf cX7_rowOf 4 none ∈ wsL_law := in_r16 _ (List.mem_of_getElem? (i := 22) rfl)
theorem q_17_3 : Cond.methodLink RX6 113 yX1_sees ∈ wsL_law := in_r17 _ (List.mem_of_getElem? (i := 3) rfl)
theorem q_17_4 : Cond.instanceMethod yX1_sees ∈ wsL_law := in_r17 _ (List.mem_of_getElem? (i := 4) rfl)
theorem q_17_5 : Cond.selects RX1 yX1_sees yX1_sees ∈ wsL_law := in_r17 _ (List.mem_of_getElem? (i := 5) rfl)
theorem q_17_6 : Cond.code yX1_sees cX1_sees 3 (some .boolean) ∈ wsL_law := in_r17 _ (List.mem_of_getElem? (i := 6) rfl)
theorem q_17_7 : Cond.methodLink RX1 72 yX1_aheadOf ∈ wsL_law := in_r17 _ (List.mem_of_getElem? (i := 7) rfl)
theorem q_17_8 : Cond.instanceMethod yX1_aheadOf ∈ wsL_law := in_r17 _ (List.mem_of_getElem? (i := 8) rfl)
theorem q_17_9 : Cond.selects RX1 yX1_aheadOf yX1_aheadOf ∈ wsL_law := in_r17 _ (List.mem_of_getElem? (i := 9) rfl)
theorem q_17_10 : Cond.code yX1_aheadOf cX1_aheadOf 2 (some .int) ∈ wsL_law := in_r17 _ (List.mem_of_getElem? (i := 10) rfl)
theorem q_17_19 : Cond.methodLink RX6 117 yX1_ruleOf ∈ wsL_law := in_r17 _ (List.mem_of_getElem? (i := 19) rfl)
theorem q_17_20 : Cond.instanceMethod yX1_ruleOf ∈ wsL_law := in_r17 _ (List.mem_of_getElem? (i := 20) rfl)
theorem q_17_21 : Cond.selects RX1 yX1_ruleOf yX1_ruleOf ∈ wsL_law := in_r17 _ (List.mem_of_getElem? (i := 21) rfl)
theorem q_17_22 : Cond.code yX1_ruleOf cX1_ruleOf 5 (some .int) ∈ wsL_law := in_r17 _ (List.mem_of_getElem? (i := 22) rfl)
theorem q_17_23 : Cond.methodLink RX1 103 yX1_wants ∈ wsL_law := in_r17 _ (List.mem_of_getElem? (i := 23) rfl)
theorem q_18_0 : Cond.instanceMethod yX1_wants ∈ wsL_law := in_r18 _ (List.mem_of_getElem? (i := 0) rfl)
theorem q_18_1 : Cond.selects RX1 yX1_wants yX1_wants ∈ wsL_law := in_r18 _ (List.mem_of_getElem? (i := 1) rfl)
theorem q_18_2 : Cond.code yX1_wants cX1_wants 3 (some .int) ∈ wsL_law := in_r18 _ (List.mem_of_getElem? (i := 2) rfl)
theorem q_18_3 : Cond.methodLink RX1 75 yX1_counterWants ∈ wsL_law := in_r18 _ (List.mem_of_getElem? (i := 3) rfl)
theorem q_18_4 : Cond.instanceMethod yX1_counterWants ∈ wsL_law := in_r18 _ (List.mem_of_getElem? (i := 4) rfl)
theorem q_18_5 : Cond.selects RX1 yX1_counterWants yX1_counterWants ∈ wsL_law := in_r18 _ (List.mem_of_getElem? (i := 5) rfl)
theorem q_18_6 : Cond.code yX1_counterWants cX1_counterWants 5 (some .int) ∈ wsL_law := in_r18 _ (List.mem_of_getElem? (i := 6) rfl)
theorem q_18_7 : Cond.methodLink RX1 78 yX1_pointerWants ∈ wsL_law := in_r18 _ (List.mem_of_getElem? (i := 7) rfl)
theorem q_18_8 : Cond.instanceMethod yX1_pointerWants ∈ wsL_law := in_r18 _ (List.mem_of_getElem? (i := 8) rfl)
theorem q_18_9 : Cond.selects RX1 yX1_pointerWants yX1_pointerWants ∈ wsL_law := in_r18 _ (List.mem_of_getElem? (i := 9) rfl)
theorem q_18_10 : Cond.code yX1_pointerWants cX1_pointerWants 6 (some .int) ∈ wsL_law := in_r18 _ (List.mem_of_getElem? (i := 10) rfl)
theorem q_18_11 : Cond.methodLink RX1 87 yX1_lowestLinkedWith ∈ wsL_law := in_r18 _ (List.mem_of_getElem? (i := 11) rfl)
theorem q_18_12 : Cond.instanceMethod yX1_lowestLinkedWith ∈ wsL_law := in_r18 _ (List.mem_of_getElem? (i := 12) rfl)
theorem q_18_13 : Cond.selects RX1 yX1_lowestLinkedWith yX1_lowestLinkedWith ∈ wsL_law := in_r18 _ (List.mem_of_getElem? (i := 13) rfl)
theorem q_18_14 : Cond.code yX1_lowestLinkedWith cX1_lowestLinkedWith 5 (some .int) ∈ wsL_law := in_r18 _ (List.mem_of_getElem? (i := 14) rfl)
theorem q_18_15 : Cond.methodLink RX1 81 yX1_distanceWants ∈ wsL_law := in_r18 _ (List.mem_of_getElem? (i := 15) rfl)
theorem q_18_16 : Cond.instanceMethod yX1_distanceWants ∈ wsL_law := in_r18 _ (List.mem_of_getElem? (i := 16) rfl)
theorem q_18_17 : Cond.selects RX1 yX1_distanceWants yX1_distanceWants ∈ wsL_law := in_r18 _ (List.mem_of_getElem? (i := 17) rfl)
theorem q_18_18 : Cond.code yX1_distanceWants cX1_distanceWants 5 (some .int) ∈ wsL_law := in_r18 _ (List.mem_of_getElem? (i := 18) rfl)
theorem q_18_19 : Cond.methodLink RX1 90 Lib.Math.min.name ∈ wsL_law := in_r18 _ (List.mem_of_getElem? (i := 19) rfl)
theorem q_18_20 : Cond.static Lib.Math.min.name ∈ wsL_law := in_r18 _ (List.mem_of_getElem? (i := 20) rfl)
theorem q_18_21 : Cond.initialized "java/lang/Math" ∈ wsL_law := in_r18 _ (List.mem_of_getElem? (i := 21) rfl)
theorem q_18_22 : Cond.code Lib.Math.min.name Lib.Math.min.code 2 (some .int) ∈ wsL_law := in_r18 _ (List.mem_of_getElem? (i := 22) rfl)
theorem q_18_23 : Cond.methodLink RX1 84 yX1_colourWants ∈ wsL_law := in_r18 _ (List.mem_of_getElem? (i := 23) rfl)
theorem q_19_0 : Cond.instanceMethod yX1_colourWants ∈ wsL_law := in_r19 _ (List.mem_of_getElem? (i := 0) rfl)
theorem q_19_1 : Cond.selects RX1 yX1_colourWants yX1_colourWants ∈ wsL_law := in_r19 _ (List.mem_of_getElem? (i := 1) rfl)
theorem q_19_2 : Cond.code yX1_colourWants cX1_colourWants 5 (some .int) ∈ wsL_law := in_r19 _ (List.mem_of_getElem? (i := 2) rfl)
theorem q_19_3 : Cond.methodLink RX1 95 yX0_has ∈ wsL_law := in_r19 _ (List.mem_of_getElem? (i := 3) rfl)
theorem q_19_4 : Cond.static yX0_has ∈ wsL_law := in_r19 _ (List.mem_of_getElem? (i := 4) rfl)
theorem q_19_5 : Cond.initialized RX0 ∈ wsL_law := in_r19 _ (List.mem_of_getElem? (i := 5) rfl)
theorem q_19_6 : Cond.code yX0_has cX0_has 2 (some .boolean) ∈ wsL_law := in_r19 _ (List.mem_of_getElem? (i := 6) rfl)
theorem q_19_7 : Cond.methodLink RX1 100 yX0_indexOf ∈ wsL_law := in_r19 _ (List.mem_of_getElem? (i := 7) rfl)
theorem q_19_8 : Cond.static yX0_indexOf ∈ wsL_law := in_r19 _ (List.mem_of_getElem? (i := 8) rfl)
theorem q_19_9 : Cond.code yX0_indexOf cX0_indexOf 1 (some .int) ∈ wsL_law := in_r19 _ (List.mem_of_getElem? (i := 9) rfl)
theorem q_19_10 : Cond.methodLink RX0 7 yX0_lowest ∈ wsL_law := in_r19 _ (List.mem_of_getElem? (i := 10) rfl)
theorem q_19_11 : Cond.static yX0_lowest ∈ wsL_law := in_r19 _ (List.mem_of_getElem? (i := 11) rfl)
theorem q_19_12 : Cond.code yX0_lowest cX0_lowest 1 (some .int) ∈ wsL_law := in_r19 _ (List.mem_of_getElem? (i := 12) rfl)
theorem q_19_13 : Cond.methodLink RX0 13 yJ6_bitCount_0f7a4 ∈ wsL_law := in_r19 _ (List.mem_of_getElem? (i := 13) rfl)
theorem q_19_18 : Cond.fieldLink RX7 120 "HomingNetsModel" "rule" "I" ∈ wsL_law := in_r19 _ (List.mem_of_getElem? (i := 18) rfl)
theorem q_19_19 : Cond.methodLink RX7 138 yX7_becomesOf ∈ wsL_law := in_r19 _ (List.mem_of_getElem? (i := 19) rfl)
theorem q_19_20 : Cond.instanceMethod yX7_becomesOf ∈ wsL_law := in_r19 _ (List.mem_of_getElem? (i := 20) rfl)
theorem q_19_21 : Cond.selects RX7 yX7_becomesOf yX7_becomesOf ∈ wsL_law := in_r19 _ (List.mem_of_getElem? (i := 21) rfl)
theorem q_19_22 : Cond.code yX7_becomesOf cX7_becomesOf 2 (some .int) ∈ wsL_law := in_r19 _ (List.mem_of_getElem? (i := 22) rfl)
theorem q_19_23 : Cond.methodLink RX7 126 yX7_counters ∈ wsL_law := in_r19 _ (List.mem_of_getElem? (i := 23) rfl)
theorem q_20_0 : Cond.instanceMethod yX7_counters ∈ wsL_law := in_r20 _ (List.mem_of_getElem? (i := 0) rfl)
theorem q_20_1 : Cond.selects RX7 yX7_counters yX7_counters ∈ wsL_law := in_r20 _ (List.mem_of_getElem? (i := 1) rfl)
theorem q_20_2 : Cond.code yX7_counters cX7_counters 3 (some .int) ∈ wsL_law := in_r20 _ (List.mem_of_getElem? (i := 2) rfl)
theorem q_20_3 : Cond.methodLink RX7 129 yX7_pointers ∈ wsL_law := in_r20 _ (List.mem_of_getElem? (i := 3) rfl)
theorem q_20_4 : Cond.instanceMethod yX7_pointers ∈ wsL_law := in_r20 _ (List.mem_of_getElem? (i := 4) rfl)
theorem q_20_5 : Cond.selects RX7 yX7_pointers yX7_pointers ∈ wsL_law := in_r20 _ (List.mem_of_getElem? (i := 5) rfl)
theorem q_20_6 : Cond.code yX7_pointers cX7_pointers 4 (some .int) ∈ wsL_law := in_r20 _ (List.mem_of_getElem? (i := 6) rfl)
theorem q_20_7 : Cond.methodLink RX7 116 yX7_isWired ∈ wsL_law := in_r20 _ (List.mem_of_getElem? (i := 7) rfl)
theorem q_20_8 : Cond.instanceMethod yX7_isWired ∈ wsL_law := in_r20 _ (List.mem_of_getElem? (i := 8) rfl)
theorem q_20_9 : Cond.selects RX7 yX7_isWired yX7_isWired ∈ wsL_law := in_r20 _ (List.mem_of_getElem? (i := 9) rfl)
theorem q_20_10 : Cond.code yX7_isWired cX7_isWired 3 (some .boolean) ∈ wsL_law := in_r20 _ (List.mem_of_getElem? (i := 10) rfl)
theorem q_20_11 : Cond.methodLink RX7 123 yX7_lowest ∈ wsL_law := in_r20 _ (List.mem_of_getElem? (i := 11) rfl)
theorem q_20_12 : Cond.instanceMethod yX7_lowest ∈ wsL_law := in_r20 _ (List.mem_of_getElem? (i := 12) rfl)
theorem q_20_13 : Cond.selects RX7 yX7_lowest yX7_lowest ∈ wsL_law := in_r20 _ (List.mem_of_getElem? (i := 13) rfl)
theorem q_20_14 : Cond.code yX7_lowest cX7_lowest 4 (some .int) ∈ wsL_law := in_r20 _ (List.mem_of_getElem? (i := 14) rfl)
theorem q_20_15 : Cond.methodLink RX7 132 yX7_distances ∈ wsL_law := in_r20 _ (List.mem_of_getElem? (i := 15) rfl)
theorem q_20_16 : Cond.instanceMethod yX7_distances ∈ wsL_law := in_r20 _ (List.mem_of_getElem? (i := 16) rfl)
theorem q_20_17 : Cond.selects RX7 yX7_distances yX7_distances ∈ wsL_law := in_r20 _ (List.mem_of_getElem? (i := 17) rfl)
theorem q_20_18 : Cond.code yX7_distances cX7_distances 4 (some .int) ∈ wsL_law := in_r20 _ (List.mem_of_getElem? (i := 18) rfl)
theorem q_20_19 : Cond.methodLink RX7 135 yX7_colours ∈ wsL_law := in_r20 _ (List.mem_of_getElem? (i := 19) rfl)
theorem q_20_20 : Cond.instanceMethod yX7_colours ∈ wsL_law := in_r20 _ (List.mem_of_getElem? (i := 20) rfl)
theorem q_20_21 : Cond.selects RX7 yX7_colours yX7_colours ∈ wsL_law := in_r20 _ (List.mem_of_getElem? (i := 21) rfl)
theorem q_20_22 : Cond.code yX7_colours cX7_colours 3 (some .int) ∈ wsL_law := in_r20 _ (List.mem_of_getElem? (i := 22) rfl)
theorem q_21_3 : Cond.methodLink RX6 120 yX1_wants ∈ wsL_law := in_r21 _ (List.mem_of_getElem? (i := 3) rfl)
theorem q_21_20 : Cond.methodLink RX6 123 yX1_whoMay ∈ wsL_law := in_r21 _ (List.mem_of_getElem? (i := 20) rfl)
theorem q_21_21 : Cond.instanceMethod yX1_whoMay ∈ wsL_law := in_r21 _ (List.mem_of_getElem? (i := 21) rfl)
theorem q_21_22 : Cond.selects RX1 yX1_whoMay yX1_whoMay ∈ wsL_law := in_r21 _ (List.mem_of_getElem? (i := 22) rfl)
theorem q_21_23 : Cond.code yX1_whoMay cX1_whoMay 4 (some .int) ∈ wsL_law := in_r21 _ (List.mem_of_getElem? (i := 23) rfl)
theorem q_22_4 : Cond.methodLink RX7 141 yX7_tokensOf ∈ wsL_law := in_r22 _ (List.mem_of_getElem? (i := 4) rfl)
theorem q_22_5 : Cond.instanceMethod yX7_tokensOf ∈ wsL_law := in_r22 _ (List.mem_of_getElem? (i := 5) rfl)
theorem q_22_6 : Cond.selects RX7 yX7_tokensOf yX7_tokensOf ∈ wsL_law := in_r22 _ (List.mem_of_getElem? (i := 6) rfl)
theorem q_22_7 : Cond.code yX7_tokensOf cX7_tokensOf 3 (some .int) ∈ wsL_law := in_r22 _ (List.mem_of_getElem? (i := 7) rfl)
theorem q_22_12 : Cond.methodLink RX6 127 yX1_isLegal ∈ wsL_law := in_r22 _ (List.mem_of_getElem? (i := 12) rfl)
theorem q_22_13 : Cond.instanceMethod yX1_isLegal ∈ wsL_law := in_r22 _ (List.mem_of_getElem? (i := 13) rfl)
theorem q_22_14 : Cond.selects RX1 yX1_isLegal yX1_isLegal ∈ wsL_law := in_r22 _ (List.mem_of_getElem? (i := 14) rfl)
theorem q_22_15 : Cond.code yX1_isLegal cX1_isLegal 3 (some .boolean) ∈ wsL_law := in_r22 _ (List.mem_of_getElem? (i := 15) rfl)
theorem q_22_16 : Cond.methodLink RX1 106 yX1_whoMay ∈ wsL_law := in_r22 _ (List.mem_of_getElem? (i := 16) rfl)
theorem q_22_21 : Cond.methodLink RX7 166 yX7_isLegal ∈ wsL_law := in_r22 _ (List.mem_of_getElem? (i := 21) rfl)
theorem q_22_22 : Cond.instanceMethod yX7_isLegal ∈ wsL_law := in_r22 _ (List.mem_of_getElem? (i := 22) rfl)
theorem q_22_23 : Cond.selects RX7 yX7_isLegal yX7_isLegal ∈ wsL_law := in_r22 _ (List.mem_of_getElem? (i := 23) rfl)
theorem q_23_0 : Cond.code yX7_isLegal cX7_isLegal 2 (some .boolean) ∈ wsL_law := in_r23 _ (List.mem_of_getElem? (i := 0) rfl)
theorem q_23_5 : Cond.fieldLink RX6 130 "HomingNets$Net" "kind" "I" ∈ wsL_law := in_r23 _ (List.mem_of_getElem? (i := 5) rfl)
theorem q_23_6 : Cond.methodLink RX6 133 yX1_matchOf ∈ wsL_law := in_r23 _ (List.mem_of_getElem? (i := 6) rfl)
theorem q_23_7 : Cond.instanceMethod yX1_matchOf ∈ wsL_law := in_r23 _ (List.mem_of_getElem? (i := 7) rfl)
theorem q_23_8 : Cond.selects RX1 yX1_matchOf yX1_matchOf ∈ wsL_law := in_r23 _ (List.mem_of_getElem? (i := 8) rfl)
theorem q_23_9 : Cond.code yX1_matchOf cX1_matchOf 5 (some .int) ∈ wsL_law := in_r23 _ (List.mem_of_getElem? (i := 9) rfl)
theorem q_23_10 : Cond.methodLink RX6 136 yX1_parentOf ∈ wsL_law := in_r23 _ (List.mem_of_getElem? (i := 10) rfl)
theorem q_23_11 : Cond.instanceMethod yX1_parentOf ∈ wsL_law := in_r23 _ (List.mem_of_getElem? (i := 11) rfl)
theorem q_23_12 : Cond.selects RX1 yX1_parentOf yX1_parentOf ∈ wsL_law := in_r23 _ (List.mem_of_getElem? (i := 12) rfl)
theorem q_23_13 : Cond.code yX1_parentOf cX1_parentOf 3 (some .int) ∈ wsL_law := in_r23 _ (List.mem_of_getElem? (i := 13) rfl)
theorem q_23_22 : Cond.methodLink RX6 139 yX2_size ∈ wsL_law := in_r23 _ (List.mem_of_getElem? (i := 22) rfl)
theorem q_23_23 : Cond.instanceMethod yX2_size ∈ wsL_law := in_r23 _ (List.mem_of_getElem? (i := 23) rfl)
theorem q_24_0 : Cond.selects RX2 yX2_size yX2_size ∈ wsL_law := in_r24 _ (List.mem_of_getElem? (i := 0) rfl)
theorem q_24_1 : Cond.code yX2_size cX2_size 1 (some .int) ∈ wsL_law := in_r24 _ (List.mem_of_getElem? (i := 1) rfl)
theorem q_24_2 : Cond.methodLink RX6 142 yX2_lastState ∈ wsL_law := in_r24 _ (List.mem_of_getElem? (i := 2) rfl)
theorem q_24_3 : Cond.instanceMethod yX2_lastState ∈ wsL_law := in_r24 _ (List.mem_of_getElem? (i := 3) rfl)
theorem q_24_4 : Cond.selects RX2 yX2_lastState yX2_lastState ∈ wsL_law := in_r24 _ (List.mem_of_getElem? (i := 4) rfl)
theorem q_24_5 : Cond.code yX2_lastState cX2_lastState 1 (some .int) ∈ wsL_law := in_r24 _ (List.mem_of_getElem? (i := 5) rfl)
theorem q_24_6 : Cond.methodLink RX6 145 yX2_lastMover ∈ wsL_law := in_r24 _ (List.mem_of_getElem? (i := 6) rfl)
theorem q_24_7 : Cond.instanceMethod yX2_lastMover ∈ wsL_law := in_r24 _ (List.mem_of_getElem? (i := 7) rfl)
theorem q_24_8 : Cond.selects RX2 yX2_lastMover yX2_lastMover ∈ wsL_law := in_r24 _ (List.mem_of_getElem? (i := 8) rfl)
theorem q_24_9 : Cond.code yX2_lastMover cX2_lastMover 1 (some .int) ∈ wsL_law := in_r24 _ (List.mem_of_getElem? (i := 9) rfl)
theorem q_24_10 : Cond.methodLink RX6 148 yX2_drop ∈ wsL_law := in_r24 _ (List.mem_of_getElem? (i := 10) rfl)
theorem q_24_11 : Cond.instanceMethod yX2_drop ∈ wsL_law := in_r24 _ (List.mem_of_getElem? (i := 11) rfl)
theorem q_24_12 : Cond.selects RX2 yX2_drop yX2_drop ∈ wsL_law := in_r24 _ (List.mem_of_getElem? (i := 12) rfl)
theorem q_24_13 : Cond.code yX2_drop cX2_drop 1 none ∈ wsL_law := in_r24 _ (List.mem_of_getElem? (i := 13) rfl)
theorem q_24_22 : Cond.methodLink RX6 155 yX4_make ∈ wsL_law := in_r24 _ (List.mem_of_getElem? (i := 22) rfl)
theorem q_24_23 : Cond.instanceMethod yX4_make ∈ wsL_law := in_r24 _ (List.mem_of_getElem? (i := 23) rfl)
theorem q_25_0 : Cond.selects RX4 yX4_make yX4_make ∈ wsL_law := in_r25 _ (List.mem_of_getElem? (i := 0) rfl)
theorem q_25_1 : Cond.code yX4_make cX4_make 3 none ∈ wsL_law := in_r25 _ (List.mem_of_getElem? (i := 1) rfl)
theorem q_25_2 : Cond.fieldLink RX4 34 "HomingNets$Net" "states" "I" ∈ wsL_law := in_r25 _ (List.mem_of_getElem? (i := 2) rfl)
theorem q_25_3 : Cond.methodLink RX4 40 Lib.Math.min.name ∈ wsL_law := in_r25 _ (List.mem_of_getElem? (i := 3) rfl)
theorem q_25_4 : Cond.fieldLink RX4 46 "HomingNets$Survey" "states" "I" ∈ wsL_law := in_r25 _ (List.mem_of_getElem? (i := 4) rfl)
theorem q_25_5 : Cond.methodLink RX4 47 yX4_noteMoves ∈ wsL_law := in_r25 _ (List.mem_of_getElem? (i := 5) rfl)
theorem q_25_6 : Cond.instanceMethod yX4_noteMoves ∈ wsL_law := in_r25 _ (List.mem_of_getElem? (i := 6) rfl)
theorem q_25_7 : Cond.selects RX4 yX4_noteMoves yX4_noteMoves ∈ wsL_law := in_r25 _ (List.mem_of_getElem? (i := 7) rfl)
theorem q_25_8 : Cond.code yX4_noteMoves cX4_noteMoves 7 none ∈ wsL_law := in_r25 _ (List.mem_of_getElem? (i := 8) rfl)
theorem q_25_9 : Cond.fieldLink RX4 55 "HomingNets$Net" "machines" "I" ∈ wsL_law := in_r25 _ (List.mem_of_getElem? (i := 9) rfl)
theorem q_25_10 : Cond.fieldLink RX4 70 "HomingNets$Net" "kind" "I" ∈ wsL_law := in_r25 _ (List.mem_of_getElem? (i := 10) rfl)
theorem q_25_11 : Cond.methodLink RX4 58 yX1_wants ∈ wsL_law := in_r25 _ (List.mem_of_getElem? (i := 11) rfl)
theorem q_25_12 : Cond.methodLink RX4 61 yX1_valueAt ∈ wsL_law := in_r25 _ (List.mem_of_getElem? (i := 12) rfl)
theorem q_25_13 : Cond.methodLink RX4 64 yX3_put ∈ wsL_law := in_r25 _ (List.mem_of_getElem? (i := 13) rfl)
theorem q_25_14 : Cond.methodLink RX4 51 yX4_spread ∈ wsL_law := in_r25 _ (List.mem_of_getElem? (i := 14) rfl)
theorem q_25_15 : Cond.instanceMethod yX4_spread ∈ wsL_law := in_r25 _ (List.mem_of_getElem? (i := 15) rfl)
theorem q_25_16 : Cond.selects RX4 yX4_spread yX4_spread ∈ wsL_law := in_r25 _ (List.mem_of_getElem? (i := 16) rfl)
theorem q_25_17 : Cond.code yX4_spread cX4_spread 8 none ∈ wsL_law := in_r25 _ (List.mem_of_getElem? (i := 17) rfl)
theorem q_25_18 : Cond.methodLink RX4 73 yX3_at ∈ wsL_law := in_r25 _ (List.mem_of_getElem? (i := 18) rfl)
theorem q_25_19 : Cond.methodLink RX4 77 yX4_spreadBy ∈ wsL_law := in_r25 _ (List.mem_of_getElem? (i := 19) rfl)
theorem q_25_20 : Cond.instanceMethod yX4_spreadBy ∈ wsL_law := in_r25 _ (List.mem_of_getElem? (i := 20) rfl)
theorem q_25_21 : Cond.selects RX4 yX4_spreadBy yX4_spreadBy ∈ wsL_law := in_r25 _ (List.mem_of_getElem? (i := 21) rfl)
theorem q_25_22 : Cond.code yX4_spreadBy cX4_spreadBy 12 (some .int) ∈ wsL_law := in_r25 _ (List.mem_of_getElem? (i := 22) rfl)
theorem q_25_23 : Cond.fieldLink RX4 81 "HomingNets$Net" "range" "I" ∈ wsL_law := in_r25 _ (List.mem_of_getElem? (i := 23) rfl)
theorem q_26_0 : Cond.methodLink RX4 84 yX1_withValue ∈ wsL_law := in_r26 _ (List.mem_of_getElem? (i := 0) rfl)
theorem q_26_1 : Cond.methodLink RX4 88 yX4_reaches ∈ wsL_law := in_r26 _ (List.mem_of_getElem? (i := 1) rfl)
theorem q_26_2 : Cond.instanceMethod yX4_reaches ∈ wsL_law := in_r26 _ (List.mem_of_getElem? (i := 2) rfl)
theorem q_26_3 : Cond.selects RX4 yX4_reaches yX4_reaches ∈ wsL_law := in_r26 _ (List.mem_of_getElem? (i := 3) rfl)
theorem q_26_4 : Cond.code yX4_reaches cX4_reaches 6 (some .boolean) ∈ wsL_law := in_r26 _ (List.mem_of_getElem? (i := 4) rfl)
theorem q_26_5 : Cond.methodLink RX4 92 yX4_wantedBy ∈ wsL_law := in_r26 _ (List.mem_of_getElem? (i := 5) rfl)
theorem q_26_6 : Cond.instanceMethod yX4_wantedBy ∈ wsL_law := in_r26 _ (List.mem_of_getElem? (i := 6) rfl)
theorem q_26_7 : Cond.selects RX4 yX4_wantedBy yX4_wantedBy ∈ wsL_law := in_r26 _ (List.mem_of_getElem? (i := 7) rfl)
theorem q_26_8 : Cond.code yX4_wantedBy cX4_wantedBy 3 (some .int) ∈ wsL_law := in_r26 _ (List.mem_of_getElem? (i := 8) rfl)
theorem q_26_9 : Cond.methodLink RX6 158 yX6_drawOf ∈ wsL_law := in_r26 _ (List.mem_of_getElem? (i := 9) rfl)
theorem q_26_10 : Cond.static yX6_drawOf ∈ wsL_law := in_r26 _ (List.mem_of_getElem? (i := 10) rfl)
theorem q_26_11 : Cond.code yX6_drawOf cX6_drawOf 4 (some .int) ∈ wsL_law := in_r26 _ (List.mem_of_getElem? (i := 11) rfl)
theorem q_26_12 : Cond.constantLong RX6 193 (7919) ∈ wsL_law := in_r26 _ (List.mem_of_getElem? (i := 12) rfl)
theorem q_26_13 : Cond.constantLong RX6 195 (6151) ∈ wsL_law := in_r26 _ (List.mem_of_getElem? (i := 13) rfl)
theorem q_26_14 : Cond.constantLong RX6 197 (65521) ∈ wsL_law := in_r26 _ (List.mem_of_getElem? (i := 14) rfl)
theorem q_26_15 : Cond.methodLink RX6 161 yX6_moversOf ∈ wsL_law := in_r26 _ (List.mem_of_getElem? (i := 15) rfl)
theorem q_26_16 : Cond.instanceMethod yX6_moversOf ∈ wsL_law := in_r26 _ (List.mem_of_getElem? (i := 16) rfl)
theorem q_26_17 : Cond.selects RX6 yX6_moversOf yX6_moversOf ∈ wsL_law := in_r26 _ (List.mem_of_getElem? (i := 17) rfl)
theorem q_26_18 : Cond.code yX6_moversOf cX6_moversOf 6 (some .int) ∈ wsL_law := in_r26 _ (List.mem_of_getElem? (i := 18) rfl)
theorem q_26_19 : Cond.fieldLink RX6 204 "HomingNets$Net" "machines" "I" ∈ wsL_law := in_r26 _ (List.mem_of_getElem? (i := 19) rfl)
theorem q_26_20 : Cond.methodLink RX6 199 yX0_lowest ∈ wsL_law := in_r26 _ (List.mem_of_getElem? (i := 20) rfl)
theorem q_26_21 : Cond.methodLink RX6 207 yX0_nextInRing ∈ wsL_law := in_r26 _ (List.mem_of_getElem? (i := 21) rfl)
theorem q_26_22 : Cond.static yX0_nextInRing ∈ wsL_law := in_r26 _ (List.mem_of_getElem? (i := 22) rfl)
theorem q_26_23 : Cond.code yX0_nextInRing cX0_nextInRing 4 (some .int) ∈ wsL_law := in_r26 _ (List.mem_of_getElem? (i := 23) rfl)
theorem q_27_0 : Cond.methodLink RX6 210 yX0_drawn ∈ wsL_law := in_r27 _ (List.mem_of_getElem? (i := 0) rfl)
theorem q_27_1 : Cond.static yX0_drawn ∈ wsL_law := in_r27 _ (List.mem_of_getElem? (i := 1) rfl)
theorem q_27_2 : Cond.code yX0_drawn cX0_drawn 5 (some .int) ∈ wsL_law := in_r27 _ (List.mem_of_getElem? (i := 2) rfl)
theorem q_27_3 : Cond.methodLink RX6 213 yX6_cruellest ∈ wsL_law := in_r27 _ (List.mem_of_getElem? (i := 3) rfl)
theorem q_27_4 : Cond.instanceMethod yX6_cruellest ∈ wsL_law := in_r27 _ (List.mem_of_getElem? (i := 4) rfl)
theorem q_27_5 : Cond.selects RX6 yX6_cruellest yX6_cruellest ∈ wsL_law := in_r27 _ (List.mem_of_getElem? (i := 5) rfl)
theorem q_27_6 : Cond.code yX6_cruellest cX6_cruellest 7 (some .int) ∈ wsL_law := in_r27 _ (List.mem_of_getElem? (i := 6) rfl)
theorem q_27_7 : Cond.methodLink RX6 216 yX0_has ∈ wsL_law := in_r27 _ (List.mem_of_getElem? (i := 7) rfl)
theorem q_27_8 : Cond.methodLink RX6 219 yX4_behind ∈ wsL_law := in_r27 _ (List.mem_of_getElem? (i := 8) rfl)
theorem q_27_9 : Cond.instanceMethod yX4_behind ∈ wsL_law := in_r27 _ (List.mem_of_getElem? (i := 9) rfl)
theorem q_27_10 : Cond.selects RX4 yX4_behind yX4_behind ∈ wsL_law := in_r27 _ (List.mem_of_getElem? (i := 10) rfl)
theorem q_27_11 : Cond.code yX4_behind cX4_behind 4 (some .int) ∈ wsL_law := in_r27 _ (List.mem_of_getElem? (i := 11) rfl)
theorem q_27_12 : Cond.methodLink RX6 223 yX4_worstOf ∈ wsL_law := in_r27 _ (List.mem_of_getElem? (i := 12) rfl)
theorem q_27_13 : Cond.instanceMethod yX4_worstOf ∈ wsL_law := in_r27 _ (List.mem_of_getElem? (i := 13) rfl)
theorem q_27_14 : Cond.selects RX4 yX4_worstOf yX4_worstOf ∈ wsL_law := in_r27 _ (List.mem_of_getElem? (i := 14) rfl)
theorem q_27_15 : Cond.code yX4_worstOf cX4_worstOf 2 (some .int) ∈ wsL_law := in_r27 _ (List.mem_of_getElem? (i := 15) rfl)
theorem q_27_16 : Cond.methodLink RX6 226 yX4_rankOf ∈ wsL_law := in_r27 _ (List.mem_of_getElem? (i := 16) rfl)
theorem q_27_17 : Cond.static yX4_rankOf ∈ wsL_law := in_r27 _ (List.mem_of_getElem? (i := 17) rfl)
theorem q_27_18 : Cond.code yX4_rankOf cX4_rankOf 1 (some .int) ∈ wsL_law := in_r27 _ (List.mem_of_getElem? (i := 18) rfl)
theorem q_27_19 : Cond.constant RX4 103 (2147483647) ∈ wsL_law := in_r27 _ (List.mem_of_getElem? (i := 19) rfl)
theorem q_27_20 : Cond.methodLink RX6 165 yX6_lastBehind ∈ wsL_law := in_r27 _ (List.mem_of_getElem? (i := 20) rfl)
theorem q_27_21 : Cond.static yX6_lastBehind ∈ wsL_law := in_r27 _ (List.mem_of_getElem? (i := 21) rfl)
theorem q_27_22 : Cond.code yX6_lastBehind cX6_lastBehind 3 (some .int) ∈ wsL_law := in_r27 _ (List.mem_of_getElem? (i := 22) rfl)
theorem q_27_23 : Cond.methodLink RX6 229 yX0_indexOf ∈ wsL_law := in_r27 _ (List.mem_of_getElem? (i := 23) rfl)
theorem q_28_0 : Cond.methodLink RX6 168 yX1_moved ∈ wsL_law := in_r28 _ (List.mem_of_getElem? (i := 0) rfl)
theorem q_28_1 : Cond.instanceMethod yX1_moved ∈ wsL_law := in_r28 _ (List.mem_of_getElem? (i := 1) rfl)
theorem q_28_2 : Cond.selects RX1 yX1_moved yX1_moved ∈ wsL_law := in_r28 _ (List.mem_of_getElem? (i := 2) rfl)
theorem q_28_3 : Cond.code yX1_moved cX1_moved 5 (some .int) ∈ wsL_law := in_r28 _ (List.mem_of_getElem? (i := 3) rfl)
theorem q_28_8 : Cond.methodLink RX7 205 yX7_chooses ∈ wsL_law := in_r28 _ (List.mem_of_getElem? (i := 8) rfl)
theorem q_28_9 : Cond.instanceMethod yX7_chooses ∈ wsL_law := in_r28 _ (List.mem_of_getElem? (i := 9) rfl)
theorem q_28_10 : Cond.selects RX7 yX7_chooses yX7_chooses ∈ wsL_law := in_r28 _ (List.mem_of_getElem? (i := 10) rfl)
theorem q_28_11 : Cond.code yX7_chooses cX7_chooses 9 (some .int) ∈ wsL_law := in_r28 _ (List.mem_of_getElem? (i := 11) rfl)
theorem q_28_12 : Cond.methodLink RX7 198 yX7_cruel ∈ wsL_law := in_r28 _ (List.mem_of_getElem? (i := 12) rfl)
theorem q_28_13 : Cond.instanceMethod yX7_cruel ∈ wsL_law := in_r28 _ (List.mem_of_getElem? (i := 13) rfl)
theorem q_28_14 : Cond.selects RX7 yX7_cruel yX7_cruel ∈ wsL_law := in_r28 _ (List.mem_of_getElem? (i := 14) rfl)
theorem q_28_15 : Cond.code yX7_cruel cX7_cruel 7 (some .int) ∈ wsL_law := in_r28 _ (List.mem_of_getElem? (i := 15) rfl)
theorem q_28_16 : Cond.constant RX7 191 (1000000) ∈ wsL_law := in_r28 _ (List.mem_of_getElem? (i := 16) rfl)
theorem q_28_17 : Cond.methodLink RX7 185 yX7_measures ∈ wsL_law := in_r28 _ (List.mem_of_getElem? (i := 17) rfl)
theorem q_28_18 : Cond.instanceMethod yX7_measures ∈ wsL_law := in_r28 _ (List.mem_of_getElem? (i := 18) rfl)
theorem q_28_19 : Cond.selects RX7 yX7_measures yX7_measures ∈ wsL_law := in_r28 _ (List.mem_of_getElem? (i := 19) rfl)
theorem q_28_20 : Cond.code yX7_measures cX7_measures 3 none ∈ wsL_law := in_r28 _ (List.mem_of_getElem? (i := 20) rfl)
theorem q_28_21 : Cond.methodLink RX7 176 yX7_worsts ∈ wsL_law := in_r28 _ (List.mem_of_getElem? (i := 21) rfl)
theorem q_28_22 : Cond.instanceMethod yX7_worsts ∈ wsL_law := in_r28 _ (List.mem_of_getElem? (i := 22) rfl)
theorem q_28_23 : Cond.selects RX7 yX7_worsts yX7_worsts ∈ wsL_law := in_r28 _ (List.mem_of_getElem? (i := 23) rfl)
theorem q_29_0 : Cond.code yX7_worsts cX7_worsts 4 none ∈ wsL_law := in_r29 _ (List.mem_of_getElem? (i := 0) rfl)
theorem q_29_1 : Cond.methodLink RX7 170 yX7_worstBehind ∈ wsL_law := in_r29 _ (List.mem_of_getElem? (i := 1) rfl)
theorem q_29_2 : Cond.instanceMethod yX7_worstBehind ∈ wsL_law := in_r29 _ (List.mem_of_getElem? (i := 2) rfl)
theorem q_29_3 : Cond.selects RX7 yX7_worstBehind yX7_worstBehind ∈ wsL_law := in_r29 _ (List.mem_of_getElem? (i := 3) rfl)
theorem q_29_4 : Cond.code yX7_worstBehind cX7_worstBehind 6 (some .int) ∈ wsL_law := in_r29 _ (List.mem_of_getElem? (i := 4) rfl)
theorem q_29_5 : Cond.methodLink RX7 179 yX7_bests ∈ wsL_law := in_r29 _ (List.mem_of_getElem? (i := 5) rfl)
theorem q_29_6 : Cond.instanceMethod yX7_bests ∈ wsL_law := in_r29 _ (List.mem_of_getElem? (i := 6) rfl)
theorem q_29_7 : Cond.selects RX7 yX7_bests yX7_bests ∈ wsL_law := in_r29 _ (List.mem_of_getElem? (i := 7) rfl)
theorem q_29_8 : Cond.code yX7_bests cX7_bests 4 none ∈ wsL_law := in_r29 _ (List.mem_of_getElem? (i := 8) rfl)
theorem q_29_9 : Cond.methodLink RX7 173 yX7_leadsTo ∈ wsL_law := in_r29 _ (List.mem_of_getElem? (i := 9) rfl)
theorem q_29_10 : Cond.instanceMethod yX7_leadsTo ∈ wsL_law := in_r29 _ (List.mem_of_getElem? (i := 10) rfl)
theorem q_29_11 : Cond.selects RX7 yX7_leadsTo yX7_leadsTo ∈ wsL_law := in_r29 _ (List.mem_of_getElem? (i := 11) rfl)
theorem q_29_12 : Cond.code yX7_leadsTo cX7_leadsTo 5 (some .boolean) ∈ wsL_law := in_r29 _ (List.mem_of_getElem? (i := 12) rfl)
theorem q_29_13 : Cond.methodLink RX7 182 yX7_isHitTo ∈ wsL_law := in_r29 _ (List.mem_of_getElem? (i := 13) rfl)
theorem q_29_14 : Cond.instanceMethod yX7_isHitTo ∈ wsL_law := in_r29 _ (List.mem_of_getElem? (i := 14) rfl)
theorem q_29_15 : Cond.selects RX7 yX7_isHitTo yX7_isHitTo ∈ wsL_law := in_r29 _ (List.mem_of_getElem? (i := 15) rfl)
theorem q_29_16 : Cond.code yX7_isHitTo cX7_isHitTo 6 (some .boolean) ∈ wsL_law := in_r29 _ (List.mem_of_getElem? (i := 16) rfl)
theorem q_29_17 : Cond.methodLink RX7 201 yX7_drawn ∈ wsL_law := in_r29 _ (List.mem_of_getElem? (i := 17) rfl)
theorem q_29_18 : Cond.static yX7_drawn ∈ wsL_law := in_r29 _ (List.mem_of_getElem? (i := 18) rfl)
theorem q_29_19 : Cond.code yX7_drawn cX7_drawn 4 (some .long) ∈ wsL_law := in_r29 _ (List.mem_of_getElem? (i := 19) rfl)
theorem q_29_20 : Cond.constantLong RX7 192 (7919) ∈ wsL_law := in_r29 _ (List.mem_of_getElem? (i := 20) rfl)
theorem q_29_21 : Cond.constantLong RX7 194 (6151) ∈ wsL_law := in_r29 _ (List.mem_of_getElem? (i := 21) rfl)
theorem q_29_22 : Cond.constantLong RX7 196 (65521) ∈ wsL_law := in_r29 _ (List.mem_of_getElem? (i := 22) rfl)
theorem q_29_23 : Cond.methodLink RX7 209 yX7_lowestBit ∈ wsL_law := in_r29 _ (List.mem_of_getElem? (i := 23) rfl)
theorem q_30_0 : Cond.static yX7_lowestBit ∈ wsL_law := in_r30 _ (List.mem_of_getElem? (i := 0) rfl)
theorem q_30_1 : Cond.code yX7_lowestBit cX7_lowestBit 2 (some .int) ∈ wsL_law := in_r30 _ (List.mem_of_getElem? (i := 1) rfl)
theorem q_30_2 : Cond.methodLink RX7 212 yX7_moves ∈ wsL_law := in_r30 _ (List.mem_of_getElem? (i := 2) rfl)
theorem q_30_3 : Cond.instanceMethod yX7_moves ∈ wsL_law := in_r30 _ (List.mem_of_getElem? (i := 3) rfl)
theorem q_30_4 : Cond.selects RX7 yX7_moves yX7_moves ∈ wsL_law := in_r30 _ (List.mem_of_getElem? (i := 4) rfl)
theorem q_30_5 : Cond.code yX7_moves cX7_moves 3 none ∈ wsL_law := in_r30 _ (List.mem_of_getElem? (i := 5) rfl)
theorem q_30_18 : Cond.methodLink RX6 171 yX4_clearedSpare ∈ wsL_law := in_r30 _ (List.mem_of_getElem? (i := 18) rfl)
theorem q_30_19 : Cond.instanceMethod yX4_clearedSpare ∈ wsL_law := in_r30 _ (List.mem_of_getElem? (i := 19) rfl)
theorem q_30_20 : Cond.selects RX4 yX4_clearedSpare yX4_clearedSpare ∈ wsL_law := in_r30 _ (List.mem_of_getElem? (i := 20) rfl)
theorem q_30_21 : Cond.code yX4_clearedSpare cX4_clearedSpare 1 (some (.array .int)) ∈ wsL_law := in_r30 _ (List.mem_of_getElem? (i := 21) rfl)
theorem q_30_22 : Cond.methodLink RX4 95 yJ7_fill_53178 ∈ wsL_law := in_r30 _ (List.mem_of_getElem? (i := 22) rfl)
theorem q_30_23 : Cond.static yJ7_fill_53178 ∈ wsL_law := in_r30 _ (List.mem_of_getElem? (i := 23) rfl)
theorem q_31_0 : Cond.initialized RJ7 ∈ wsL_law := in_r31 _ (List.mem_of_getElem? (i := 0) rfl)
theorem q_31_1 : Cond.code yJ7_fill_53178 cJ7_fill_53178 4 none ∈ wsL_law := in_r31 _ (List.mem_of_getElem? (i := 1) rfl)
theorem q_31_2 : Cond.methodLink RX6 175 yX3_at ∈ wsL_law := in_r31 _ (List.mem_of_getElem? (i := 2) rfl)
theorem q_31_3 : Cond.methodLink RX6 181 yX3_put ∈ wsL_law := in_r31 _ (List.mem_of_getElem? (i := 3) rfl)
theorem q_31_8 : Cond.methodLink RX7 215 yX7_follows ∈ wsL_law := in_r31 _ (List.mem_of_getElem? (i := 8) rfl)
theorem q_31_9 : Cond.instanceMethod yX7_follows ∈ wsL_law := in_r31 _ (List.mem_of_getElem? (i := 9) rfl)
theorem q_31_10 : Cond.selects RX7 yX7_follows yX7_follows ∈ wsL_law := in_r31 _ (List.mem_of_getElem? (i := 10) rfl)
theorem q_31_11 : Cond.code yX7_follows cX7_follows 3 (some .int) ∈ wsL_law := in_r31 _ (List.mem_of_getElem? (i := 11) rfl)
theorem q_31_16 : Cond.methodLink RX6 188 Lib.Math.max.name ∈ wsL_law := in_r31 _ (List.mem_of_getElem? (i := 16) rfl)
theorem q_31_17 : Cond.static Lib.Math.max.name ∈ wsL_law := in_r31 _ (List.mem_of_getElem? (i := 17) rfl)
theorem q_31_18 : Cond.code Lib.Math.max.name Lib.Math.max.code 2 (some .int) ∈ wsL_law := in_r31 _ (List.mem_of_getElem? (i := 18) rfl)
theorem q_31_19 : Cond.methodLink RX6 185 yX1_struck ∈ wsL_law := in_r31 _ (List.mem_of_getElem? (i := 19) rfl)
theorem q_31_20 : Cond.instanceMethod yX1_struck ∈ wsL_law := in_r31 _ (List.mem_of_getElem? (i := 20) rfl)
theorem q_31_21 : Cond.selects RX1 yX1_struck yX1_struck ∈ wsL_law := in_r31 _ (List.mem_of_getElem? (i := 21) rfl)
theorem q_31_22 : Cond.code yX1_struck cX1_struck 3 (some .int) ∈ wsL_law := in_r31 _ (List.mem_of_getElem? (i := 22) rfl)
theorem q_32_7 : Cond.methodLink RX6 232 yX4_hitsOf ∈ wsL_law := in_r32 _ (List.mem_of_getElem? (i := 7) rfl)
theorem q_32_8 : Cond.instanceMethod yX4_hitsOf ∈ wsL_law := in_r32 _ (List.mem_of_getElem? (i := 8) rfl)
theorem q_32_9 : Cond.selects RX4 yX4_hitsOf yX4_hitsOf ∈ wsL_law := in_r32 _ (List.mem_of_getElem? (i := 9) rfl)
theorem q_32_10 : Cond.code yX4_hitsOf cX4_hitsOf 2 (some .int) ∈ wsL_law := in_r32 _ (List.mem_of_getElem? (i := 10) rfl)
theorem q_32_11 : Cond.methodLink RX6 235 yX4_bestOf ∈ wsL_law := in_r32 _ (List.mem_of_getElem? (i := 11) rfl)
theorem q_32_12 : Cond.instanceMethod yX4_bestOf ∈ wsL_law := in_r32 _ (List.mem_of_getElem? (i := 12) rfl)
theorem q_32_13 : Cond.selects RX4 yX4_bestOf yX4_bestOf ∈ wsL_law := in_r32 _ (List.mem_of_getElem? (i := 13) rfl)
theorem q_32_14 : Cond.code yX4_bestOf cX4_bestOf 2 (some .int) ∈ wsL_law := in_r32 _ (List.mem_of_getElem? (i := 14) rfl)
theorem q_32_23 : Cond.methodLink RX6 238 yX4_legalStates ∈ wsL_law := in_r32 _ (List.mem_of_getElem? (i := 23) rfl)
theorem q_33_0 : Cond.instanceMethod yX4_legalStates ∈ wsL_law := in_r33 _ (List.mem_of_getElem? (i := 0) rfl)
theorem q_33_1 : Cond.selects RX4 yX4_legalStates yX4_legalStates ∈ wsL_law := in_r33 _ (List.mem_of_getElem? (i := 1) rfl)
theorem q_33_2 : Cond.code yX4_legalStates cX4_legalStates 1 (some .int) ∈ wsL_law := in_r33 _ (List.mem_of_getElem? (i := 2) rfl)
theorem q_33_3 : Cond.methodLink RX4 104 yX4_countOf ∈ wsL_law := in_r33 _ (List.mem_of_getElem? (i := 3) rfl)
theorem q_33_4 : Cond.instanceMethod yX4_countOf ∈ wsL_law := in_r33 _ (List.mem_of_getElem? (i := 4) rfl)
theorem q_33_5 : Cond.selects RX4 yX4_countOf yX4_countOf ∈ wsL_law := in_r33 _ (List.mem_of_getElem? (i := 5) rfl)
theorem q_33_6 : Cond.code yX4_countOf cX4_countOf 5 (some .int) ∈ wsL_law := in_r33 _ (List.mem_of_getElem? (i := 6) rfl)
theorem q_33_7 : Cond.methodLink RX6 241 yX4_endlessStates ∈ wsL_law := in_r33 _ (List.mem_of_getElem? (i := 7) rfl)
theorem q_33_8 : Cond.instanceMethod yX4_endlessStates ∈ wsL_law := in_r33 _ (List.mem_of_getElem? (i := 8) rfl)
theorem q_33_9 : Cond.selects RX4 yX4_endlessStates yX4_endlessStates ∈ wsL_law := in_r33 _ (List.mem_of_getElem? (i := 9) rfl)
theorem q_33_10 : Cond.code yX4_endlessStates cX4_endlessStates 1 (some .int) ∈ wsL_law := in_r33 _ (List.mem_of_getElem? (i := 10) rfl)
theorem q_33_11 : Cond.methodLink RX6 244 yX4_greatestWorst ∈ wsL_law := in_r33 _ (List.mem_of_getElem? (i := 11) rfl)
theorem q_33_12 : Cond.instanceMethod yX4_greatestWorst ∈ wsL_law := in_r33 _ (List.mem_of_getElem? (i := 12) rfl)
theorem q_33_13 : Cond.selects RX4 yX4_greatestWorst yX4_greatestWorst ∈ wsL_law := in_r33 _ (List.mem_of_getElem? (i := 13) rfl)
theorem q_33_14 : Cond.code yX4_greatestWorst cX4_greatestWorst 1 (some .int) ∈ wsL_law := in_r33 _ (List.mem_of_getElem? (i := 14) rfl)
theorem q_33_15 : Cond.methodLink RX4 107 yX4_greatestOf ∈ wsL_law := in_r33 _ (List.mem_of_getElem? (i := 15) rfl)
theorem q_33_16 : Cond.instanceMethod yX4_greatestOf ∈ wsL_law := in_r33 _ (List.mem_of_getElem? (i := 16) rfl)
theorem q_33_17 : Cond.selects RX4 yX4_greatestOf yX4_greatestOf ∈ wsL_law := in_r33 _ (List.mem_of_getElem? (i := 17) rfl)
theorem q_33_18 : Cond.code yX4_greatestOf cX4_greatestOf 4 (some .int) ∈ wsL_law := in_r33 _ (List.mem_of_getElem? (i := 18) rfl)
theorem q_33_19 : Cond.methodLink RX4 111 Lib.Math.max.name ∈ wsL_law := in_r33 _ (List.mem_of_getElem? (i := 19) rfl)
theorem q_33_20 : Cond.methodLink RX6 247 yX4_lowestOfGreatestWorst ∈ wsL_law := in_r33 _ (List.mem_of_getElem? (i := 20) rfl)
theorem q_33_21 : Cond.instanceMethod yX4_lowestOfGreatestWorst ∈ wsL_law := in_r33 _ (List.mem_of_getElem? (i := 21) rfl)
theorem q_33_22 : Cond.selects RX4 yX4_lowestOfGreatestWorst yX4_lowestOfGreatestWorst ∈ wsL_law := in_r33 _ (List.mem_of_getElem? (i := 22) rfl)
theorem q_33_23 : Cond.code yX4_lowestOfGreatestWorst cX4_lowestOfGreatestWorst 3 (some .int) ∈ wsL_law := in_r33 _ (List.mem_of_getElem? (i := 23) rfl)
theorem q_34_0 : Cond.methodLink RX4 114 yX4_greatestWorst ∈ wsL_law := in_r34 _ (List.mem_of_getElem? (i := 0) rfl)
theorem q_34_1 : Cond.methodLink RX4 118 yX4_worstOf ∈ wsL_law := in_r34 _ (List.mem_of_getElem? (i := 1) rfl)
theorem q_34_2 : Cond.methodLink RX6 250 yX4_movesOutOfLegal ∈ wsL_law := in_r34 _ (List.mem_of_getElem? (i := 2) rfl)
theorem q_34_3 : Cond.instanceMethod yX4_movesOutOfLegal ∈ wsL_law := in_r34 _ (List.mem_of_getElem? (i := 3) rfl)
theorem q_34_4 : Cond.selects RX4 yX4_movesOutOfLegal yX4_movesOutOfLegal ∈ wsL_law := in_r34 _ (List.mem_of_getElem? (i := 4) rfl)
theorem q_34_5 : Cond.code yX4_movesOutOfLegal cX4_movesOutOfLegal 4 (some .int) ∈ wsL_law := in_r34 _ (List.mem_of_getElem? (i := 5) rfl)
theorem q_34_6 : Cond.methodLink RX4 122 yX4_movesOutOf ∈ wsL_law := in_r34 _ (List.mem_of_getElem? (i := 6) rfl)
theorem q_34_7 : Cond.instanceMethod yX4_movesOutOf ∈ wsL_law := in_r34 _ (List.mem_of_getElem? (i := 7) rfl)
theorem q_34_8 : Cond.selects RX4 yX4_movesOutOf yX4_movesOutOf ∈ wsL_law := in_r34 _ (List.mem_of_getElem? (i := 8) rfl)
theorem q_34_9 : Cond.code yX4_movesOutOf cX4_movesOutOf 5 (some .int) ∈ wsL_law := in_r34 _ (List.mem_of_getElem? (i := 9) rfl)
theorem q_34_10 : Cond.methodLink RX4 126 yX4_behind ∈ wsL_law := in_r34 _ (List.mem_of_getElem? (i := 10) rfl)
theorem q_34_11 : Cond.methodLink RX6 253 yX4_sumOfWorsts ∈ wsL_law := in_r34 _ (List.mem_of_getElem? (i := 11) rfl)
theorem q_34_12 : Cond.instanceMethod yX4_sumOfWorsts ∈ wsL_law := in_r34 _ (List.mem_of_getElem? (i := 12) rfl)
theorem q_34_13 : Cond.selects RX4 yX4_sumOfWorsts yX4_sumOfWorsts ∈ wsL_law := in_r34 _ (List.mem_of_getElem? (i := 13) rfl)
theorem q_34_14 : Cond.code yX4_sumOfWorsts cX4_sumOfWorsts 3 (some .int) ∈ wsL_law := in_r34 _ (List.mem_of_getElem? (i := 14) rfl)
theorem q_34_15 : Cond.methodLink RX6 256 yX4_greatestBest ∈ wsL_law := in_r34 _ (List.mem_of_getElem? (i := 15) rfl)
theorem q_34_16 : Cond.instanceMethod yX4_greatestBest ∈ wsL_law := in_r34 _ (List.mem_of_getElem? (i := 16) rfl)
theorem q_34_17 : Cond.selects RX4 yX4_greatestBest yX4_greatestBest ∈ wsL_law := in_r34 _ (List.mem_of_getElem? (i := 17) rfl)
theorem q_34_18 : Cond.code yX4_greatestBest cX4_greatestBest 1 (some .int) ∈ wsL_law := in_r34 _ (List.mem_of_getElem? (i := 18) rfl)
theorem q_34_23 : Cond.methodLink RX7 188 yX7_leaves ∈ wsL_law := in_r34 _ (List.mem_of_getElem? (i := 23) rfl)
theorem q_35_0 : Cond.instanceMethod yX7_leaves ∈ wsL_law := in_r35 _ (List.mem_of_getElem? (i := 0) rfl)
theorem q_35_1 : Cond.selects RX7 yX7_leaves yX7_leaves ∈ wsL_law := in_r35 _ (List.mem_of_getElem? (i := 1) rfl)
theorem q_35_2 : Cond.code yX7_leaves cX7_leaves 5 (some .int) ∈ wsL_law := in_r35 _ (List.mem_of_getElem? (i := 2) rfl)
theorem q_35_7 : Cond.methodLink RX6 259 yX4_statesWithin ∈ wsL_law := in_r35 _ (List.mem_of_getElem? (i := 7) rfl)
theorem q_35_8 : Cond.instanceMethod yX4_statesWithin ∈ wsL_law := in_r35 _ (List.mem_of_getElem? (i := 8) rfl)
theorem q_35_9 : Cond.selects RX4 yX4_statesWithin yX4_statesWithin ∈ wsL_law := in_r35 _ (List.mem_of_getElem? (i := 9) rfl)
theorem q_35_10 : Cond.code yX4_statesWithin cX4_statesWithin 4 (some .int) ∈ wsL_law := in_r35 _ (List.mem_of_getElem? (i := 10) rfl)
theorem q_35_11 : Cond.methodLink RX4 130 yX4_isWithin ∈ wsL_law := in_r35 _ (List.mem_of_getElem? (i := 11) rfl)
theorem q_35_12 : Cond.instanceMethod yX4_isWithin ∈ wsL_law := in_r35 _ (List.mem_of_getElem? (i := 12) rfl)
theorem q_35_13 : Cond.selects RX4 yX4_isWithin yX4_isWithin ∈ wsL_law := in_r35 _ (List.mem_of_getElem? (i := 13) rfl)
theorem q_35_14 : Cond.code yX4_isWithin cX4_isWithin 3 (some .boolean) ∈ wsL_law := in_r35 _ (List.mem_of_getElem? (i := 14) rfl)
theorem q_35_15 : Cond.methodLink RX4 137 yX4_hitsOf ∈ wsL_law := in_r35 _ (List.mem_of_getElem? (i := 15) rfl)
theorem q_35_16 : Cond.methodLink RX6 262 yX4_greatestWorstWithin ∈ wsL_law := in_r35 _ (List.mem_of_getElem? (i := 16) rfl)
theorem q_35_17 : Cond.instanceMethod yX4_greatestWorstWithin ∈ wsL_law := in_r35 _ (List.mem_of_getElem? (i := 17) rfl)
theorem q_35_18 : Cond.selects RX4 yX4_greatestWorstWithin yX4_greatestWorstWithin ∈ wsL_law := in_r35 _ (List.mem_of_getElem? (i := 18) rfl)
theorem q_35_19 : Cond.code yX4_greatestWorstWithin cX4_greatestWorstWithin 4 (some .int) ∈ wsL_law := in_r35 _ (List.mem_of_getElem? (i := 19) rfl)
theorem q_35_20 : Cond.methodLink RX4 134 yX4_rankOf ∈ wsL_law := in_r35 _ (List.mem_of_getElem? (i := 20) rfl)
theorem q_36_5 : Cond.fieldLink RX6 265 "HomingNets$Net" "range" "I" ∈ wsL_law := in_r36 _ (List.mem_of_getElem? (i := 5) rfl)
theorem q_36_6 : Cond.fieldLink RX6 268 "HomingNets$Net" "wires" "I" ∈ wsL_law := in_r36 _ (List.mem_of_getElem? (i := 6) rfl)
theorem fl_X1_9 : FL RX1 9 0 6 := ⟨RX1, TX1, 8, rfl, inlX1, by decide, q_2_15, rfl⟩
theorem fl_X1_15 : FL RX1 15 0 7 := ⟨RX1, TX1, 8, rfl, inlX1, by decide, q_2_16, rfl⟩
theorem fl_X1_24 : FL RX1 24 0 0 := ⟨RX1, TX1, 8, rfl, inlX1, by decide, q_6_18, rfl⟩
theorem fp_X1_24 : FP RX1 24 0 0 .int := ⟨RX1, TX1, 8, rfl, inlX1, by decide, q_6_18, rfl, rfl, by decide +kernel, ⟨tyX1, tyX1_ok⟩, nmX1⟩
theorem fl_X1_28 : FL RX1 28 0 1 := ⟨RX1, TX1, 8, rfl, inlX1, by decide, q_6_19, rfl⟩
theorem fp_X1_28 : FP RX1 28 0 1 .int := ⟨RX1, TX1, 8, rfl, inlX1, by decide, q_6_19, rfl, rfl, by decide +kernel, ⟨tyX1, tyX1_ok⟩, nmX1⟩
theorem fl_X1_31 : FL RX1 31 0 2 := ⟨RX1, TX1, 8, rfl, inlX1, by decide, q_6_20, rfl⟩
theorem fp_X1_31 : FP RX1 31 0 2 .int := ⟨RX1, TX1, 8, rfl, inlX1, by decide, q_6_20, rfl, rfl, by decide +kernel, ⟨tyX1, tyX1_ok⟩, nmX1⟩
theorem fl_X1_34 : FL RX1 34 0 3 := ⟨RX1, TX1, 8, rfl, inlX1, by decide, q_6_21, rfl⟩
theorem fp_X1_34 : FP RX1 34 0 3 .int := ⟨RX1, TX1, 8, rfl, inlX1, by decide, q_6_21, rfl, rfl, by decide +kernel, ⟨tyX1, tyX1_ok⟩, nmX1⟩
theorem fl_X1_37 : FL RX1 37 0 4 := ⟨RX1, TX1, 8, rfl, inlX1, by decide, q_6_22, rfl⟩
theorem fp_X1_37 : FP RX1 37 0 4 .int := ⟨RX1, TX1, 8, rfl, inlX1, by decide, q_6_22, rfl, rfl, by decide +kernel, ⟨tyX1, tyX1_ok⟩, nmX1⟩
theorem fl_X1_40 : FL RX1 40 0 5 := ⟨RX1, TX1, 8, rfl, inlX1, by decide, q_6_23, rfl⟩
theorem fp_X1_40 : FP RX1 40 0 5 .int := ⟨RX1, TX1, 8, rfl, inlX1, by decide, q_6_23, rfl, rfl, by decide +kernel, ⟨tyX1, tyX1_ok⟩, nmX1⟩
theorem fl_X2_9 : FL RX2 9 1 0 := ⟨RX2, TX2, 3, rfl, inlX2, by decide, q_3_7, rfl⟩
theorem fl_X2_15 : FL RX2 15 1 1 := ⟨RX2, TX2, 3, rfl, inlX2, by decide, q_3_8, rfl⟩
theorem fl_X2_18 : FL RX2 18 1 2 := ⟨RX2, TX2, 3, rfl, inlX2, by decide, q_8_21, rfl⟩
theorem fp_X2_18 : FP RX2 18 1 2 .int := ⟨RX2, TX2, 3, rfl, inlX2, by decide, q_8_21, rfl, rfl, by decide +kernel, ⟨tyX2, tyX2_ok⟩, nmX2⟩
theorem fl_X4_9 : FL RX4 9 2 2 := ⟨RX4, TX4, 8, rfl, inlX4, by decide, q_2_21, rfl⟩
theorem fl_X4_15 : FL RX4 15 2 3 := ⟨RX4, TX4, 8, rfl, inlX4, by decide, q_2_22, rfl⟩
theorem fl_X4_18 : FL RX4 18 2 4 := ⟨RX4, TX4, 8, rfl, inlX4, by decide, q_2_23, rfl⟩
theorem fl_X4_21 : FL RX4 21 2 5 := ⟨RX4, TX4, 8, rfl, inlX4, by decide, q_3_0, rfl⟩
theorem fl_X4_24 : FL RX4 24 2 6 := ⟨RX4, TX4, 8, rfl, inlX4, by decide, q_3_1, rfl⟩
theorem fl_X4_27 : FL RX4 27 2 7 := ⟨RX4, TX4, 8, rfl, inlX4, by decide, q_3_2, rfl⟩
theorem fl_X4_30 : FL RX4 30 2 0 := ⟨RX4, TX4, 8, rfl, inlX4, by decide, q_9_2, rfl⟩
theorem fp_X4_30 : FP RX4 30 2 0 .boolean := ⟨RX4, TX4, 8, rfl, inlX4, by decide, q_9_2, rfl, rfl, by decide +kernel, ⟨tyX4, tyX4_ok⟩, nmX4⟩
theorem fl_X4_34 : FL RX4 34 0 3 := ⟨RX1, TX1, 8, rfl, inlX1, by decide, q_25_2, rfl⟩
theorem fl_X4_46 : FL RX4 46 2 1 := ⟨RX4, TX4, 8, rfl, inlX4, by decide, q_25_4, rfl⟩
theorem fp_X4_46 : FP RX4 46 2 1 .int := ⟨RX4, TX4, 8, rfl, inlX4, by decide, q_25_4, rfl, rfl, by decide +kernel, ⟨tyX4, tyX4_ok⟩, nmX4⟩
theorem fl_X4_55 : FL RX4 55 0 1 := ⟨RX1, TX1, 8, rfl, inlX1, by decide, q_25_9, rfl⟩
theorem fl_X4_70 : FL RX4 70 0 0 := ⟨RX1, TX1, 8, rfl, inlX1, by decide, q_25_10, rfl⟩
theorem fl_X4_81 : FL RX4 81 0 2 := ⟨RX1, TX1, 8, rfl, inlX1, by decide, q_25_23, rfl⟩
theorem fl_X5_9 : FL RX5 9 3 0 := ⟨RX5, TX5, 2, rfl, inlX5, by decide, q_2_10, rfl⟩
theorem fl_X5_15 : FL RX5 15 3 1 := ⟨RX5, TX5, 2, rfl, inlX5, by decide, q_5_14, rfl⟩
theorem fp_X5_15 : FP RX5 15 3 1 .int := ⟨RX5, TX5, 2, rfl, inlX5, by decide, q_5_14, rfl, rfl, by decide +kernel, ⟨tyX5, tyX5_ok⟩, nmX5⟩
theorem fl_X6_10 : FL RX6 10 4 0 := ⟨RX6, TX6, 7, rfl, inlX6, by decide, q_1_15, rfl⟩
theorem fl_X6_19 : FL RX6 19 4 1 := ⟨RX6, TX6, 7, rfl, inlX6, by decide, q_1_19, rfl⟩
theorem fl_X6_23 : FL RX6 23 4 2 := ⟨RX6, TX6, 7, rfl, inlX6, by decide, q_1_20, rfl⟩
theorem fl_X6_29 : FL RX6 29 4 3 := ⟨RX6, TX6, 7, rfl, inlX6, by decide, q_2_0, rfl⟩
theorem fl_X6_36 : FL RX6 36 4 4 := ⟨RX6, TX6, 7, rfl, inlX6, by decide, q_2_4, rfl⟩
theorem fl_X6_71 : FL RX6 71 0 3 := ⟨RX1, TX1, 8, rfl, inlX1, by decide, q_12_23, rfl⟩
theorem fl_X6_79 : FL RX6 79 0 5 := ⟨RX1, TX1, 8, rfl, inlX1, by decide, q_8_10, rfl⟩
theorem fl_X6_82 : FL RX6 82 4 5 := ⟨RX6, TX6, 7, rfl, inlX6, by decide, q_8_11, rfl⟩
theorem fp_X6_82 : FP RX6 82 4 5 .int := ⟨RX6, TX6, 7, rfl, inlX6, by decide, q_8_11, rfl, rfl, by decide +kernel, ⟨tyX6, tyX6_ok⟩, nmX6⟩
theorem fl_X6_85 : FL RX6 85 4 6 := ⟨RX6, TX6, 7, rfl, inlX6, by decide, q_8_12, rfl⟩
theorem fp_X6_85 : FP RX6 85 4 6 .int := ⟨RX6, TX6, 7, rfl, inlX6, by decide, q_8_12, rfl, rfl, by decide +kernel, ⟨tyX6, tyX6_ok⟩, nmX6⟩
theorem fl_X6_130 : FL RX6 130 0 0 := ⟨RX1, TX1, 8, rfl, inlX1, by decide, q_23_5, rfl⟩
theorem fl_X6_204 : FL RX6 204 0 1 := ⟨RX1, TX1, 8, rfl, inlX1, by decide, q_26_19, rfl⟩
theorem fl_X6_265 : FL RX6 265 0 2 := ⟨RX1, TX1, 8, rfl, inlX1, by decide, q_36_5, rfl⟩
theorem fl_X6_268 : FL RX6 268 0 4 := ⟨RX1, TX1, 8, rfl, inlX1, by decide, q_36_6, rfl⟩
theorem fl_X7_7 : FL RX7 7 5 1 := ⟨RX7, TX7, 27, rfl, inlX7, by decide, q_9_11, rfl⟩
theorem fl_X7_13 : FL RX7 13 5 7 := ⟨RX7, TX7, 27, rfl, inlX7, by decide, q_9_12, rfl⟩
theorem fl_X7_16 : FL RX7 16 5 8 := ⟨RX7, TX7, 27, rfl, inlX7, by decide, q_9_13, rfl⟩
theorem fl_X7_19 : FL RX7 19 5 9 := ⟨RX7, TX7, 27, rfl, inlX7, by decide, q_9_14, rfl⟩
theorem fl_X7_22 : FL RX7 22 5 15 := ⟨RX7, TX7, 27, rfl, inlX7, by decide, q_9_15, rfl⟩
theorem fl_X7_25 : FL RX7 25 5 16 := ⟨RX7, TX7, 27, rfl, inlX7, by decide, q_9_16, rfl⟩
theorem fl_X7_28 : FL RX7 28 5 18 := ⟨RX7, TX7, 27, rfl, inlX7, by decide, q_9_17, rfl⟩
theorem fl_X7_31 : FL RX7 31 5 19 := ⟨RX7, TX7, 27, rfl, inlX7, by decide, q_9_18, rfl⟩
theorem fl_X7_34 : FL RX7 34 5 20 := ⟨RX7, TX7, 27, rfl, inlX7, by decide, q_9_19, rfl⟩
theorem fl_X7_37 : FL RX7 37 5 21 := ⟨RX7, TX7, 27, rfl, inlX7, by decide, q_9_20, rfl⟩
theorem fl_X7_40 : FL RX7 40 5 22 := ⟨RX7, TX7, 27, rfl, inlX7, by decide, q_9_21, rfl⟩
theorem fl_X7_43 : FL RX7 43 5 24 := ⟨RX7, TX7, 27, rfl, inlX7, by decide, q_9_22, rfl⟩
theorem fl_X7_46 : FL RX7 46 5 25 := ⟨RX7, TX7, 27, rfl, inlX7, by decide, q_9_23, rfl⟩
theorem fl_X7_49 : FL RX7 49 5 2 := ⟨RX7, TX7, 27, rfl, inlX7, by decide, q_10_0, rfl⟩
theorem fp_X7_49 : FP RX7 49 5 2 .int := ⟨RX7, TX7, 27, rfl, inlX7, by decide, q_10_0, rfl, rfl, by decide +kernel, ⟨tyX7, tyX7_ok⟩, nmX7⟩
theorem fl_X7_53 : FL RX7 53 5 3 := ⟨RX7, TX7, 27, rfl, inlX7, by decide, q_10_1, rfl⟩
theorem fp_X7_53 : FP RX7 53 5 3 .int := ⟨RX7, TX7, 27, rfl, inlX7, by decide, q_10_1, rfl, rfl, by decide +kernel, ⟨tyX7, tyX7_ok⟩, nmX7⟩
theorem fl_X7_56 : FL RX7 56 5 4 := ⟨RX7, TX7, 27, rfl, inlX7, by decide, q_10_2, rfl⟩
theorem fp_X7_56 : FP RX7 56 5 4 .int := ⟨RX7, TX7, 27, rfl, inlX7, by decide, q_10_2, rfl, rfl, by decide +kernel, ⟨tyX7, tyX7_ok⟩, nmX7⟩
theorem fl_X7_62 : FL RX7 62 5 5 := ⟨RX7, TX7, 27, rfl, inlX7, by decide, q_10_7, rfl⟩
theorem fp_X7_62 : FP RX7 62 5 5 .int := ⟨RX7, TX7, 27, rfl, inlX7, by decide, q_10_7, rfl, rfl, by decide +kernel, ⟨tyX7, tyX7_ok⟩, nmX7⟩
theorem fl_X7_65 : FL RX7 65 5 10 := ⟨RX7, TX7, 27, rfl, inlX7, by decide, q_10_8, rfl⟩
theorem fp_X7_65 : FP RX7 65 5 10 .int := ⟨RX7, TX7, 27, rfl, inlX7, by decide, q_10_8, rfl, rfl, by decide +kernel, ⟨tyX7, tyX7_ok⟩, nmX7⟩
theorem fl_X7_68 : FL RX7 68 5 17 := ⟨RX7, TX7, 27, rfl, inlX7, by decide, q_10_9, rfl⟩
theorem fp_X7_68 : FP RX7 68 5 17 .int := ⟨RX7, TX7, 27, rfl, inlX7, by decide, q_10_9, rfl, rfl, by decide +kernel, ⟨tyX7, tyX7_ok⟩, nmX7⟩
theorem fl_X7_71 : FL RX7 71 5 23 := ⟨RX7, TX7, 27, rfl, inlX7, by decide, q_10_10, rfl⟩
theorem fp_X7_71 : FP RX7 71 5 23 .boolean := ⟨RX7, TX7, 27, rfl, inlX7, by decide, q_10_10, rfl, rfl, by decide +kernel, ⟨tyX7, tyX7_ok⟩, nmX7⟩
theorem fl_X7_75 : FL RX7 75 5 0 := ⟨RX7, TX7, 27, rfl, inlX7, by decide, q_10_23, rfl⟩
theorem fp_X7_75 : FP RX7 75 5 0 .int := ⟨RX7, TX7, 27, rfl, inlX7, by decide, q_10_23, rfl, rfl, by decide +kernel, ⟨tyX7, tyX7_ok⟩, nmX7⟩
theorem fl_X7_85 : FL RX7 85 5 11 := ⟨RX7, TX7, 27, rfl, inlX7, by decide, q_11_20, rfl⟩
theorem fp_X7_85 : FP RX7 85 5 11 .int := ⟨RX7, TX7, 27, rfl, inlX7, by decide, q_11_20, rfl, rfl, by decide +kernel, ⟨tyX7, tyX7_ok⟩, nmX7⟩
theorem fl_X7_92 : FL RX7 92 5 12 := ⟨RX7, TX7, 27, rfl, inlX7, by decide, q_12_2, rfl⟩
theorem fp_X7_92 : FP RX7 92 5 12 .int := ⟨RX7, TX7, 27, rfl, inlX7, by decide, q_12_2, rfl, rfl, by decide +kernel, ⟨tyX7, tyX7_ok⟩, nmX7⟩
theorem fl_X7_95 : FL RX7 95 5 13 := ⟨RX7, TX7, 27, rfl, inlX7, by decide, q_12_3, rfl⟩
theorem fp_X7_95 : FP RX7 95 5 13 .int := ⟨RX7, TX7, 27, rfl, inlX7, by decide, q_12_3, rfl, rfl, by decide +kernel, ⟨tyX7, tyX7_ok⟩, nmX7⟩
theorem fl_X7_102 : FL RX7 102 5 14 := ⟨RX7, TX7, 27, rfl, inlX7, by decide, q_11_21, rfl⟩
theorem fp_X7_102 : FP RX7 102 5 14 .int := ⟨RX7, TX7, 27, rfl, inlX7, by decide, q_11_21, rfl, rfl, by decide +kernel, ⟨tyX7, tyX7_ok⟩, nmX7⟩
theorem fl_X7_113 : FL RX7 113 5 6 := ⟨RX7, TX7, 27, rfl, inlX7, by decide, q_13_15, rfl⟩
theorem fp_X7_113 : FP RX7 113 5 6 .int := ⟨RX7, TX7, 27, rfl, inlX7, by decide, q_13_15, rfl, rfl, by decide +kernel, ⟨tyX7, tyX7_ok⟩, nmX7⟩
theorem fl_X7_120 : FL RX7 120 5 26 := ⟨RX7, TX7, 27, rfl, inlX7, by decide, q_19_18, rfl⟩
theorem fp_X7_120 : FP RX7 120 5 26 .int := ⟨RX7, TX7, 27, rfl, inlX7, by decide, q_19_18, rfl, rfl, by decide +kernel, ⟨tyX7, tyX7_ok⟩, nmX7⟩
theorem lk_X0_7 : LkS RX0 7 yX0_lowest cX0_lowest 1 (some .int) 1 := ⟨q_19_10, q_19_11, q_19_5, q_19_12, by decide +kernel⟩
theorem lk_X0_13 : LkS RX0 13 yJ6_bitCount_0f7a4 cJ6_bitCount_0f7a4 1 (some .int) 1 := ⟨q_19_13, q_13_5, q_13_6, q_13_7, by decide +kernel⟩
theorem lk_X1_18 : LkS RX1 18 yX3_put cX3_put 3 none 3 := ⟨q_7_0, q_5_16, q_5_17, q_5_18, by decide +kernel⟩
theorem lk_X1_43 : LkV RX1 43 RX1 yX1_hasMachine cX1_hasMachine 2 (some .boolean) 1 := ⟨q_7_5, q_7_6, q_7_7, q_1_18, q_7_8, by decide +kernel⟩
theorem lk_X1_47 : LkV RX1 47 RX1 yX1_isLinked cX1_isLinked 3 (some .boolean) 2 := ⟨q_7_9, q_7_10, q_7_11, q_1_18, q_7_12, by decide +kernel⟩
theorem lk_X1_51 : LkS RX1 51 yX3_at cX3_at 2 (some .int) 2 := ⟨q_7_13, q_6_12, q_5_17, q_6_13, by decide +kernel⟩
theorem lk_X1_55 : LkV RX1 55 RX1 yX1_hasValue cX1_hasValue 2 (some .boolean) 1 := ⟨q_7_18, q_7_19, q_7_20, q_1_18, q_7_21, by decide +kernel⟩
theorem lk_X1_58 : LkV RX1 58 RX1 yX1_withValue cX1_withValue 4 (some .int) 3 := ⟨q_7_22, q_7_23, q_8_0, q_1_18, q_8_1, by decide +kernel⟩
theorem lk_X1_62 : LkS RX1 62 yJ6_bitCount_0f7a4 cJ6_bitCount_0f7a4 1 (some .int) 1 := ⟨q_13_4, q_13_5, q_13_6, q_13_7, by decide +kernel⟩
theorem lk_X1_68 : LkV RX1 68 RX1 yX1_valueAt cX1_valueAt 3 (some .int) 2 := ⟨q_8_2, q_8_3, q_8_4, q_1_18, q_8_5, by decide +kernel⟩
theorem lk_X1_72 : LkV RX1 72 RX1 yX1_aheadOf cX1_aheadOf 2 (some .int) 1 := ⟨q_17_7, q_17_8, q_17_9, q_1_18, q_17_10, by decide +kernel⟩
theorem lk_X1_75 : LkV RX1 75 RX1 yX1_counterWants cX1_counterWants 5 (some .int) 2 := ⟨q_18_3, q_18_4, q_18_5, q_1_18, q_18_6, by decide +kernel⟩
theorem lk_X1_78 : LkV RX1 78 RX1 yX1_pointerWants cX1_pointerWants 6 (some .int) 2 := ⟨q_18_7, q_18_8, q_18_9, q_1_18, q_18_10, by decide +kernel⟩
theorem lk_X1_81 : LkV RX1 81 RX1 yX1_distanceWants cX1_distanceWants 5 (some .int) 2 := ⟨q_18_15, q_18_16, q_18_17, q_1_18, q_18_18, by decide +kernel⟩
theorem lk_X1_84 : LkV RX1 84 RX1 yX1_colourWants cX1_colourWants 5 (some .int) 2 := ⟨q_18_23, q_19_0, q_19_1, q_1_18, q_19_2, by decide +kernel⟩
theorem lk_X1_87 : LkV RX1 87 RX1 yX1_lowestLinkedWith cX1_lowestLinkedWith 5 (some .int) 3 := ⟨q_18_11, q_18_12, q_18_13, q_1_18, q_18_14, by decide +kernel⟩
theorem lk_X1_95 : LkS RX1 95 yX0_has cX0_has 2 (some .boolean) 2 := ⟨q_19_3, q_19_4, q_19_5, q_19_6, by decide +kernel⟩
theorem lk_X1_100 : LkS RX1 100 yX0_indexOf cX0_indexOf 1 (some .int) 1 := ⟨q_19_7, q_19_8, q_19_5, q_19_9, by decide +kernel⟩
theorem lk_X1_103 : LkV RX1 103 RX1 yX1_wants cX1_wants 3 (some .int) 2 := ⟨q_17_23, q_18_0, q_18_1, q_1_18, q_18_2, by decide +kernel⟩
theorem lk_X1_106 : LkV RX1 106 RX1 yX1_whoMay cX1_whoMay 4 (some .int) 1 := ⟨q_22_16, q_21_21, q_21_22, q_1_18, q_21_23, by decide +kernel⟩
theorem lk_X2_22 : LkV RX2 22 RX2 yX2_forgetOldest cX2_forgetOldest 2 none 0 := ⟨q_14_20, q_14_21, q_14_22, q_2_3, q_14_23, by decide +kernel⟩
theorem lk_X2_25 : LkS RX2 25 yX3_put cX3_put 3 none 3 := ⟨q_15_1, q_5_16, q_5_17, q_5_18, by decide +kernel⟩
theorem lk_X2_31 : LkS RX2 31 yX3_at cX3_at 2 (some .int) 2 := ⟨q_15_0, q_6_12, q_5_17, q_6_13, by decide +kernel⟩
theorem lk_X4_47 : LkV RX4 47 RX4 yX4_noteMoves cX4_noteMoves 7 none 2 := ⟨q_25_5, q_25_6, q_25_7, q_1_23, q_25_8, by decide +kernel⟩
theorem lk_X4_51 : LkV RX4 51 RX4 yX4_spread cX4_spread 8 none 3 := ⟨q_25_14, q_25_15, q_25_16, q_1_23, q_25_17, by decide +kernel⟩
theorem lk_X4_58 : LkV RX4 58 RX1 yX1_wants cX1_wants 3 (some .int) 2 := ⟨q_25_11, q_18_0, q_18_1, q_1_18, q_18_2, by decide +kernel⟩
theorem lk_X4_61 : LkV RX4 61 RX1 yX1_valueAt cX1_valueAt 3 (some .int) 2 := ⟨q_25_12, q_8_3, q_8_4, q_1_18, q_8_5, by decide +kernel⟩
theorem lk_X4_64 : LkS RX4 64 yX3_put cX3_put 3 none 3 := ⟨q_25_13, q_5_16, q_5_17, q_5_18, by decide +kernel⟩
theorem lk_X4_73 : LkS RX4 73 yX3_at cX3_at 2 (some .int) 2 := ⟨q_25_18, q_6_12, q_5_17, q_6_13, by decide +kernel⟩
theorem lk_X4_77 : LkV RX4 77 RX4 yX4_spreadBy cX4_spreadBy 12 (some .int) 6 := ⟨q_25_19, q_25_20, q_25_21, q_1_23, q_25_22, by decide +kernel⟩
theorem lk_X4_84 : LkV RX4 84 RX1 yX1_withValue cX1_withValue 4 (some .int) 3 := ⟨q_26_0, q_7_23, q_8_0, q_1_18, q_8_1, by decide +kernel⟩
theorem lk_X4_88 : LkV RX4 88 RX4 yX4_reaches cX4_reaches 6 (some .boolean) 4 := ⟨q_26_1, q_26_2, q_26_3, q_1_23, q_26_4, by decide +kernel⟩
theorem lk_X4_92 : LkV RX4 92 RX4 yX4_wantedBy cX4_wantedBy 3 (some .int) 2 := ⟨q_26_5, q_26_6, q_26_7, q_1_23, q_26_8, by decide +kernel⟩
theorem lk_X4_95 : LkS RX4 95 yJ7_fill_53178 cJ7_fill_53178 4 none 2 := ⟨q_30_22, q_30_23, q_31_0, q_31_1, by decide +kernel⟩
theorem lk_X4_104 : LkV RX4 104 RX4 yX4_countOf cX4_countOf 5 (some .int) 2 := ⟨q_33_3, q_33_4, q_33_5, q_1_23, q_33_6, by decide +kernel⟩
theorem lk_X4_107 : LkV RX4 107 RX4 yX4_greatestOf cX4_greatestOf 4 (some .int) 1 := ⟨q_33_15, q_33_16, q_33_17, q_1_23, q_33_18, by decide +kernel⟩
theorem lk_X4_114 : LkV RX4 114 RX4 yX4_greatestWorst cX4_greatestWorst 1 (some .int) 0 := ⟨q_34_0, q_33_12, q_33_13, q_1_23, q_33_14, by decide +kernel⟩
theorem lk_X4_118 : LkV RX4 118 RX4 yX4_worstOf cX4_worstOf 2 (some .int) 1 := ⟨q_34_1, q_27_13, q_27_14, q_1_23, q_27_15, by decide +kernel⟩
theorem lk_X4_122 : LkV RX4 122 RX4 yX4_movesOutOf cX4_movesOutOf 5 (some .int) 2 := ⟨q_34_6, q_34_7, q_34_8, q_1_23, q_34_9, by decide +kernel⟩
theorem lk_X4_126 : LkV RX4 126 RX4 yX4_behind cX4_behind 4 (some .int) 3 := ⟨q_34_10, q_27_9, q_27_10, q_1_23, q_27_11, by decide +kernel⟩
theorem lk_X4_130 : LkV RX4 130 RX4 yX4_isWithin cX4_isWithin 3 (some .boolean) 2 := ⟨q_35_11, q_35_12, q_35_13, q_1_23, q_35_14, by decide +kernel⟩
theorem lk_X4_134 : LkS RX4 134 yX4_rankOf cX4_rankOf 1 (some .int) 1 := ⟨q_35_20, q_27_17, q_1_23, q_27_18, by decide +kernel⟩
theorem lk_X4_137 : LkV RX4 137 RX4 yX4_hitsOf cX4_hitsOf 2 (some .int) 1 := ⟨q_35_15, q_32_8, q_32_9, q_1_23, q_32_10, by decide +kernel⟩
theorem lk_X5_19 : LkS RX5 19 yX3_put cX3_put 3 none 3 := ⟨q_5_15, q_5_16, q_5_17, q_5_18, by decide +kernel⟩
theorem lk_X5_25 : LkV RX5 25 RX5 yX5_readItem cX5_readItem 6 (some .boolean) 2 := ⟨q_5_23, q_6_0, q_6_1, q_1_14, q_6_2, by decide +kernel⟩
theorem lk_X5_29 : LkV RX5 29 RX5 yX5_letterAt cX5_letterAt 2 (some .int) 1 := ⟨q_6_7, q_6_8, q_6_9, q_1_14, q_6_10, by decide +kernel⟩
theorem lk_X5_33 : LkV RX5 33 RX5 yX5_figureAt cX5_figureAt 3 (some .int) 1 := ⟨q_6_3, q_6_4, q_6_5, q_1_14, q_6_6, by decide +kernel⟩
theorem lk_X5_36 : LkV RX5 36 RX1 yX1_begin cX1_begin 6 (some .boolean) 3 := ⟨q_6_14, q_6_15, q_6_16, q_1_18, q_6_17, by decide +kernel⟩
theorem lk_X5_42 : LkV RX5 42 RX1 yX1_addWire cX1_addWire 3 (some .boolean) 2 := ⟨q_7_1, q_7_2, q_7_3, q_1_18, q_7_4, by decide +kernel⟩
theorem lk_X5_46 : LkV RX5 46 RX1 yX1_startWith cX1_startWith 3 (some .boolean) 2 := ⟨q_7_14, q_7_15, q_7_16, q_1_18, q_7_17, by decide +kernel⟩
theorem lk_X5_49 : LkS RX5 49 yX3_at cX3_at 2 (some .int) 2 := ⟨q_6_11, q_6_12, q_5_17, q_6_13, by decide +kernel⟩
theorem lk_X6_52 : LkV RX6 52 RX5 yX5_append cX5_append 2 (some .boolean) 1 := ⟨q_5_10, q_5_11, q_5_12, q_1_14, q_5_13, by decide +kernel⟩
theorem lk_X6_56 : LkV RX6 56 RX5 yX5_readInto cX5_readInto 4 (some .int) 1 := ⟨q_5_19, q_5_20, q_5_21, q_1_14, q_5_22, by decide +kernel⟩
theorem lk_X6_60 : LkV RX6 60 RX6 yX6_takeDraft cX6_takeDraft 1 none 0 := ⟨q_8_6, q_8_7, q_8_8, q_1_2, q_8_9, by decide +kernel⟩
theorem lk_X6_63 : LkV RX6 63 RX5 yX5_clear cX5_clear 1 none 0 := ⟨q_9_3, q_9_4, q_9_5, q_1_14, q_9_6, by decide +kernel⟩
theorem lk_X6_66 : LkV RX6 66 RX5 yX5_length cX5_length 1 (some .int) 0 := ⟨q_10_15, q_10_16, q_10_17, q_1_14, q_10_18, by decide +kernel⟩
theorem lk_X6_67 : LkV RX6 67 RX1 yX1_hasColoursEnough cX1_hasColoursEnough 2 (some .boolean) 0 := ⟨q_13_0, q_13_1, q_13_2, q_1_18, q_13_3, by decide +kernel⟩
theorem lk_X6_75 : LkV RX6 75 RX1 yX1_copyFrom cX1_copyFrom 3 none 1 := ⟨q_8_13, q_8_14, q_8_15, q_1_18, q_8_16, by decide +kernel⟩
theorem lk_X6_88 : LkV RX6 88 RX2 yX2_clear cX2_clear 1 none 0 := ⟨q_8_17, q_8_18, q_8_19, q_2_3, q_8_20, by decide +kernel⟩
theorem lk_X6_89 : LkV RX6 89 RX4 yX4_forget cX4_forget 1 none 0 := ⟨q_8_22, q_8_23, q_9_0, q_1_23, q_9_1, by decide +kernel⟩
theorem lk_X6_92 : LkV RX6 92 RX1 yX1_hasMachine cX1_hasMachine 2 (some .boolean) 1 := ⟨q_13_20, q_7_6, q_7_7, q_1_18, q_7_8, by decide +kernel⟩
theorem lk_X6_95 : LkV RX6 95 RX1 yX1_valueAt cX1_valueAt 3 (some .int) 2 := ⟨q_13_21, q_8_3, q_8_4, q_1_18, q_8_5, by decide +kernel⟩
theorem lk_X6_99 : LkV RX6 99 RX1 yX1_hasValue cX1_hasValue 2 (some .boolean) 1 := ⟨q_14_10, q_7_19, q_7_20, q_1_18, q_7_21, by decide +kernel⟩
theorem lk_X6_102 : LkV RX6 102 RX1 yX1_withValue cX1_withValue 4 (some .int) 3 := ⟨q_14_11, q_7_23, q_8_0, q_1_18, q_8_1, by decide +kernel⟩
theorem lk_X6_106 : LkV RX6 106 RX6 yX6_change cX6_change 2 none 1 := ⟨q_14_12, q_14_13, q_14_14, q_1_2, q_14_15, by decide +kernel⟩
theorem lk_X6_110 : LkV RX6 110 RX1 yX1_hasState cX1_hasState 2 (some .boolean) 1 := ⟨q_16_6, q_16_7, q_16_8, q_1_18, q_16_9, by decide +kernel⟩
theorem lk_X6_113 : LkV RX6 113 RX1 yX1_sees cX1_sees 3 (some .boolean) 2 := ⟨q_17_3, q_17_4, q_17_5, q_1_18, q_17_6, by decide +kernel⟩
theorem lk_X6_117 : LkV RX6 117 RX1 yX1_ruleOf cX1_ruleOf 5 (some .int) 2 := ⟨q_17_19, q_17_20, q_17_21, q_1_18, q_17_22, by decide +kernel⟩
theorem lk_X6_120 : LkV RX6 120 RX1 yX1_wants cX1_wants 3 (some .int) 2 := ⟨q_21_3, q_18_0, q_18_1, q_1_18, q_18_2, by decide +kernel⟩
theorem lk_X6_123 : LkV RX6 123 RX1 yX1_whoMay cX1_whoMay 4 (some .int) 1 := ⟨q_21_20, q_21_21, q_21_22, q_1_18, q_21_23, by decide +kernel⟩
theorem lk_X6_127 : LkV RX6 127 RX1 yX1_isLegal cX1_isLegal 3 (some .boolean) 1 := ⟨q_22_12, q_22_13, q_22_14, q_1_18, q_22_15, by decide +kernel⟩
theorem lk_X6_133 : LkV RX6 133 RX1 yX1_matchOf cX1_matchOf 5 (some .int) 2 := ⟨q_23_6, q_23_7, q_23_8, q_1_18, q_23_9, by decide +kernel⟩
theorem lk_X6_136 : LkV RX6 136 RX1 yX1_parentOf cX1_parentOf 3 (some .int) 2 := ⟨q_23_10, q_23_11, q_23_12, q_1_18, q_23_13, by decide +kernel⟩
theorem lk_X6_139 : LkV RX6 139 RX2 yX2_size cX2_size 1 (some .int) 0 := ⟨q_23_22, q_23_23, q_24_0, q_2_3, q_24_1, by decide +kernel⟩
theorem lk_X6_142 : LkV RX6 142 RX2 yX2_lastState cX2_lastState 1 (some .int) 0 := ⟨q_24_2, q_24_3, q_24_4, q_2_3, q_24_5, by decide +kernel⟩
theorem lk_X6_145 : LkV RX6 145 RX2 yX2_lastMover cX2_lastMover 1 (some .int) 0 := ⟨q_24_6, q_24_7, q_24_8, q_2_3, q_24_9, by decide +kernel⟩
theorem lk_X6_148 : LkV RX6 148 RX2 yX2_drop cX2_drop 1 none 0 := ⟨q_24_10, q_24_11, q_24_12, q_2_3, q_24_13, by decide +kernel⟩
theorem lk_X6_151 : LkV RX6 151 RX2 yX2_keep cX2_keep 3 none 2 := ⟨q_14_16, q_14_17, q_14_18, q_2_3, q_14_19, by decide +kernel⟩
theorem lk_X6_155 : LkV RX6 155 RX4 yX4_make cX4_make 3 none 1 := ⟨q_24_22, q_24_23, q_25_0, q_1_23, q_25_1, by decide +kernel⟩
theorem lk_X6_158 : LkS RX6 158 yX6_drawOf cX6_drawOf 4 (some .int) 2 := ⟨q_26_9, q_26_10, q_1_2, q_26_11, by decide +kernel⟩
theorem lk_X6_161 : LkV RX6 161 RX6 yX6_moversOf cX6_moversOf 6 (some .int) 4 := ⟨q_26_15, q_26_16, q_26_17, q_1_2, q_26_18, by decide +kernel⟩
theorem lk_X6_165 : LkS RX6 165 yX6_lastBehind cX6_lastBehind 3 (some .int) 3 := ⟨q_27_20, q_27_21, q_1_2, q_27_22, by decide +kernel⟩
theorem lk_X6_168 : LkV RX6 168 RX1 yX1_moved cX1_moved 5 (some .int) 2 := ⟨q_28_0, q_28_1, q_28_2, q_1_18, q_28_3, by decide +kernel⟩
theorem lk_X6_171 : LkV RX6 171 RX4 yX4_clearedSpare cX4_clearedSpare 1 (some (.array .int)) 0 := ⟨q_30_18, q_30_19, q_30_20, q_1_23, q_30_21, by decide +kernel⟩
theorem lk_X6_175 : LkS RX6 175 yX3_at cX3_at 2 (some .int) 2 := ⟨q_31_2, q_6_12, q_5_17, q_6_13, by decide +kernel⟩
theorem lk_X6_181 : LkS RX6 181 yX3_put cX3_put 3 none 3 := ⟨q_31_3, q_5_16, q_5_17, q_5_18, by decide +kernel⟩
theorem lk_X6_185 : LkV RX6 185 RX1 yX1_struck cX1_struck 3 (some .int) 2 := ⟨q_31_19, q_31_20, q_31_21, q_1_18, q_31_22, by decide +kernel⟩
theorem lk_X6_199 : LkS RX6 199 yX0_lowest cX0_lowest 1 (some .int) 1 := ⟨q_26_20, q_19_11, q_19_5, q_19_12, by decide +kernel⟩
theorem lk_X6_207 : LkS RX6 207 yX0_nextInRing cX0_nextInRing 4 (some .int) 3 := ⟨q_26_21, q_26_22, q_19_5, q_26_23, by decide +kernel⟩
theorem lk_X6_210 : LkS RX6 210 yX0_drawn cX0_drawn 5 (some .int) 2 := ⟨q_27_0, q_27_1, q_19_5, q_27_2, by decide +kernel⟩
theorem lk_X6_213 : LkV RX6 213 RX6 yX6_cruellest cX6_cruellest 7 (some .int) 2 := ⟨q_27_3, q_27_4, q_27_5, q_1_2, q_27_6, by decide +kernel⟩
theorem lk_X6_216 : LkS RX6 216 yX0_has cX0_has 2 (some .boolean) 2 := ⟨q_27_7, q_19_4, q_19_5, q_19_6, by decide +kernel⟩
theorem lk_X6_219 : LkV RX6 219 RX4 yX4_behind cX4_behind 4 (some .int) 3 := ⟨q_27_8, q_27_9, q_27_10, q_1_23, q_27_11, by decide +kernel⟩
theorem lk_X6_223 : LkV RX6 223 RX4 yX4_worstOf cX4_worstOf 2 (some .int) 1 := ⟨q_27_12, q_27_13, q_27_14, q_1_23, q_27_15, by decide +kernel⟩
theorem lk_X6_226 : LkS RX6 226 yX4_rankOf cX4_rankOf 1 (some .int) 1 := ⟨q_27_16, q_27_17, q_1_23, q_27_18, by decide +kernel⟩
theorem lk_X6_229 : LkS RX6 229 yX0_indexOf cX0_indexOf 1 (some .int) 1 := ⟨q_27_23, q_19_8, q_19_5, q_19_9, by decide +kernel⟩
theorem lk_X6_232 : LkV RX6 232 RX4 yX4_hitsOf cX4_hitsOf 2 (some .int) 1 := ⟨q_32_7, q_32_8, q_32_9, q_1_23, q_32_10, by decide +kernel⟩
theorem lk_X6_235 : LkV RX6 235 RX4 yX4_bestOf cX4_bestOf 2 (some .int) 1 := ⟨q_32_11, q_32_12, q_32_13, q_1_23, q_32_14, by decide +kernel⟩
theorem lk_X6_238 : LkV RX6 238 RX4 yX4_legalStates cX4_legalStates 1 (some .int) 0 := ⟨q_32_23, q_33_0, q_33_1, q_1_23, q_33_2, by decide +kernel⟩
theorem lk_X6_241 : LkV RX6 241 RX4 yX4_endlessStates cX4_endlessStates 1 (some .int) 0 := ⟨q_33_7, q_33_8, q_33_9, q_1_23, q_33_10, by decide +kernel⟩
theorem lk_X6_244 : LkV RX6 244 RX4 yX4_greatestWorst cX4_greatestWorst 1 (some .int) 0 := ⟨q_33_11, q_33_12, q_33_13, q_1_23, q_33_14, by decide +kernel⟩
theorem lk_X6_247 : LkV RX6 247 RX4 yX4_lowestOfGreatestWorst cX4_lowestOfGreatestWorst 3 (some .int) 0 := ⟨q_33_20, q_33_21, q_33_22, q_1_23, q_33_23, by decide +kernel⟩
theorem lk_X6_250 : LkV RX6 250 RX4 yX4_movesOutOfLegal cX4_movesOutOfLegal 4 (some .int) 1 := ⟨q_34_2, q_34_3, q_34_4, q_1_23, q_34_5, by decide +kernel⟩
theorem lk_X6_253 : LkV RX6 253 RX4 yX4_sumOfWorsts cX4_sumOfWorsts 3 (some .int) 0 := ⟨q_34_11, q_34_12, q_34_13, q_1_23, q_34_14, by decide +kernel⟩
theorem lk_X6_256 : LkV RX6 256 RX4 yX4_greatestBest cX4_greatestBest 1 (some .int) 0 := ⟨q_34_15, q_34_16, q_34_17, q_1_23, q_34_18, by decide +kernel⟩
theorem lk_X6_259 : LkV RX6 259 RX4 yX4_statesWithin cX4_statesWithin 4 (some .int) 1 := ⟨q_35_7, q_35_8, q_35_9, q_1_23, q_35_10, by decide +kernel⟩
theorem lk_X6_262 : LkV RX6 262 RX4 yX4_greatestWorstWithin cX4_greatestWorstWithin 4 (some .int) 1 := ⟨q_35_16, q_35_17, q_35_18, q_1_23, q_35_19, by decide +kernel⟩
theorem lk_X7_59 : LkV RX7 59 RX7 yX7_begins cX7_begins 2 none 0 := ⟨q_10_3, q_10_4, q_10_5, q_1_5, q_10_6, by decide +kernel⟩
theorem lk_X7_78 : LkV RX7 78 RX7 yX7_letterAt cX7_letterAt 2 (some .int) 1 := ⟨q_12_12, q_12_13, q_12_14, q_1_5, q_12_15, by decide +kernel⟩
theorem lk_X7_82 : LkV RX7 82 RX7 yX7_figure cX7_figure 3 (some .int) 1 := ⟨q_12_8, q_12_9, q_12_10, q_1_5, q_12_11, by decide +kernel⟩
theorem lk_X7_88 : LkS RX7 88 yX7_isIn cX7_isIn 3 (some .boolean) 3 := ⟨q_12_16, q_12_17, q_1_5, q_12_18, by decide +kernel⟩
theorem lk_X7_98 : LkV RX7 98 RX7 yX7_readsNet cX7_readsNet 7 (some .boolean) 1 := ⟨q_12_4, q_12_5, q_12_6, q_1_5, q_12_7, by decide +kernel⟩
theorem lk_X7_105 : LkV RX7 105 RX7 yX7_readsItem cX7_readsItem 5 (some .int) 2 := ⟨q_11_22, q_11_23, q_12_0, q_1_5, q_12_1, by decide +kernel⟩
theorem lk_X7_109 : LkV RX7 109 RX7 yX7_reads cX7_reads 3 (some .int) 0 := ⟨q_11_16, q_11_17, q_11_18, q_1_5, q_11_19, by decide +kernel⟩
theorem lk_X7_116 : LkV RX7 116 RX7 yX7_isWired cX7_isWired 3 (some .boolean) 2 := ⟨q_20_7, q_20_8, q_20_9, q_1_5, q_20_10, by decide +kernel⟩
theorem lk_X7_123 : LkV RX7 123 RX7 yX7_lowest cX7_lowest 4 (some .int) 2 := ⟨q_20_11, q_20_12, q_20_13, q_1_5, q_20_14, by decide +kernel⟩
theorem lk_X7_126 : LkV RX7 126 RX7 yX7_counters cX7_counters 3 (some .int) 1 := ⟨q_19_23, q_20_0, q_20_1, q_1_5, q_20_2, by decide +kernel⟩
theorem lk_X7_129 : LkV RX7 129 RX7 yX7_pointers cX7_pointers 4 (some .int) 1 := ⟨q_20_3, q_20_4, q_20_5, q_1_5, q_20_6, by decide +kernel⟩
theorem lk_X7_132 : LkV RX7 132 RX7 yX7_distances cX7_distances 4 (some .int) 1 := ⟨q_20_15, q_20_16, q_20_17, q_1_5, q_20_18, by decide +kernel⟩
theorem lk_X7_135 : LkV RX7 135 RX7 yX7_colours cX7_colours 3 (some .int) 1 := ⟨q_20_19, q_20_20, q_20_21, q_1_5, q_20_22, by decide +kernel⟩
theorem lk_X7_138 : LkV RX7 138 RX7 yX7_becomesOf cX7_becomesOf 2 (some .int) 1 := ⟨q_19_19, q_19_20, q_19_21, q_1_5, q_19_22, by decide +kernel⟩
theorem lk_X7_141 : LkV RX7 141 RX7 yX7_tokensOf cX7_tokensOf 3 (some .int) 0 := ⟨q_22_4, q_22_5, q_22_6, q_1_5, q_22_7, by decide +kernel⟩
theorem lk_X7_144 : LkV RX7 144 RX7 yX7_rowOf cX7_rowOf 4 none 1 := ⟨q_16_19, q_16_20, q_16_21, q_1_5, q_16_22, by decide +kernel⟩
theorem lk_X7_148 : LkV RX7 148 RX7 yX7_isMachine cX7_isMachine 2 (some .boolean) 1 := ⟨q_14_2, q_14_3, q_14_4, q_1_5, q_14_5, by decide +kernel⟩
theorem lk_X7_151 : LkV RX7 151 RX7 yX7_rowNow cX7_rowNow 2 none 0 := ⟨q_15_10, q_15_11, q_15_12, q_1_5, q_15_13, by decide +kernel⟩
theorem lk_X7_154 : LkV RX7 154 RX7 yX7_codeOf cX7_codeOf 3 (some .int) 0 := ⟨q_15_14, q_15_15, q_15_16, q_1_5, q_15_17, by decide +kernel⟩
theorem lk_X7_157 : LkV RX7 157 RX7 yX7_keeps cX7_keeps 2 none 0 := ⟨q_15_6, q_15_7, q_15_8, q_1_5, q_15_9, by decide +kernel⟩
theorem lk_X7_160 : LkV RX7 160 RX7 yX7_code cX7_code 1 (some .int) 0 := ⟨q_16_14, q_15_23, q_16_0, q_1_5, q_16_1, by decide +kernel⟩
theorem lk_X7_163 : LkV RX7 163 RX7 yX7_valuesOf cX7_valuesOf 3 none 1 := ⟨q_16_15, q_16_16, q_16_17, q_1_5, q_16_18, by decide +kernel⟩
theorem lk_X7_166 : LkV RX7 166 RX7 yX7_isLegal cX7_isLegal 2 (some .boolean) 0 := ⟨q_22_21, q_22_22, q_22_23, q_1_5, q_23_0, by decide +kernel⟩
theorem lk_X7_170 : LkV RX7 170 RX7 yX7_worstBehind cX7_worstBehind 6 (some .int) 0 := ⟨q_29_1, q_29_2, q_29_3, q_1_5, q_29_4, by decide +kernel⟩
theorem lk_X7_173 : LkV RX7 173 RX7 yX7_leadsTo cX7_leadsTo 5 (some .boolean) 2 := ⟨q_29_9, q_29_10, q_29_11, q_1_5, q_29_12, by decide +kernel⟩
theorem lk_X7_176 : LkV RX7 176 RX7 yX7_worsts cX7_worsts 4 none 0 := ⟨q_28_21, q_28_22, q_28_23, q_1_5, q_29_0, by decide +kernel⟩
theorem lk_X7_179 : LkV RX7 179 RX7 yX7_bests cX7_bests 4 none 0 := ⟨q_29_5, q_29_6, q_29_7, q_1_5, q_29_8, by decide +kernel⟩
theorem lk_X7_182 : LkV RX7 182 RX7 yX7_isHitTo cX7_isHitTo 6 (some .boolean) 2 := ⟨q_29_13, q_29_14, q_29_15, q_1_5, q_29_16, by decide +kernel⟩
theorem lk_X7_185 : LkV RX7 185 RX7 yX7_measures cX7_measures 3 none 0 := ⟨q_28_17, q_28_18, q_28_19, q_1_5, q_28_20, by decide +kernel⟩
theorem lk_X7_188 : LkV RX7 188 RX7 yX7_leaves cX7_leaves 5 (some .int) 1 := ⟨q_34_23, q_35_0, q_35_1, q_1_5, q_35_2, by decide +kernel⟩
theorem lk_X7_198 : LkV RX7 198 RX7 yX7_cruel cX7_cruel 7 (some .int) 0 := ⟨q_28_12, q_28_13, q_28_14, q_1_5, q_28_15, by decide +kernel⟩
theorem lk_X7_201 : LkS RX7 201 yX7_drawn cX7_drawn 4 (some .long) 2 := ⟨q_29_17, q_29_18, q_1_5, q_29_19, by decide +kernel⟩
theorem lk_X7_205 : LkV RX7 205 RX7 yX7_chooses cX7_chooses 9 (some .int) 4 := ⟨q_28_8, q_28_9, q_28_10, q_1_5, q_28_11, by decide +kernel⟩
theorem lk_X7_209 : LkS RX7 209 yX7_lowestBit cX7_lowestBit 2 (some .int) 1 := ⟨q_29_23, q_30_0, q_1_5, q_30_1, by decide +kernel⟩
theorem lk_X7_212 : LkV RX7 212 RX7 yX7_moves cX7_moves 3 none 1 := ⟨q_30_2, q_30_3, q_30_4, q_1_5, q_30_5, by decide +kernel⟩
theorem lk_X7_215 : LkV RX7 215 RX7 yX7_follows cX7_follows 3 (some .int) 2 := ⟨q_31_8, q_31_9, q_31_10, q_1_5, q_31_11, by decide +kernel⟩
