/-! ===== BEGIN words of one list among another's, by their places ===== -/
theorem goodIn_r {big : List Cond} (ws : List Cond) (ps : List Nat) (hp : ws = ps.filterMap (fun i => big[i]?)) (h : ws.all goodWord = true) : GoodIn big ws := by
  intro w hw
  have h1 := List.all_eq_true.mp h w hw
  rw [hp] at hw
  obtain ⟨i, -, hi⟩ := List.mem_filterMap.mp hw
  have hm : w ∈ big := by first | exact List.mem_of_getElem? hi | exact List.getElem?_mem hi
  exact ⟨hm, good_of_word h1⟩
theorem goodIn_app {big a b : List Cond} (ha : GoodIn big a) (hb : GoodIn big b) : GoodIn big (a ++ b) := fun w h => (List.mem_append.mp h).elim (ha w) (hb w)
theorem goodIn_ca {big a b : List Cond} {c : Cond} (ha : GoodIn big (c :: a)) (hb : GoodIn big b) : GoodIn big (c :: (a ++ b)) := fun w h => (List.mem_cons.mp h).elim (fun e => ha w (List.mem_cons.mpr (Or.inl e))) (fun h => (List.mem_append.mp h).elim (fun h => ha w (List.mem_cons.mpr (Or.inr h))) (hb w))
theorem goodIn_sub {big ws : List Cond} (hm : ∀ w ∈ ws, w ∈ big) (h : ws.all goodWord = true) : GoodIn big ws := fun w hw => ⟨hm w hw, good_of_word (List.all_eq_true.mp h w hw)⟩
/-! ===== END ===== -/

/-! ===== BEGIN printed: names, fields, word lists, decode rows ===== -/
def RX0 : String := "HomingNets$Bits"
def TX0 : u_T := fun k => match k with
  | _ => ("", "", "", false)
def tyX0 : Nat → FieldType := fun k => match k with
  | _ => .int
abbrev wsX00 : List Cond := u_ws RX0 TX0 0
theorem nmX0 : ∀ a, a < 0 → ∀ b, b < 0 → a ≠ b → (TX0 a).2.1 ≠ (TX0 b).2.1 := by decide +kernel
theorem tyX0_ok : ∀ k, k < 0 → parseFieldDescriptor (TX0 k).2.2.1 = some (tyX0 k) := by decide +kernel
abbrev cX0_has : ByteArray := prog_2_method_2_code
def yX0_has : MethodName := ⟨RX0, "has", "(II)Z"⟩
abbrev cX0_lowest : ByteArray := prog_2_method_3_code
def yX0_lowest : MethodName := ⟨RX0, "lowest", "(I)I"⟩
abbrev cX0_indexOf : ByteArray := prog_2_method_4_code
def yX0_indexOf : MethodName := ⟨RX0, "indexOf", "(I)I"⟩
abbrev cX0_nextInRing : ByteArray := prog_2_method_5_code
def yX0_nextInRing : MethodName := ⟨RX0, "nextInRing", "(III)I"⟩
abbrev cX0_drawn : ByteArray := prog_2_method_6_code
def yX0_drawn : MethodName := ⟨RX0, "drawn", "(II)I"⟩
def RX1 : String := "HomingNets$Net"
def TX1 : u_T := fun k => match k with
  | 0 => ("HomingNets$Net", "kind", "I", false)
  | 1 => ("HomingNets$Net", "machines", "I", false)
  | 2 => ("HomingNets$Net", "range", "I", false)
  | 3 => ("HomingNets$Net", "states", "I", false)
  | 4 => ("HomingNets$Net", "wires", "I", false)
  | 5 => ("HomingNets$Net", "start", "I", false)
  | 6 => ("HomingNets$Net", "linked", "[I", true)
  | _ => ("HomingNets$Net", "weight", "[I", true)
def tyX1 : Nat → FieldType := fun k => match k with
  | 0 => .int
  | 1 => .int
  | 2 => .int
  | 3 => .int
  | 4 => .int
  | 5 => .int
  | 6 => .array .int
  | _ => .array .int
abbrev wsX10 : List Cond := u_ws RX1 TX1 8
theorem nmX1 : ∀ a, a < 8 → ∀ b, b < 8 → a ≠ b → (TX1 a).2.1 ≠ (TX1 b).2.1 := by decide +kernel
theorem tyX1_ok : ∀ k, k < 8 → parseFieldDescriptor (TX1 k).2.2.1 = some (tyX1 k) := by decide +kernel
abbrev cX1_init : ByteArray := prog_3_method_1_code
def yX1_init : MethodName := ⟨RX1, "<init>", "()V"⟩
abbrev cX1_begin : ByteArray := prog_3_method_2_code
def yX1_begin : MethodName := ⟨RX1, "begin", "(III)Z"⟩
abbrev cX1_addWire : ByteArray := prog_3_method_3_code
def yX1_addWire : MethodName := ⟨RX1, "addWire", "(II)Z"⟩
abbrev cX1_startWith : ByteArray := prog_3_method_4_code
def yX1_startWith : MethodName := ⟨RX1, "startWith", "(II)Z"⟩
abbrev cX1_hasColoursEnough : ByteArray := prog_3_method_5_code
def yX1_hasColoursEnough : MethodName := ⟨RX1, "hasColoursEnough", "()Z"⟩
abbrev cX1_copyFrom : ByteArray := prog_3_method_6_code
def yX1_copyFrom : MethodName := ⟨RX1, "copyFrom", "(LHomingNets$Net;)V"⟩
abbrev cX1_hasMachine : ByteArray := prog_3_method_7_code
def yX1_hasMachine : MethodName := ⟨RX1, "hasMachine", "(I)Z"⟩
abbrev cX1_hasValue : ByteArray := prog_3_method_8_code
def yX1_hasValue : MethodName := ⟨RX1, "hasValue", "(I)Z"⟩
abbrev cX1_hasState : ByteArray := prog_3_method_9_code
def yX1_hasState : MethodName := ⟨RX1, "hasState", "(I)Z"⟩
abbrev cX1_valueAt : ByteArray := prog_3_method_10_code
def yX1_valueAt : MethodName := ⟨RX1, "valueAt", "(II)I"⟩
abbrev cX1_withValue : ByteArray := prog_3_method_11_code
def yX1_withValue : MethodName := ⟨RX1, "withValue", "(III)I"⟩
abbrev cX1_isLinked : ByteArray := prog_3_method_12_code
def yX1_isLinked : MethodName := ⟨RX1, "isLinked", "(II)Z"⟩
abbrev cX1_aheadOf : ByteArray := prog_3_method_13_code
def yX1_aheadOf : MethodName := ⟨RX1, "aheadOf", "(I)I"⟩
abbrev cX1_sees : ByteArray := prog_3_method_14_code
def yX1_sees : MethodName := ⟨RX1, "sees", "(II)Z"⟩
abbrev cX1_wants : ByteArray := prog_3_method_15_code
def yX1_wants : MethodName := ⟨RX1, "wants", "(II)I"⟩
abbrev cX1_counterWants : ByteArray := prog_3_method_16_code
def yX1_counterWants : MethodName := ⟨RX1, "counterWants", "(II)I"⟩
abbrev cX1_pointerWants : ByteArray := prog_3_method_17_code
def yX1_pointerWants : MethodName := ⟨RX1, "pointerWants", "(II)I"⟩
abbrev cX1_distanceWants : ByteArray := prog_3_method_18_code
def yX1_distanceWants : MethodName := ⟨RX1, "distanceWants", "(II)I"⟩
abbrev cX1_colourWants : ByteArray := prog_3_method_19_code
def yX1_colourWants : MethodName := ⟨RX1, "colourWants", "(II)I"⟩
abbrev cX1_lowestLinkedWith : ByteArray := prog_3_method_20_code
def yX1_lowestLinkedWith : MethodName := ⟨RX1, "lowestLinkedWith", "(III)I"⟩
abbrev cX1_ruleOf : ByteArray := prog_3_method_21_code
def yX1_ruleOf : MethodName := ⟨RX1, "ruleOf", "(II)I"⟩
abbrev cX1_whoMay : ByteArray := prog_3_method_22_code
def yX1_whoMay : MethodName := ⟨RX1, "whoMay", "(I)I"⟩
abbrev cX1_isLegal : ByteArray := prog_3_method_23_code
def yX1_isLegal : MethodName := ⟨RX1, "isLegal", "(I)Z"⟩
abbrev cX1_moved : ByteArray := prog_3_method_24_code
def yX1_moved : MethodName := ⟨RX1, "moved", "(II)I"⟩
abbrev cX1_struck : ByteArray := prog_3_method_25_code
def yX1_struck : MethodName := ⟨RX1, "struck", "(II)I"⟩
abbrev cX1_matchOf : ByteArray := prog_3_method_26_code
def yX1_matchOf : MethodName := ⟨RX1, "matchOf", "(II)I"⟩
abbrev cX1_parentOf : ByteArray := prog_3_method_27_code
def yX1_parentOf : MethodName := ⟨RX1, "parentOf", "(II)I"⟩
def RX2 : String := "HomingNets$Past"
def TX2 : u_T := fun k => match k with
  | 0 => ("HomingNets$Past", "states", "[I", true)
  | 1 => ("HomingNets$Past", "movers", "[I", true)
  | _ => ("HomingNets$Past", "many", "I", false)
def tyX2 : Nat → FieldType := fun k => match k with
  | 0 => .array .int
  | 1 => .array .int
  | _ => .int
abbrev wsX20 : List Cond := u_ws RX2 TX2 3
theorem nmX2 : ∀ a, a < 3 → ∀ b, b < 3 → a ≠ b → (TX2 a).2.1 ≠ (TX2 b).2.1 := by decide +kernel
theorem tyX2_ok : ∀ k, k < 3 → parseFieldDescriptor (TX2 k).2.2.1 = some (tyX2 k) := by decide +kernel
abbrev cX2_init : ByteArray := prog_4_method_1_code
def yX2_init : MethodName := ⟨RX2, "<init>", "()V"⟩
abbrev cX2_size : ByteArray := prog_4_method_2_code
def yX2_size : MethodName := ⟨RX2, "size", "()I"⟩
abbrev cX2_clear : ByteArray := prog_4_method_3_code
def yX2_clear : MethodName := ⟨RX2, "clear", "()V"⟩
abbrev cX2_keep : ByteArray := prog_4_method_4_code
def yX2_keep : MethodName := ⟨RX2, "keep", "(II)V"⟩
abbrev cX2_forgetOldest : ByteArray := prog_4_method_5_code
def yX2_forgetOldest : MethodName := ⟨RX2, "forgetOldest", "()V"⟩
abbrev cX2_lastState : ByteArray := prog_4_method_6_code
def yX2_lastState : MethodName := ⟨RX2, "lastState", "()I"⟩
abbrev cX2_lastMover : ByteArray := prog_4_method_7_code
def yX2_lastMover : MethodName := ⟨RX2, "lastMover", "()I"⟩
abbrev cX2_drop : ByteArray := prog_4_method_8_code
def yX2_drop : MethodName := ⟨RX2, "drop", "()V"⟩
def RX3 : String := "HomingNets$Rows"
def TX3 : u_T := fun k => match k with
  | _ => ("", "", "", false)
def tyX3 : Nat → FieldType := fun k => match k with
  | _ => .int
abbrev wsX30 : List Cond := u_ws RX3 TX3 0
theorem nmX3 : ∀ a, a < 0 → ∀ b, b < 0 → a ≠ b → (TX3 a).2.1 ≠ (TX3 b).2.1 := by decide +kernel
theorem tyX3_ok : ∀ k, k < 0 → parseFieldDescriptor (TX3 k).2.2.1 = some (tyX3 k) := by decide +kernel
abbrev cX3_at : ByteArray := prog_5_method_2_code
def yX3_at : MethodName := ⟨RX3, "at", "([II)I"⟩
abbrev cX3_put : ByteArray := prog_5_method_3_code
def yX3_put : MethodName := ⟨RX3, "put", "([III)V"⟩
def RX4 : String := "HomingNets$Survey"
def TX4 : u_T := fun k => match k with
  | 0 => ("HomingNets$Survey", "made", "Z", false)
  | 1 => ("HomingNets$Survey", "states", "I", false)
  | 2 => ("HomingNets$Survey", "wanted", "[I", true)
  | 3 => ("HomingNets$Survey", "movesLeft", "[I", true)
  | 4 => ("HomingNets$Survey", "worst", "[I", true)
  | 5 => ("HomingNets$Survey", "best", "[I", true)
  | 6 => ("HomingNets$Survey", "hits", "[I", true)
  | _ => ("HomingNets$Survey", "spare", "[I", true)
def tyX4 : Nat → FieldType := fun k => match k with
  | 0 => .boolean
  | 1 => .int
  | 2 => .array .int
  | 3 => .array .int
  | 4 => .array .int
  | 5 => .array .int
  | 6 => .array .int
  | _ => .array .int
abbrev wsX40 : List Cond := u_ws RX4 TX4 8
theorem nmX4 : ∀ a, a < 8 → ∀ b, b < 8 → a ≠ b → (TX4 a).2.1 ≠ (TX4 b).2.1 := by decide +kernel
theorem tyX4_ok : ∀ k, k < 8 → parseFieldDescriptor (TX4 k).2.2.1 = some (tyX4 k) := by decide +kernel
abbrev cX4_init : ByteArray := prog_6_method_1_code
def yX4_init : MethodName := ⟨RX4, "<init>", "()V"⟩
abbrev cX4_forget : ByteArray := prog_6_method_2_code
def yX4_forget : MethodName := ⟨RX4, "forget", "()V"⟩
abbrev cX4_make : ByteArray := prog_6_method_3_code
def yX4_make : MethodName := ⟨RX4, "make", "(LHomingNets$Net;)V"⟩
abbrev cX4_noteMoves : ByteArray := prog_6_method_4_code
def yX4_noteMoves : MethodName := ⟨RX4, "noteMoves", "(LHomingNets$Net;I)V"⟩
abbrev cX4_spread : ByteArray := prog_6_method_5_code
def yX4_spread : MethodName := ⟨RX4, "spread", "(LHomingNets$Net;[II)V"⟩
abbrev cX4_spreadBy : ByteArray := prog_6_method_6_code
def yX4_spreadBy : MethodName := ⟨RX4, "spreadBy", "(LHomingNets$Net;[IIIII)I"⟩
abbrev cX4_reaches : ByteArray := prog_6_method_7_code
def yX4_reaches : MethodName := ⟨RX4, "reaches", "(IIII)Z"⟩
abbrev cX4_clearedSpare : ByteArray := prog_6_method_8_code
def yX4_clearedSpare : MethodName := ⟨RX4, "clearedSpare", "()[I"⟩
abbrev cX4_wantedBy : ByteArray := prog_6_method_9_code
def yX4_wantedBy : MethodName := ⟨RX4, "wantedBy", "(II)I"⟩
abbrev cX4_behind : ByteArray := prog_6_method_10_code
def yX4_behind : MethodName := ⟨RX4, "behind", "(LHomingNets$Net;II)I"⟩
abbrev cX4_rankOf : ByteArray := prog_6_method_11_code
def yX4_rankOf : MethodName := ⟨RX4, "rankOf", "(I)I"⟩
abbrev cX4_worstOf : ByteArray := prog_6_method_12_code
def yX4_worstOf : MethodName := ⟨RX4, "worstOf", "(I)I"⟩
abbrev cX4_bestOf : ByteArray := prog_6_method_13_code
def yX4_bestOf : MethodName := ⟨RX4, "bestOf", "(I)I"⟩
abbrev cX4_hitsOf : ByteArray := prog_6_method_14_code
def yX4_hitsOf : MethodName := ⟨RX4, "hitsOf", "(I)I"⟩
abbrev cX4_legalStates : ByteArray := prog_6_method_15_code
def yX4_legalStates : MethodName := ⟨RX4, "legalStates", "()I"⟩
abbrev cX4_endlessStates : ByteArray := prog_6_method_16_code
def yX4_endlessStates : MethodName := ⟨RX4, "endlessStates", "()I"⟩
abbrev cX4_countOf : ByteArray := prog_6_method_17_code
def yX4_countOf : MethodName := ⟨RX4, "countOf", "([II)I"⟩
abbrev cX4_greatestWorst : ByteArray := prog_6_method_18_code
def yX4_greatestWorst : MethodName := ⟨RX4, "greatestWorst", "()I"⟩
abbrev cX4_greatestBest : ByteArray := prog_6_method_19_code
def yX4_greatestBest : MethodName := ⟨RX4, "greatestBest", "()I"⟩
abbrev cX4_greatestOf : ByteArray := prog_6_method_20_code
def yX4_greatestOf : MethodName := ⟨RX4, "greatestOf", "([I)I"⟩
abbrev cX4_lowestOfGreatestWorst : ByteArray := prog_6_method_21_code
def yX4_lowestOfGreatestWorst : MethodName := ⟨RX4, "lowestOfGreatestWorst", "()I"⟩
abbrev cX4_sumOfWorsts : ByteArray := prog_6_method_22_code
def yX4_sumOfWorsts : MethodName := ⟨RX4, "sumOfWorsts", "()I"⟩
abbrev cX4_movesOutOfLegal : ByteArray := prog_6_method_23_code
def yX4_movesOutOfLegal : MethodName := ⟨RX4, "movesOutOfLegal", "(LHomingNets$Net;)I"⟩
abbrev cX4_movesOutOf : ByteArray := prog_6_method_24_code
def yX4_movesOutOf : MethodName := ⟨RX4, "movesOutOf", "(LHomingNets$Net;I)I"⟩
abbrev cX4_statesWithin : ByteArray := prog_6_method_25_code
def yX4_statesWithin : MethodName := ⟨RX4, "statesWithin", "(I)I"⟩
abbrev cX4_greatestWorstWithin : ByteArray := prog_6_method_26_code
def yX4_greatestWorstWithin : MethodName := ⟨RX4, "greatestWorstWithin", "(I)I"⟩
abbrev cX4_isWithin : ByteArray := prog_6_method_27_code
def yX4_isWithin : MethodName := ⟨RX4, "isWithin", "(II)Z"⟩
def RX5 : String := "HomingNets$Text"
def TX5 : u_T := fun k => match k with
  | 0 => ("HomingNets$Text", "letters", "[I", true)
  | _ => ("HomingNets$Text", "many", "I", false)
def tyX5 : Nat → FieldType := fun k => match k with
  | 0 => .array .int
  | _ => .int
abbrev wsX50 : List Cond := u_ws RX5 TX5 2
theorem nmX5 : ∀ a, a < 2 → ∀ b, b < 2 → a ≠ b → (TX5 a).2.1 ≠ (TX5 b).2.1 := by decide +kernel
theorem tyX5_ok : ∀ k, k < 2 → parseFieldDescriptor (TX5 k).2.2.1 = some (tyX5 k) := by decide +kernel
abbrev cX5_init : ByteArray := prog_7_method_1_code
def yX5_init : MethodName := ⟨RX5, "<init>", "()V"⟩
abbrev cX5_length : ByteArray := prog_7_method_2_code
def yX5_length : MethodName := ⟨RX5, "length", "()I"⟩
abbrev cX5_clear : ByteArray := prog_7_method_3_code
def yX5_clear : MethodName := ⟨RX5, "clear", "()V"⟩
abbrev cX5_append : ByteArray := prog_7_method_4_code
def yX5_append : MethodName := ⟨RX5, "append", "(I)Z"⟩
abbrev cX5_readInto : ByteArray := prog_7_method_5_code
def yX5_readInto : MethodName := ⟨RX5, "readInto", "(LHomingNets$Net;)I"⟩
abbrev cX5_readItem : ByteArray := prog_7_method_6_code
def yX5_readItem : MethodName := ⟨RX5, "readItem", "(ILHomingNets$Net;)Z"⟩
abbrev cX5_letterAt : ByteArray := prog_7_method_7_code
def yX5_letterAt : MethodName := ⟨RX5, "letterAt", "(I)I"⟩
abbrev cX5_figureAt : ByteArray := prog_7_method_8_code
def yX5_figureAt : MethodName := ⟨RX5, "figureAt", "(I)I"⟩
def RX6 : String := "HomingNets"
def TX6 : u_T := fun k => match k with
  | 0 => ("HomingNets", "text", "LHomingNets$Text;", true)
  | 1 => ("HomingNets", "net", "LHomingNets$Net;", true)
  | 2 => ("HomingNets", "draft", "LHomingNets$Net;", true)
  | 3 => ("HomingNets", "survey", "LHomingNets$Survey;", true)
  | 4 => ("HomingNets", "past", "LHomingNets$Past;", true)
  | 5 => ("HomingNets", "now", "I", false)
  | _ => ("HomingNets", "lastInRing", "I", false)
def tyX6 : Nat → FieldType := fun k => match k with
  | 0 => .object "HomingNets$Text"
  | 1 => .object "HomingNets$Net"
  | 2 => .object "HomingNets$Net"
  | 3 => .object "HomingNets$Survey"
  | 4 => .object "HomingNets$Past"
  | 5 => .int
  | _ => .int
abbrev wsX60 : List Cond := u_ws RX6 TX6 7
theorem nmX6 : ∀ a, a < 7 → ∀ b, b < 7 → a ≠ b → (TX6 a).2.1 ≠ (TX6 b).2.1 := by decide +kernel
theorem tyX6_ok : ∀ k, k < 7 → parseFieldDescriptor (TX6 k).2.2.1 = some (tyX6 k) := by decide +kernel
abbrev cX6_init : ByteArray := prog_1_method_1_code
def yX6_init : MethodName := ⟨RX6, "<init>", "()V"⟩
abbrev cX6_write : ByteArray := prog_1_method_2_code
def yX6_write : MethodName := ⟨RX6, "write", "(I)I"⟩
abbrev cX6_wipe : ByteArray := prog_1_method_3_code
def yX6_wipe : MethodName := ⟨RX6, "wipe", "()I"⟩
abbrev cX6_fault : ByteArray := prog_1_method_4_code
def yX6_fault : MethodName := ⟨RX6, "fault", "()I"⟩
abbrev cX6_lay : ByteArray := prog_1_method_5_code
def yX6_lay : MethodName := ⟨RX6, "lay", "()I"⟩
abbrev cX6_takeDraft : ByteArray := prog_1_method_6_code
def yX6_takeDraft : MethodName := ⟨RX6, "takeDraft", "()V"⟩
abbrev cX6_value : ByteArray := prog_1_method_7_code
def yX6_value : MethodName := ⟨RX6, "value", "(I)I"⟩
abbrev cX6_hit : ByteArray := prog_1_method_8_code
def yX6_hit : MethodName := ⟨RX6, "hit", "(II)I"⟩
abbrev cX6_code : ByteArray := prog_1_method_9_code
def yX6_code : MethodName := ⟨RX6, "code", "()I"⟩
abbrev cX6_turn : ByteArray := prog_1_method_10_code
def yX6_turn : MethodName := ⟨RX6, "turn", "(I)I"⟩
abbrev cX6_wired : ByteArray := prog_1_method_11_code
def yX6_wired : MethodName := ⟨RX6, "wired", "(II)I"⟩
abbrev cX6_may : ByteArray := prog_1_method_12_code
def yX6_may : MethodName := ⟨RX6, "may", "(I)I"⟩
abbrev cX6_becomes : ByteArray := prog_1_method_13_code
def yX6_becomes : MethodName := ⟨RX6, "becomes", "(I)I"⟩
abbrev cX6_move : ByteArray := prog_1_method_14_code
def yX6_move : MethodName := ⟨RX6, "move", "(I)I"⟩
abbrev cX6_tokens : ByteArray := prog_1_method_15_code
def yX6_tokens : MethodName := ⟨RX6, "tokens", "()I"⟩
abbrev cX6_legal : ByteArray := prog_1_method_16_code
def yX6_legal : MethodName := ⟨RX6, "legal", "()I"⟩
abbrev cX6_mate : ByteArray := prog_1_method_17_code
def yX6_mate : MethodName := ⟨RX6, "mate", "(I)I"⟩
abbrev cX6_undo : ByteArray := prog_1_method_18_code
def yX6_undo : MethodName := ⟨RX6, "undo", "()I"⟩
abbrev cX6_change : ByteArray := prog_1_method_19_code
def yX6_change : MethodName := ⟨RX6, "change", "(I)V"⟩
abbrev cX6_run : ByteArray := prog_1_method_20_code
def yX6_run : MethodName := ⟨RX6, "run", "(III)I"⟩
abbrev cX6_next : ByteArray := prog_1_method_21_code
def yX6_next : MethodName := ⟨RX6, "next", "(I)I"⟩
abbrev cX6_loop : ByteArray := prog_1_method_22_code
def yX6_loop : MethodName := ⟨RX6, "loop", "(II)I"⟩
abbrev cX6_storm : ByteArray := prog_1_method_23_code
def yX6_storm : MethodName := ⟨RX6, "storm", "(IIII)I"⟩
abbrev cX6_drawOf : ByteArray := prog_1_method_24_code
def yX6_drawOf : MethodName := ⟨RX6, "drawOf", "(II)I"⟩
abbrev cX6_moversOf : ByteArray := prog_1_method_25_code
def yX6_moversOf : MethodName := ⟨RX6, "moversOf", "(IIII)I"⟩
abbrev cX6_cruellest : ByteArray := prog_1_method_26_code
def yX6_cruellest : MethodName := ⟨RX6, "cruellest", "(II)I"⟩
abbrev cX6_lastBehind : ByteArray := prog_1_method_27_code
def yX6_lastBehind : MethodName := ⟨RX6, "lastBehind", "(III)I"⟩
abbrev cX6_state : ByteArray := prog_1_method_28_code
def yX6_state : MethodName := ⟨RX6, "state", "(II)I"⟩
abbrev cX6_all : ByteArray := prog_1_method_29_code
def yX6_all : MethodName := ⟨RX6, "all", "(I)I"⟩
abbrev cX6_within : ByteArray := prog_1_method_30_code
def yX6_within : MethodName := ⟨RX6, "within", "(II)I"⟩
abbrev cX6_count : ByteArray := prog_1_method_31_code
def yX6_count : MethodName := ⟨RX6, "count", "(I)I"⟩
def RX7 : String := "HomingNetsModel"
def TX7 : u_T := fun k => match k with
  | 0 => ("HomingNetsModel", "length", "I", false)
  | 1 => ("HomingNetsModel", "text", "[I", true)
  | 2 => ("HomingNetsModel", "sort", "I", false)
  | 3 => ("HomingNetsModel", "many", "I", false)
  | 4 => ("HomingNetsModel", "wide", "I", false)
  | 5 => ("HomingNetsModel", "states", "I", false)
  | 6 => ("HomingNetsModel", "wires", "I", false)
  | 7 => ("HomingNetsModel", "wiredRow", "[I", true)
  | 8 => ("HomingNetsModel", "powers", "[I", true)
  | 9 => ("HomingNetsModel", "values", "[I", true)
  | 10 => ("HomingNetsModel", "last", "I", false)
  | 11 => ("HomingNetsModel", "toldSort", "I", false)
  | 12 => ("HomingNetsModel", "toldMany", "I", false)
  | 13 => ("HomingNetsModel", "toldWide", "I", false)
  | 14 => ("HomingNetsModel", "toldWires", "I", false)
  | 15 => ("HomingNetsModel", "toldRow", "[I", true)
  | 16 => ("HomingNetsModel", "toldValues", "[I", true)
  | 17 => ("HomingNetsModel", "done", "I", false)
  | 18 => ("HomingNetsModel", "oldCodes", "[I", true)
  | 19 => ("HomingNetsModel", "oldLasts", "[I", true)
  | 20 => ("HomingNetsModel", "worst", "[I", true)
  | 21 => ("HomingNetsModel", "best", "[I", true)
  | 22 => ("HomingNetsModel", "hits", "[I", true)
  | 23 => ("HomingNetsModel", "isMeasured", "Z", false)
  | 24 => ("HomingNetsModel", "row", "[I", true)
  | 25 => ("HomingNetsModel", "then", "[I", true)
  | _ => ("HomingNetsModel", "rule", "I", false)
def tyX7 : Nat → FieldType := fun k => match k with
  | 0 => .int
  | 1 => .array .int
  | 2 => .int
  | 3 => .int
  | 4 => .int
  | 5 => .int
  | 6 => .int
  | 7 => .array .int
  | 8 => .array .int
  | 9 => .array .int
  | 10 => .int
  | 11 => .int
  | 12 => .int
  | 13 => .int
  | 14 => .int
  | 15 => .array .int
  | 16 => .array .int
  | 17 => .int
  | 18 => .array .int
  | 19 => .array .int
  | 20 => .array .int
  | 21 => .array .int
  | 22 => .array .int
  | 23 => .boolean
  | 24 => .array .int
  | 25 => .array .int
  | _ => .int
abbrev wsX70 : List Cond := u_ws RX7 TX7 27
theorem nmX7 : ∀ a, a < 27 → ∀ b, b < 27 → a ≠ b → (TX7 a).2.1 ≠ (TX7 b).2.1 := by decide +kernel
theorem tyX7_ok : ∀ k, k < 27 → parseFieldDescriptor (TX7 k).2.2.1 = some (tyX7 k) := by decide +kernel
abbrev cX7_init : ByteArray := prog_9_method_1_code
def yX7_init : MethodName := ⟨RX7, "<init>", "()V"⟩
abbrev cX7_begins : ByteArray := prog_9_method_2_code
def yX7_begins : MethodName := ⟨RX7, "begins", "()V"⟩
abbrev cX7_isIn : ByteArray := prog_9_method_3_code
def yX7_isIn : MethodName := ⟨RX7, "isIn", "(III)Z"⟩
abbrev cX7_letterAt : ByteArray := prog_9_method_4_code
def yX7_letterAt : MethodName := ⟨RX7, "letterAt", "(I)I"⟩
abbrev cX7_figure : ByteArray := prog_9_method_5_code
def yX7_figure : MethodName := ⟨RX7, "figure", "(I)I"⟩
abbrev cX7_readsNet : ByteArray := prog_9_method_6_code
def yX7_readsNet : MethodName := ⟨RX7, "readsNet", "(I)Z"⟩
abbrev cX7_readsItem : ByteArray := prog_9_method_7_code
def yX7_readsItem : MethodName := ⟨RX7, "readsItem", "(II)I"⟩
abbrev cX7_reads : ByteArray := prog_9_method_8_code
def yX7_reads : MethodName := ⟨RX7, "reads", "()I"⟩
abbrev cX7_write : ByteArray := prog_9_method_9_code
def yX7_write : MethodName := ⟨RX7, "write", "(I)I"⟩
abbrev cX7_wipe : ByteArray := prog_9_method_10_code
def yX7_wipe : MethodName := ⟨RX7, "wipe", "()I"⟩
abbrev cX7_fault : ByteArray := prog_9_method_11_code
def yX7_fault : MethodName := ⟨RX7, "fault", "()I"⟩
abbrev cX7_lay : ByteArray := prog_9_method_12_code
def yX7_lay : MethodName := ⟨RX7, "lay", "()I"⟩
abbrev cX7_isMachine : ByteArray := prog_9_method_13_code
def yX7_isMachine : MethodName := ⟨RX7, "isMachine", "(I)Z"⟩
abbrev cX7_isWired : ByteArray := prog_9_method_14_code
def yX7_isWired : MethodName := ⟨RX7, "isWired", "(II)Z"⟩
abbrev cX7_lowest : ByteArray := prog_9_method_15_code
def yX7_lowest : MethodName := ⟨RX7, "lowest", "(II)I"⟩
abbrev cX7_counters : ByteArray := prog_9_method_16_code
def yX7_counters : MethodName := ⟨RX7, "counters", "(I)I"⟩
abbrev cX7_pointers : ByteArray := prog_9_method_17_code
def yX7_pointers : MethodName := ⟨RX7, "pointers", "(I)I"⟩
abbrev cX7_distances : ByteArray := prog_9_method_18_code
def yX7_distances : MethodName := ⟨RX7, "distances", "(I)I"⟩
abbrev cX7_colours : ByteArray := prog_9_method_19_code
def yX7_colours : MethodName := ⟨RX7, "colours", "(I)I"⟩
abbrev cX7_becomesOf : ByteArray := prog_9_method_20_code
def yX7_becomesOf : MethodName := ⟨RX7, "becomesOf", "(I)I"⟩
abbrev cX7_tokensOf : ByteArray := prog_9_method_21_code
def yX7_tokensOf : MethodName := ⟨RX7, "tokensOf", "()I"⟩
abbrev cX7_isLegal : ByteArray := prog_9_method_22_code
def yX7_isLegal : MethodName := ⟨RX7, "isLegal", "()Z"⟩
abbrev cX7_rowOf : ByteArray := prog_9_method_23_code
def yX7_rowOf : MethodName := ⟨RX7, "rowOf", "(I)V"⟩
abbrev cX7_rowNow : ByteArray := prog_9_method_24_code
def yX7_rowNow : MethodName := ⟨RX7, "rowNow", "()V"⟩
abbrev cX7_codeOf : ByteArray := prog_9_method_25_code
def yX7_codeOf : MethodName := ⟨RX7, "codeOf", "()I"⟩
abbrev cX7_valuesOf : ByteArray := prog_9_method_26_code
def yX7_valuesOf : MethodName := ⟨RX7, "valuesOf", "(I)V"⟩
abbrev cX7_value : ByteArray := prog_9_method_27_code
def yX7_value : MethodName := ⟨RX7, "value", "(I)I"⟩
abbrev cX7_keeps : ByteArray := prog_9_method_28_code
def yX7_keeps : MethodName := ⟨RX7, "keeps", "()V"⟩
abbrev cX7_hit : ByteArray := prog_9_method_29_code
def yX7_hit : MethodName := ⟨RX7, "hit", "(II)I"⟩
abbrev cX7_code : ByteArray := prog_9_method_30_code
def yX7_code : MethodName := ⟨RX7, "code", "()I"⟩
abbrev cX7_turn : ByteArray := prog_9_method_31_code
def yX7_turn : MethodName := ⟨RX7, "turn", "(I)I"⟩
abbrev cX7_wired : ByteArray := prog_9_method_32_code
def yX7_wired : MethodName := ⟨RX7, "wired", "(II)I"⟩
abbrev cX7_may : ByteArray := prog_9_method_33_code
def yX7_may : MethodName := ⟨RX7, "may", "(I)I"⟩
abbrev cX7_becomes : ByteArray := prog_9_method_34_code
def yX7_becomes : MethodName := ⟨RX7, "becomes", "(I)I"⟩
abbrev cX7_move : ByteArray := prog_9_method_35_code
def yX7_move : MethodName := ⟨RX7, "move", "(I)I"⟩
abbrev cX7_tokens : ByteArray := prog_9_method_36_code
def yX7_tokens : MethodName := ⟨RX7, "tokens", "()I"⟩
abbrev cX7_legal : ByteArray := prog_9_method_37_code
def yX7_legal : MethodName := ⟨RX7, "legal", "()I"⟩
abbrev cX7_mate : ByteArray := prog_9_method_38_code
def yX7_mate : MethodName := ⟨RX7, "mate", "(I)I"⟩
abbrev cX7_undo : ByteArray := prog_9_method_39_code
def yX7_undo : MethodName := ⟨RX7, "undo", "()I"⟩
abbrev cX7_worstBehind : ByteArray := prog_9_method_40_code
def yX7_worstBehind : MethodName := ⟨RX7, "worstBehind", "()I"⟩
abbrev cX7_worsts : ByteArray := prog_9_method_41_code
def yX7_worsts : MethodName := ⟨RX7, "worsts", "()V"⟩
abbrev cX7_bests : ByteArray := prog_9_method_42_code
def yX7_bests : MethodName := ⟨RX7, "bests", "()V"⟩
abbrev cX7_leadsTo : ByteArray := prog_9_method_43_code
def yX7_leadsTo : MethodName := ⟨RX7, "leadsTo", "(II)Z"⟩
abbrev cX7_isHitTo : ByteArray := prog_9_method_44_code
def yX7_isHitTo : MethodName := ⟨RX7, "isHitTo", "(II)Z"⟩
abbrev cX7_measures : ByteArray := prog_9_method_45_code
def yX7_measures : MethodName := ⟨RX7, "measures", "()V"⟩
abbrev cX7_state : ByteArray := prog_9_method_46_code
def yX7_state : MethodName := ⟨RX7, "state", "(II)I"⟩
abbrev cX7_leaves : ByteArray := prog_9_method_47_code
def yX7_leaves : MethodName := ⟨RX7, "leaves", "(I)I"⟩
abbrev cX7_all : ByteArray := prog_9_method_48_code
def yX7_all : MethodName := ⟨RX7, "all", "(I)I"⟩
abbrev cX7_within : ByteArray := prog_9_method_49_code
def yX7_within : MethodName := ⟨RX7, "within", "(II)I"⟩
abbrev cX7_cruel : ByteArray := prog_9_method_50_code
def yX7_cruel : MethodName := ⟨RX7, "cruel", "()I"⟩
abbrev cX7_drawn : ByteArray := prog_9_method_51_code
def yX7_drawn : MethodName := ⟨RX7, "drawn", "(II)J"⟩
abbrev cX7_chooses : ByteArray := prog_9_method_52_code
def yX7_chooses : MethodName := ⟨RX7, "chooses", "(IIII)I"⟩
abbrev cX7_moves : ByteArray := prog_9_method_53_code
def yX7_moves : MethodName := ⟨RX7, "moves", "(I)V"⟩
abbrev cX7_lowestBit : ByteArray := prog_9_method_54_code
def yX7_lowestBit : MethodName := ⟨RX7, "lowestBit", "(I)I"⟩
abbrev cX7_run : ByteArray := prog_9_method_55_code
def yX7_run : MethodName := ⟨RX7, "run", "(III)I"⟩
abbrev cX7_next : ByteArray := prog_9_method_56_code
def yX7_next : MethodName := ⟨RX7, "next", "(I)I"⟩
abbrev cX7_follows : ByteArray := prog_9_method_57_code
def yX7_follows : MethodName := ⟨RX7, "follows", "(II)I"⟩
abbrev cX7_loop : ByteArray := prog_9_method_58_code
def yX7_loop : MethodName := ⟨RX7, "loop", "(II)I"⟩
abbrev cX7_storm : ByteArray := prog_9_method_59_code
def yX7_storm : MethodName := ⟨RX7, "storm", "(IIII)I"⟩
abbrev cX7_count : ByteArray := prog_9_method_60_code
def yX7_count : MethodName := ⟨RX7, "count", "(I)I"⟩
def RJx145de : String := "java/io/Serializable"
def TJx145de : u_T := fun k => match k with
  | _ => ("", "", "", false)
def tyJx145de : Nat → FieldType := fun k => match k with
  | _ => .int
abbrev wsJx145de0 : List Cond := u_ws RJx145de TJx145de 0
theorem nmJx145de : ∀ a, a < 0 → ∀ b, b < 0 → a ≠ b → (TJx145de a).2.1 ≠ (TJx145de b).2.1 := by decide +kernel
theorem tyJx145de_ok : ∀ k, k < 0 → parseFieldDescriptor (TJx145de k).2.2.1 = some (tyJx145de k) := by decide +kernel
def RJx9f9b0 : String := "java/lang/CharSequence"
def TJx9f9b0 : u_T := fun k => match k with
  | _ => ("", "", "", false)
def tyJx9f9b0 : Nat → FieldType := fun k => match k with
  | _ => .int
abbrev wsJx9f9b00 : List Cond := u_ws RJx9f9b0 TJx9f9b0 0
theorem nmJx9f9b0 : ∀ a, a < 0 → ∀ b, b < 0 → a ≠ b → (TJx9f9b0 a).2.1 ≠ (TJx9f9b0 b).2.1 := by decide +kernel
theorem tyJx9f9b0_ok : ∀ k, k < 0 → parseFieldDescriptor (TJx9f9b0 k).2.2.1 = some (tyJx9f9b0 k) := by decide +kernel
def RJxb160c : String := "java/lang/Comparable"
def TJxb160c : u_T := fun k => match k with
  | _ => ("", "", "", false)
def tyJxb160c : Nat → FieldType := fun k => match k with
  | _ => .int
abbrev wsJxb160c0 : List Cond := u_ws RJxb160c TJxb160c 0
theorem nmJxb160c : ∀ a, a < 0 → ∀ b, b < 0 → a ≠ b → (TJxb160c a).2.1 ≠ (TJxb160c b).2.1 := by decide +kernel
theorem tyJxb160c_ok : ∀ k, k < 0 → parseFieldDescriptor (TJxb160c k).2.2.1 = some (tyJxb160c k) := by decide +kernel
def RJ6 : String := "java/lang/Integer"
def TJ6 : u_T := fun k => match k with
  | _ => ("", "", "", false)
def tyJ6 : Nat → FieldType := fun k => match k with
  | _ => .int
abbrev wsJ60 : List Cond := u_ws RJ6 TJ6 0
theorem nmJ6 : ∀ a, a < 0 → ∀ b, b < 0 → a ≠ b → (TJ6 a).2.1 ≠ (TJ6 b).2.1 := by decide +kernel
theorem tyJ6_ok : ∀ k, k < 0 → parseFieldDescriptor (TJ6 k).2.2.1 = some (tyJ6 k) := by decide +kernel
abbrev cJ6_bitCount_0f7a4 : ByteArray := prog_10_method_49_code
def yJ6_bitCount_0f7a4 : MethodName := ⟨RJ6, "bitCount", "(I)I"⟩
def RJ9 : String := "java/lang/Math"
def TJ9 : u_T := fun k => match k with
  | _ => ("", "", "", false)
def tyJ9 : Nat → FieldType := fun k => match k with
  | _ => .int
abbrev wsJ90 : List Cond := u_ws RJ9 TJ9 0
theorem nmJ9 : ∀ a, a < 0 → ∀ b, b < 0 → a ≠ b → (TJ9 a).2.1 ≠ (TJ9 b).2.1 := by decide +kernel
theorem tyJ9_ok : ∀ k, k < 0 → parseFieldDescriptor (TJ9 k).2.2.1 = some (tyJ9 k) := by decide +kernel
abbrev cJ9_max_7cf53 : ByteArray := prog_11_method_65_code
def yJ9_max_7cf53 : MethodName := ⟨RJ9, "max", "(II)I"⟩
abbrev cJ9_min_7cf53 : ByteArray := prog_11_method_69_code
def yJ9_min_7cf53 : MethodName := ⟨RJ9, "min", "(II)I"⟩
def RJ0 : String := "java/lang/String"
def TJ0 : u_T := fun k => match k with
  | _ => ("", "", "", false)
def tyJ0 : Nat → FieldType := fun k => match k with
  | _ => .int
abbrev wsJ00 : List Cond := u_ws RJ0 TJ0 0
theorem nmJ0 : ∀ a, a < 0 → ∀ b, b < 0 → a ≠ b → (TJ0 a).2.1 ≠ (TJ0 b).2.1 := by decide +kernel
theorem tyJ0_ok : ∀ k, k < 0 → parseFieldDescriptor (TJ0 k).2.2.1 = some (tyJ0 k) := by decide +kernel
abbrev cJ0_length_8abf5 : ByteArray := prog_12_method_54_code
def yJ0_length_8abf5 : MethodName := ⟨RJ0, "length", "()I"⟩
abbrev cJ0_charAt_5068e : ByteArray := prog_12_method_56_code
def yJ0_charAt_5068e : MethodName := ⟨RJ0, "charAt", "(I)C"⟩
abbrev cJ0_coder_7d493 : ByteArray := prog_12_method_152_code
def yJ0_coder_7d493 : MethodName := ⟨RJ0, "coder", "()B"⟩
abbrev cJ0_isLatin1_aae02 : ByteArray := prog_12_method_154_code
def yJ0_isLatin1_aae02 : MethodName := ⟨RJ0, "isLatin1", "()Z"⟩
abbrev cJ0_checkIndex_df160 : ByteArray := prog_12_method_155_code
def yJ0_checkIndex_df160 : MethodName := ⟨RJ0, "checkIndex", "(II)V"⟩
def RJ1 : String := "java/lang/StringLatin1"
def TJ1 : u_T := fun k => match k with
  | _ => ("", "", "", false)
def tyJ1 : Nat → FieldType := fun k => match k with
  | _ => .int
abbrev wsJ10 : List Cond := u_ws RJ1 TJ1 0
theorem nmJ1 : ∀ a, a < 0 → ∀ b, b < 0 → a ≠ b → (TJ1 a).2.1 ≠ (TJ1 b).2.1 := by decide +kernel
theorem tyJ1_ok : ∀ k, k < 0 → parseFieldDescriptor (TJ1 k).2.2.1 = some (tyJ1 k) := by decide +kernel
abbrev cJ1_charAt_3b067 : ByteArray := prog_13_method_2_code
def yJ1_charAt_3b067 : MethodName := ⟨RJ1, "charAt", "([BI)C"⟩
def RJ2 : String := "java/lang/StringUTF16"
def TJ2 : u_T := fun k => match k with
  | _ => ("", "", "", false)
def tyJ2 : Nat → FieldType := fun k => match k with
  | _ => .int
abbrev wsJ20 : List Cond := u_ws RJ2 TJ2 0
theorem nmJ2 : ∀ a, a < 0 → ∀ b, b < 0 → a ≠ b → (TJ2 a).2.1 ≠ (TJ2 b).2.1 := by decide +kernel
theorem tyJ2_ok : ∀ k, k < 0 → parseFieldDescriptor (TJ2 k).2.2.1 = some (tyJ2 k) := by decide +kernel
abbrev cJ2_getChar_3b067 : ByteArray := prog_14_method_5_code
def yJ2_getChar_3b067 : MethodName := ⟨RJ2, "getChar", "([BI)C"⟩
abbrev cJ2_length_9d52b : ByteArray := prog_14_method_6_code
def yJ2_length_9d52b : MethodName := ⟨RJ2, "length", "([B)I"⟩
abbrev cJ2_charAt_3b067 : ByteArray := prog_14_method_83_code
def yJ2_charAt_3b067 : MethodName := ⟨RJ2, "charAt", "([BI)C"⟩
abbrev cJ2_checkIndex_2214a : ByteArray := prog_14_method_91_code
def yJ2_checkIndex_2214a : MethodName := ⟨RJ2, "checkIndex", "(I[B)V"⟩
def RJxfd54e : String := "java/lang/constant/Constable"
def TJxfd54e : u_T := fun k => match k with
  | _ => ("", "", "", false)
def tyJxfd54e : Nat → FieldType := fun k => match k with
  | _ => .int
abbrev wsJxfd54e0 : List Cond := u_ws RJxfd54e TJxfd54e 0
theorem nmJxfd54e : ∀ a, a < 0 → ∀ b, b < 0 → a ≠ b → (TJxfd54e a).2.1 ≠ (TJxfd54e b).2.1 := by decide +kernel
theorem tyJxfd54e_ok : ∀ k, k < 0 → parseFieldDescriptor (TJxfd54e k).2.2.1 = some (tyJxfd54e k) := by decide +kernel
def RJx3cf43 : String := "java/lang/constant/ConstantDesc"
def TJx3cf43 : u_T := fun k => match k with
  | _ => ("", "", "", false)
def tyJx3cf43 : Nat → FieldType := fun k => match k with
  | _ => .int
abbrev wsJx3cf430 : List Cond := u_ws RJx3cf43 TJx3cf43 0
theorem nmJx3cf43 : ∀ a, a < 0 → ∀ b, b < 0 → a ≠ b → (TJx3cf43 a).2.1 ≠ (TJx3cf43 b).2.1 := by decide +kernel
theorem tyJx3cf43_ok : ∀ k, k < 0 → parseFieldDescriptor (TJx3cf43 k).2.2.1 = some (tyJx3cf43 k) := by decide +kernel
def RJ7 : String := "java/util/Arrays"
def TJ7 : u_T := fun k => match k with
  | _ => ("", "", "", false)
def tyJ7 : Nat → FieldType := fun k => match k with
  | _ => .int
abbrev wsJ70 : List Cond := u_ws RJ7 TJ7 0
theorem nmJ7 : ∀ a, a < 0 → ∀ b, b < 0 → a ≠ b → (TJ7 a).2.1 ≠ (TJ7 b).2.1 := by decide +kernel
theorem tyJ7_ok : ∀ k, k < 0 → parseFieldDescriptor (TJ7 k).2.2.1 = some (tyJ7 k) := by decide +kernel
abbrev cJ7_fill_53178 : ByteArray := prog_15_method_103_code
def yJ7_fill_53178 : MethodName := ⟨RJ7, "fill", "([II)V"⟩
def RJ3 : String := "jdk/internal/util/Preconditions"
def TJ3 : u_T := fun k => match k with
  | _ => ("", "", "", false)
def tyJ3 : Nat → FieldType := fun k => match k with
  | _ => .int
abbrev wsJ30 : List Cond := u_ws RJ3 TJ3 0
theorem nmJ3 : ∀ a, a < 0 → ∀ b, b < 0 → a ≠ b → (TJ3 a).2.1 ≠ (TJ3 b).2.1 := by decide +kernel
theorem tyJ3_ok : ∀ k, k < 0 → parseFieldDescriptor (TJ3 k).2.2.1 = some (tyJ3 k) := by decide +kernel
abbrev cJ3_checkIndex_8e157 : ByteArray := prog_16_method_11_code
def yJ3_checkIndex_8e157 : MethodName := ⟨RJ3, "checkIndex", "(IILjava/util/function/BiFunction;)I"⟩
def RL : String := "HomingNetsLaw"
abbrev cL_law : ByteArray := code
def yL_law : MethodName := ⟨RL, "law", "([I)Z"⟩
def wsL_law_r1 : List Cond := [Cond.classLink RL 7 RX6, Cond.instantiable RX6 7, Cond.initialized RX6, Cond.classLink RL 10 RX7, Cond.instantiable RX7 27, Cond.initialized RX7, Cond.methodLink RL 9 yX6_init, Cond.instanceMethod yX6_init, Cond.code yX6_init cX6_init 2 none, Cond.methodLink RX6 1 objectInit, Cond.instanceMethod objectInit, Cond.code objectInit ⟨#[0xb1]⟩ 1 none, Cond.classLink RX6 7 RX5, Cond.instantiable RX5 2, Cond.initialized RX5, Cond.fieldLink RX6 10 "HomingNets" "text" "LHomingNets$Text;", Cond.classLink RX6 16 RX1, Cond.instantiable RX1 8, Cond.initialized RX1, Cond.fieldLink RX6 19 "HomingNets" "net" "LHomingNets$Net;", Cond.fieldLink RX6 23 "HomingNets" "draft" "LHomingNets$Net;", Cond.classLink RX6 26 RX4, Cond.instantiable RX4 8, Cond.initialized RX4]
def wsL_law_r2 : List Cond := [Cond.fieldLink RX6 29 "HomingNets" "survey" "LHomingNets$Survey;", Cond.classLink RX6 33 RX2, Cond.instantiable RX2 3, Cond.initialized RX2, Cond.fieldLink RX6 36 "HomingNets" "past" "LHomingNets$Past;", Cond.methodLink RX6 9 yX5_init, Cond.instanceMethod yX5_init, Cond.code yX5_init cX5_init 1 none, Cond.methodLink RX5 3 objectInit, Cond.arrayClass .int, Cond.fieldLink RX5 9 "HomingNets$Text" "letters" "[I", Cond.methodLink RX6 18 yX1_init, Cond.instanceMethod yX1_init, Cond.code yX1_init cX1_init 1 none, Cond.methodLink RX1 3 objectInit, Cond.fieldLink RX1 9 "HomingNets$Net" "linked" "[I", Cond.fieldLink RX1 15 "HomingNets$Net" "weight" "[I", Cond.methodLink RX6 28 yX4_init, Cond.instanceMethod yX4_init, Cond.code yX4_init cX4_init 1 none, Cond.methodLink RX4 3 objectInit, Cond.fieldLink RX4 9 "HomingNets$Survey" "wanted" "[I", Cond.fieldLink RX4 15 "HomingNets$Survey" "movesLeft" "[I", Cond.fieldLink RX4 18 "HomingNets$Survey" "worst" "[I"]
def wsL_law_r3 : List Cond := [Cond.fieldLink RX4 21 "HomingNets$Survey" "best" "[I", Cond.fieldLink RX4 24 "HomingNets$Survey" "hits" "[I", Cond.fieldLink RX4 27 "HomingNets$Survey" "spare" "[I", Cond.methodLink RX6 35 yX2_init, Cond.instanceMethod yX2_init, Cond.code yX2_init cX2_init 1 none, Cond.methodLink RX2 3 objectInit, Cond.fieldLink RX2 9 "HomingNets$Past" "states" "[I", Cond.fieldLink RX2 15 "HomingNets$Past" "movers" "[I", Cond.methodLink RX6 42 yJ0_length_8abf5, Cond.instanceMethod yJ0_length_8abf5, Cond.selects RJ0 yJ0_length_8abf5 yJ0_length_8abf5, Cond.initialized RJ0, Cond.code yJ0_length_8abf5 cJ0_length_8abf5 1 (some .int), Cond.fieldLink RJ0 9 "java/lang/String" "value" "[B", Cond.methodLink RJ0 335 yJ0_coder_7d493, Cond.instanceMethod yJ0_coder_7d493, Cond.selects RJ0 yJ0_coder_7d493 yJ0_coder_7d493, Cond.code yJ0_coder_7d493 cJ0_coder_7d493 1 (some .byte), Cond.fieldLink RJ0 38 "java/lang/String" "COMPACT_STRINGS" "Z", Cond.fieldLink RJ0 15 "java/lang/String" "coder" "B", Cond.methodLink RX6 48 yJ0_charAt_5068e, Cond.instanceMethod yJ0_charAt_5068e, Cond.selects RJ0 yJ0_charAt_5068e yJ0_charAt_5068e]
def wsL_law_r4 : List Cond := [Cond.code yJ0_charAt_5068e cJ0_charAt_5068e 2 (some .char), Cond.methodLink RJ0 492 yJ0_isLatin1_aae02, Cond.instanceMethod yJ0_isLatin1_aae02, Cond.selects RJ0 yJ0_isLatin1_aae02 yJ0_isLatin1_aae02, Cond.code yJ0_isLatin1_aae02 cJ0_isLatin1_aae02 1 (some .boolean), Cond.methodLink RJ0 495 yJ1_charAt_3b067, Cond.static yJ1_charAt_3b067, Cond.initialized RJ1, Cond.code yJ1_charAt_3b067 cJ1_charAt_3b067 2 (some .char), Cond.methodLink RJ1 9 yJ0_checkIndex_df160, Cond.static yJ0_checkIndex_df160, Cond.code yJ0_checkIndex_df160 cJ0_checkIndex_df160 2 none, Cond.fieldLink RJ0 1053 "jdk/internal/util/Preconditions" "SIOOBE_FORMATTER" "Ljava/util/function/BiFunction;", Cond.methodLink RJ0 1059 yJ3_checkIndex_8e157, Cond.static yJ3_checkIndex_8e157, Cond.initialized RJ3, Cond.code yJ3_checkIndex_8e157 cJ3_checkIndex_8e157 3 (some .int), Cond.methodLink RJ0 498 yJ2_charAt_3b067, Cond.static yJ2_charAt_3b067, Cond.initialized RJ2, Cond.code yJ2_charAt_3b067 cJ2_charAt_3b067 2 (some .char), Cond.methodLink RJ2 67 yJ2_checkIndex_2214a, Cond.static yJ2_checkIndex_2214a, Cond.code yJ2_checkIndex_2214a cJ2_checkIndex_2214a 2 none]
def wsL_law_r5 : List Cond := [Cond.methodLink RJ2 48 yJ2_length_9d52b, Cond.static yJ2_length_9d52b, Cond.code yJ2_length_9d52b cJ2_length_9d52b 1 (some .int), Cond.methodLink RJ2 414 yJ0_checkIndex_df160, Cond.methodLink RJ2 71 yJ2_getChar_3b067, Cond.static yJ2_getChar_3b067, Cond.code yJ2_getChar_3b067 cJ2_getChar_3b067 2 (some .char), Cond.fieldLink RJ2 44 "java/lang/StringUTF16" "$assertionsDisabled" "Z", Cond.fieldLink RJ2 59 "java/lang/StringUTF16" "HI_BYTE_SHIFT" "I", Cond.fieldLink RJ2 63 "java/lang/StringUTF16" "LO_BYTE_SHIFT" "I", Cond.methodLink RX6 52 yX5_append, Cond.instanceMethod yX5_append, Cond.selects RX5 yX5_append yX5_append, Cond.code yX5_append cX5_append 2 (some .boolean), Cond.fieldLink RX5 15 "HomingNets$Text" "many" "I", Cond.methodLink RX5 19 yX3_put, Cond.static yX3_put, Cond.initialized RX3, Cond.code yX3_put cX3_put 3 none, Cond.methodLink RX6 56 yX5_readInto, Cond.instanceMethod yX5_readInto, Cond.selects RX5 yX5_readInto yX5_readInto, Cond.code yX5_readInto cX5_readInto 4 (some .int), Cond.methodLink RX5 25 yX5_readItem]
def wsL_law_r6 : List Cond := [Cond.instanceMethod yX5_readItem, Cond.selects RX5 yX5_readItem yX5_readItem, Cond.code yX5_readItem cX5_readItem 6 (some .boolean), Cond.methodLink RX5 33 yX5_figureAt, Cond.instanceMethod yX5_figureAt, Cond.selects RX5 yX5_figureAt yX5_figureAt, Cond.code yX5_figureAt cX5_figureAt 3 (some .int), Cond.methodLink RX5 29 yX5_letterAt, Cond.instanceMethod yX5_letterAt, Cond.selects RX5 yX5_letterAt yX5_letterAt, Cond.code yX5_letterAt cX5_letterAt 2 (some .int), Cond.methodLink RX5 49 yX3_at, Cond.static yX3_at, Cond.code yX3_at cX3_at 2 (some .int), Cond.methodLink RX5 36 yX1_begin, Cond.instanceMethod yX1_begin, Cond.selects RX1 yX1_begin yX1_begin, Cond.code yX1_begin cX1_begin 6 (some .boolean), Cond.fieldLink RX1 24 "HomingNets$Net" "kind" "I", Cond.fieldLink RX1 28 "HomingNets$Net" "machines" "I", Cond.fieldLink RX1 31 "HomingNets$Net" "range" "I", Cond.fieldLink RX1 34 "HomingNets$Net" "states" "I", Cond.fieldLink RX1 37 "HomingNets$Net" "wires" "I", Cond.fieldLink RX1 40 "HomingNets$Net" "start" "I"]
def wsL_law_r7 : List Cond := [Cond.methodLink RX1 18 yX3_put, Cond.methodLink RX5 42 yX1_addWire, Cond.instanceMethod yX1_addWire, Cond.selects RX1 yX1_addWire yX1_addWire, Cond.code yX1_addWire cX1_addWire 3 (some .boolean), Cond.methodLink RX1 43 yX1_hasMachine, Cond.instanceMethod yX1_hasMachine, Cond.selects RX1 yX1_hasMachine yX1_hasMachine, Cond.code yX1_hasMachine cX1_hasMachine 2 (some .boolean), Cond.methodLink RX1 47 yX1_isLinked, Cond.instanceMethod yX1_isLinked, Cond.selects RX1 yX1_isLinked yX1_isLinked, Cond.code yX1_isLinked cX1_isLinked 3 (some .boolean), Cond.methodLink RX1 51 yX3_at, Cond.methodLink RX5 46 yX1_startWith, Cond.instanceMethod yX1_startWith, Cond.selects RX1 yX1_startWith yX1_startWith, Cond.code yX1_startWith cX1_startWith 3 (some .boolean), Cond.methodLink RX1 55 yX1_hasValue, Cond.instanceMethod yX1_hasValue, Cond.selects RX1 yX1_hasValue yX1_hasValue, Cond.code yX1_hasValue cX1_hasValue 2 (some .boolean), Cond.methodLink RX1 58 yX1_withValue, Cond.instanceMethod yX1_withValue]
def wsL_law_r8 : List Cond := [Cond.selects RX1 yX1_withValue yX1_withValue, Cond.code yX1_withValue cX1_withValue 4 (some .int), Cond.methodLink RX1 68 yX1_valueAt, Cond.instanceMethod yX1_valueAt, Cond.selects RX1 yX1_valueAt yX1_valueAt, Cond.code yX1_valueAt cX1_valueAt 3 (some .int), Cond.methodLink RX6 60 yX6_takeDraft, Cond.instanceMethod yX6_takeDraft, Cond.selects RX6 yX6_takeDraft yX6_takeDraft, Cond.code yX6_takeDraft cX6_takeDraft 1 none, Cond.fieldLink RX6 79 "HomingNets$Net" "start" "I", Cond.fieldLink RX6 82 "HomingNets" "now" "I", Cond.fieldLink RX6 85 "HomingNets" "lastInRing" "I", Cond.methodLink RX6 75 yX1_copyFrom, Cond.instanceMethod yX1_copyFrom, Cond.selects RX1 yX1_copyFrom yX1_copyFrom, Cond.code yX1_copyFrom cX1_copyFrom 3 none, Cond.methodLink RX6 88 yX2_clear, Cond.instanceMethod yX2_clear, Cond.selects RX2 yX2_clear yX2_clear, Cond.code yX2_clear cX2_clear 1 none, Cond.fieldLink RX2 18 "HomingNets$Past" "many" "I", Cond.methodLink RX6 89 yX4_forget, Cond.instanceMethod yX4_forget]
def wsL_law_r9 : List Cond := [Cond.selects RX4 yX4_forget yX4_forget, Cond.code yX4_forget cX4_forget 1 none, Cond.fieldLink RX4 30 "HomingNets$Survey" "made" "Z", Cond.methodLink RX6 63 yX5_clear, Cond.instanceMethod yX5_clear, Cond.selects RX5 yX5_clear yX5_clear, Cond.code yX5_clear cX5_clear 1 none, Cond.methodLink RL 12 yX7_init, Cond.instanceMethod yX7_init, Cond.code yX7_init cX7_init 1 none, Cond.methodLink RX7 1 objectInit, Cond.fieldLink RX7 7 "HomingNetsModel" "text" "[I", Cond.fieldLink RX7 13 "HomingNetsModel" "wiredRow" "[I", Cond.fieldLink RX7 16 "HomingNetsModel" "powers" "[I", Cond.fieldLink RX7 19 "HomingNetsModel" "values" "[I", Cond.fieldLink RX7 22 "HomingNetsModel" "toldRow" "[I", Cond.fieldLink RX7 25 "HomingNetsModel" "toldValues" "[I", Cond.fieldLink RX7 28 "HomingNetsModel" "oldCodes" "[I", Cond.fieldLink RX7 31 "HomingNetsModel" "oldLasts" "[I", Cond.fieldLink RX7 34 "HomingNetsModel" "worst" "[I", Cond.fieldLink RX7 37 "HomingNetsModel" "best" "[I", Cond.fieldLink RX7 40 "HomingNetsModel" "hits" "[I", Cond.fieldLink RX7 43 "HomingNetsModel" "row" "[I", Cond.fieldLink RX7 46 "HomingNetsModel" "then" "[I"]
def wsL_law_r10 : List Cond := [Cond.fieldLink RX7 49 "HomingNetsModel" "sort" "I", Cond.fieldLink RX7 53 "HomingNetsModel" "many" "I", Cond.fieldLink RX7 56 "HomingNetsModel" "wide" "I", Cond.methodLink RX7 59 yX7_begins, Cond.instanceMethod yX7_begins, Cond.selects RX7 yX7_begins yX7_begins, Cond.code yX7_begins cX7_begins 2 none, Cond.fieldLink RX7 62 "HomingNetsModel" "states" "I", Cond.fieldLink RX7 65 "HomingNetsModel" "last" "I", Cond.fieldLink RX7 68 "HomingNetsModel" "done" "I", Cond.fieldLink RX7 71 "HomingNetsModel" "isMeasured" "Z", Cond.methodLink RL 13 yX6_write, Cond.instanceMethod yX6_write, Cond.selects RX6 yX6_write yX6_write, Cond.code yX6_write cX6_write 2 (some .int), Cond.methodLink RX6 66 yX5_length, Cond.instanceMethod yX5_length, Cond.selects RX5 yX5_length yX5_length, Cond.code yX5_length cX5_length 1 (some .int), Cond.methodLink RL 17 yX7_write, Cond.instanceMethod yX7_write, Cond.selects RX7 yX7_write yX7_write, Cond.code yX7_write cX7_write 2 (some .int), Cond.fieldLink RX7 75 "HomingNetsModel" "length" "I"]
def wsL_law_r11 : List Cond := [Cond.methodLink RL 18 yX6_wipe, Cond.instanceMethod yX6_wipe, Cond.selects RX6 yX6_wipe yX6_wipe, Cond.code yX6_wipe cX6_wipe 2 (some .int), Cond.methodLink RL 22 yX7_wipe, Cond.instanceMethod yX7_wipe, Cond.selects RX7 yX7_wipe yX7_wipe, Cond.code yX7_wipe cX7_wipe 2 (some .int), Cond.methodLink RL 23 yX6_fault, Cond.instanceMethod yX6_fault, Cond.selects RX6 yX6_fault yX6_fault, Cond.code yX6_fault cX6_fault 1 (some .int), Cond.methodLink RL 26 yX7_fault, Cond.instanceMethod yX7_fault, Cond.selects RX7 yX7_fault yX7_fault, Cond.code yX7_fault cX7_fault 1 (some .int), Cond.methodLink RX7 109 yX7_reads, Cond.instanceMethod yX7_reads, Cond.selects RX7 yX7_reads yX7_reads, Cond.code yX7_reads cX7_reads 3 (some .int), Cond.fieldLink RX7 85 "HomingNetsModel" "toldSort" "I", Cond.fieldLink RX7 102 "HomingNetsModel" "toldWires" "I", Cond.methodLink RX7 105 yX7_readsItem, Cond.instanceMethod yX7_readsItem]
def wsL_law_r12 : List Cond := [Cond.selects RX7 yX7_readsItem yX7_readsItem, Cond.code yX7_readsItem cX7_readsItem 5 (some .int), Cond.fieldLink RX7 92 "HomingNetsModel" "toldMany" "I", Cond.fieldLink RX7 95 "HomingNetsModel" "toldWide" "I", Cond.methodLink RX7 98 yX7_readsNet, Cond.instanceMethod yX7_readsNet, Cond.selects RX7 yX7_readsNet yX7_readsNet, Cond.code yX7_readsNet cX7_readsNet 7 (some .boolean), Cond.methodLink RX7 82 yX7_figure, Cond.instanceMethod yX7_figure, Cond.selects RX7 yX7_figure yX7_figure, Cond.code yX7_figure cX7_figure 3 (some .int), Cond.methodLink RX7 78 yX7_letterAt, Cond.instanceMethod yX7_letterAt, Cond.selects RX7 yX7_letterAt yX7_letterAt, Cond.code yX7_letterAt cX7_letterAt 2 (some .int), Cond.methodLink RX7 88 yX7_isIn, Cond.static yX7_isIn, Cond.code yX7_isIn cX7_isIn 3 (some .boolean), Cond.methodLink RL 27 yX6_lay, Cond.instanceMethod yX6_lay, Cond.selects RX6 yX6_lay yX6_lay, Cond.code yX6_lay cX6_lay 1 (some .int), Cond.fieldLink RX6 71 "HomingNets$Net" "states" "I"]
def wsL_law_r13 : List Cond := [Cond.methodLink RX6 67 yX1_hasColoursEnough, Cond.instanceMethod yX1_hasColoursEnough, Cond.selects RX1 yX1_hasColoursEnough yX1_hasColoursEnough, Cond.code yX1_hasColoursEnough cX1_hasColoursEnough 2 (some .boolean), Cond.methodLink RX1 62 yJ6_bitCount_0f7a4, Cond.static yJ6_bitCount_0f7a4, Cond.initialized RJ6, Cond.code yJ6_bitCount_0f7a4 cJ6_bitCount_0f7a4 1 (some .int), Cond.constant RJ6 265 (1431655765), Cond.constant RJ6 266 (858993459), Cond.constant RJ6 267 (252645135), Cond.methodLink RL 30 yX7_lay, Cond.instanceMethod yX7_lay, Cond.selects RX7 yX7_lay yX7_lay, Cond.code yX7_lay cX7_lay 4 (some .int), Cond.fieldLink RX7 113 "HomingNetsModel" "wires" "I", Cond.methodLink RL 31 yX6_value, Cond.instanceMethod yX6_value, Cond.selects RX6 yX6_value yX6_value, Cond.code yX6_value cX6_value 2 (some .int), Cond.methodLink RX6 92 yX1_hasMachine, Cond.methodLink RX6 95 yX1_valueAt, Cond.methodLink RL 34 yX7_value, Cond.instanceMethod yX7_value]
def wsL_law_r14 : List Cond := [Cond.selects RX7 yX7_value yX7_value, Cond.code yX7_value cX7_value 2 (some .int), Cond.methodLink RX7 148 yX7_isMachine, Cond.instanceMethod yX7_isMachine, Cond.selects RX7 yX7_isMachine yX7_isMachine, Cond.code yX7_isMachine cX7_isMachine 2 (some .boolean), Cond.methodLink RL 35 yX6_hit, Cond.instanceMethod yX6_hit, Cond.selects RX6 yX6_hit yX6_hit, Cond.code yX6_hit cX6_hit 4 (some .int), Cond.methodLink RX6 99 yX1_hasValue, Cond.methodLink RX6 102 yX1_withValue, Cond.methodLink RX6 106 yX6_change, Cond.instanceMethod yX6_change, Cond.selects RX6 yX6_change yX6_change, Cond.code yX6_change cX6_change 2 none, Cond.methodLink RX6 151 yX2_keep, Cond.instanceMethod yX2_keep, Cond.selects RX2 yX2_keep yX2_keep, Cond.code yX2_keep cX2_keep 3 none, Cond.methodLink RX2 22 yX2_forgetOldest, Cond.instanceMethod yX2_forgetOldest, Cond.selects RX2 yX2_forgetOldest yX2_forgetOldest, Cond.code yX2_forgetOldest cX2_forgetOldest 2 none]
def wsL_law_r15 : List Cond := [Cond.methodLink RX2 31 yX3_at, Cond.methodLink RX2 25 yX3_put, Cond.methodLink RL 39 yX7_hit, Cond.instanceMethod yX7_hit, Cond.selects RX7 yX7_hit yX7_hit, Cond.code yX7_hit cX7_hit 4 (some .int), Cond.methodLink RX7 157 yX7_keeps, Cond.instanceMethod yX7_keeps, Cond.selects RX7 yX7_keeps yX7_keeps, Cond.code yX7_keeps cX7_keeps 2 none, Cond.methodLink RX7 151 yX7_rowNow, Cond.instanceMethod yX7_rowNow, Cond.selects RX7 yX7_rowNow yX7_rowNow, Cond.code yX7_rowNow cX7_rowNow 2 none, Cond.methodLink RX7 154 yX7_codeOf, Cond.instanceMethod yX7_codeOf, Cond.selects RX7 yX7_codeOf yX7_codeOf, Cond.code yX7_codeOf cX7_codeOf 3 (some .int), Cond.methodLink RL 40 yX6_code, Cond.instanceMethod yX6_code, Cond.selects RX6 yX6_code yX6_code, Cond.code yX6_code cX6_code 1 (some .int), Cond.methodLink RL 43 yX7_code, Cond.instanceMethod yX7_code]
def wsL_law_r16 : List Cond := [Cond.selects RX7 yX7_code yX7_code, Cond.code yX7_code cX7_code 1 (some .int), Cond.methodLink RL 44 yX6_turn, Cond.instanceMethod yX6_turn, Cond.selects RX6 yX6_turn yX6_turn, Cond.code yX6_turn cX6_turn 3 (some .int), Cond.methodLink RX6 110 yX1_hasState, Cond.instanceMethod yX1_hasState, Cond.selects RX1 yX1_hasState yX1_hasState, Cond.code yX1_hasState cX1_hasState 2 (some .boolean), Cond.methodLink RL 47 yX7_turn, Cond.instanceMethod yX7_turn, Cond.selects RX7 yX7_turn yX7_turn, Cond.code yX7_turn cX7_turn 3 (some .int), Cond.methodLink RX7 160 yX7_code, Cond.methodLink RX7 163 yX7_valuesOf, Cond.instanceMethod yX7_valuesOf, Cond.selects RX7 yX7_valuesOf yX7_valuesOf, Cond.code yX7_valuesOf cX7_valuesOf 3 none, Cond.methodLink RX7 144 yX7_rowOf, Cond.instanceMethod yX7_rowOf, Cond.selects RX7 yX7_rowOf yX7_rowOf, Cond.code yX7_rowOf cX7_rowOf 4 none, Cond.methodLink RL 48 yX6_wired]
def wsL_law_r17 : List Cond := [Cond.instanceMethod yX6_wired, Cond.selects RX6 yX6_wired yX6_wired, Cond.code yX6_wired cX6_wired 3 (some .int), Cond.methodLink RX6 113 yX1_sees, Cond.instanceMethod yX1_sees, Cond.selects RX1 yX1_sees yX1_sees, Cond.code yX1_sees cX1_sees 3 (some .boolean), Cond.methodLink RX1 72 yX1_aheadOf, Cond.instanceMethod yX1_aheadOf, Cond.selects RX1 yX1_aheadOf yX1_aheadOf, Cond.code yX1_aheadOf cX1_aheadOf 2 (some .int), Cond.methodLink RL 51 yX7_wired, Cond.instanceMethod yX7_wired, Cond.selects RX7 yX7_wired yX7_wired, Cond.code yX7_wired cX7_wired 3 (some .int), Cond.methodLink RL 52 yX6_may, Cond.instanceMethod yX6_may, Cond.selects RX6 yX6_may yX6_may, Cond.code yX6_may cX6_may 2 (some .int), Cond.methodLink RX6 117 yX1_ruleOf, Cond.instanceMethod yX1_ruleOf, Cond.selects RX1 yX1_ruleOf yX1_ruleOf, Cond.code yX1_ruleOf cX1_ruleOf 5 (some .int), Cond.methodLink RX1 103 yX1_wants]
def wsL_law_r18 : List Cond := [Cond.instanceMethod yX1_wants, Cond.selects RX1 yX1_wants yX1_wants, Cond.code yX1_wants cX1_wants 3 (some .int), Cond.methodLink RX1 75 yX1_counterWants, Cond.instanceMethod yX1_counterWants, Cond.selects RX1 yX1_counterWants yX1_counterWants, Cond.code yX1_counterWants cX1_counterWants 5 (some .int), Cond.methodLink RX1 78 yX1_pointerWants, Cond.instanceMethod yX1_pointerWants, Cond.selects RX1 yX1_pointerWants yX1_pointerWants, Cond.code yX1_pointerWants cX1_pointerWants 6 (some .int), Cond.methodLink RX1 87 yX1_lowestLinkedWith, Cond.instanceMethod yX1_lowestLinkedWith, Cond.selects RX1 yX1_lowestLinkedWith yX1_lowestLinkedWith, Cond.code yX1_lowestLinkedWith cX1_lowestLinkedWith 5 (some .int), Cond.methodLink RX1 81 yX1_distanceWants, Cond.instanceMethod yX1_distanceWants, Cond.selects RX1 yX1_distanceWants yX1_distanceWants, Cond.code yX1_distanceWants cX1_distanceWants 5 (some .int), Cond.methodLink RX1 90 Lib.Math.min.name, Cond.static Lib.Math.min.name, Cond.initialized "java/lang/Math", Cond.code Lib.Math.min.name Lib.Math.min.code 2 (some .int), Cond.methodLink RX1 84 yX1_colourWants]
def wsL_law_r19 : List Cond := [Cond.instanceMethod yX1_colourWants, Cond.selects RX1 yX1_colourWants yX1_colourWants, Cond.code yX1_colourWants cX1_colourWants 5 (some .int), Cond.methodLink RX1 95 yX0_has, Cond.static yX0_has, Cond.initialized RX0, Cond.code yX0_has cX0_has 2 (some .boolean), Cond.methodLink RX1 100 yX0_indexOf, Cond.static yX0_indexOf, Cond.code yX0_indexOf cX0_indexOf 1 (some .int), Cond.methodLink RX0 7 yX0_lowest, Cond.static yX0_lowest, Cond.code yX0_lowest cX0_lowest 1 (some .int), Cond.methodLink RX0 13 yJ6_bitCount_0f7a4, Cond.methodLink RL 55 yX7_may, Cond.instanceMethod yX7_may, Cond.selects RX7 yX7_may yX7_may, Cond.code yX7_may cX7_may 2 (some .int), Cond.fieldLink RX7 120 "HomingNetsModel" "rule" "I", Cond.methodLink RX7 138 yX7_becomesOf, Cond.instanceMethod yX7_becomesOf, Cond.selects RX7 yX7_becomesOf yX7_becomesOf, Cond.code yX7_becomesOf cX7_becomesOf 2 (some .int), Cond.methodLink RX7 126 yX7_counters]
def wsL_law_r20 : List Cond := [Cond.instanceMethod yX7_counters, Cond.selects RX7 yX7_counters yX7_counters, Cond.code yX7_counters cX7_counters 3 (some .int), Cond.methodLink RX7 129 yX7_pointers, Cond.instanceMethod yX7_pointers, Cond.selects RX7 yX7_pointers yX7_pointers, Cond.code yX7_pointers cX7_pointers 4 (some .int), Cond.methodLink RX7 116 yX7_isWired, Cond.instanceMethod yX7_isWired, Cond.selects RX7 yX7_isWired yX7_isWired, Cond.code yX7_isWired cX7_isWired 3 (some .boolean), Cond.methodLink RX7 123 yX7_lowest, Cond.instanceMethod yX7_lowest, Cond.selects RX7 yX7_lowest yX7_lowest, Cond.code yX7_lowest cX7_lowest 4 (some .int), Cond.methodLink RX7 132 yX7_distances, Cond.instanceMethod yX7_distances, Cond.selects RX7 yX7_distances yX7_distances, Cond.code yX7_distances cX7_distances 4 (some .int), Cond.methodLink RX7 135 yX7_colours, Cond.instanceMethod yX7_colours, Cond.selects RX7 yX7_colours yX7_colours, Cond.code yX7_colours cX7_colours 3 (some .int), Cond.methodLink RL 56 yX6_becomes]
def wsL_law_r21 : List Cond := [Cond.instanceMethod yX6_becomes, Cond.selects RX6 yX6_becomes yX6_becomes, Cond.code yX6_becomes cX6_becomes 2 (some .int), Cond.methodLink RX6 120 yX1_wants, Cond.methodLink RL 59 yX7_becomes, Cond.instanceMethod yX7_becomes, Cond.selects RX7 yX7_becomes yX7_becomes, Cond.code yX7_becomes cX7_becomes 3 (some .int), Cond.methodLink RL 60 yX6_move, Cond.instanceMethod yX6_move, Cond.selects RX6 yX6_move yX6_move, Cond.code yX6_move cX6_move 3 (some .int), Cond.methodLink RL 63 yX7_move, Cond.instanceMethod yX7_move, Cond.selects RX7 yX7_move yX7_move, Cond.code yX7_move cX7_move 3 (some .int), Cond.methodLink RL 64 yX6_tokens, Cond.instanceMethod yX6_tokens, Cond.selects RX6 yX6_tokens yX6_tokens, Cond.code yX6_tokens cX6_tokens 1 (some .int), Cond.methodLink RX6 123 yX1_whoMay, Cond.instanceMethod yX1_whoMay, Cond.selects RX1 yX1_whoMay yX1_whoMay, Cond.code yX1_whoMay cX1_whoMay 4 (some .int)]
def wsL_law_r22 : List Cond := [Cond.methodLink RL 67 yX7_tokens, Cond.instanceMethod yX7_tokens, Cond.selects RX7 yX7_tokens yX7_tokens, Cond.code yX7_tokens cX7_tokens 1 (some .int), Cond.methodLink RX7 141 yX7_tokensOf, Cond.instanceMethod yX7_tokensOf, Cond.selects RX7 yX7_tokensOf yX7_tokensOf, Cond.code yX7_tokensOf cX7_tokensOf 3 (some .int), Cond.methodLink RL 68 yX6_legal, Cond.instanceMethod yX6_legal, Cond.selects RX6 yX6_legal yX6_legal, Cond.code yX6_legal cX6_legal 1 (some .int), Cond.methodLink RX6 127 yX1_isLegal, Cond.instanceMethod yX1_isLegal, Cond.selects RX1 yX1_isLegal yX1_isLegal, Cond.code yX1_isLegal cX1_isLegal 3 (some .boolean), Cond.methodLink RX1 106 yX1_whoMay, Cond.methodLink RL 71 yX7_legal, Cond.instanceMethod yX7_legal, Cond.selects RX7 yX7_legal yX7_legal, Cond.code yX7_legal cX7_legal 1 (some .int), Cond.methodLink RX7 166 yX7_isLegal, Cond.instanceMethod yX7_isLegal, Cond.selects RX7 yX7_isLegal yX7_isLegal]
def wsL_law_r23 : List Cond := [Cond.code yX7_isLegal cX7_isLegal 2 (some .boolean), Cond.methodLink RL 72 yX6_mate, Cond.instanceMethod yX6_mate, Cond.selects RX6 yX6_mate yX6_mate, Cond.code yX6_mate cX6_mate 2 (some .int), Cond.fieldLink RX6 130 "HomingNets$Net" "kind" "I", Cond.methodLink RX6 133 yX1_matchOf, Cond.instanceMethod yX1_matchOf, Cond.selects RX1 yX1_matchOf yX1_matchOf, Cond.code yX1_matchOf cX1_matchOf 5 (some .int), Cond.methodLink RX6 136 yX1_parentOf, Cond.instanceMethod yX1_parentOf, Cond.selects RX1 yX1_parentOf yX1_parentOf, Cond.code yX1_parentOf cX1_parentOf 3 (some .int), Cond.methodLink RL 75 yX7_mate, Cond.instanceMethod yX7_mate, Cond.selects RX7 yX7_mate yX7_mate, Cond.code yX7_mate cX7_mate 3 (some .int), Cond.methodLink RL 76 yX6_undo, Cond.instanceMethod yX6_undo, Cond.selects RX6 yX6_undo yX6_undo, Cond.code yX6_undo cX6_undo 1 (some .int), Cond.methodLink RX6 139 yX2_size, Cond.instanceMethod yX2_size]
def wsL_law_r24 : List Cond := [Cond.selects RX2 yX2_size yX2_size, Cond.code yX2_size cX2_size 1 (some .int), Cond.methodLink RX6 142 yX2_lastState, Cond.instanceMethod yX2_lastState, Cond.selects RX2 yX2_lastState yX2_lastState, Cond.code yX2_lastState cX2_lastState 1 (some .int), Cond.methodLink RX6 145 yX2_lastMover, Cond.instanceMethod yX2_lastMover, Cond.selects RX2 yX2_lastMover yX2_lastMover, Cond.code yX2_lastMover cX2_lastMover 1 (some .int), Cond.methodLink RX6 148 yX2_drop, Cond.instanceMethod yX2_drop, Cond.selects RX2 yX2_drop yX2_drop, Cond.code yX2_drop cX2_drop 1 none, Cond.methodLink RL 79 yX7_undo, Cond.instanceMethod yX7_undo, Cond.selects RX7 yX7_undo yX7_undo, Cond.code yX7_undo cX7_undo 1 (some .int), Cond.methodLink RL 80 yX6_run, Cond.instanceMethod yX6_run, Cond.selects RX6 yX6_run yX6_run, Cond.code yX6_run cX6_run 9 (some .int), Cond.methodLink RX6 155 yX4_make, Cond.instanceMethod yX4_make]
def wsL_law_r25 : List Cond := [Cond.selects RX4 yX4_make yX4_make, Cond.code yX4_make cX4_make 3 none, Cond.fieldLink RX4 34 "HomingNets$Net" "states" "I", Cond.methodLink RX4 40 Lib.Math.min.name, Cond.fieldLink RX4 46 "HomingNets$Survey" "states" "I", Cond.methodLink RX4 47 yX4_noteMoves, Cond.instanceMethod yX4_noteMoves, Cond.selects RX4 yX4_noteMoves yX4_noteMoves, Cond.code yX4_noteMoves cX4_noteMoves 7 none, Cond.fieldLink RX4 55 "HomingNets$Net" "machines" "I", Cond.fieldLink RX4 70 "HomingNets$Net" "kind" "I", Cond.methodLink RX4 58 yX1_wants, Cond.methodLink RX4 61 yX1_valueAt, Cond.methodLink RX4 64 yX3_put, Cond.methodLink RX4 51 yX4_spread, Cond.instanceMethod yX4_spread, Cond.selects RX4 yX4_spread yX4_spread, Cond.code yX4_spread cX4_spread 8 none, Cond.methodLink RX4 73 yX3_at, Cond.methodLink RX4 77 yX4_spreadBy, Cond.instanceMethod yX4_spreadBy, Cond.selects RX4 yX4_spreadBy yX4_spreadBy, Cond.code yX4_spreadBy cX4_spreadBy 12 (some .int), Cond.fieldLink RX4 81 "HomingNets$Net" "range" "I"]
def wsL_law_r26 : List Cond := [Cond.methodLink RX4 84 yX1_withValue, Cond.methodLink RX4 88 yX4_reaches, Cond.instanceMethod yX4_reaches, Cond.selects RX4 yX4_reaches yX4_reaches, Cond.code yX4_reaches cX4_reaches 6 (some .boolean), Cond.methodLink RX4 92 yX4_wantedBy, Cond.instanceMethod yX4_wantedBy, Cond.selects RX4 yX4_wantedBy yX4_wantedBy, Cond.code yX4_wantedBy cX4_wantedBy 3 (some .int), Cond.methodLink RX6 158 yX6_drawOf, Cond.static yX6_drawOf, Cond.code yX6_drawOf cX6_drawOf 4 (some .int), Cond.constantLong RX6 193 (7919), Cond.constantLong RX6 195 (6151), Cond.constantLong RX6 197 (65521), Cond.methodLink RX6 161 yX6_moversOf, Cond.instanceMethod yX6_moversOf, Cond.selects RX6 yX6_moversOf yX6_moversOf, Cond.code yX6_moversOf cX6_moversOf 6 (some .int), Cond.fieldLink RX6 204 "HomingNets$Net" "machines" "I", Cond.methodLink RX6 199 yX0_lowest, Cond.methodLink RX6 207 yX0_nextInRing, Cond.static yX0_nextInRing, Cond.code yX0_nextInRing cX0_nextInRing 4 (some .int)]
def wsL_law_r27 : List Cond := [Cond.methodLink RX6 210 yX0_drawn, Cond.static yX0_drawn, Cond.code yX0_drawn cX0_drawn 5 (some .int), Cond.methodLink RX6 213 yX6_cruellest, Cond.instanceMethod yX6_cruellest, Cond.selects RX6 yX6_cruellest yX6_cruellest, Cond.code yX6_cruellest cX6_cruellest 7 (some .int), Cond.methodLink RX6 216 yX0_has, Cond.methodLink RX6 219 yX4_behind, Cond.instanceMethod yX4_behind, Cond.selects RX4 yX4_behind yX4_behind, Cond.code yX4_behind cX4_behind 4 (some .int), Cond.methodLink RX6 223 yX4_worstOf, Cond.instanceMethod yX4_worstOf, Cond.selects RX4 yX4_worstOf yX4_worstOf, Cond.code yX4_worstOf cX4_worstOf 2 (some .int), Cond.methodLink RX6 226 yX4_rankOf, Cond.static yX4_rankOf, Cond.code yX4_rankOf cX4_rankOf 1 (some .int), Cond.constant RX4 103 (2147483647), Cond.methodLink RX6 165 yX6_lastBehind, Cond.static yX6_lastBehind, Cond.code yX6_lastBehind cX6_lastBehind 3 (some .int), Cond.methodLink RX6 229 yX0_indexOf]
def wsL_law_r28 : List Cond := [Cond.methodLink RX6 168 yX1_moved, Cond.instanceMethod yX1_moved, Cond.selects RX1 yX1_moved yX1_moved, Cond.code yX1_moved cX1_moved 5 (some .int), Cond.methodLink RL 84 yX7_run, Cond.instanceMethod yX7_run, Cond.selects RX7 yX7_run yX7_run, Cond.code yX7_run cX7_run 7 (some .int), Cond.methodLink RX7 205 yX7_chooses, Cond.instanceMethod yX7_chooses, Cond.selects RX7 yX7_chooses yX7_chooses, Cond.code yX7_chooses cX7_chooses 9 (some .int), Cond.methodLink RX7 198 yX7_cruel, Cond.instanceMethod yX7_cruel, Cond.selects RX7 yX7_cruel yX7_cruel, Cond.code yX7_cruel cX7_cruel 7 (some .int), Cond.constant RX7 191 (1000000), Cond.methodLink RX7 185 yX7_measures, Cond.instanceMethod yX7_measures, Cond.selects RX7 yX7_measures yX7_measures, Cond.code yX7_measures cX7_measures 3 none, Cond.methodLink RX7 176 yX7_worsts, Cond.instanceMethod yX7_worsts, Cond.selects RX7 yX7_worsts yX7_worsts]
def wsL_law_r29 : List Cond := [Cond.code yX7_worsts cX7_worsts 4 none, Cond.methodLink RX7 170 yX7_worstBehind, Cond.instanceMethod yX7_worstBehind, Cond.selects RX7 yX7_worstBehind yX7_worstBehind, Cond.code yX7_worstBehind cX7_worstBehind 6 (some .int), Cond.methodLink RX7 179 yX7_bests, Cond.instanceMethod yX7_bests, Cond.selects RX7 yX7_bests yX7_bests, Cond.code yX7_bests cX7_bests 4 none, Cond.methodLink RX7 173 yX7_leadsTo, Cond.instanceMethod yX7_leadsTo, Cond.selects RX7 yX7_leadsTo yX7_leadsTo, Cond.code yX7_leadsTo cX7_leadsTo 5 (some .boolean), Cond.methodLink RX7 182 yX7_isHitTo, Cond.instanceMethod yX7_isHitTo, Cond.selects RX7 yX7_isHitTo yX7_isHitTo, Cond.code yX7_isHitTo cX7_isHitTo 6 (some .boolean), Cond.methodLink RX7 201 yX7_drawn, Cond.static yX7_drawn, Cond.code yX7_drawn cX7_drawn 4 (some .long), Cond.constantLong RX7 192 (7919), Cond.constantLong RX7 194 (6151), Cond.constantLong RX7 196 (65521), Cond.methodLink RX7 209 yX7_lowestBit]
def wsL_law_r30 : List Cond := [Cond.static yX7_lowestBit, Cond.code yX7_lowestBit cX7_lowestBit 2 (some .int), Cond.methodLink RX7 212 yX7_moves, Cond.instanceMethod yX7_moves, Cond.selects RX7 yX7_moves yX7_moves, Cond.code yX7_moves cX7_moves 3 none, Cond.methodLink RL 85 yX6_next, Cond.instanceMethod yX6_next, Cond.selects RX6 yX6_next yX6_next, Cond.code yX6_next cX6_next 2 (some .int), Cond.methodLink RL 88 yX7_next, Cond.instanceMethod yX7_next, Cond.selects RX7 yX7_next yX7_next, Cond.code yX7_next cX7_next 2 (some .int), Cond.methodLink RL 89 yX6_loop, Cond.instanceMethod yX6_loop, Cond.selects RX6 yX6_loop yX6_loop, Cond.code yX6_loop cX6_loop 7 (some .int), Cond.methodLink RX6 171 yX4_clearedSpare, Cond.instanceMethod yX4_clearedSpare, Cond.selects RX4 yX4_clearedSpare yX4_clearedSpare, Cond.code yX4_clearedSpare cX4_clearedSpare 1 (some (.array .int)), Cond.methodLink RX4 95 yJ7_fill_53178, Cond.static yJ7_fill_53178]
def wsL_law_r31 : List Cond := [Cond.initialized RJ7, Cond.code yJ7_fill_53178 cJ7_fill_53178 4 none, Cond.methodLink RX6 175 yX3_at, Cond.methodLink RX6 181 yX3_put, Cond.methodLink RL 92 yX7_loop, Cond.instanceMethod yX7_loop, Cond.selects RX7 yX7_loop yX7_loop, Cond.code yX7_loop cX7_loop 10 (some .int), Cond.methodLink RX7 215 yX7_follows, Cond.instanceMethod yX7_follows, Cond.selects RX7 yX7_follows yX7_follows, Cond.code yX7_follows cX7_follows 3 (some .int), Cond.methodLink RL 93 yX6_storm, Cond.instanceMethod yX6_storm, Cond.selects RX6 yX6_storm yX6_storm, Cond.code yX6_storm cX6_storm 13 (some .int), Cond.methodLink RX6 188 Lib.Math.max.name, Cond.static Lib.Math.max.name, Cond.code Lib.Math.max.name Lib.Math.max.code 2 (some .int), Cond.methodLink RX6 185 yX1_struck, Cond.instanceMethod yX1_struck, Cond.selects RX1 yX1_struck yX1_struck, Cond.code yX1_struck cX1_struck 3 (some .int), Cond.methodLink RL 97 yX7_storm]
def wsL_law_r32 : List Cond := [Cond.instanceMethod yX7_storm, Cond.selects RX7 yX7_storm yX7_storm, Cond.code yX7_storm cX7_storm 12 (some .int), Cond.methodLink RL 98 yX6_state, Cond.instanceMethod yX6_state, Cond.selects RX6 yX6_state yX6_state, Cond.code yX6_state cX6_state 3 (some .int), Cond.methodLink RX6 232 yX4_hitsOf, Cond.instanceMethod yX4_hitsOf, Cond.selects RX4 yX4_hitsOf yX4_hitsOf, Cond.code yX4_hitsOf cX4_hitsOf 2 (some .int), Cond.methodLink RX6 235 yX4_bestOf, Cond.instanceMethod yX4_bestOf, Cond.selects RX4 yX4_bestOf yX4_bestOf, Cond.code yX4_bestOf cX4_bestOf 2 (some .int), Cond.methodLink RL 101 yX7_state, Cond.instanceMethod yX7_state, Cond.selects RX7 yX7_state yX7_state, Cond.code yX7_state cX7_state 3 (some .int), Cond.methodLink RL 102 yX6_all, Cond.instanceMethod yX6_all, Cond.selects RX6 yX6_all yX6_all, Cond.code yX6_all cX6_all 2 (some .int), Cond.methodLink RX6 238 yX4_legalStates]
def wsL_law_r33 : List Cond := [Cond.instanceMethod yX4_legalStates, Cond.selects RX4 yX4_legalStates yX4_legalStates, Cond.code yX4_legalStates cX4_legalStates 1 (some .int), Cond.methodLink RX4 104 yX4_countOf, Cond.instanceMethod yX4_countOf, Cond.selects RX4 yX4_countOf yX4_countOf, Cond.code yX4_countOf cX4_countOf 5 (some .int), Cond.methodLink RX6 241 yX4_endlessStates, Cond.instanceMethod yX4_endlessStates, Cond.selects RX4 yX4_endlessStates yX4_endlessStates, Cond.code yX4_endlessStates cX4_endlessStates 1 (some .int), Cond.methodLink RX6 244 yX4_greatestWorst, Cond.instanceMethod yX4_greatestWorst, Cond.selects RX4 yX4_greatestWorst yX4_greatestWorst, Cond.code yX4_greatestWorst cX4_greatestWorst 1 (some .int), Cond.methodLink RX4 107 yX4_greatestOf, Cond.instanceMethod yX4_greatestOf, Cond.selects RX4 yX4_greatestOf yX4_greatestOf, Cond.code yX4_greatestOf cX4_greatestOf 4 (some .int), Cond.methodLink RX4 111 Lib.Math.max.name, Cond.methodLink RX6 247 yX4_lowestOfGreatestWorst, Cond.instanceMethod yX4_lowestOfGreatestWorst, Cond.selects RX4 yX4_lowestOfGreatestWorst yX4_lowestOfGreatestWorst, Cond.code yX4_lowestOfGreatestWorst cX4_lowestOfGreatestWorst 3 (some .int)]
def wsL_law_r34 : List Cond := [Cond.methodLink RX4 114 yX4_greatestWorst, Cond.methodLink RX4 118 yX4_worstOf, Cond.methodLink RX6 250 yX4_movesOutOfLegal, Cond.instanceMethod yX4_movesOutOfLegal, Cond.selects RX4 yX4_movesOutOfLegal yX4_movesOutOfLegal, Cond.code yX4_movesOutOfLegal cX4_movesOutOfLegal 4 (some .int), Cond.methodLink RX4 122 yX4_movesOutOf, Cond.instanceMethod yX4_movesOutOf, Cond.selects RX4 yX4_movesOutOf yX4_movesOutOf, Cond.code yX4_movesOutOf cX4_movesOutOf 5 (some .int), Cond.methodLink RX4 126 yX4_behind, Cond.methodLink RX6 253 yX4_sumOfWorsts, Cond.instanceMethod yX4_sumOfWorsts, Cond.selects RX4 yX4_sumOfWorsts yX4_sumOfWorsts, Cond.code yX4_sumOfWorsts cX4_sumOfWorsts 3 (some .int), Cond.methodLink RX6 256 yX4_greatestBest, Cond.instanceMethod yX4_greatestBest, Cond.selects RX4 yX4_greatestBest yX4_greatestBest, Cond.code yX4_greatestBest cX4_greatestBest 1 (some .int), Cond.methodLink RL 105 yX7_all, Cond.instanceMethod yX7_all, Cond.selects RX7 yX7_all yX7_all, Cond.code yX7_all cX7_all 10 (some .int), Cond.methodLink RX7 188 yX7_leaves]
def wsL_law_r35 : List Cond := [Cond.instanceMethod yX7_leaves, Cond.selects RX7 yX7_leaves yX7_leaves, Cond.code yX7_leaves cX7_leaves 5 (some .int), Cond.methodLink RL 106 yX6_within, Cond.instanceMethod yX6_within, Cond.selects RX6 yX6_within yX6_within, Cond.code yX6_within cX6_within 4 (some .int), Cond.methodLink RX6 259 yX4_statesWithin, Cond.instanceMethod yX4_statesWithin, Cond.selects RX4 yX4_statesWithin yX4_statesWithin, Cond.code yX4_statesWithin cX4_statesWithin 4 (some .int), Cond.methodLink RX4 130 yX4_isWithin, Cond.instanceMethod yX4_isWithin, Cond.selects RX4 yX4_isWithin yX4_isWithin, Cond.code yX4_isWithin cX4_isWithin 3 (some .boolean), Cond.methodLink RX4 137 yX4_hitsOf, Cond.methodLink RX6 262 yX4_greatestWorstWithin, Cond.instanceMethod yX4_greatestWorstWithin, Cond.selects RX4 yX4_greatestWorstWithin yX4_greatestWorstWithin, Cond.code yX4_greatestWorstWithin cX4_greatestWorstWithin 4 (some .int), Cond.methodLink RX4 134 yX4_rankOf, Cond.methodLink RL 109 yX7_within, Cond.instanceMethod yX7_within, Cond.selects RX7 yX7_within yX7_within]
def wsL_law_r36 : List Cond := [Cond.code yX7_within cX7_within 7 (some .int), Cond.methodLink RL 110 yX6_count, Cond.instanceMethod yX6_count, Cond.selects RX6 yX6_count yX6_count, Cond.code yX6_count cX6_count 2 (some .int), Cond.fieldLink RX6 265 "HomingNets$Net" "range" "I", Cond.fieldLink RX6 268 "HomingNets$Net" "wires" "I", Cond.methodLink RL 113 yX7_count, Cond.instanceMethod yX7_count, Cond.selects RX7 yX7_count yX7_count, Cond.code yX7_count cX7_count 2 (some .int)]
def wsL_law : List Cond := (wsL_law_r1 ++ (wsL_law_r2 ++ (wsL_law_r3 ++ (wsL_law_r4 ++ (wsL_law_r5 ++ (wsL_law_r6 ++ (wsL_law_r7 ++ (wsL_law_r8 ++ (wsL_law_r9 ++ (wsL_law_r10 ++ (wsL_law_r11 ++ (wsL_law_r12 ++ (wsL_law_r13 ++ (wsL_law_r14 ++ (wsL_law_r15 ++ (wsL_law_r16 ++ (wsL_law_r17 ++ (wsL_law_r18 ++ (wsL_law_r19 ++ (wsL_law_r20 ++ (wsL_law_r21 ++ (wsL_law_r22 ++ (wsL_law_r23 ++ (wsL_law_r24 ++ (wsL_law_r25 ++ (wsL_law_r26 ++ (wsL_law_r27 ++ (wsL_law_r28 ++ (wsL_law_r29 ++ (wsL_law_r30 ++ (wsL_law_r31 ++ (wsL_law_r32 ++ (wsL_law_r33 ++ (wsL_law_r34 ++ (wsL_law_r35 ++ wsL_law_r36))))))))))))))))))))))))))))))))))) ++ wsX60 ++ wsX70 ++ wsX50 ++ wsX10 ++ wsX40 ++ wsX20 ++ ([] : List Cond)
abbrev vwCl : List vw_C := [(RX1, TX1, 8), (RX2, TX2, 3), (RX4, TX4, 8), (RX5, TX5, 2), (RX6, TX6, 7), (RX7, TX7, 27)]
