/-! ===== BEGIN words of one list among another's, by their places ===== -/
theorem goodIn_r {big : List Cond} (ws : List Cond) (ps : List Nat) (hp : ws = ps.filterMap (fun i => big[i]?)) (h : ws.all goodWord = true) : GoodIn big ws := by
  intro w hw
  have h1 := List.all_eq_true.mp h w hw
  rw [hp] at hw
  obtain ⟨i, -, hi⟩ := List.mem_filterMap.mp hw
  have hm : w ∈ big := by first | exact List.mem_of_getElem? hi | exact List.getElem?_mem hi
  exact ⟨hm, good_of_word h1⟩
theorem goodIn_app {big a b : List Cond} (ha : GoodIn big a) (hb : GoodIn big b) : GoodIn big (a ++ b) := fun w h => (List.mem_append.mp h).elim (ha w) (hb w)
theorem goodIn_ca {big a b : List Cond} {c : Cond} (ha : GoodIn big (c :: a)) (hb : GoodIn big b) : GoodIn big (c :: (a ++ b)) := fun w h => (List.mem_cons.mp h).elim (fun e => ha w (List.mem_cons.mpr (Or.inl e))) (fun h => (List.mem_append.mp h).elim (fun h => ha w (List.mem_cons.mpr (Or.inr h))) (hb w))
theorem goodIn_sub {big ws : List Cond} (hm : ∀ w ∈ ws, w ∈ big) (h : ws.all goodWord = true) : GoodIn big ws := fun w hw => ⟨hm w hw, good_of_word (List.all_eq_true.mp h w hw)⟩
/-! ===== END ===== -/
def RX0 : String := "FinerSteps$Event"
def TX0 : u_T := fun k => match k with
  | 0 => ("FinerSteps$Event", "giveCode", "[I", true)
  | 1 => ("FinerSteps$Event", "holding", "[I", true)
  | 2 => ("FinerSteps$Event", "leading", "[I", true)
  | 3 => ("FinerSteps$Event", "given", "[I", true)
  | 4 => ("FinerSteps$Event", "name", "J", false)
  | 5 => ("FinerSteps$Event", "of", "I", false)
  | 6 => ("FinerSteps$Event", "first", "I", false)
  | 7 => ("FinerSteps$Event", "last", "I", false)
  | 8 => ("FinerSteps$Event", "gives", "I", false)
  | 9 => ("FinerSteps$Event", "whenCode", "I", false)
  | _ => ("FinerSteps$Event", "aside", "Z", false)
def tyX0 : Nat → FieldType := fun k => match k with
  | 0 => .array .int
  | 1 => .array .int
  | 2 => .array .int
  | 3 => .array .int
  | 4 => .long
  | 5 => .int
  | 6 => .int
  | 7 => .int
  | 8 => .int
  | 9 => .int
  | _ => .boolean
theorem nmX0 : ∀ a, a < 11 → ∀ b, b < 11 → a ≠ b → (TX0 a).2.1 ≠ (TX0 b).2.1 := by decide +kernel
theorem tyX0_ok : ∀ k, k < 11 → parseFieldDescriptor (TX0 k).2.2.1 = some (tyX0 k) := by decide +kernel
abbrev cX0_init : ByteArray := prog_2_method_1_code
def yX0_init : MethodName := ⟨RX0, "<init>", "()V"⟩
abbrev cX0_clear : ByteArray := prog_2_method_2_code
def yX0_clear : MethodName := ⟨RX0, "clear", "(J)V"⟩
abbrev cX0_told : ByteArray := prog_2_method_3_code
def yX0_told : MethodName := ⟨RX0, "told", "(I)I"⟩
abbrev cX0_hasPick : ByteArray := prog_2_method_4_code
def yX0_hasPick : MethodName := ⟨RX0, "hasPick", "(I)Z"⟩
abbrev cX0_picksAt : ByteArray := prog_2_method_5_code
def yX0_picksAt : MethodName := ⟨RX0, "picksAt", "(I)I"⟩
abbrev cX0_stepsAt : ByteArray := prog_2_method_6_code
def yX0_stepsAt : MethodName := ⟨RX0, "stepsAt", "(I)I"⟩
abbrev cX0_after : ByteArray := prog_2_method_7_code
def yX0_after : MethodName := ⟨RX0, "after", "(II)I"⟩
abbrev cX0_forget : ByteArray := prog_2_method_8_code
def yX0_forget : MethodName := ⟨RX0, "forget", "(I)V"⟩
abbrev cX0_settleAt : ByteArray := prog_2_method_9_code
def yX0_settleAt : MethodName := ⟨RX0, "settleAt", "(IIZI)V"⟩
abbrev cX0_putGiven : ByteArray := prog_2_method_10_code
def yX0_putGiven : MethodName := ⟨RX0, "putGiven", "(ILFinerSteps$StateSet;)V"⟩
def RX1 : String := "FinerSteps$Judge"
def TX1 : u_T := fun k => match k with
  | 0 => ("FinerSteps$Judge", "image", "LFinerSteps$StateSet;", true)
  | 1 => ("FinerSteps$Judge", "model", "LFinerSteps$Model;", false)
  | 2 => ("FinerSteps$Judge", "machine", "LFinerSteps$Machine;", false)
  | 3 => ("FinerSteps$Judge", "verdict", "LFinerSteps$Verdict;", false)
  | _ => ("FinerSteps$Judge", "number", "I", false)
def tyX1 : Nat → FieldType := fun k => match k with
  | 0 => .object "FinerSteps$StateSet"
  | 1 => .object "FinerSteps$Model"
  | 2 => .object "FinerSteps$Machine"
  | 3 => .object "FinerSteps$Verdict"
  | _ => .int
theorem nmX1 : ∀ a, a < 5 → ∀ b, b < 5 → a ≠ b → (TX1 a).2.1 ≠ (TX1 b).2.1 := by decide +kernel
theorem tyX1_ok : ∀ k, k < 5 → parseFieldDescriptor (TX1 k).2.2.1 = some (tyX1 k) := by decide +kernel
abbrev cX1_init : ByteArray := prog_3_method_1_code
def yX1_init : MethodName := ⟨RX1, "<init>", "()V"⟩
abbrev cX1_verdictOn : ByteArray := prog_3_method_2_code
def yX1_verdictOn : MethodName := ⟨RX1, "verdictOn", "(LFinerSteps$Model;III)LFinerSteps$Verdict;"⟩
abbrev cX1_countOpen : ByteArray := prog_3_method_3_code
def yX1_countOpen : MethodName := ⟨RX1, "countOpen", "(LFinerSteps$Model;I)I"⟩
abbrev cX1_concerns : ByteArray := prog_3_method_4_code
def yX1_concerns : MethodName := ⟨RX1, "concerns", "(ILFinerSteps$Event;)Z"⟩
abbrev cX1_judgeBegin : ByteArray := prog_3_method_5_code
def yX1_judgeBegin : MethodName := ⟨RX1, "judgeBegin", "()V"⟩
abbrev cX1_judgeGoingOn : ByteArray := prog_3_method_6_code
def yX1_judgeGoingOn : MethodName := ⟨RX1, "judgeGoingOn", "()V"⟩
abbrev cX1_judgeEvent : ByteArray := prog_3_method_7_code
def yX1_judgeEvent : MethodName := ⟨RX1, "judgeEvent", "(LFinerSteps$Event;I)V"⟩
abbrev cX1_judgePicks : ByteArray := prog_3_method_8_code
def yX1_judgePicks : MethodName := ⟨RX1, "judgePicks", "(LFinerSteps$Event;III)V"⟩
abbrev cX1_lessens : ByteArray := prog_3_method_9_code
def yX1_lessens : MethodName := ⟨RX1, "lessens", "(II)Z"⟩
abbrev cX1_keeps : ByteArray := prog_3_method_10_code
def yX1_keeps : MethodName := ⟨RX1, "keeps", "(LFinerSteps$Event;II)Z"⟩
abbrev cX1_statesAhead : ByteArray := prog_3_method_11_code
def yX1_statesAhead : MethodName := ⟨RX1, "statesAhead", "()I"⟩
abbrev cX1_paired : ByteArray := prog_3_method_12_code
def yX1_paired : MethodName := ⟨RX1, "paired", "(II)Z"⟩
def RX2 : String := "FinerSteps$Machine"
def TX2 : u_T := fun k => match k with
  | 0 => ("FinerSteps$Machine", "names", "[J", true)
  | 1 => ("FinerSteps$Machine", "low", "[I", true)
  | 2 => ("FinerSteps$Machine", "high", "[I", true)
  | 3 => ("FinerSteps$Machine", "at", "[I", true)
  | 4 => ("FinerSteps$Machine", "lawCode", "[I", true)
  | 5 => ("FinerSteps$Machine", "event", "[LFinerSteps$Event;", true)
  | 6 => ("FinerSteps$Machine", "sound", "[Z", true)
  | 7 => ("FinerSteps$Machine", "glue", "[LFinerSteps$StateSet;", true)
  | 8 => ("FinerSteps$Machine", "variants", "[I", true)
  | 9 => ("FinerSteps$Machine", "verdicts", "[LFinerSteps$Verdict;", true)
  | 10 => ("FinerSteps$Machine", "name", "J", false)
  | 11 => ("FinerSteps$Machine", "variables", "I", false)
  | 12 => ("FinerSteps$Machine", "states", "I", false)
  | 13 => ("FinerSteps$Machine", "laws", "I", false)
  | 14 => ("FinerSteps$Machine", "events", "I", false)
  | 15 => ("FinerSteps$Machine", "variantCode", "I", false)
  | 16 => ("FinerSteps$Machine", "soundStates", "I", false)
  | _ => ("FinerSteps$Machine", "pairs", "I", false)
def tyX2 : Nat → FieldType := fun k => match k with
  | 0 => .array .long
  | 1 => .array .int
  | 2 => .array .int
  | 3 => .array .int
  | 4 => .array .int
  | 5 => .array (.object "FinerSteps$Event")
  | 6 => .array .boolean
  | 7 => .array (.object "FinerSteps$StateSet")
  | 8 => .array .int
  | 9 => .array (.object "FinerSteps$Verdict")
  | 10 => .long
  | 11 => .int
  | 12 => .int
  | 13 => .int
  | 14 => .int
  | 15 => .int
  | 16 => .int
  | _ => .int
theorem nmX2 : ∀ a, a < 18 → ∀ b, b < 18 → a ≠ b → (TX2 a).2.1 ≠ (TX2 b).2.1 := by decide +kernel
theorem tyX2_ok : ∀ k, k < 18 → parseFieldDescriptor (TX2 k).2.2.1 = some (tyX2 k) := by decide +kernel
abbrev cX2_init : ByteArray := prog_4_method_1_code
def yX2_init : MethodName := ⟨RX2, "<init>", "()V"⟩
abbrev cX2_clear : ByteArray := prog_4_method_2_code
def yX2_clear : MethodName := ⟨RX2, "clear", "(J)V"⟩
abbrev cX2_told : ByteArray := prog_4_method_3_code
def yX2_told : MethodName := ⟨RX2, "told", "(I)I"⟩
abbrev cX2_beginState : ByteArray := prog_4_method_4_code
def yX2_beginState : MethodName := ⟨RX2, "beginState", "()I"⟩
abbrev cX2_countNew : ByteArray := prog_4_method_5_code
def yX2_countNew : MethodName := ⟨RX2, "countNew", "()I"⟩
abbrev cX2_countAside : ByteArray := prog_4_method_6_code
def yX2_countAside : MethodName := ⟨RX2, "countAside", "()I"⟩
abbrev cX2_hasOtherLines : ByteArray := prog_4_method_7_code
def yX2_hasOtherLines : MethodName := ⟨RX2, "hasOtherLines", "()Z"⟩
abbrev cX2_span : ByteArray := prog_4_method_8_code
def yX2_span : MethodName := ⟨RX2, "span", "(I)I"⟩
abbrev cX2_spread : ByteArray := prog_4_method_9_code
def yX2_spread : MethodName := ⟨RX2, "spread", "(I[II)V"⟩
abbrev cX2_number : ByteArray := prog_4_method_10_code
def yX2_number : MethodName := ⟨RX2, "number", "(II)I"⟩
abbrev cX2_stateOf : ByteArray := prog_4_method_11_code
def yX2_stateOf : MethodName := ⟨RX2, "stateOf", "([II)I"⟩
abbrev cX2_anyCan : ByteArray := prog_4_method_12_code
def yX2_anyCan : MethodName := ⟨RX2, "anyCan", "(I)Z"⟩
abbrev cX2_eventsFrom : ByteArray := prog_4_method_13_code
def yX2_eventsFrom : MethodName := ⟨RX2, "eventsFrom", "(I)I"⟩
def RX3 : String := "FinerSteps$Model"
def TX3 : u_T := fun k => match k with
  | 0 => ("FinerSteps$Model", "machines", "[LFinerSteps$Machine;", true)
  | 1 => ("FinerSteps$Model", "code", "[I", true)
  | 2 => ("FinerSteps$Model", "scene", "[I", true)
  | 3 => ("FinerSteps$Model", "stack", "[I", true)
  | 4 => ("FinerSteps$Model", "nextRow", "[I", true)
  | 5 => ("FinerSteps$Model", "count", "I", false)
  | _ => ("FinerSteps$Model", "codeSize", "I", false)
def tyX3 : Nat → FieldType := fun k => match k with
  | 0 => .array (.object "FinerSteps$Machine")
  | 1 => .array .int
  | 2 => .array .int
  | 3 => .array .int
  | 4 => .array .int
  | 5 => .int
  | _ => .int
theorem nmX3 : ∀ a, a < 7 → ∀ b, b < 7 → a ≠ b → (TX3 a).2.1 ≠ (TX3 b).2.1 := by decide +kernel
theorem tyX3_ok : ∀ k, k < 7 → parseFieldDescriptor (TX3 k).2.2.1 = some (tyX3 k) := by decide +kernel
abbrev cX3_init : ByteArray := prog_5_method_1_code
def yX3_init : MethodName := ⟨RX3, "<init>", "()V"⟩
abbrev cX3_clear : ByteArray := prog_5_method_2_code
def yX3_clear : MethodName := ⟨RX3, "clear", "()V"⟩
abbrev cX3_emit : ByteArray := prog_5_method_3_code
def yX3_emit : MethodName := ⟨RX3, "emit", "(I)V"⟩
abbrev cX3_settle : ByteArray := prog_5_method_4_code
def yX3_settle : MethodName := ⟨RX3, "settle", "()V"⟩
abbrev cX3_forgetVerdicts : ByteArray := prog_5_method_5_code
def yX3_forgetVerdicts : MethodName := ⟨RX3, "forgetVerdicts", "()V"⟩
abbrev cX3_settleFirst : ByteArray := prog_5_method_6_code
def yX3_settleFirst : MethodName := ⟨RX3, "settleFirst", "(LFinerSteps$Machine;)V"⟩
abbrev cX3_settleGlue : ByteArray := prog_5_method_7_code
def yX3_settleGlue : MethodName := ⟨RX3, "settleGlue", "(LFinerSteps$Machine;LFinerSteps$Machine;)V"⟩
abbrev cX3_lawsHold : ByteArray := prog_5_method_8_code
def yX3_lawsHold : MethodName := ⟨RX3, "lawsHold", "(LFinerSteps$Machine;)Z"⟩
abbrev cX3_settleVariants : ByteArray := prog_5_method_9_code
def yX3_settleVariants : MethodName := ⟨RX3, "settleVariants", "(LFinerSteps$Machine;)V"⟩
abbrev cX3_settleEvent : ByteArray := prog_5_method_10_code
def yX3_settleEvent : MethodName := ⟨RX3, "settleEvent", "(LFinerSteps$Machine;LFinerSteps$Event;)V"⟩
abbrev cX3_stateGiven : ByteArray := prog_5_method_11_code
def yX3_stateGiven : MethodName := ⟨RX3, "stateGiven", "(LFinerSteps$Machine;LFinerSteps$Event;)I"⟩
abbrev cX3_worth : ByteArray := prog_5_method_12_code
def yX3_worth : MethodName := ⟨RX3, "worth", "(I)I"⟩
abbrev cX3_joined : ByteArray := prog_5_method_13_code
def yX3_joined : MethodName := ⟨RX3, "joined", "(III)I"⟩
def RX4 : String := "FinerSteps$Paths"
def TX4 : u_T := fun k => match k with
  | 0 => ("FinerSteps$Paths", "far", "[I", true)
  | 1 => ("FinerSteps$Paths", "queue", "[I", true)
  | _ => ("FinerSteps$Paths", "found", "I", false)
def tyX4 : Nat → FieldType := fun k => match k with
  | 0 => .array .int
  | 1 => .array .int
  | _ => .int
theorem nmX4 : ∀ a, a < 3 → ∀ b, b < 3 → a ≠ b → (TX4 a).2.1 ≠ (TX4 b).2.1 := by decide +kernel
theorem tyX4_ok : ∀ k, k < 3 → parseFieldDescriptor (TX4 k).2.2.1 = some (tyX4 k) := by decide +kernel
abbrev cX4_init : ByteArray := prog_6_method_1_code
def yX4_init : MethodName := ⟨RX4, "<init>", "()V"⟩
abbrev cX4_explore : ByteArray := prog_6_method_2_code
def yX4_explore : MethodName := ⟨RX4, "explore", "(LFinerSteps$Machine;)V"⟩
abbrev cX4_reachFrom : ByteArray := prog_6_method_3_code
def yX4_reachFrom : MethodName := ⟨RX4, "reachFrom", "(LFinerSteps$Event;I)V"⟩
abbrev cX4_reachState : ByteArray := prog_6_method_4_code
def yX4_reachState : MethodName := ⟨RX4, "reachState", "(II)V"⟩
abbrev cX4_firstEnd : ByteArray := prog_6_method_5_code
def yX4_firstEnd : MethodName := ⟨RX4, "firstEnd", "(LFinerSteps$Machine;)I"⟩
abbrev cX4_countUnsound : ByteArray := prog_6_method_6_code
def yX4_countUnsound : MethodName := ⟨RX4, "countUnsound", "(LFinerSteps$Machine;)I"⟩
def RX5 : String := "FinerSteps$Reader"
def TX5 : u_T := fun k => match k with
  | 0 => ("FinerSteps$Reader", "tokens", "LFinerSteps$Tokens;", true)
  | 1 => ("FinerSteps$Reader", "toldNames", "[J", true)
  | 2 => ("FinerSteps$Reader", "faultMet", "I", false)
  | 3 => ("FinerSteps$Reader", "faultAt", "I", false)
  | 4 => ("FinerSteps$Reader", "model", "LFinerSteps$Model;", false)
  | 5 => ("FinerSteps$Reader", "machine", "LFinerSteps$Machine;", false)
  | 6 => ("FinerSteps$Reader", "event", "LFinerSteps$Event;", false)
  | 7 => ("FinerSteps$Reader", "toldCount", "I", false)
  | 8 => ("FinerSteps$Reader", "at", "I", false)
  | 9 => ("FinerSteps$Reader", "atoms", "I", false)
  | 10 => ("FinerSteps$Reader", "inLaw", "Z", false)
  | _ => ("FinerSteps$Reader", "inEvent", "Z", false)
def tyX5 : Nat → FieldType := fun k => match k with
  | 0 => .object "FinerSteps$Tokens"
  | 1 => .array .long
  | 2 => .int
  | 3 => .int
  | 4 => .object "FinerSteps$Model"
  | 5 => .object "FinerSteps$Machine"
  | 6 => .object "FinerSteps$Event"
  | 7 => .int
  | 8 => .int
  | 9 => .int
  | 10 => .boolean
  | _ => .boolean
theorem nmX5 : ∀ a, a < 12 → ∀ b, b < 12 → a ≠ b → (TX5 a).2.1 ≠ (TX5 b).2.1 := by decide +kernel
theorem tyX5_ok : ∀ k, k < 12 → parseFieldDescriptor (TX5 k).2.2.1 = some (tyX5 k) := by decide +kernel
abbrev cX5_init : ByteArray := prog_7_method_1_code
def yX5_init : MethodName := ⟨RX5, "<init>", "()V"⟩
abbrev cX5_start : ByteArray := prog_7_method_2_code
def yX5_start : MethodName := ⟨RX5, "start", "([BILFinerSteps$Model;)V"⟩
abbrev cX5_readLines : ByteArray := prog_7_method_3_code
def yX5_readLines : MethodName := ⟨RX5, "readLines", "()Z"⟩
abbrev cX5_readMachine : ByteArray := prog_7_method_4_code
def yX5_readMachine : MethodName := ⟨RX5, "readMachine", "()Z"⟩
abbrev cX5_readVariable : ByteArray := prog_7_method_5_code
def yX5_readVariable : MethodName := ⟨RX5, "readVariable", "()Z"⟩
abbrev cX5_readBounds : ByteArray := prog_7_method_6_code
def yX5_readBounds : MethodName := ⟨RX5, "readBounds", "(I)Z"⟩
abbrev cX5_readLaw : ByteArray := prog_7_method_7_code
def yX5_readLaw : MethodName := ⟨RX5, "readLaw", "()Z"⟩
abbrev cX5_readVariant : ByteArray := prog_7_method_8_code
def yX5_readVariant : MethodName := ⟨RX5, "readVariant", "()Z"⟩
abbrev cX5_readEvent : ByteArray := prog_7_method_9_code
def yX5_readEvent : MethodName := ⟨RX5, "readEvent", "()Z"⟩
abbrev cX5_readOf : ByteArray := prog_7_method_10_code
def yX5_readOf : MethodName := ⟨RX5, "readOf", "()Z"⟩
abbrev cX5_readPicks : ByteArray := prog_7_method_11_code
def yX5_readPicks : MethodName := ⟨RX5, "readPicks", "()Z"⟩
abbrev cX5_readGivings : ByteArray := prog_7_method_12_code
def yX5_readGivings : MethodName := ⟨RX5, "readGivings", "()Z"⟩
abbrev cX5_readGiving : ByteArray := prog_7_method_13_code
def yX5_readGiving : MethodName := ⟨RX5, "readGiving", "()Z"⟩
abbrev cX5_readTest : ByteArray := prog_7_method_14_code
def yX5_readTest : MethodName := ⟨RX5, "readTest", "(I)Z"⟩
abbrev cX5_readFact : ByteArray := prog_7_method_15_code
def yX5_readFact : MethodName := ⟨RX5, "readFact", "(I)Z"⟩
abbrev cX5_readSum : ByteArray := prog_7_method_16_code
def yX5_readSum : MethodName := ⟨RX5, "readSum", "(I)Z"⟩
abbrev cX5_joinsAtoms : ByteArray := prog_7_method_17_code
def yX5_joinsAtoms : MethodName := ⟨RX5, "joinsAtoms", "(I)Z"⟩
abbrev cX5_readAtom : ByteArray := prog_7_method_18_code
def yX5_readAtom : MethodName := ⟨RX5, "readAtom", "(I)Z"⟩
abbrev cX5_slotOf : ByteArray := prog_7_method_19_code
def yX5_slotOf : MethodName := ⟨RX5, "slotOf", "(J)I"⟩
abbrev cX5_isNewName : ByteArray := prog_7_method_20_code
def yX5_isNewName : MethodName := ⟨RX5, "isNewName", "()Z"⟩
abbrev cX5_isWhole : ByteArray := prog_7_method_21_code
def yX5_isWhole : MethodName := ⟨RX5, "isWhole", "(II)Z"⟩
abbrev cX5_startCode : ByteArray := prog_7_method_22_code
def yX5_startCode : MethodName := ⟨RX5, "startCode", "()I"⟩
abbrev cX5_stopCode : ByteArray := prog_7_method_23_code
def yX5_stopCode : MethodName := ⟨RX5, "stopCode", "()Z"⟩
abbrev cX5_pass : ByteArray := prog_7_method_24_code
def yX5_pass : MethodName := ⟨RX5, "pass", "(I)Z"⟩
abbrev cX5_advance : ByteArray := prog_7_method_25_code
def yX5_advance : MethodName := ⟨RX5, "advance", "()V"⟩
abbrev cX5_kind : ByteArray := prog_7_method_26_code
def yX5_kind : MethodName := ⟨RX5, "kind", "()I"⟩
abbrev cX5_code : ByteArray := prog_7_method_27_code
def yX5_code : MethodName := ⟨RX5, "code", "()J"⟩
abbrev cX5_number : ByteArray := prog_7_method_28_code
def yX5_number : MethodName := ⟨RX5, "number", "()I"⟩
abbrev cX5_fail : ByteArray := prog_7_method_29_code
def yX5_fail : MethodName := ⟨RX5, "fail", "(I)Z"⟩
def RX6 : String := "FinerSteps$Scroll"
def TX6 : u_T := fun k => match k with
  | 0 => ("FinerSteps$Scroll", "bytes", "[B", true)
  | _ => ("FinerSteps$Scroll", "count", "I", false)
def tyX6 : Nat → FieldType := fun k => match k with
  | 0 => .array .byte
  | _ => .int
theorem nmX6 : ∀ a, a < 2 → ∀ b, b < 2 → a ≠ b → (TX6 a).2.1 ≠ (TX6 b).2.1 := by decide +kernel
theorem tyX6_ok : ∀ k, k < 2 → parseFieldDescriptor (TX6 k).2.2.1 = some (tyX6 k) := by decide +kernel
abbrev cX6_init : ByteArray := prog_8_method_1_code
def yX6_init : MethodName := ⟨RX6, "<init>", "()V"⟩
abbrev cX6_clear : ByteArray := prog_8_method_2_code
def yX6_clear : MethodName := ⟨RX6, "clear", "()V"⟩
abbrev cX6_putState : ByteArray := prog_8_method_3_code
def yX6_putState : MethodName := ⟨RX6, "putState", "(LFinerSteps$Machine;I)V"⟩
abbrev cX6_putText : ByteArray := prog_8_method_4_code
def yX6_putText : MethodName := ⟨RX6, "putText", "(Ljava/lang/String;)V"⟩
abbrev cX6_putNumber : ByteArray := prog_8_method_5_code
def yX6_putNumber : MethodName := ⟨RX6, "putNumber", "(I)V"⟩
abbrev cX6_put : ByteArray := prog_8_method_6_code
def yX6_put : MethodName := ⟨RX6, "put", "(C)V"⟩
def RX7 : String := "FinerSteps$StateSet"
def TX7 : u_T := fun k => match k with
  | 0 => ("FinerSteps$StateSet", "low", "J", false)
  | _ => ("FinerSteps$StateSet", "high", "J", false)
def tyX7 : Nat → FieldType := fun k => match k with
  | 0 => .long
  | _ => .long
theorem nmX7 : ∀ a, a < 2 → ∀ b, b < 2 → a ≠ b → (TX7 a).2.1 ≠ (TX7 b).2.1 := by decide +kernel
theorem tyX7_ok : ∀ k, k < 2 → parseFieldDescriptor (TX7 k).2.2.1 = some (tyX7 k) := by decide +kernel
abbrev cX7_init : ByteArray := prog_9_method_1_code
def yX7_init : MethodName := ⟨RX7, "<init>", "()V"⟩
abbrev cX7_clear : ByteArray := prog_9_method_2_code
def yX7_clear : MethodName := ⟨RX7, "clear", "()V"⟩
abbrev cX7_put : ByteArray := prog_9_method_3_code
def yX7_put : MethodName := ⟨RX7, "put", "(I)V"⟩
abbrev cX7_has : ByteArray := prog_9_method_4_code
def yX7_has : MethodName := ⟨RX7, "has", "(I)Z"⟩
abbrev cX7_count : ByteArray := prog_9_method_5_code
def yX7_count : MethodName := ⟨RX7, "count", "()I"⟩
abbrev cX7_meets : ByteArray := prog_9_method_6_code
def yX7_meets : MethodName := ⟨RX7, "meets", "(LFinerSteps$StateSet;)Z"⟩
abbrev cX7_copy : ByteArray := prog_9_method_7_code
def yX7_copy : MethodName := ⟨RX7, "copy", "(LFinerSteps$StateSet;)V"⟩
abbrev cX7_keepOnly : ByteArray := prog_9_method_8_code
def yX7_keepOnly : MethodName := ⟨RX7, "keepOnly", "(LFinerSteps$StateSet;)V"⟩
abbrev cX7_member : ByteArray := prog_9_method_9_code
def yX7_member : MethodName := ⟨RX7, "member", "(I)I"⟩
def RX8 : String := "FinerSteps$Tokens"
def TX8 : u_T := fun k => match k with
  | 0 => ("FinerSteps$Tokens", "kinds", "[I", true)
  | 1 => ("FinerSteps$Tokens", "places", "[I", true)
  | 2 => ("FinerSteps$Tokens", "codes", "[J", true)
  | 3 => ("FinerSteps$Tokens", "reserved", "[J", true)
  | 4 => ("FinerSteps$Tokens", "count", "I", false)
  | _ => ("FinerSteps$Tokens", "length", "I", false)
def tyX8 : Nat → FieldType := fun k => match k with
  | 0 => .array .int
  | 1 => .array .int
  | 2 => .array .long
  | 3 => .array .long
  | 4 => .int
  | _ => .int
theorem nmX8 : ∀ a, a < 6 → ∀ b, b < 6 → a ≠ b → (TX8 a).2.1 ≠ (TX8 b).2.1 := by decide +kernel
theorem tyX8_ok : ∀ k, k < 6 → parseFieldDescriptor (TX8 k).2.2.1 = some (tyX8 k) := by decide +kernel
abbrev cX8_init : ByteArray := prog_10_method_1_code
def yX8_init : MethodName := ⟨RX8, "<init>", "()V"⟩
abbrev cX8_cut : ByteArray := prog_10_method_2_code
def yX8_cut : MethodName := ⟨RX8, "cut", "([BI)V"⟩
abbrev cX8_familyOf : ByteArray := prog_10_method_3_code
def yX8_familyOf : MethodName := ⟨RX8, "familyOf", "(I)I"⟩
abbrev cX8_startToken : ByteArray := prog_10_method_4_code
def yX8_startToken : MethodName := ⟨RX8, "startToken", "(III)V"⟩
abbrev cX8_lengthen : ByteArray := prog_10_method_5_code
def yX8_lengthen : MethodName := ⟨RX8, "lengthen", "(II)V"⟩
abbrev cX8_kindOfWord : ByteArray := prog_10_method_6_code
def yX8_kindOfWord : MethodName := ⟨RX8, "kindOfWord", "(J)I"⟩
def RX9 : String := "FinerSteps$Verdict"
def TX9 : u_T := fun k => match k with
  | 0 => ("FinerSteps$Verdict", "known", "Z", false)
  | 1 => ("FinerSteps$Verdict", "failing", "I", false)
  | 2 => ("FinerSteps$Verdict", "ahead", "I", false)
  | 3 => ("FinerSteps$Verdict", "state", "I", false)
  | _ => ("FinerSteps$Verdict", "pick", "I", false)
def tyX9 : Nat → FieldType := fun k => match k with
  | 0 => .boolean
  | 1 => .int
  | 2 => .int
  | 3 => .int
  | _ => .int
theorem nmX9 : ∀ a, a < 5 → ∀ b, b < 5 → a ≠ b → (TX9 a).2.1 ≠ (TX9 b).2.1 := by decide +kernel
theorem tyX9_ok : ∀ k, k < 5 → parseFieldDescriptor (TX9 k).2.2.1 = some (tyX9 k) := by decide +kernel
abbrev cX9_init : ByteArray := prog_11_method_1_code
def yX9_init : MethodName := ⟨RX9, "<init>", "()V"⟩
abbrev cX9_clear : ByteArray := prog_11_method_2_code
def yX9_clear : MethodName := ⟨RX9, "clear", "()V"⟩
abbrev cX9_note : ByteArray := prog_11_method_3_code
def yX9_note : MethodName := ⟨RX9, "note", "(III)V"⟩
def RX10 : String := "FinerSteps$Walk"
def TX10 : u_T := fun k => match k with
  | 0 => ("FinerSteps$Walk", "near", "LFinerSteps$StateSet;", true)
  | 1 => ("FinerSteps$Walk", "image", "LFinerSteps$StateSet;", true)
  | 2 => ("FinerSteps$Walk", "number", "I", false)
  | 3 => ("FinerSteps$Walk", "state", "I", false)
  | _ => ("FinerSteps$Walk", "made", "I", false)
def tyX10 : Nat → FieldType := fun k => match k with
  | 0 => .object "FinerSteps$StateSet"
  | 1 => .object "FinerSteps$StateSet"
  | 2 => .int
  | 3 => .int
  | _ => .int
theorem nmX10 : ∀ a, a < 5 → ∀ b, b < 5 → a ≠ b → (TX10 a).2.1 ≠ (TX10 b).2.1 := by decide +kernel
theorem tyX10_ok : ∀ k, k < 5 → parseFieldDescriptor (TX10 k).2.2.1 = some (tyX10 k) := by decide +kernel
abbrev cX10_init : ByteArray := prog_12_method_1_code
def yX10_init : MethodName := ⟨RX10, "<init>", "()V"⟩
abbrev cX10_end : ByteArray := prog_12_method_2_code
def yX10_end : MethodName := ⟨RX10, "end", "()V"⟩
abbrev cX10_begin : ByteArray := prog_12_method_3_code
def yX10_begin : MethodName := ⟨RX10, "begin", "(LFinerSteps$Model;I)V"⟩
abbrev cX10_move : ByteArray := prog_12_method_4_code
def yX10_move : MethodName := ⟨RX10, "move", "(LFinerSteps$Model;II)V"⟩
abbrev cX10_wander : ByteArray := prog_12_method_5_code
def yX10_wander : MethodName := ⟨RX10, "wander", "(LFinerSteps$Model;II)I"⟩
abbrev cX10_countChoices : ByteArray := prog_12_method_6_code
def yX10_countChoices : MethodName := ⟨RX10, "countChoices", "(LFinerSteps$Machine;)I"⟩
abbrev cX10_take : ByteArray := prog_12_method_7_code
def yX10_take : MethodName := ⟨RX10, "take", "(LFinerSteps$Model;I)V"⟩
def RX11 : String := "FinerSteps"
def TX11 : u_T := fun k => match k with
  | 0 => ("FinerSteps", "tape", "[B", true)
  | 1 => ("FinerSteps", "reader", "LFinerSteps$Reader;", true)
  | 2 => ("FinerSteps", "judge", "LFinerSteps$Judge;", true)
  | 3 => ("FinerSteps", "walk", "LFinerSteps$Walk;", true)
  | 4 => ("FinerSteps", "paths", "LFinerSteps$Paths;", true)
  | 5 => ("FinerSteps", "scroll", "LFinerSteps$Scroll;", true)
  | 6 => ("FinerSteps", "shownCase", "[I", true)
  | 7 => ("FinerSteps", "model", "LFinerSteps$Model;", false)
  | 8 => ("FinerSteps", "draft", "LFinerSteps$Model;", false)
  | 9 => ("FinerSteps", "tapeSize", "I", false)
  | 10 => ("FinerSteps", "shownMachine", "I", false)
  | 11 => ("FinerSteps", "lastTrouble", "I", false)
  | 12 => ("FinerSteps", "lastFault", "I", false)
  | _ => ("FinerSteps", "faultPlace", "I", false)
def tyX11 : Nat → FieldType := fun k => match k with
  | 0 => .array .byte
  | 1 => .object "FinerSteps$Reader"
  | 2 => .object "FinerSteps$Judge"
  | 3 => .object "FinerSteps$Walk"
  | 4 => .object "FinerSteps$Paths"
  | 5 => .object "FinerSteps$Scroll"
  | 6 => .array .int
  | 7 => .object "FinerSteps$Model"
  | 8 => .object "FinerSteps$Model"
  | 9 => .int
  | 10 => .int
  | 11 => .int
  | 12 => .int
  | _ => .int
theorem nmX11 : ∀ a, a < 14 → ∀ b, b < 14 → a ≠ b → (TX11 a).2.1 ≠ (TX11 b).2.1 := by decide +kernel
theorem tyX11_ok : ∀ k, k < 14 → parseFieldDescriptor (TX11 k).2.2.1 = some (tyX11 k) := by decide +kernel
abbrev cX11_init : ByteArray := prog_1_method_1_code
def yX11_init : MethodName := ⟨RX11, "<init>", "()V"⟩
abbrev cX11_feed : ByteArray := prog_1_method_2_code
def yX11_feed : MethodName := ⟨RX11, "feed", "(IIIII)I"⟩
abbrev cX11_machines : ByteArray := prog_1_method_3_code
def yX11_machines : MethodName := ⟨RX11, "machines", "(I)I"⟩
abbrev cX11_fault : ByteArray := prog_1_method_4_code
def yX11_fault : MethodName := ⟨RX11, "fault", "()I"⟩
abbrev cX11_where : ByteArray := prog_1_method_5_code
def yX11_where : MethodName := ⟨RX11, "where", "()I"⟩
abbrev cX11_machine : ByteArray := prog_1_method_6_code
def yX11_machine : MethodName := ⟨RX11, "machine", "(II)I"⟩
abbrev cX11_variable : ByteArray := prog_1_method_7_code
def yX11_variable : MethodName := ⟨RX11, "variable", "(III)I"⟩
abbrev cX11_event : ByteArray := prog_1_method_8_code
def yX11_event : MethodName := ⟨RX11, "event", "(III)I"⟩
abbrev cX11_value : ByteArray := prog_1_method_9_code
def yX11_value : MethodName := ⟨RX11, "value", "(III)I"⟩
abbrev cX11_sound : ByteArray := prog_1_method_10_code
def yX11_sound : MethodName := ⟨RX11, "sound", "(II)I"⟩
abbrev cX11_glued : ByteArray := prog_1_method_11_code
def yX11_glued : MethodName := ⟨RX11, "glued", "(III)I"⟩
abbrev cX11_beneath : ByteArray := prog_1_method_12_code
def yX11_beneath : MethodName := ⟨RX11, "beneath", "(III)I"⟩
abbrev cX11_can : ByteArray := prog_1_method_13_code
def yX11_can : MethodName := ⟨RX11, "can", "(IIII)I"⟩
abbrev cX11_gives : ByteArray := prog_1_method_14_code
def yX11_gives : MethodName := ⟨RX11, "gives", "(IIII)I"⟩
abbrev cX11_variant : ByteArray := prog_1_method_15_code
def yX11_variant : MethodName := ⟨RX11, "variant", "(II)I"⟩
abbrev cX11_duty : ByteArray := prog_1_method_16_code
def yX11_duty : MethodName := ⟨RX11, "duty", "(III)I"⟩
abbrev cX11_shown : ByteArray := prog_1_method_17_code
def yX11_shown : MethodName := ⟨RX11, "shown", "(I)I"⟩
abbrev cX11_open : ByteArray := prog_1_method_18_code
def yX11_open : MethodName := ⟨RX11, "open", "(I)I"⟩
abbrev cX11_cases : ByteArray := prog_1_method_19_code
def yX11_cases : MethodName := ⟨RX11, "cases", "(III)I"⟩
abbrev cX11_write : ByteArray := prog_1_method_20_code
def yX11_write : MethodName := ⟨RX11, "write", "()I"⟩
abbrev cX11_octet : ByteArray := prog_1_method_21_code
def yX11_octet : MethodName := ⟨RX11, "octet", "(I)I"⟩
abbrev cX11_run : ByteArray := prog_1_method_22_code
def yX11_run : MethodName := ⟨RX11, "run", "(I)I"⟩
abbrev cX11_step : ByteArray := prog_1_method_23_code
def yX11_step : MethodName := ⟨RX11, "step", "(II)I"⟩
abbrev cX11_now : ByteArray := prog_1_method_24_code
def yX11_now : MethodName := ⟨RX11, "now", "(I)I"⟩
abbrev cX11_beside : ByteArray := prog_1_method_25_code
def yX11_beside : MethodName := ⟨RX11, "beside", "(I)I"⟩
abbrev cX11_draws : ByteArray := prog_1_method_26_code
def yX11_draws : MethodName := ⟨RX11, "draws", "(II)I"⟩
abbrev cX11_reach : ByteArray := prog_1_method_27_code
def yX11_reach : MethodName := ⟨RX11, "reach", "(I)I"⟩
abbrev cX11_steps : ByteArray := prog_1_method_28_code
def yX11_steps : MethodName := ⟨RX11, "steps", "(II)I"⟩
abbrev cX11_stuck : ByteArray := prog_1_method_29_code
def yX11_stuck : MethodName := ⟨RX11, "stuck", "(I)I"⟩
abbrev cX11_unsound : ByteArray := prog_1_method_30_code
def yX11_unsound : MethodName := ⟨RX11, "unsound", "(I)I"⟩
abbrev cX11_aside : ByteArray := prog_1_method_31_code
def yX11_aside : MethodName := ⟨RX11, "aside", "(IIZ)I"⟩
abbrev cX11_letter : ByteArray := prog_1_method_32_code
def yX11_letter : MethodName := ⟨RX11, "letter", "(III)I"⟩
abbrev cX11_size : ByteArray := prog_1_method_33_code
def yX11_size : MethodName := ⟨RX11, "size", "()I"⟩
abbrev cX11_trouble : ByteArray := prog_1_method_34_code
def yX11_trouble : MethodName := ⟨RX11, "trouble", "()I"⟩
abbrev cX11_putBytes : ByteArray := prog_1_method_35_code
def yX11_putBytes : MethodName := ⟨RX11, "putBytes", "(I)V"⟩
abbrev cX11_refuse : ByteArray := prog_1_method_36_code
def yX11_refuse : MethodName := ⟨RX11, "refuse", "(I)I"⟩
abbrev cX11_answer : ByteArray := prog_1_method_37_code
def yX11_answer : MethodName := ⟨RX11, "answer", "(I)I"⟩
abbrev cX11_isMachine : ByteArray := prog_1_method_38_code
def yX11_isMachine : MethodName := ⟨RX11, "isMachine", "(I)Z"⟩
abbrev cX11_isVariable : ByteArray := prog_1_method_39_code
def yX11_isVariable : MethodName := ⟨RX11, "isVariable", "(II)Z"⟩
abbrev cX11_isEvent : ByteArray := prog_1_method_40_code
def yX11_isEvent : MethodName := ⟨RX11, "isEvent", "(II)Z"⟩
abbrev cX11_isState : ByteArray := prog_1_method_41_code
def yX11_isState : MethodName := ⟨RX11, "isState", "(II)Z"⟩
abbrev cX11_isDuty : ByteArray := prog_1_method_42_code
def yX11_isDuty : MethodName := ⟨RX11, "isDuty", "(III)Z"⟩
abbrev cX11_lengthOf : ByteArray := prog_1_method_43_code
def yX11_lengthOf : MethodName := ⟨RX11, "lengthOf", "(J)I"⟩
abbrev cX11_letterOf : ByteArray := prog_1_method_44_code
def yX11_letterOf : MethodName := ⟨RX11, "letterOf", "(JI)I"⟩
def RX12 : String := "FinerStepsModel"
def TX12 : u_T := fun k => match k with
  | 0 => ("FinerStepsModel", "thrown", "I", false)
  | 1 => ("FinerStepsModel", "trouble", "I", false)
  | 2 => ("FinerStepsModel", "wrongAt", "I", false)
  | 3 => ("FinerStepsModel", "tape", "[I", true)
  | 4 => ("FinerStepsModel", "taped", "I", false)
  | 5 => ("FinerStepsModel", "size", "I", false)
  | 6 => ("FinerStepsModel", "spot", "I", false)
  | 7 => ("FinerStepsModel", "fault", "I", false)
  | 8 => ("FinerStepsModel", "faultAt", "I", false)
  | 9 => ("FinerStepsModel", "token", "I", false)
  | 10 => ("FinerStepsModel", "at", "I", false)
  | 11 => ("FinerStepsModel", "sign", "I", false)
  | 12 => ("FinerStepsModel", "number", "I", false)
  | 13 => ("FinerStepsModel", "word", "J", false)
  | 14 => ("FinerStepsModel", "machineName", "[J", true)
  | 15 => ("FinerStepsModel", "varName", "[J", true)
  | 16 => ("FinerStepsModel", "eventName", "[J", true)
  | 17 => ("FinerStepsModel", "varMany", "[I", true)
  | 18 => ("FinerStepsModel", "lawMany", "[I", true)
  | 19 => ("FinerStepsModel", "eventMany", "[I", true)
  | 20 => ("FinerStepsModel", "sizes", "[I", true)
  | 21 => ("FinerStepsModel", "variantFrom", "[I", true)
  | 22 => ("FinerStepsModel", "variantTo", "[I", true)
  | 23 => ("FinerStepsModel", "varLow", "[I", true)
  | 24 => ("FinerStepsModel", "varHigh", "[I", true)
  | 25 => ("FinerStepsModel", "varAt", "[I", true)
  | 26 => ("FinerStepsModel", "lawFrom", "[I", true)
  | 27 => ("FinerStepsModel", "lawTo", "[I", true)
  | 28 => ("FinerStepsModel", "eventOf", "[I", true)
  | 29 => ("FinerStepsModel", "firstPick", "[I", true)
  | 30 => ("FinerStepsModel", "lastPick", "[I", true)
  | 31 => ("FinerStepsModel", "guardFrom", "[I", true)
  | 32 => ("FinerStepsModel", "guardTo", "[I", true)
  | 33 => ("FinerStepsModel", "givenBits", "[I", true)
  | 34 => ("FinerStepsModel", "sumFrom", "[I", true)
  | 35 => ("FinerStepsModel", "sumTo", "[I", true)
  | 36 => ("FinerStepsModel", "isAside", "[Z", true)
  | 37 => ("FinerStepsModel", "machineMany", "I", false)
  | 38 => ("FinerStepsModel", "readMany", "I", false)
  | 39 => ("FinerStepsModel", "what", "[I", true)
  | 40 => ("FinerStepsModel", "which", "[I", true)
  | 41 => ("FinerStepsModel", "steps", "I", false)
  | 42 => ("FinerStepsModel", "atoms", "I", false)
  | 43 => ("FinerStepsModel", "open", "I", false)
  | 44 => ("FinerStepsModel", "mayAhead", "Z", false)
  | 45 => ("FinerStepsModel", "mayPick", "Z", false)
  | 46 => ("FinerStepsModel", "pile", "[I", true)
  | 47 => ("FinerStepsModel", "isSound", "[Z", true)
  | 48 => ("FinerStepsModel", "isGlued", "[Z", true)
  | 49 => ("FinerStepsModel", "shownOf", "I", false)
  | 50 => ("FinerStepsModel", "shownA", "I", false)
  | 51 => ("FinerStepsModel", "shownS", "I", false)
  | 52 => ("FinerStepsModel", "shownPick", "I", false)
  | 53 => ("FinerStepsModel", "isShown", "Z", false)
  | 54 => ("FinerStepsModel", "ink", "[I", true)
  | 55 => ("FinerStepsModel", "inked", "I", false)
  | 56 => ("FinerStepsModel", "runOf", "I", false)
  | 57 => ("FinerStepsModel", "runState", "I", false)
  | 58 => ("FinerStepsModel", "runMany", "I", false)
  | 59 => ("FinerStepsModel", "isBeside", "[Z", true)
  | 60 => ("FinerStepsModel", "wasBeside", "[Z", true)
  | 61 => ("FinerStepsModel", "seed", "J", false)
  | 62 => ("FinerStepsModel", "far", "[I", true)
  | 63 => ("FinerStepsModel", "queue", "[I", true)
  | _ => ("FinerStepsModel", "met", "I", false)
def tyX12 : Nat → FieldType := fun k => match k with
  | 0 => .int
  | 1 => .int
  | 2 => .int
  | 3 => .array .int
  | 4 => .int
  | 5 => .int
  | 6 => .int
  | 7 => .int
  | 8 => .int
  | 9 => .int
  | 10 => .int
  | 11 => .int
  | 12 => .int
  | 13 => .long
  | 14 => .array .long
  | 15 => .array .long
  | 16 => .array .long
  | 17 => .array .int
  | 18 => .array .int
  | 19 => .array .int
  | 20 => .array .int
  | 21 => .array .int
  | 22 => .array .int
  | 23 => .array .int
  | 24 => .array .int
  | 25 => .array .int
  | 26 => .array .int
  | 27 => .array .int
  | 28 => .array .int
  | 29 => .array .int
  | 30 => .array .int
  | 31 => .array .int
  | 32 => .array .int
  | 33 => .array .int
  | 34 => .array .int
  | 35 => .array .int
  | 36 => .array .boolean
  | 37 => .int
  | 38 => .int
  | 39 => .array .int
  | 40 => .array .int
  | 41 => .int
  | 42 => .int
  | 43 => .int
  | 44 => .boolean
  | 45 => .boolean
  | 46 => .array .int
  | 47 => .array .boolean
  | 48 => .array .boolean
  | 49 => .int
  | 50 => .int
  | 51 => .int
  | 52 => .int
  | 53 => .boolean
  | 54 => .array .int
  | 55 => .int
  | 56 => .int
  | 57 => .int
  | 58 => .int
  | 59 => .array .boolean
  | 60 => .array .boolean
  | 61 => .long
  | 62 => .array .int
  | 63 => .array .int
  | _ => .int
theorem nmX12 : ∀ a, a < 65 → ∀ b, b < 65 → a ≠ b → (TX12 a).2.1 ≠ (TX12 b).2.1 := by decide +kernel
theorem tyX12_ok : ∀ k, k < 65 → parseFieldDescriptor (TX12 k).2.2.1 = some (tyX12 k) := by decide +kernel
abbrev cX12_init : ByteArray := prog_14_method_1_code
def yX12_init : MethodName := ⟨RX12, "<init>", "()V"⟩
abbrev cX12_thrown : ByteArray := prog_14_method_2_code
def yX12_thrown : MethodName := ⟨RX12, "thrown", "()I"⟩
abbrev cX12_refused : ByteArray := prog_14_method_3_code
def yX12_refused : MethodName := ⟨RX12, "refused", "(I)I"⟩
abbrev cX12_good : ByteArray := prog_14_method_4_code
def yX12_good : MethodName := ⟨RX12, "good", "(I)I"⟩
abbrev cX12_in : ByteArray := prog_14_method_5_code
def yX12_in : MethodName := ⟨RX12, "in", "(III)Z"⟩
abbrev cX12_feed : ByteArray := prog_14_method_6_code
def yX12_feed : MethodName := ⟨RX12, "feed", "(IIIII)I"⟩
abbrev cX12_flaw : ByteArray := prog_14_method_7_code
def yX12_flaw : MethodName := ⟨RX12, "flaw", "(I)V"⟩
abbrev cX12_isLetterAt : ByteArray := prog_14_method_8_code
def yX12_isLetterAt : MethodName := ⟨RX12, "isLetterAt", "(I)Z"⟩
abbrev cX12_isDigitAt : ByteArray := prog_14_method_9_code
def yX12_isDigitAt : MethodName := ⟨RX12, "isDigitAt", "(I)Z"⟩
abbrev cX12_isSignOf : ByteArray := prog_14_method_10_code
def yX12_isSignOf : MethodName := ⟨RX12, "isSignOf", "(I)Z"⟩
abbrev cX12_goOn : ByteArray := prog_14_method_11_code
def yX12_goOn : MethodName := ⟨RX12, "goOn", "()V"⟩
abbrev cX12_wordOf : ByteArray := prog_14_method_12_code
def yX12_wordOf : MethodName := ⟨RX12, "wordOf", "(Ljava/lang/String;)J"⟩
abbrev cX12_isWord : ByteArray := prog_14_method_13_code
def yX12_isWord : MethodName := ⟨RX12, "isWord", "(Ljava/lang/String;)Z"⟩
abbrev cX12_isSign : ByteArray := prog_14_method_14_code
def yX12_isSign : MethodName := ⟨RX12, "isSign", "(I)Z"⟩
abbrev cX12_needs : ByteArray := prog_14_method_15_code
def yX12_needs : MethodName := ⟨RX12, "needs", "(Ljava/lang/String;)V"⟩
abbrev cX12_needsSign : ByteArray := prog_14_method_16_code
def yX12_needsSign : MethodName := ⟨RX12, "needsSign", "(I)V"⟩
abbrev cX12_passes : ByteArray := prog_14_method_17_code
def yX12_passes : MethodName := ⟨RX12, "passes", "(Ljava/lang/String;)Z"⟩
abbrev cX12_passesSign : ByteArray := prog_14_method_18_code
def yX12_passesSign : MethodName := ⟨RX12, "passesSign", "(I)Z"⟩
abbrev cX12_readWhole : ByteArray := prog_14_method_19_code
def yX12_readWhole : MethodName := ⟨RX12, "readWhole", "(II)I"⟩
abbrev cX12_isOwn : ByteArray := prog_14_method_20_code
def yX12_isOwn : MethodName := ⟨RX12, "isOwn", "()Z"⟩
abbrev cX12_isName : ByteArray := prog_14_method_21_code
def yX12_isName : MethodName := ⟨RX12, "isName", "()Z"⟩
abbrev cX12_fault : ByteArray := prog_14_method_22_code
def yX12_fault : MethodName := ⟨RX12, "fault", "()I"⟩
abbrev cX12_where : ByteArray := prog_14_method_23_code
def yX12_where : MethodName := ⟨RX12, "where", "()I"⟩
abbrev cX12_emits : ByteArray := prog_14_method_24_code
def yX12_emits : MethodName := ⟨RX12, "emits", "(II)V"⟩
abbrev cX12_opens : ByteArray := prog_14_method_25_code
def yX12_opens : MethodName := ⟨RX12, "opens", "()V"⟩
abbrev cX12_varOf : ByteArray := prog_14_method_26_code
def yX12_varOf : MethodName := ⟨RX12, "varOf", "(IJ)I"⟩
abbrev cX12_readAtom : ByteArray := prog_14_method_27_code
def yX12_readAtom : MethodName := ⟨RX12, "readAtom", "()V"⟩
abbrev cX12_readTerm : ByteArray := prog_14_method_28_code
def yX12_readTerm : MethodName := ⟨RX12, "readTerm", "()V"⟩
abbrev cX12_readSum : ByteArray := prog_14_method_29_code
def yX12_readSum : MethodName := ⟨RX12, "readSum", "()V"⟩
abbrev cX12_readFact : ByteArray := prog_14_method_30_code
def yX12_readFact : MethodName := ⟨RX12, "readFact", "()V"⟩
abbrev cX12_readBoth : ByteArray := prog_14_method_31_code
def yX12_readBoth : MethodName := ⟨RX12, "readBoth", "()V"⟩
abbrev cX12_readTest : ByteArray := prog_14_method_32_code
def yX12_readTest : MethodName := ⟨RX12, "readTest", "()V"⟩
abbrev cX12_begins : ByteArray := prog_14_method_33_code
def yX12_begins : MethodName := ⟨RX12, "begins", "(ZZ)V"⟩
abbrev cX12_isTold : ByteArray := prog_14_method_34_code
def yX12_isTold : MethodName := ⟨RX12, "isTold", "(J)Z"⟩
abbrev cX12_eventIn : ByteArray := prog_14_method_35_code
def yX12_eventIn : MethodName := ⟨RX12, "eventIn", "(IJ)I"⟩
abbrev cX12_readNew : ByteArray := prog_14_method_36_code
def yX12_readNew : MethodName := ⟨RX12, "readNew", "()J"⟩
abbrev cX12_readMachine : ByteArray := prog_14_method_37_code
def yX12_readMachine : MethodName := ⟨RX12, "readMachine", "()V"⟩
abbrev cX12_readVar : ByteArray := prog_14_method_38_code
def yX12_readVar : MethodName := ⟨RX12, "readVar", "(I)V"⟩
abbrev cX12_readLaw : ByteArray := prog_14_method_39_code
def yX12_readLaw : MethodName := ⟨RX12, "readLaw", "(I)V"⟩
abbrev cX12_readVariant : ByteArray := prog_14_method_40_code
def yX12_readVariant : MethodName := ⟨RX12, "readVariant", "(I)V"⟩
abbrev cX12_readOf : ByteArray := prog_14_method_41_code
def yX12_readOf : MethodName := ⟨RX12, "readOf", "(I)I"⟩
abbrev cX12_readEvent : ByteArray := prog_14_method_42_code
def yX12_readEvent : MethodName := ⟨RX12, "readEvent", "(I)V"⟩
abbrev cX12_readGiven : ByteArray := prog_14_method_43_code
def yX12_readGiven : MethodName := ⟨RX12, "readGiven", "(II)V"⟩
abbrev cX12_readLine : ByteArray := prog_14_method_44_code
def yX12_readLine : MethodName := ⟨RX12, "readLine", "()V"⟩
abbrev cX12_readAll : ByteArray := prog_14_method_45_code
def yX12_readAll : MethodName := ⟨RX12, "readAll", "()V"⟩
abbrev cX12_holds : ByteArray := prog_14_method_46_code
def yX12_holds : MethodName := ⟨RX12, "holds", "()V"⟩
abbrev cX12_machines : ByteArray := prog_14_method_47_code
def yX12_machines : MethodName := ⟨RX12, "machines", "(I)I"⟩
abbrev cX12_valueOf : ByteArray := prog_14_method_48_code
def yX12_valueOf : MethodName := ⟨RX12, "valueOf", "(III)I"⟩
abbrev cX12_told : ByteArray := prog_14_method_49_code
def yX12_told : MethodName := ⟨RX12, "told", "(IIIIII)I"⟩
abbrev cX12_joined : ByteArray := prog_14_method_50_code
def yX12_joined : MethodName := ⟨RX12, "joined", "(III)I"⟩
abbrev cX12_holdsAll : ByteArray := prog_14_method_51_code
def yX12_holdsAll : MethodName := ⟨RX12, "holdsAll", "(III)Z"⟩
abbrev cX12_pair : ByteArray := prog_14_method_52_code
def yX12_pair : MethodName := ⟨RX12, "pair", "(III)I"⟩
abbrev cX12_glues : ByteArray := prog_14_method_53_code
def yX12_glues : MethodName := ⟨RX12, "glues", "(I)V"⟩
abbrev cX12_beginOf : ByteArray := prog_14_method_54_code
def yX12_beginOf : MethodName := ⟨RX12, "beginOf", "(I)I"⟩
abbrev cX12_canBe : ByteArray := prog_14_method_55_code
def yX12_canBe : MethodName := ⟨RX12, "canBe", "(IIII)Z"⟩
abbrev cX12_canBeAny : ByteArray := prog_14_method_56_code
def yX12_canBeAny : MethodName := ⟨RX12, "canBeAny", "(III)Z"⟩
abbrev cX12_givenBy : ByteArray := prog_14_method_57_code
def yX12_givenBy : MethodName := ⟨RX12, "givenBy", "(IIII)I"⟩
abbrev cX12_isMachine : ByteArray := prog_14_method_58_code
def yX12_isMachine : MethodName := ⟨RX12, "isMachine", "(I)Z"⟩
abbrev cX12_isState : ByteArray := prog_14_method_59_code
def yX12_isState : MethodName := ⟨RX12, "isState", "(II)Z"⟩
abbrev cX12_isVar : ByteArray := prog_14_method_60_code
def yX12_isVar : MethodName := ⟨RX12, "isVar", "(II)Z"⟩
abbrev cX12_isEvent : ByteArray := prog_14_method_61_code
def yX12_isEvent : MethodName := ⟨RX12, "isEvent", "(II)Z"⟩
abbrev cX12_isPick : ByteArray := prog_14_method_62_code
def yX12_isPick : MethodName := ⟨RX12, "isPick", "(III)Z"⟩
abbrev cX12_pairs : ByteArray := prog_14_method_63_code
def yX12_pairs : MethodName := ⟨RX12, "pairs", "(I)I"⟩
abbrev cX12_machine : ByteArray := prog_14_method_64_code
def yX12_machine : MethodName := ⟨RX12, "machine", "(II)I"⟩
abbrev cX12_variable : ByteArray := prog_14_method_65_code
def yX12_variable : MethodName := ⟨RX12, "variable", "(III)I"⟩
abbrev cX12_event : ByteArray := prog_14_method_66_code
def yX12_event : MethodName := ⟨RX12, "event", "(III)I"⟩
abbrev cX12_value : ByteArray := prog_14_method_67_code
def yX12_value : MethodName := ⟨RX12, "value", "(III)I"⟩
abbrev cX12_sound : ByteArray := prog_14_method_68_code
def yX12_sound : MethodName := ⟨RX12, "sound", "(II)I"⟩
abbrev cX12_glued : ByteArray := prog_14_method_69_code
def yX12_glued : MethodName := ⟨RX12, "glued", "(III)I"⟩
abbrev cX12_beneath : ByteArray := prog_14_method_70_code
def yX12_beneath : MethodName := ⟨RX12, "beneath", "(III)I"⟩
abbrev cX12_can : ByteArray := prog_14_method_71_code
def yX12_can : MethodName := ⟨RX12, "can", "(IIII)I"⟩
abbrev cX12_gives : ByteArray := prog_14_method_72_code
def yX12_gives : MethodName := ⟨RX12, "gives", "(IIII)I"⟩
abbrev cX12_variantOf : ByteArray := prog_14_method_73_code
def yX12_variantOf : MethodName := ⟨RX12, "variantOf", "(II)I"⟩
abbrev cX12_variant : ByteArray := prog_14_method_74_code
def yX12_variant : MethodName := ⟨RX12, "variant", "(II)I"⟩
abbrev cX12_isAnswered : ByteArray := prog_14_method_75_code
def yX12_isAnswered : MethodName := ⟨RX12, "isAnswered", "(IIII)Z"⟩
abbrev cX12_fails : ByteArray := prog_14_method_76_code
def yX12_fails : MethodName := ⟨RX12, "fails", "(IIIIII)Z"⟩
abbrev cX12_failing : ByteArray := prog_14_method_77_code
def yX12_failing : MethodName := ⟨RX12, "failing", "(IIIZ)I"⟩
abbrev cX12_shows : ByteArray := prog_14_method_78_code
def yX12_shows : MethodName := ⟨RX12, "shows", "(IIII)V"⟩
abbrev cX12_canGoOn : ByteArray := prog_14_method_79_code
def yX12_canGoOn : MethodName := ⟨RX12, "canGoOn", "(II)Z"⟩
abbrev cX12_begins_ : ByteArray := prog_14_method_80_code
def yX12_begins_ : MethodName := ⟨RX12, "begins", "(IZ)Z"⟩
abbrev cX12_goesOn : ByteArray := prog_14_method_81_code
def yX12_goesOn : MethodName := ⟨RX12, "goesOn", "(IZ)Z"⟩
abbrev cX12_duty : ByteArray := prog_14_method_82_code
def yX12_duty : MethodName := ⟨RX12, "duty", "(III)I"⟩
abbrev cX12_shown : ByteArray := prog_14_method_83_code
def yX12_shown : MethodName := ⟨RX12, "shown", "(I)I"⟩
abbrev cX12_open : ByteArray := prog_14_method_84_code
def yX12_open : MethodName := ⟨RX12, "open", "(I)I"⟩
abbrev cX12_cases : ByteArray := prog_14_method_85_code
def yX12_cases : MethodName := ⟨RX12, "cases", "(III)I"⟩
abbrev cX12_inks : ByteArray := prog_14_method_86_code
def yX12_inks : MethodName := ⟨RX12, "inks", "(I)V"⟩
abbrev cX12_letterOf : ByteArray := prog_14_method_87_code
def yX12_letterOf : MethodName := ⟨RX12, "letterOf", "(JI)I"⟩
abbrev cX12_inksNumber : ByteArray := prog_14_method_88_code
def yX12_inksNumber : MethodName := ⟨RX12, "inksNumber", "(I)V"⟩
abbrev cX12_inksState : ByteArray := prog_14_method_89_code
def yX12_inksState : MethodName := ⟨RX12, "inksState", "(II)V"⟩
abbrev cX12_write : ByteArray := prog_14_method_90_code
def yX12_write : MethodName := ⟨RX12, "write", "()I"⟩
abbrev cX12_octet : ByteArray := prog_14_method_91_code
def yX12_octet : MethodName := ⟨RX12, "octet", "(I)I"⟩
abbrev cX12_run : ByteArray := prog_14_method_92_code
def yX12_run : MethodName := ⟨RX12, "run", "(I)I"⟩
abbrev cX12_follows : ByteArray := prog_14_method_93_code
def yX12_follows : MethodName := ⟨RX12, "follows", "(II)V"⟩
abbrev cX12_goes : ByteArray := prog_14_method_94_code
def yX12_goes : MethodName := ⟨RX12, "goes", "(IIII)Z"⟩
abbrev cX12_makes : ByteArray := prog_14_method_95_code
def yX12_makes : MethodName := ⟨RX12, "makes", "(II)V"⟩
abbrev cX12_step : ByteArray := prog_14_method_96_code
def yX12_step : MethodName := ⟨RX12, "step", "(II)I"⟩
abbrev cX12_besideMany : ByteArray := prog_14_method_97_code
def yX12_besideMany : MethodName := ⟨RX12, "besideMany", "()I"⟩
abbrev cX12_eventsNow : ByteArray := prog_14_method_98_code
def yX12_eventsNow : MethodName := ⟨RX12, "eventsNow", "()I"⟩
abbrev cX12_now : ByteArray := prog_14_method_99_code
def yX12_now : MethodName := ⟨RX12, "now", "(I)I"⟩
abbrev cX12_beside : ByteArray := prog_14_method_100_code
def yX12_beside : MethodName := ⟨RX12, "beside", "(I)I"⟩
abbrev cX12_draw : ByteArray := prog_14_method_101_code
def yX12_draw : MethodName := ⟨RX12, "draw", "(I)I"⟩
abbrev cX12_ways : ByteArray := prog_14_method_102_code
def yX12_ways : MethodName := ⟨RX12, "ways", "(I)I"⟩
abbrev cX12_draws : ByteArray := prog_14_method_103_code
def yX12_draws : MethodName := ⟨RX12, "draws", "(II)I"⟩
abbrev cX12_spreads : ByteArray := prog_14_method_104_code
def yX12_spreads : MethodName := ⟨RX12, "spreads", "(I)V"⟩
abbrev cX12_reach : ByteArray := prog_14_method_105_code
def yX12_reach : MethodName := ⟨RX12, "reach", "(I)I"⟩
abbrev cX12_steps : ByteArray := prog_14_method_106_code
def yX12_steps : MethodName := ⟨RX12, "steps", "(II)I"⟩
abbrev cX12_leads : ByteArray := prog_14_method_107_code
def yX12_leads : MethodName := ⟨RX12, "leads", "(II)Z"⟩
abbrev cX12_stuck : ByteArray := prog_14_method_108_code
def yX12_stuck : MethodName := ⟨RX12, "stuck", "(I)I"⟩
abbrev cX12_unsound : ByteArray := prog_14_method_109_code
def yX12_unsound : MethodName := ⟨RX12, "unsound", "(I)I"⟩
abbrev cX12_aside : ByteArray := prog_14_method_110_code
def yX12_aside : MethodName := ⟨RX12, "aside", "(IIZ)I"⟩
abbrev cX12_letter : ByteArray := prog_14_method_111_code
def yX12_letter : MethodName := ⟨RX12, "letter", "(III)I"⟩
abbrev cX12_size : ByteArray := prog_14_method_112_code
def yX12_size : MethodName := ⟨RX12, "size", "()I"⟩
abbrev cX12_trouble : ByteArray := prog_14_method_113_code
def yX12_trouble : MethodName := ⟨RX12, "trouble", "()I"⟩
def RJx145de : String := "java/io/Serializable"
def TJx145de : u_T := fun k => match k with
  | _ => ("", "", "", false)
def tyJx145de : Nat → FieldType := fun k => match k with
  | _ => .int
theorem nmJx145de : ∀ a, a < 0 → ∀ b, b < 0 → a ≠ b → (TJx145de a).2.1 ≠ (TJx145de b).2.1 := by decide +kernel
theorem tyJx145de_ok : ∀ k, k < 0 → parseFieldDescriptor (TJx145de k).2.2.1 = some (tyJx145de k) := by decide +kernel
def RJx9f9b0 : String := "java/lang/CharSequence"
def TJx9f9b0 : u_T := fun k => match k with
  | _ => ("", "", "", false)
def tyJx9f9b0 : Nat → FieldType := fun k => match k with
  | _ => .int
theorem nmJx9f9b0 : ∀ a, a < 0 → ∀ b, b < 0 → a ≠ b → (TJx9f9b0 a).2.1 ≠ (TJx9f9b0 b).2.1 := by decide +kernel
theorem tyJx9f9b0_ok : ∀ k, k < 0 → parseFieldDescriptor (TJx9f9b0 k).2.2.1 = some (tyJx9f9b0 k) := by decide +kernel
def RJxb160c : String := "java/lang/Comparable"
def TJxb160c : u_T := fun k => match k with
  | _ => ("", "", "", false)
def tyJxb160c : Nat → FieldType := fun k => match k with
  | _ => .int
theorem nmJxb160c : ∀ a, a < 0 → ∀ b, b < 0 → a ≠ b → (TJxb160c a).2.1 ≠ (TJxb160c b).2.1 := by decide +kernel
theorem tyJxb160c_ok : ∀ k, k < 0 → parseFieldDescriptor (TJxb160c k).2.2.1 = some (tyJxb160c k) := by decide +kernel
def RJ6 : String := "java/lang/Integer"
def TJ6 : u_T := fun k => match k with
  | _ => ("", "", "", false)
def tyJ6 : Nat → FieldType := fun k => match k with
  | _ => .int
theorem nmJ6 : ∀ a, a < 0 → ∀ b, b < 0 → a ≠ b → (TJ6 a).2.1 ≠ (TJ6 b).2.1 := by decide +kernel
theorem tyJ6_ok : ∀ k, k < 0 → parseFieldDescriptor (TJ6 k).2.2.1 = some (tyJ6 k) := by decide +kernel
abbrev cJ6_bitCount_0f7a4 : ByteArray := prog_19_method_49_code
def yJ6_bitCount_0f7a4 : MethodName := ⟨RJ6, "bitCount", "(I)I"⟩
def RJ13 : String := "java/lang/Long"
def TJ13 : u_T := fun k => match k with
  | _ => ("", "", "", false)
def tyJ13 : Nat → FieldType := fun k => match k with
  | _ => .int
theorem nmJ13 : ∀ a, a < 0 → ∀ b, b < 0 → a ≠ b → (TJ13 a).2.1 ≠ (TJ13 b).2.1 := by decide +kernel
theorem tyJ13_ok : ∀ k, k < 0 → parseFieldDescriptor (TJ13 k).2.2.1 = some (tyJ13 k) := by decide +kernel
abbrev cJ13_bitCount_95d88 : ByteArray := prog_20_method_50_code
def yJ13_bitCount_95d88 : MethodName := ⟨RJ13, "bitCount", "(J)I"⟩
def RJ9 : String := "java/lang/Math"
def TJ9 : u_T := fun k => match k with
  | _ => ("", "", "", false)
def tyJ9 : Nat → FieldType := fun k => match k with
  | _ => .int
theorem nmJ9 : ∀ a, a < 0 → ∀ b, b < 0 → a ≠ b → (TJ9 a).2.1 ≠ (TJ9 b).2.1 := by decide +kernel
theorem tyJ9_ok : ∀ k, k < 0 → parseFieldDescriptor (TJ9 k).2.2.1 = some (tyJ9 k) := by decide +kernel
abbrev cJ9_max_7cf53 : ByteArray := prog_21_method_65_code
def yJ9_max_7cf53 : MethodName := ⟨RJ9, "max", "(II)I"⟩
def RJ0 : String := "java/lang/String"
def TJ0 : u_T := fun k => match k with
  | _ => ("", "", "", false)
def tyJ0 : Nat → FieldType := fun k => match k with
  | _ => .int
theorem nmJ0 : ∀ a, a < 0 → ∀ b, b < 0 → a ≠ b → (TJ0 a).2.1 ≠ (TJ0 b).2.1 := by decide +kernel
theorem tyJ0_ok : ∀ k, k < 0 → parseFieldDescriptor (TJ0 k).2.2.1 = some (tyJ0 k) := by decide +kernel
abbrev cJ0_length_8abf5 : ByteArray := prog_23_method_54_code
def yJ0_length_8abf5 : MethodName := ⟨RJ0, "length", "()I"⟩
abbrev cJ0_charAt_5068e : ByteArray := prog_23_method_56_code
def yJ0_charAt_5068e : MethodName := ⟨RJ0, "charAt", "(I)C"⟩
abbrev cJ0_coder_7d493 : ByteArray := prog_23_method_152_code
def yJ0_coder_7d493 : MethodName := ⟨RJ0, "coder", "()B"⟩
abbrev cJ0_isLatin1_aae02 : ByteArray := prog_23_method_154_code
def yJ0_isLatin1_aae02 : MethodName := ⟨RJ0, "isLatin1", "()Z"⟩
abbrev cJ0_checkIndex_df160 : ByteArray := prog_23_method_155_code
def yJ0_checkIndex_df160 : MethodName := ⟨RJ0, "checkIndex", "(II)V"⟩
def RJ1 : String := "java/lang/StringLatin1"
def TJ1 : u_T := fun k => match k with
  | _ => ("", "", "", false)
def tyJ1 : Nat → FieldType := fun k => match k with
  | _ => .int
theorem nmJ1 : ∀ a, a < 0 → ∀ b, b < 0 → a ≠ b → (TJ1 a).2.1 ≠ (TJ1 b).2.1 := by decide +kernel
theorem tyJ1_ok : ∀ k, k < 0 → parseFieldDescriptor (TJ1 k).2.2.1 = some (tyJ1 k) := by decide +kernel
abbrev cJ1_charAt_3b067 : ByteArray := prog_24_method_2_code
def yJ1_charAt_3b067 : MethodName := ⟨RJ1, "charAt", "([BI)C"⟩
def RJ2 : String := "java/lang/StringUTF16"
def TJ2 : u_T := fun k => match k with
  | _ => ("", "", "", false)
def tyJ2 : Nat → FieldType := fun k => match k with
  | _ => .int
theorem nmJ2 : ∀ a, a < 0 → ∀ b, b < 0 → a ≠ b → (TJ2 a).2.1 ≠ (TJ2 b).2.1 := by decide +kernel
theorem tyJ2_ok : ∀ k, k < 0 → parseFieldDescriptor (TJ2 k).2.2.1 = some (tyJ2 k) := by decide +kernel
abbrev cJ2_getChar_3b067 : ByteArray := prog_25_method_5_code
def yJ2_getChar_3b067 : MethodName := ⟨RJ2, "getChar", "([BI)C"⟩
abbrev cJ2_length_9d52b : ByteArray := prog_25_method_6_code
def yJ2_length_9d52b : MethodName := ⟨RJ2, "length", "([B)I"⟩
abbrev cJ2_charAt_3b067 : ByteArray := prog_25_method_83_code
def yJ2_charAt_3b067 : MethodName := ⟨RJ2, "charAt", "([BI)C"⟩
abbrev cJ2_checkIndex_2214a : ByteArray := prog_25_method_91_code
def yJ2_checkIndex_2214a : MethodName := ⟨RJ2, "checkIndex", "(I[B)V"⟩
def RJxfd54e : String := "java/lang/constant/Constable"
def TJxfd54e : u_T := fun k => match k with
  | _ => ("", "", "", false)
def tyJxfd54e : Nat → FieldType := fun k => match k with
  | _ => .int
theorem nmJxfd54e : ∀ a, a < 0 → ∀ b, b < 0 → a ≠ b → (TJxfd54e a).2.1 ≠ (TJxfd54e b).2.1 := by decide +kernel
theorem tyJxfd54e_ok : ∀ k, k < 0 → parseFieldDescriptor (TJxfd54e k).2.2.1 = some (tyJxfd54e k) := by decide +kernel
def RJx3cf43 : String := "java/lang/constant/ConstantDesc"
def TJx3cf43 : u_T := fun k => match k with
  | _ => ("", "", "", false)
def tyJx3cf43 : Nat → FieldType := fun k => match k with
  | _ => .int
theorem nmJx3cf43 : ∀ a, a < 0 → ∀ b, b < 0 → a ≠ b → (TJx3cf43 a).2.1 ≠ (TJx3cf43 b).2.1 := by decide +kernel
theorem tyJx3cf43_ok : ∀ k, k < 0 → parseFieldDescriptor (TJx3cf43 k).2.2.1 = some (tyJx3cf43 k) := by decide +kernel
def RJ7 : String := "java/util/Arrays"
def TJ7 : u_T := fun k => match k with
  | _ => ("", "", "", false)
def tyJ7 : Nat → FieldType := fun k => match k with
  | _ => .int
theorem nmJ7 : ∀ a, a < 0 → ∀ b, b < 0 → a ≠ b → (TJ7 a).2.1 ≠ (TJ7 b).2.1 := by decide +kernel
theorem tyJ7_ok : ∀ k, k < 0 → parseFieldDescriptor (TJ7 k).2.2.1 = some (tyJ7 k) := by decide +kernel
abbrev cJ7_fill_53178 : ByteArray := prog_29_method_103_code
def yJ7_fill_53178 : MethodName := ⟨RJ7, "fill", "([II)V"⟩
def RJ3 : String := "jdk/internal/util/Preconditions"
def TJ3 : u_T := fun k => match k with
  | _ => ("", "", "", false)
def tyJ3 : Nat → FieldType := fun k => match k with
  | _ => .int
theorem nmJ3 : ∀ a, a < 0 → ∀ b, b < 0 → a ≠ b → (TJ3 a).2.1 ≠ (TJ3 b).2.1 := by decide +kernel
theorem tyJ3_ok : ∀ k, k < 0 → parseFieldDescriptor (TJ3 k).2.2.1 = some (tyJ3 k) := by decide +kernel
abbrev cJ3_checkIndex_8e157 : ByteArray := prog_31_method_11_code
def yJ3_checkIndex_8e157 : MethodName := ⟨RJ3, "checkIndex", "(IILjava/util/function/BiFunction;)I"⟩
def RL : String := "FinerStepsLaw"
abbrev cL_letter : ByteArray := method_3_code
def yL_letter : MethodName := ⟨RL, "letter", "(LFinerSteps;III[J)I"⟩
abbrev cL_law : ByteArray := code
def yL_law : MethodName := ⟨RL, "law", "([I)Z"⟩
abbrev vwCl : List vw_C := [(RX0, TX0, 11), (RX1, TX1, 5), (RX2, TX2, 18), (RX3, TX3, 7), (RX4, TX4, 3), (RX5, TX5, 12), (RX6, TX6, 2), (RX7, TX7, 2), (RX8, TX8, 6), (RX9, TX9, 5), (RX10, TX10, 5), (RX11, TX11, 14), (RX12, TX12, 65)]
/-- the words that every method is given -/
def BIG : List Cond := lw_tbl.filter goodWord
theorem big_good : ∀ w ∈ BIG, goodWord w = true := fun w h => (List.mem_filter.mp h).2
theorem big_tbl : ∀ w ∈ BIG, w ∈ lw_tbl := fun w h => (List.mem_filter.mp h).1
theorem big_1 : ∀ w, w ∈ tables_1_1 → goodWord w = true → w ∈ BIG := fun w h g => List.mem_filter.mpr ⟨List.mem_append_right _ (List.mem_append_left _ h), g⟩
theorem big_2 : ∀ w, w ∈ tables_1_2 → goodWord w = true → w ∈ BIG := fun w h g => List.mem_filter.mpr ⟨List.mem_append_right _ (List.mem_append_right _ (List.mem_append_left _ h)), g⟩
theorem big_3 : ∀ w, w ∈ tables_1_3 → goodWord w = true → w ∈ BIG := fun w h g => List.mem_filter.mpr ⟨List.mem_append_right _ (List.mem_append_right _ (List.mem_append_right _ (List.mem_append_left _ h))), g⟩
theorem big_4 : ∀ w, w ∈ tables_1_4 → goodWord w = true → w ∈ BIG := fun w h g => List.mem_filter.mpr ⟨List.mem_append_right _ (List.mem_append_right _ (List.mem_append_right _ (List.mem_append_right _ (List.mem_append_left _ h)))), g⟩
theorem big_5 : ∀ w, w ∈ tables_1_5 → goodWord w = true → w ∈ BIG := fun w h g => List.mem_filter.mpr ⟨List.mem_append_right _ (List.mem_append_right _ (List.mem_append_right _ (List.mem_append_right _ (List.mem_append_right _ (List.mem_append_left _ h))))), g⟩
theorem big_6 : ∀ w, w ∈ tables_1_6 → goodWord w = true → w ∈ BIG := fun w h g => List.mem_filter.mpr ⟨List.mem_append_right _ (List.mem_append_right _ (List.mem_append_right _ (List.mem_append_right _ (List.mem_append_right _ (List.mem_append_right _ (List.mem_append_left _ h)))))), g⟩
theorem big_7 : ∀ w, w ∈ tables_1_7 → goodWord w = true → w ∈ BIG := fun w h g => List.mem_filter.mpr ⟨List.mem_append_right _ (List.mem_append_right _ (List.mem_append_right _ (List.mem_append_right _ (List.mem_append_right _ (List.mem_append_right _ (List.mem_append_right _ (List.mem_append_left _ h))))))), g⟩
theorem big_8 : ∀ w, w ∈ tables_1_8 → goodWord w = true → w ∈ BIG := fun w h g => List.mem_filter.mpr ⟨List.mem_append_right _ (List.mem_append_right _ (List.mem_append_right _ (List.mem_append_right _ (List.mem_append_right _ (List.mem_append_right _ (List.mem_append_right _ (List.mem_append_right _ (List.mem_append_left _ h)))))))), g⟩
theorem big_9 : ∀ w, w ∈ tables_1_9 → goodWord w = true → w ∈ BIG := fun w h g => List.mem_filter.mpr ⟨List.mem_append_right _ (List.mem_append_right _ (List.mem_append_right _ (List.mem_append_right _ (List.mem_append_right _ (List.mem_append_right _ (List.mem_append_right _ (List.mem_append_right _ (List.mem_append_right _ (h))))))))), g⟩
theorem big_0 : ∀ w, w ∈ k2_sels lw_privs → goodWord w = true → w ∈ BIG := fun w h g => List.mem_filter.mpr ⟨List.mem_append_left _ h, g⟩
theorem ini_L : Cond.initialized "FinerStepsLaw" ∈ BIG := big_1 _ (List.mem_of_getElem? (i := 0) (by decide +kernel)) (by decide +kernel)
theorem ini_X11 : Cond.initialized "FinerSteps" ∈ BIG := big_1 _ (List.mem_of_getElem? (i := 1) (by decide +kernel)) (by decide +kernel)
theorem ini_X5 : Cond.initialized "FinerSteps$Reader" ∈ BIG := big_1 _ (List.mem_of_getElem? (i := 2) (by decide +kernel)) (by decide +kernel)
theorem ini_X8 : Cond.initialized "FinerSteps$Tokens" ∈ BIG := big_1 _ (List.mem_of_getElem? (i := 3) (by decide +kernel)) (by decide +kernel)
theorem ini_J0 : Cond.initialized "java/lang/String" ∈ BIG := big_1 _ (List.mem_of_getElem? (i := 4) (by decide +kernel)) (by decide +kernel)
theorem ini_J1 : Cond.initialized "java/lang/StringLatin1" ∈ BIG := big_1 _ (List.mem_of_getElem? (i := 5) (by decide +kernel)) (by decide +kernel)
theorem ini_J3 : Cond.initialized "jdk/internal/util/Preconditions" ∈ BIG := big_1 _ (List.mem_of_getElem? (i := 6) (by decide +kernel)) (by decide +kernel)
theorem ini_J2 : Cond.initialized "java/lang/StringUTF16" ∈ BIG := big_1 _ (List.mem_of_getElem? (i := 7) (by decide +kernel)) (by decide +kernel)
theorem ini_X1 : Cond.initialized "FinerSteps$Judge" ∈ BIG := big_1 _ (List.mem_of_getElem? (i := 8) (by decide +kernel)) (by decide +kernel)
theorem ini_X7 : Cond.initialized "FinerSteps$StateSet" ∈ BIG := big_1 _ (List.mem_of_getElem? (i := 9) (by decide +kernel)) (by decide +kernel)
theorem ini_X10 : Cond.initialized "FinerSteps$Walk" ∈ BIG := big_1 _ (List.mem_of_getElem? (i := 10) (by decide +kernel)) (by decide +kernel)
theorem ini_X4 : Cond.initialized "FinerSteps$Paths" ∈ BIG := big_1 _ (List.mem_of_getElem? (i := 11) (by decide +kernel)) (by decide +kernel)
theorem ini_X6 : Cond.initialized "FinerSteps$Scroll" ∈ BIG := big_1 _ (List.mem_of_getElem? (i := 12) (by decide +kernel)) (by decide +kernel)
theorem ini_X3 : Cond.initialized "FinerSteps$Model" ∈ BIG := big_1 _ (List.mem_of_getElem? (i := 13) (by decide +kernel)) (by decide +kernel)
theorem ini_X2 : Cond.initialized "FinerSteps$Machine" ∈ BIG := big_1 _ (List.mem_of_getElem? (i := 14) (by decide +kernel)) (by decide +kernel)
theorem ini_X0 : Cond.initialized "FinerSteps$Event" ∈ BIG := big_1 _ (List.mem_of_getElem? (i := 15) (by decide +kernel)) (by decide +kernel)
theorem ini_X9 : Cond.initialized "FinerSteps$Verdict" ∈ BIG := big_1 _ (List.mem_of_getElem? (i := 16) (by decide +kernel)) (by decide +kernel)
theorem ini_X12 : Cond.initialized "FinerStepsModel" ∈ BIG := big_1 _ (List.mem_of_getElem? (i := 17) (by decide +kernel)) (by decide +kernel)
theorem ini_J9 : Cond.initialized "java/lang/Math" ∈ BIG := big_1 _ (List.mem_of_getElem? (i := 18) (by decide +kernel)) (by decide +kernel)
theorem ini_J13 : Cond.initialized "java/lang/Long" ∈ BIG := big_1 _ (List.mem_of_getElem? (i := 19) (by decide +kernel)) (by decide +kernel)
theorem ini_J6 : Cond.initialized "java/lang/Integer" ∈ BIG := big_1 _ (List.mem_of_getElem? (i := 20) (by decide +kernel)) (by decide +kernel)
theorem ini_J7 : Cond.initialized "java/util/Arrays" ∈ BIG := big_1 _ (List.mem_of_getElem? (i := 21) (by decide +kernel)) (by decide +kernel)
theorem ini__java_lang_Throwable : Cond.initialized "java/lang/Throwable" ∈ BIG := big_1 _ (List.mem_of_getElem? (i := 22) (by decide +kernel)) (by decide +kernel)
theorem ini__java_lang_Exception : Cond.initialized "java/lang/Exception" ∈ BIG := big_1 _ (List.mem_of_getElem? (i := 23) (by decide +kernel)) (by decide +kernel)
theorem ini__java_lang_RuntimeException : Cond.initialized "java/lang/RuntimeException" ∈ BIG := big_1 _ (List.mem_of_getElem? (i := 24) (by decide +kernel)) (by decide +kernel)
theorem ini__java_util_NoSuchElementException : Cond.initialized "java/util/NoSuchElementException" ∈ BIG := big_1 _ (List.mem_of_getElem? (i := 25) (by decide +kernel)) (by decide +kernel)
theorem cl_L_8 : Cond.classLink "FinerStepsLaw" 8 "FinerSteps" ∈ BIG := big_1 _ (List.mem_of_getElem? (i := 26) (by decide +kernel)) (by decide +kernel)
theorem ins_X11 : Cond.instantiable "FinerSteps" 14 ∈ BIG := big_1 _ (List.mem_of_getElem? (i := 27) (by decide +kernel)) (by decide +kernel)
theorem ml_L_15 : Cond.methodLink "FinerStepsLaw" 15 yX11_init ∈ BIG := big_1 _ (List.mem_of_getElem? (i := 28) (by decide +kernel)) (by decide +kernel)
theorem im_yX11_init : Cond.instanceMethod yX11_init ∈ BIG := big_1 _ (List.mem_of_getElem? (i := 29) (by decide +kernel)) (by decide +kernel)
theorem co_yX11_init : Cond.code yX11_init cX11_init 1 none ∈ BIG := big_1 _ (List.mem_of_getElem? (i := 30) (by decide +kernel)) (by decide +kernel)
theorem ml_X11_3 : Cond.methodLink "FinerSteps" 3 objectInit ∈ BIG := big_1 _ (List.mem_of_getElem? (i := 31) (by decide +kernel)) (by decide +kernel)
theorem im_objectInit : Cond.instanceMethod objectInit ∈ BIG := big_1 _ (List.mem_of_getElem? (i := 32) (by decide +kernel)) (by decide +kernel)
theorem co_objectInit : Cond.code objectInit object_method_1_code 1 none ∈ BIG := big_1 _ (List.mem_of_getElem? (i := 33) (by decide +kernel)) (by decide +kernel)
theorem cl_X11_13 : Cond.classLink "FinerSteps" 13 "FinerSteps$Reader" ∈ BIG := big_1 _ (List.mem_of_getElem? (i := 34) (by decide +kernel)) (by decide +kernel)
theorem ins_X5 : Cond.instantiable "FinerSteps$Reader" 12 ∈ BIG := big_1 _ (List.mem_of_getElem? (i := 35) (by decide +kernel)) (by decide +kernel)
theorem im_yX5_init : Cond.instanceMethod yX5_init ∈ BIG := big_1 _ (List.mem_of_getElem? (i := 37) (by decide +kernel)) (by decide +kernel)
theorem co_yX5_init : Cond.code yX5_init cX5_init 1 none ∈ BIG := big_1 _ (List.mem_of_getElem? (i := 38) (by decide +kernel)) (by decide +kernel)
theorem ml_X5_3 : Cond.methodLink "FinerSteps$Reader" 3 objectInit ∈ BIG := big_1 _ (List.mem_of_getElem? (i := 39) (by decide +kernel)) (by decide +kernel)
theorem cl_X5_9 : Cond.classLink "FinerSteps$Reader" 9 "FinerSteps$Tokens" ∈ BIG := big_1 _ (List.mem_of_getElem? (i := 40) (by decide +kernel)) (by decide +kernel)
theorem ins_X8 : Cond.instantiable "FinerSteps$Tokens" 6 ∈ BIG := big_1 _ (List.mem_of_getElem? (i := 41) (by decide +kernel)) (by decide +kernel)
theorem ml_X5_11 : Cond.methodLink "FinerSteps$Reader" 11 yX8_init ∈ BIG := big_1 _ (List.mem_of_getElem? (i := 42) (by decide +kernel)) (by decide +kernel)
theorem im_yX8_init : Cond.instanceMethod yX8_init ∈ BIG := big_1 _ (List.mem_of_getElem? (i := 43) (by decide +kernel)) (by decide +kernel)
theorem co_yX8_init : Cond.code yX8_init cX8_init 4 none ∈ BIG := big_1 _ (List.mem_of_getElem? (i := 44) (by decide +kernel)) (by decide +kernel)
theorem ml_X8_3 : Cond.methodLink "FinerSteps$Tokens" 3 objectInit ∈ BIG := big_1 _ (List.mem_of_getElem? (i := 45) (by decide +kernel)) (by decide +kernel)
theorem ml_X8_27 : Cond.methodLink "FinerSteps$Tokens" 27 yJ0_length_8abf5 ∈ BIG := big_1 _ (List.mem_of_getElem? (i := 47) (by decide +kernel)) (by decide +kernel)
theorem im_yJ0_length_8abf5 : Cond.instanceMethod yJ0_length_8abf5 ∈ BIG := big_1 _ (List.mem_of_getElem? (i := 48) (by decide +kernel)) (by decide +kernel)
theorem se_yJ0_length_8abf5 : Cond.selects "java/lang/String" yJ0_length_8abf5 yJ0_length_8abf5 ∈ BIG := big_1 _ (List.mem_of_getElem? (i := 49) (by decide +kernel)) (by decide +kernel)
theorem co_yJ0_length_8abf5 : Cond.code yJ0_length_8abf5 cJ0_length_8abf5 1 (some FieldType.int) ∈ BIG := big_1 _ (List.mem_of_getElem? (i := 50) (by decide +kernel)) (by decide +kernel)
theorem ml_J0_335 : Cond.methodLink "java/lang/String" 335 yJ0_coder_7d493 ∈ BIG := big_1 _ (List.mem_of_getElem? (i := 51) (by decide +kernel)) (by decide +kernel)
theorem im_yJ0_coder_7d493 : Cond.instanceMethod yJ0_coder_7d493 ∈ BIG := big_1 _ (List.mem_of_getElem? (i := 52) (by decide +kernel)) (by decide +kernel)
theorem se_yJ0_coder_7d493 : Cond.selects "java/lang/String" yJ0_coder_7d493 yJ0_coder_7d493 ∈ BIG := big_1 _ (List.mem_of_getElem? (i := 53) (by decide +kernel)) (by decide +kernel)
theorem co_yJ0_coder_7d493 : Cond.code yJ0_coder_7d493 cJ0_coder_7d493 1 (some FieldType.byte) ∈ BIG := big_1 _ (List.mem_of_getElem? (i := 54) (by decide +kernel)) (by decide +kernel)
theorem fl_J0_38 : Cond.fieldLink "java/lang/String" 38 "java/lang/String" "COMPACT_STRINGS" "Z" ∈ BIG := big_1 _ (List.mem_of_getElem? (i := 55) (by decide +kernel)) (by decide +kernel)
theorem ml_X8_33 : Cond.methodLink "FinerSteps$Tokens" 33 yJ0_charAt_5068e ∈ BIG := big_1 _ (List.mem_of_getElem? (i := 57) (by decide +kernel)) (by decide +kernel)
theorem im_yJ0_charAt_5068e : Cond.instanceMethod yJ0_charAt_5068e ∈ BIG := big_1 _ (List.mem_of_getElem? (i := 58) (by decide +kernel)) (by decide +kernel)
theorem se_yJ0_charAt_5068e : Cond.selects "java/lang/String" yJ0_charAt_5068e yJ0_charAt_5068e ∈ BIG := big_1 _ (List.mem_of_getElem? (i := 59) (by decide +kernel)) (by decide +kernel)
theorem co_yJ0_charAt_5068e : Cond.code yJ0_charAt_5068e cJ0_charAt_5068e 2 (some FieldType.char) ∈ BIG := big_1 _ (List.mem_of_getElem? (i := 60) (by decide +kernel)) (by decide +kernel)
theorem ml_J0_492 : Cond.methodLink "java/lang/String" 492 yJ0_isLatin1_aae02 ∈ BIG := big_1 _ (List.mem_of_getElem? (i := 61) (by decide +kernel)) (by decide +kernel)
theorem im_yJ0_isLatin1_aae02 : Cond.instanceMethod yJ0_isLatin1_aae02 ∈ BIG := big_1 _ (List.mem_of_getElem? (i := 62) (by decide +kernel)) (by decide +kernel)
theorem se_yJ0_isLatin1_aae02 : Cond.selects "java/lang/String" yJ0_isLatin1_aae02 yJ0_isLatin1_aae02 ∈ BIG := big_1 _ (List.mem_of_getElem? (i := 63) (by decide +kernel)) (by decide +kernel)
theorem co_yJ0_isLatin1_aae02 : Cond.code yJ0_isLatin1_aae02 cJ0_isLatin1_aae02 1 (some FieldType.boolean) ∈ BIG := big_1 _ (List.mem_of_getElem? (i := 64) (by decide +kernel)) (by decide +kernel)
theorem ml_J0_495 : Cond.methodLink "java/lang/String" 495 yJ1_charAt_3b067 ∈ BIG := big_1 _ (List.mem_of_getElem? (i := 65) (by decide +kernel)) (by decide +kernel)
theorem st_yJ1_charAt_3b067 : Cond.static yJ1_charAt_3b067 ∈ BIG := big_1 _ (List.mem_of_getElem? (i := 66) (by decide +kernel)) (by decide +kernel)
theorem co_yJ1_charAt_3b067 : Cond.code yJ1_charAt_3b067 cJ1_charAt_3b067 2 (some FieldType.char) ∈ BIG := big_1 _ (List.mem_of_getElem? (i := 67) (by decide +kernel)) (by decide +kernel)
theorem ml_J1_9 : Cond.methodLink "java/lang/StringLatin1" 9 yJ0_checkIndex_df160 ∈ BIG := big_1 _ (List.mem_of_getElem? (i := 68) (by decide +kernel)) (by decide +kernel)
theorem st_yJ0_checkIndex_df160 : Cond.static yJ0_checkIndex_df160 ∈ BIG := big_1 _ (List.mem_of_getElem? (i := 69) (by decide +kernel)) (by decide +kernel)
theorem co_yJ0_checkIndex_df160 : Cond.code yJ0_checkIndex_df160 cJ0_checkIndex_df160 2 none ∈ BIG := big_1 _ (List.mem_of_getElem? (i := 70) (by decide +kernel)) (by decide +kernel)
theorem fl_J0_1053 : Cond.fieldLink "java/lang/String" 1053 "jdk/internal/util/Preconditions" "SIOOBE_FORMATTER" "Ljava/util/function/BiFunction;" ∈ BIG := big_1 _ (List.mem_of_getElem? (i := 71) (by decide +kernel)) (by decide +kernel)
theorem ml_J0_1059 : Cond.methodLink "java/lang/String" 1059 yJ3_checkIndex_8e157 ∈ BIG := big_1 _ (List.mem_of_getElem? (i := 73) (by decide +kernel)) (by decide +kernel)
theorem st_yJ3_checkIndex_8e157 : Cond.static yJ3_checkIndex_8e157 ∈ BIG := big_1 _ (List.mem_of_getElem? (i := 74) (by decide +kernel)) (by decide +kernel)
theorem co_yJ3_checkIndex_8e157 : Cond.code yJ3_checkIndex_8e157 cJ3_checkIndex_8e157 3 (some FieldType.int) ∈ BIG := big_1 _ (List.mem_of_getElem? (i := 75) (by decide +kernel)) (by decide +kernel)
theorem ml_J0_498 : Cond.methodLink "java/lang/String" 498 yJ2_charAt_3b067 ∈ BIG := big_1 _ (List.mem_of_getElem? (i := 76) (by decide +kernel)) (by decide +kernel)
theorem st_yJ2_charAt_3b067 : Cond.static yJ2_charAt_3b067 ∈ BIG := big_1 _ (List.mem_of_getElem? (i := 77) (by decide +kernel)) (by decide +kernel)
theorem co_yJ2_charAt_3b067 : Cond.code yJ2_charAt_3b067 cJ2_charAt_3b067 2 (some FieldType.char) ∈ BIG := big_1 _ (List.mem_of_getElem? (i := 78) (by decide +kernel)) (by decide +kernel)
theorem ml_J2_67 : Cond.methodLink "java/lang/StringUTF16" 67 yJ2_checkIndex_2214a ∈ BIG := big_1 _ (List.mem_of_getElem? (i := 79) (by decide +kernel)) (by decide +kernel)
theorem st_yJ2_checkIndex_2214a : Cond.static yJ2_checkIndex_2214a ∈ BIG := big_1 _ (List.mem_of_getElem? (i := 80) (by decide +kernel)) (by decide +kernel)
theorem co_yJ2_checkIndex_2214a : Cond.code yJ2_checkIndex_2214a cJ2_checkIndex_2214a 2 none ∈ BIG := big_1 _ (List.mem_of_getElem? (i := 81) (by decide +kernel)) (by decide +kernel)
theorem ml_J2_48 : Cond.methodLink "java/lang/StringUTF16" 48 yJ2_length_9d52b ∈ BIG := big_1 _ (List.mem_of_getElem? (i := 82) (by decide +kernel)) (by decide +kernel)
theorem st_yJ2_length_9d52b : Cond.static yJ2_length_9d52b ∈ BIG := big_1 _ (List.mem_of_getElem? (i := 83) (by decide +kernel)) (by decide +kernel)
theorem co_yJ2_length_9d52b : Cond.code yJ2_length_9d52b cJ2_length_9d52b 1 (some FieldType.int) ∈ BIG := big_1 _ (List.mem_of_getElem? (i := 84) (by decide +kernel)) (by decide +kernel)
theorem ml_J2_414 : Cond.methodLink "java/lang/StringUTF16" 414 yJ0_checkIndex_df160 ∈ BIG := big_1 _ (List.mem_of_getElem? (i := 85) (by decide +kernel)) (by decide +kernel)
theorem ml_J2_71 : Cond.methodLink "java/lang/StringUTF16" 71 yJ2_getChar_3b067 ∈ BIG := big_1 _ (List.mem_of_getElem? (i := 86) (by decide +kernel)) (by decide +kernel)
theorem st_yJ2_getChar_3b067 : Cond.static yJ2_getChar_3b067 ∈ BIG := big_1 _ (List.mem_of_getElem? (i := 87) (by decide +kernel)) (by decide +kernel)
theorem co_yJ2_getChar_3b067 : Cond.code yJ2_getChar_3b067 cJ2_getChar_3b067 2 (some FieldType.char) ∈ BIG := big_1 _ (List.mem_of_getElem? (i := 88) (by decide +kernel)) (by decide +kernel)
theorem fl_J2_44 : Cond.fieldLink "java/lang/StringUTF16" 44 "java/lang/StringUTF16" "$assertionsDisabled" "Z" ∈ BIG := big_1 _ (List.mem_of_getElem? (i := 89) (by decide +kernel)) (by decide +kernel)
theorem fl_J2_59 : Cond.fieldLink "java/lang/StringUTF16" 59 "java/lang/StringUTF16" "HI_BYTE_SHIFT" "I" ∈ BIG := big_1 _ (List.mem_of_getElem? (i := 91) (by decide +kernel)) (by decide +kernel)
theorem fl_J2_63 : Cond.fieldLink "java/lang/StringUTF16" 63 "java/lang/StringUTF16" "LO_BYTE_SHIFT" "I" ∈ BIG := big_1 _ (List.mem_of_getElem? (i := 93) (by decide +kernel)) (by decide +kernel)
theorem fl_X8_9 : Cond.fieldLink "FinerSteps$Tokens" 9 "FinerSteps$Tokens" "kinds" "[I" ∈ BIG := big_1 _ (List.mem_of_getElem? (i := 95) (by decide +kernel)) (by decide +kernel)
theorem fl_X5_230 : Cond.fieldLink "FinerSteps$Reader" 230 "FinerSteps$Tokens" "kinds" "[I" ∈ BIG := big_1 _ (List.mem_of_getElem? (i := 96) (by decide +kernel)) (by decide +kernel)
theorem fl_X8_15 : Cond.fieldLink "FinerSteps$Tokens" 15 "FinerSteps$Tokens" "places" "[I" ∈ BIG := big_1 _ (List.mem_of_getElem? (i := 97) (by decide +kernel)) (by decide +kernel)
theorem fl_X5_236 : Cond.fieldLink "FinerSteps$Reader" 236 "FinerSteps$Tokens" "places" "[I" ∈ BIG := big_1 _ (List.mem_of_getElem? (i := 98) (by decide +kernel)) (by decide +kernel)
theorem fl_X8_18 : Cond.fieldLink "FinerSteps$Tokens" 18 "FinerSteps$Tokens" "codes" "[J" ∈ BIG := big_1 _ (List.mem_of_getElem? (i := 99) (by decide +kernel)) (by decide +kernel)
theorem fl_X5_233 : Cond.fieldLink "FinerSteps$Reader" 233 "FinerSteps$Tokens" "codes" "[J" ∈ BIG := big_1 _ (List.mem_of_getElem? (i := 100) (by decide +kernel)) (by decide +kernel)
theorem fl_X8_22 : Cond.fieldLink "FinerSteps$Tokens" 22 "FinerSteps$Tokens" "reserved" "[J" ∈ BIG := big_1 _ (List.mem_of_getElem? (i := 101) (by decide +kernel)) (by decide +kernel)
theorem fl_X8_37 : Cond.fieldLink "FinerSteps$Tokens" 37 "FinerSteps$Tokens" "count" "I" ∈ BIG := big_1 _ (List.mem_of_getElem? (i := 102) (by decide +kernel)) (by decide +kernel)
theorem fl_X8_57 : Cond.fieldLink "FinerSteps$Tokens" 57 "FinerSteps$Tokens" "length" "I" ∈ BIG := big_1 _ (List.mem_of_getElem? (i := 103) (by decide +kernel)) (by decide +kernel)
theorem ac_byte : Cond.arrayClass FieldType.byte ∈ BIG := big_1 _ (List.mem_of_getElem? (i := 117) (by decide +kernel)) (by decide +kernel)
theorem ac_int : Cond.arrayClass FieldType.int ∈ BIG := big_1 _ (List.mem_of_getElem? (i := 118) (by decide +kernel)) (by decide +kernel)
theorem ac_long : Cond.arrayClass FieldType.long ∈ BIG := big_1 _ (List.mem_of_getElem? (i := 119) (by decide +kernel)) (by decide +kernel)
theorem fl_X5_12 : Cond.fieldLink "FinerSteps$Reader" 12 "FinerSteps$Reader" "tokens" "LFinerSteps$Tokens;" ∈ BIG := big_1 _ (List.mem_of_getElem? (i := 120) (by decide +kernel)) (by decide +kernel)
theorem fl_X5_18 : Cond.fieldLink "FinerSteps$Reader" 18 "FinerSteps$Reader" "toldNames" "[J" ∈ BIG := big_1 _ (List.mem_of_getElem? (i := 121) (by decide +kernel)) (by decide +kernel)
theorem fl_X5_59 : Cond.fieldLink "FinerSteps$Reader" 59 "FinerSteps$Reader" "faultMet" "I" ∈ BIG := big_1 _ (List.mem_of_getElem? (i := 122) (by decide +kernel)) (by decide +kernel)
theorem fl_X11_94 : Cond.fieldLink "FinerSteps" 94 "FinerSteps$Reader" "faultMet" "I" ∈ BIG := big_1 _ (List.mem_of_getElem? (i := 123) (by decide +kernel)) (by decide +kernel)
theorem fl_X5_62 : Cond.fieldLink "FinerSteps$Reader" 62 "FinerSteps$Reader" "faultAt" "I" ∈ BIG := big_1 _ (List.mem_of_getElem? (i := 124) (by decide +kernel)) (by decide +kernel)
theorem fl_X11_97 : Cond.fieldLink "FinerSteps" 97 "FinerSteps$Reader" "faultAt" "I" ∈ BIG := big_1 _ (List.mem_of_getElem? (i := 125) (by decide +kernel)) (by decide +kernel)
theorem fl_X5_31 : Cond.fieldLink "FinerSteps$Reader" 31 "FinerSteps$Reader" "model" "LFinerSteps$Model;" ∈ BIG := big_1 _ (List.mem_of_getElem? (i := 126) (by decide +kernel)) (by decide +kernel)
theorem fl_X5_39 : Cond.fieldLink "FinerSteps$Reader" 39 "FinerSteps$Reader" "machine" "LFinerSteps$Machine;" ∈ BIG := big_1 _ (List.mem_of_getElem? (i := 127) (by decide +kernel)) (by decide +kernel)
theorem fl_X5_49 : Cond.fieldLink "FinerSteps$Reader" 49 "FinerSteps$Reader" "event" "LFinerSteps$Event;" ∈ BIG := big_1 _ (List.mem_of_getElem? (i := 128) (by decide +kernel)) (by decide +kernel)
theorem fl_X5_52 : Cond.fieldLink "FinerSteps$Reader" 52 "FinerSteps$Reader" "toldCount" "I" ∈ BIG := big_1 _ (List.mem_of_getElem? (i := 129) (by decide +kernel)) (by decide +kernel)
theorem fl_X5_56 : Cond.fieldLink "FinerSteps$Reader" 56 "FinerSteps$Reader" "at" "I" ∈ BIG := big_1 _ (List.mem_of_getElem? (i := 130) (by decide +kernel)) (by decide +kernel)
theorem fl_X5_224 : Cond.fieldLink "FinerSteps$Reader" 224 "FinerSteps$Reader" "atoms" "I" ∈ BIG := big_1 _ (List.mem_of_getElem? (i := 131) (by decide +kernel)) (by decide +kernel)
theorem fl_X5_69 : Cond.fieldLink "FinerSteps$Reader" 69 "FinerSteps$Reader" "inLaw" "Z" ∈ BIG := big_1 _ (List.mem_of_getElem? (i := 132) (by decide +kernel)) (by decide +kernel)
theorem fl_X5_73 : Cond.fieldLink "FinerSteps$Reader" 73 "FinerSteps$Reader" "inEvent" "Z" ∈ BIG := big_1 _ (List.mem_of_getElem? (i := 133) (by decide +kernel)) (by decide +kernel)
theorem cl_X11_20 : Cond.classLink "FinerSteps" 20 "FinerSteps$Judge" ∈ BIG := big_1 _ (List.mem_of_getElem? (i := 159) (by decide +kernel)) (by decide +kernel)
theorem ins_X1 : Cond.instantiable "FinerSteps$Judge" 5 ∈ BIG := big_1 _ (List.mem_of_getElem? (i := 160) (by decide +kernel)) (by decide +kernel)
theorem im_yX1_init : Cond.instanceMethod yX1_init ∈ BIG := big_1 _ (List.mem_of_getElem? (i := 162) (by decide +kernel)) (by decide +kernel)
theorem co_yX1_init : Cond.code yX1_init cX1_init 1 none ∈ BIG := big_1 _ (List.mem_of_getElem? (i := 163) (by decide +kernel)) (by decide +kernel)
theorem ml_X1_3 : Cond.methodLink "FinerSteps$Judge" 3 objectInit ∈ BIG := big_1 _ (List.mem_of_getElem? (i := 164) (by decide +kernel)) (by decide +kernel)
theorem cl_X1_9 : Cond.classLink "FinerSteps$Judge" 9 "FinerSteps$StateSet" ∈ BIG := big_1 _ (List.mem_of_getElem? (i := 165) (by decide +kernel)) (by decide +kernel)
theorem ins_X7 : Cond.instantiable "FinerSteps$StateSet" 2 ∈ BIG := big_1 _ (List.mem_of_getElem? (i := 166) (by decide +kernel)) (by decide +kernel)
theorem im_yX7_init : Cond.instanceMethod yX7_init ∈ BIG := big_1 _ (List.mem_of_getElem? (i := 168) (by decide +kernel)) (by decide +kernel)
theorem co_yX7_init : Cond.code yX7_init cX7_init 1 none ∈ BIG := big_1 _ (List.mem_of_getElem? (i := 169) (by decide +kernel)) (by decide +kernel)
theorem ml_X7_3 : Cond.methodLink "FinerSteps$StateSet" 3 objectInit ∈ BIG := big_1 _ (List.mem_of_getElem? (i := 170) (by decide +kernel)) (by decide +kernel)
theorem fl_X7_9 : Cond.fieldLink "FinerSteps$StateSet" 9 "FinerSteps$StateSet" "low" "J" ∈ BIG := big_1 _ (List.mem_of_getElem? (i := 171) (by decide +kernel)) (by decide +kernel)
theorem fl_X7_15 : Cond.fieldLink "FinerSteps$StateSet" 15 "FinerSteps$StateSet" "high" "J" ∈ BIG := big_1 _ (List.mem_of_getElem? (i := 172) (by decide +kernel)) (by decide +kernel)
theorem fl_X1_12 : Cond.fieldLink "FinerSteps$Judge" 12 "FinerSteps$Judge" "image" "LFinerSteps$StateSet;" ∈ BIG := big_1 _ (List.mem_of_getElem? (i := 178) (by decide +kernel)) (by decide +kernel)
theorem fl_X1_18 : Cond.fieldLink "FinerSteps$Judge" 18 "FinerSteps$Judge" "model" "LFinerSteps$Model;" ∈ BIG := big_1 _ (List.mem_of_getElem? (i := 179) (by decide +kernel)) (by decide +kernel)
theorem fl_X1_32 : Cond.fieldLink "FinerSteps$Judge" 32 "FinerSteps$Judge" "machine" "LFinerSteps$Machine;" ∈ BIG := big_1 _ (List.mem_of_getElem? (i := 180) (by decide +kernel)) (by decide +kernel)
theorem fl_X1_42 : Cond.fieldLink "FinerSteps$Judge" 42 "FinerSteps$Judge" "verdict" "LFinerSteps$Verdict;" ∈ BIG := big_1 _ (List.mem_of_getElem? (i := 181) (by decide +kernel)) (by decide +kernel)
theorem fl_X1_22 : Cond.fieldLink "FinerSteps$Judge" 22 "FinerSteps$Judge" "number" "I" ∈ BIG := big_1 _ (List.mem_of_getElem? (i := 182) (by decide +kernel)) (by decide +kernel)
theorem cl_X11_27 : Cond.classLink "FinerSteps" 27 "FinerSteps$Walk" ∈ BIG := big_1 _ (List.mem_of_getElem? (i := 194) (by decide +kernel)) (by decide +kernel)
theorem ins_X10 : Cond.instantiable "FinerSteps$Walk" 5 ∈ BIG := big_1 _ (List.mem_of_getElem? (i := 195) (by decide +kernel)) (by decide +kernel)
theorem im_yX10_init : Cond.instanceMethod yX10_init ∈ BIG := big_1 _ (List.mem_of_getElem? (i := 197) (by decide +kernel)) (by decide +kernel)
theorem co_yX10_init : Cond.code yX10_init cX10_init 1 none ∈ BIG := big_1 _ (List.mem_of_getElem? (i := 198) (by decide +kernel)) (by decide +kernel)
theorem ml_X10_3 : Cond.methodLink "FinerSteps$Walk" 3 objectInit ∈ BIG := big_1 _ (List.mem_of_getElem? (i := 199) (by decide +kernel)) (by decide +kernel)
theorem cl_X10_9 : Cond.classLink "FinerSteps$Walk" 9 "FinerSteps$StateSet" ∈ BIG := big_1 _ (List.mem_of_getElem? (i := 200) (by decide +kernel)) (by decide +kernel)
theorem fl_X10_12 : Cond.fieldLink "FinerSteps$Walk" 12 "FinerSteps$Walk" "near" "LFinerSteps$StateSet;" ∈ BIG := big_1 _ (List.mem_of_getElem? (i := 202) (by decide +kernel)) (by decide +kernel)
theorem fl_X11_252 : Cond.fieldLink "FinerSteps" 252 "FinerSteps$Walk" "near" "LFinerSteps$StateSet;" ∈ BIG := big_1 _ (List.mem_of_getElem? (i := 203) (by decide +kernel)) (by decide +kernel)
theorem fl_X10_18 : Cond.fieldLink "FinerSteps$Walk" 18 "FinerSteps$Walk" "image" "LFinerSteps$StateSet;" ∈ BIG := big_1 _ (List.mem_of_getElem? (i := 204) (by decide +kernel)) (by decide +kernel)
theorem fl_X10_21 : Cond.fieldLink "FinerSteps$Walk" 21 "FinerSteps$Walk" "number" "I" ∈ BIG := big_1 _ (List.mem_of_getElem? (i := 205) (by decide +kernel)) (by decide +kernel)
theorem fl_X11_240 : Cond.fieldLink "FinerSteps" 240 "FinerSteps$Walk" "number" "I" ∈ BIG := big_1 _ (List.mem_of_getElem? (i := 206) (by decide +kernel)) (by decide +kernel)
theorem fl_X10_37 : Cond.fieldLink "FinerSteps$Walk" 37 "FinerSteps$Walk" "state" "I" ∈ BIG := big_1 _ (List.mem_of_getElem? (i := 207) (by decide +kernel)) (by decide +kernel)
theorem fl_X11_239 : Cond.fieldLink "FinerSteps" 239 "FinerSteps$Walk" "state" "I" ∈ BIG := big_1 _ (List.mem_of_getElem? (i := 208) (by decide +kernel)) (by decide +kernel)
theorem fl_X10_40 : Cond.fieldLink "FinerSteps$Walk" 40 "FinerSteps$Walk" "made" "I" ∈ BIG := big_1 _ (List.mem_of_getElem? (i := 209) (by decide +kernel)) (by decide +kernel)
theorem fl_X11_249 : Cond.fieldLink "FinerSteps" 249 "FinerSteps$Walk" "made" "I" ∈ BIG := big_1 _ (List.mem_of_getElem? (i := 210) (by decide +kernel)) (by decide +kernel)
theorem cl_X11_34 : Cond.classLink "FinerSteps" 34 "FinerSteps$Paths" ∈ BIG := big_1 _ (List.mem_of_getElem? (i := 222) (by decide +kernel)) (by decide +kernel)
theorem ins_X4 : Cond.instantiable "FinerSteps$Paths" 3 ∈ BIG := big_1 _ (List.mem_of_getElem? (i := 223) (by decide +kernel)) (by decide +kernel)
theorem im_yX4_init : Cond.instanceMethod yX4_init ∈ BIG := big_1 _ (List.mem_of_getElem? (i := 225) (by decide +kernel)) (by decide +kernel)
theorem co_yX4_init : Cond.code yX4_init cX4_init 1 none ∈ BIG := big_1 _ (List.mem_of_getElem? (i := 226) (by decide +kernel)) (by decide +kernel)
theorem ml_X4_3 : Cond.methodLink "FinerSteps$Paths" 3 objectInit ∈ BIG := big_1 _ (List.mem_of_getElem? (i := 227) (by decide +kernel)) (by decide +kernel)
theorem fl_X4_9 : Cond.fieldLink "FinerSteps$Paths" 9 "FinerSteps$Paths" "far" "[I" ∈ BIG := big_1 _ (List.mem_of_getElem? (i := 228) (by decide +kernel)) (by decide +kernel)
theorem fl_X11_273 : Cond.fieldLink "FinerSteps" 273 "FinerSteps$Paths" "far" "[I" ∈ BIG := big_1 _ (List.mem_of_getElem? (i := 229) (by decide +kernel)) (by decide +kernel)
theorem fl_X4_15 : Cond.fieldLink "FinerSteps$Paths" 15 "FinerSteps$Paths" "queue" "[I" ∈ BIG := big_1 _ (List.mem_of_getElem? (i := 230) (by decide +kernel)) (by decide +kernel)
theorem fl_X4_24 : Cond.fieldLink "FinerSteps$Paths" 24 "FinerSteps$Paths" "found" "I" ∈ BIG := big_1 _ (List.mem_of_getElem? (i := 231) (by decide +kernel)) (by decide +kernel)
theorem fl_X11_270 : Cond.fieldLink "FinerSteps" 270 "FinerSteps$Paths" "found" "I" ∈ BIG := big_1 _ (List.mem_of_getElem? (i := 232) (by decide +kernel)) (by decide +kernel)
theorem cl_X11_41 : Cond.classLink "FinerSteps" 41 "FinerSteps$Scroll" ∈ BIG := big_2 _ (List.mem_of_getElem? (i := 0) (by decide +kernel)) (by decide +kernel)
theorem ins_X6 : Cond.instantiable "FinerSteps$Scroll" 2 ∈ BIG := big_2 _ (List.mem_of_getElem? (i := 1) (by decide +kernel)) (by decide +kernel)
theorem im_yX6_init : Cond.instanceMethod yX6_init ∈ BIG := big_2 _ (List.mem_of_getElem? (i := 3) (by decide +kernel)) (by decide +kernel)
theorem co_yX6_init : Cond.code yX6_init cX6_init 1 none ∈ BIG := big_2 _ (List.mem_of_getElem? (i := 4) (by decide +kernel)) (by decide +kernel)
theorem ml_X6_3 : Cond.methodLink "FinerSteps$Scroll" 3 objectInit ∈ BIG := big_2 _ (List.mem_of_getElem? (i := 5) (by decide +kernel)) (by decide +kernel)
theorem fl_X6_9 : Cond.fieldLink "FinerSteps$Scroll" 9 "FinerSteps$Scroll" "bytes" "[B" ∈ BIG := big_2 _ (List.mem_of_getElem? (i := 6) (by decide +kernel)) (by decide +kernel)
theorem fl_X11_232 : Cond.fieldLink "FinerSteps" 232 "FinerSteps$Scroll" "bytes" "[B" ∈ BIG := big_2 _ (List.mem_of_getElem? (i := 7) (by decide +kernel)) (by decide +kernel)
theorem fl_X6_15 : Cond.fieldLink "FinerSteps$Scroll" 15 "FinerSteps$Scroll" "count" "I" ∈ BIG := big_2 _ (List.mem_of_getElem? (i := 8) (by decide +kernel)) (by decide +kernel)
theorem fl_X11_231 : Cond.fieldLink "FinerSteps" 231 "FinerSteps$Scroll" "count" "I" ∈ BIG := big_2 _ (List.mem_of_getElem? (i := 9) (by decide +kernel)) (by decide +kernel)
theorem cl_X11_52 : Cond.classLink "FinerSteps" 52 "FinerSteps$Model" ∈ BIG := big_2 _ (List.mem_of_getElem? (i := 15) (by decide +kernel)) (by decide +kernel)
theorem ins_X3 : Cond.instantiable "FinerSteps$Model" 7 ∈ BIG := big_2 _ (List.mem_of_getElem? (i := 16) (by decide +kernel)) (by decide +kernel)
theorem ml_X11_54 : Cond.methodLink "FinerSteps" 54 yX3_init ∈ BIG := big_2 _ (List.mem_of_getElem? (i := 17) (by decide +kernel)) (by decide +kernel)
theorem im_yX3_init : Cond.instanceMethod yX3_init ∈ BIG := big_2 _ (List.mem_of_getElem? (i := 18) (by decide +kernel)) (by decide +kernel)
theorem co_yX3_init : Cond.code yX3_init cX3_init 2 none ∈ BIG := big_2 _ (List.mem_of_getElem? (i := 19) (by decide +kernel)) (by decide +kernel)
theorem ml_X3_3 : Cond.methodLink "FinerSteps$Model" 3 objectInit ∈ BIG := big_2 _ (List.mem_of_getElem? (i := 20) (by decide +kernel)) (by decide +kernel)
theorem cl_X3_9 : Cond.classLink "FinerSteps$Model" 9 "FinerSteps$Machine" ∈ BIG := big_2 _ (List.mem_of_getElem? (i := 21) (by decide +kernel)) (by decide +kernel)
theorem ins_X2 : Cond.instantiable "FinerSteps$Machine" 18 ∈ BIG := big_2 _ (List.mem_of_getElem? (i := 23) (by decide +kernel)) (by decide +kernel)
theorem ml_X3_30 : Cond.methodLink "FinerSteps$Model" 30 yX2_init ∈ BIG := big_2 _ (List.mem_of_getElem? (i := 24) (by decide +kernel)) (by decide +kernel)
theorem im_yX2_init : Cond.instanceMethod yX2_init ∈ BIG := big_2 _ (List.mem_of_getElem? (i := 25) (by decide +kernel)) (by decide +kernel)
theorem co_yX2_init : Cond.code yX2_init cX2_init 2 none ∈ BIG := big_2 _ (List.mem_of_getElem? (i := 26) (by decide +kernel)) (by decide +kernel)
theorem ml_X2_3 : Cond.methodLink "FinerSteps$Machine" 3 objectInit ∈ BIG := big_2 _ (List.mem_of_getElem? (i := 27) (by decide +kernel)) (by decide +kernel)
theorem cl_X2_28 : Cond.classLink "FinerSteps$Machine" 28 "FinerSteps$Event" ∈ BIG := big_2 _ (List.mem_of_getElem? (i := 28) (by decide +kernel)) (by decide +kernel)
theorem cl_X2_38 : Cond.classLink "FinerSteps$Machine" 38 "FinerSteps$StateSet" ∈ BIG := big_2 _ (List.mem_of_getElem? (i := 30) (by decide +kernel)) (by decide +kernel)
theorem cl_X2_47 : Cond.classLink "FinerSteps$Machine" 47 "FinerSteps$Verdict" ∈ BIG := big_2 _ (List.mem_of_getElem? (i := 32) (by decide +kernel)) (by decide +kernel)
theorem ins_X0 : Cond.instantiable "FinerSteps$Event" 11 ∈ BIG := big_2 _ (List.mem_of_getElem? (i := 34) (by decide +kernel)) (by decide +kernel)
theorem im_yX0_init : Cond.instanceMethod yX0_init ∈ BIG := big_2 _ (List.mem_of_getElem? (i := 36) (by decide +kernel)) (by decide +kernel)
theorem co_yX0_init : Cond.code yX0_init cX0_init 1 none ∈ BIG := big_2 _ (List.mem_of_getElem? (i := 37) (by decide +kernel)) (by decide +kernel)
theorem ml_X0_3 : Cond.methodLink "FinerSteps$Event" 3 objectInit ∈ BIG := big_2 _ (List.mem_of_getElem? (i := 38) (by decide +kernel)) (by decide +kernel)
theorem fl_X0_9 : Cond.fieldLink "FinerSteps$Event" 9 "FinerSteps$Event" "giveCode" "[I" ∈ BIG := big_2 _ (List.mem_of_getElem? (i := 39) (by decide +kernel)) (by decide +kernel)
theorem fl_X3_154 : Cond.fieldLink "FinerSteps$Model" 154 "FinerSteps$Event" "giveCode" "[I" ∈ BIG := big_2 _ (List.mem_of_getElem? (i := 40) (by decide +kernel)) (by decide +kernel)
theorem fl_X5_208 : Cond.fieldLink "FinerSteps$Reader" 208 "FinerSteps$Event" "giveCode" "[I" ∈ BIG := big_2 _ (List.mem_of_getElem? (i := 41) (by decide +kernel)) (by decide +kernel)
theorem fl_X0_15 : Cond.fieldLink "FinerSteps$Event" 15 "FinerSteps$Event" "holding" "[I" ∈ BIG := big_2 _ (List.mem_of_getElem? (i := 42) (by decide +kernel)) (by decide +kernel)
theorem fl_X0_18 : Cond.fieldLink "FinerSteps$Event" 18 "FinerSteps$Event" "leading" "[I" ∈ BIG := big_2 _ (List.mem_of_getElem? (i := 43) (by decide +kernel)) (by decide +kernel)
theorem fl_X0_21 : Cond.fieldLink "FinerSteps$Event" 21 "FinerSteps$Event" "given" "[I" ∈ BIG := big_2 _ (List.mem_of_getElem? (i := 44) (by decide +kernel)) (by decide +kernel)
theorem fl_X0_24 : Cond.fieldLink "FinerSteps$Event" 24 "FinerSteps$Event" "name" "J" ∈ BIG := big_2 _ (List.mem_of_getElem? (i := 45) (by decide +kernel)) (by decide +kernel)
theorem fl_X5_185 : Cond.fieldLink "FinerSteps$Reader" 185 "FinerSteps$Event" "name" "J" ∈ BIG := big_2 _ (List.mem_of_getElem? (i := 46) (by decide +kernel)) (by decide +kernel)
theorem fl_X0_28 : Cond.fieldLink "FinerSteps$Event" 28 "FinerSteps$Event" "of" "I" ∈ BIG := big_2 _ (List.mem_of_getElem? (i := 47) (by decide +kernel)) (by decide +kernel)
theorem fl_X1_83 : Cond.fieldLink "FinerSteps$Judge" 83 "FinerSteps$Event" "of" "I" ∈ BIG := big_2 _ (List.mem_of_getElem? (i := 48) (by decide +kernel)) (by decide +kernel)
theorem fl_X10_68 : Cond.fieldLink "FinerSteps$Walk" 68 "FinerSteps$Event" "of" "I" ∈ BIG := big_2 _ (List.mem_of_getElem? (i := 49) (by decide +kernel)) (by decide +kernel)
theorem fl_X2_99 : Cond.fieldLink "FinerSteps$Machine" 99 "FinerSteps$Event" "of" "I" ∈ BIG := big_2 _ (List.mem_of_getElem? (i := 50) (by decide +kernel)) (by decide +kernel)
theorem fl_X5_189 : Cond.fieldLink "FinerSteps$Reader" 189 "FinerSteps$Event" "of" "I" ∈ BIG := big_2 _ (List.mem_of_getElem? (i := 51) (by decide +kernel)) (by decide +kernel)
theorem fl_X0_32 : Cond.fieldLink "FinerSteps$Event" 32 "FinerSteps$Event" "first" "I" ∈ BIG := big_2 _ (List.mem_of_getElem? (i := 52) (by decide +kernel)) (by decide +kernel)
theorem fl_X1_134 : Cond.fieldLink "FinerSteps$Judge" 134 "FinerSteps$Event" "first" "I" ∈ BIG := big_2 _ (List.mem_of_getElem? (i := 53) (by decide +kernel)) (by decide +kernel)
theorem fl_X3_131 : Cond.fieldLink "FinerSteps$Model" 131 "FinerSteps$Event" "first" "I" ∈ BIG := big_2 _ (List.mem_of_getElem? (i := 54) (by decide +kernel)) (by decide +kernel)
theorem fl_X5_192 : Cond.fieldLink "FinerSteps$Reader" 192 "FinerSteps$Event" "first" "I" ∈ BIG := big_2 _ (List.mem_of_getElem? (i := 55) (by decide +kernel)) (by decide +kernel)
theorem fl_X11_177 : Cond.fieldLink "FinerSteps" 177 "FinerSteps$Event" "first" "I" ∈ BIG := big_2 _ (List.mem_of_getElem? (i := 56) (by decide +kernel)) (by decide +kernel)
theorem fl_X0_35 : Cond.fieldLink "FinerSteps$Event" 35 "FinerSteps$Event" "last" "I" ∈ BIG := big_2 _ (List.mem_of_getElem? (i := 57) (by decide +kernel)) (by decide +kernel)
theorem fl_X3_134 : Cond.fieldLink "FinerSteps$Model" 134 "FinerSteps$Event" "last" "I" ∈ BIG := big_2 _ (List.mem_of_getElem? (i := 58) (by decide +kernel)) (by decide +kernel)
theorem fl_X5_195 : Cond.fieldLink "FinerSteps$Reader" 195 "FinerSteps$Event" "last" "I" ∈ BIG := big_2 _ (List.mem_of_getElem? (i := 59) (by decide +kernel)) (by decide +kernel)
theorem fl_X0_38 : Cond.fieldLink "FinerSteps$Event" 38 "FinerSteps$Event" "gives" "I" ∈ BIG := big_2 _ (List.mem_of_getElem? (i := 60) (by decide +kernel)) (by decide +kernel)
theorem fl_X3_151 : Cond.fieldLink "FinerSteps$Model" 151 "FinerSteps$Event" "gives" "I" ∈ BIG := big_2 _ (List.mem_of_getElem? (i := 61) (by decide +kernel)) (by decide +kernel)
theorem fl_X5_205 : Cond.fieldLink "FinerSteps$Reader" 205 "FinerSteps$Event" "gives" "I" ∈ BIG := big_2 _ (List.mem_of_getElem? (i := 62) (by decide +kernel)) (by decide +kernel)
theorem fl_X0_41 : Cond.fieldLink "FinerSteps$Event" 41 "FinerSteps$Event" "whenCode" "I" ∈ BIG := big_2 _ (List.mem_of_getElem? (i := 63) (by decide +kernel)) (by decide +kernel)
theorem fl_X5_179 : Cond.fieldLink "FinerSteps$Reader" 179 "FinerSteps$Event" "whenCode" "I" ∈ BIG := big_2 _ (List.mem_of_getElem? (i := 64) (by decide +kernel)) (by decide +kernel)
theorem fl_X3_137 : Cond.fieldLink "FinerSteps$Model" 137 "FinerSteps$Event" "whenCode" "I" ∈ BIG := big_2 _ (List.mem_of_getElem? (i := 65) (by decide +kernel)) (by decide +kernel)
theorem fl_X0_44 : Cond.fieldLink "FinerSteps$Event" 44 "FinerSteps$Event" "aside" "Z" ∈ BIG := big_2 _ (List.mem_of_getElem? (i := 66) (by decide +kernel)) (by decide +kernel)
theorem fl_X2_102 : Cond.fieldLink "FinerSteps$Machine" 102 "FinerSteps$Event" "aside" "Z" ∈ BIG := big_2 _ (List.mem_of_getElem? (i := 67) (by decide +kernel)) (by decide +kernel)
theorem fl_X11_283 : Cond.fieldLink "FinerSteps" 283 "FinerSteps$Event" "aside" "Z" ∈ BIG := big_2 _ (List.mem_of_getElem? (i := 68) (by decide +kernel)) (by decide +kernel)
theorem ac_boolean : Cond.arrayClass FieldType.boolean ∈ BIG := big_2 _ (List.mem_of_getElem? (i := 92) (by decide +kernel)) (by decide +kernel)
theorem ins_X9 : Cond.instantiable "FinerSteps$Verdict" 5 ∈ BIG := big_2 _ (List.mem_of_getElem? (i := 94) (by decide +kernel)) (by decide +kernel)
theorem im_yX9_init : Cond.instanceMethod yX9_init ∈ BIG := big_2 _ (List.mem_of_getElem? (i := 96) (by decide +kernel)) (by decide +kernel)
theorem co_yX9_init : Cond.code yX9_init cX9_init 1 none ∈ BIG := big_2 _ (List.mem_of_getElem? (i := 97) (by decide +kernel)) (by decide +kernel)
theorem ml_X9_1 : Cond.methodLink "FinerSteps$Verdict" 1 objectInit ∈ BIG := big_2 _ (List.mem_of_getElem? (i := 98) (by decide +kernel)) (by decide +kernel)
theorem fl_X9_7 : Cond.fieldLink "FinerSteps$Verdict" 7 "FinerSteps$Verdict" "known" "Z" ∈ BIG := big_2 _ (List.mem_of_getElem? (i := 99) (by decide +kernel)) (by decide +kernel)
theorem fl_X1_46 : Cond.fieldLink "FinerSteps$Judge" 46 "FinerSteps$Verdict" "known" "Z" ∈ BIG := big_2 _ (List.mem_of_getElem? (i := 100) (by decide +kernel)) (by decide +kernel)
theorem fl_X9_13 : Cond.fieldLink "FinerSteps$Verdict" 13 "FinerSteps$Verdict" "failing" "I" ∈ BIG := big_2 _ (List.mem_of_getElem? (i := 101) (by decide +kernel)) (by decide +kernel)
theorem fl_X1_80 : Cond.fieldLink "FinerSteps$Judge" 80 "FinerSteps$Verdict" "failing" "I" ∈ BIG := big_2 _ (List.mem_of_getElem? (i := 102) (by decide +kernel)) (by decide +kernel)
theorem fl_X11_197 : Cond.fieldLink "FinerSteps" 197 "FinerSteps$Verdict" "failing" "I" ∈ BIG := big_2 _ (List.mem_of_getElem? (i := 103) (by decide +kernel)) (by decide +kernel)
theorem fl_X9_17 : Cond.fieldLink "FinerSteps$Verdict" 17 "FinerSteps$Verdict" "ahead" "I" ∈ BIG := big_2 _ (List.mem_of_getElem? (i := 104) (by decide +kernel)) (by decide +kernel)
theorem fl_X11_202 : Cond.fieldLink "FinerSteps" 202 "FinerSteps$Verdict" "ahead" "I" ∈ BIG := big_2 _ (List.mem_of_getElem? (i := 105) (by decide +kernel)) (by decide +kernel)
theorem fl_X9_20 : Cond.fieldLink "FinerSteps$Verdict" 20 "FinerSteps$Verdict" "state" "I" ∈ BIG := big_2 _ (List.mem_of_getElem? (i := 106) (by decide +kernel)) (by decide +kernel)
theorem fl_X11_205 : Cond.fieldLink "FinerSteps" 205 "FinerSteps$Verdict" "state" "I" ∈ BIG := big_2 _ (List.mem_of_getElem? (i := 107) (by decide +kernel)) (by decide +kernel)
theorem fl_X9_23 : Cond.fieldLink "FinerSteps$Verdict" 23 "FinerSteps$Verdict" "pick" "I" ∈ BIG := big_2 _ (List.mem_of_getElem? (i := 108) (by decide +kernel)) (by decide +kernel)
theorem fl_X11_208 : Cond.fieldLink "FinerSteps" 208 "FinerSteps$Verdict" "pick" "I" ∈ BIG := big_2 _ (List.mem_of_getElem? (i := 109) (by decide +kernel)) (by decide +kernel)
theorem fl_X2_9 : Cond.fieldLink "FinerSteps$Machine" 9 "FinerSteps$Machine" "names" "[J" ∈ BIG := big_2 _ (List.mem_of_getElem? (i := 121) (by decide +kernel)) (by decide +kernel)
theorem fl_X6_24 : Cond.fieldLink "FinerSteps$Scroll" 24 "FinerSteps$Machine" "names" "[J" ∈ BIG := big_2 _ (List.mem_of_getElem? (i := 122) (by decide +kernel)) (by decide +kernel)
theorem fl_X5_121 : Cond.fieldLink "FinerSteps$Reader" 121 "FinerSteps$Machine" "names" "[J" ∈ BIG := big_2 _ (List.mem_of_getElem? (i := 123) (by decide +kernel)) (by decide +kernel)
theorem fl_X11_300 : Cond.fieldLink "FinerSteps" 300 "FinerSteps$Machine" "names" "[J" ∈ BIG := big_2 _ (List.mem_of_getElem? (i := 124) (by decide +kernel)) (by decide +kernel)
theorem fl_X2_15 : Cond.fieldLink "FinerSteps$Machine" 15 "FinerSteps$Machine" "low" "[I" ∈ BIG := big_2 _ (List.mem_of_getElem? (i := 125) (by decide +kernel)) (by decide +kernel)
theorem fl_X5_137 : Cond.fieldLink "FinerSteps$Reader" 137 "FinerSteps$Machine" "low" "[I" ∈ BIG := big_2 _ (List.mem_of_getElem? (i := 126) (by decide +kernel)) (by decide +kernel)
theorem fl_X11_129 : Cond.fieldLink "FinerSteps" 129 "FinerSteps$Machine" "low" "[I" ∈ BIG := big_2 _ (List.mem_of_getElem? (i := 127) (by decide +kernel)) (by decide +kernel)
theorem fl_X2_19 : Cond.fieldLink "FinerSteps$Machine" 19 "FinerSteps$Machine" "high" "[I" ∈ BIG := big_2 _ (List.mem_of_getElem? (i := 128) (by decide +kernel)) (by decide +kernel)
theorem fl_X5_141 : Cond.fieldLink "FinerSteps$Reader" 141 "FinerSteps$Machine" "high" "[I" ∈ BIG := big_2 _ (List.mem_of_getElem? (i := 129) (by decide +kernel)) (by decide +kernel)
theorem fl_X11_132 : Cond.fieldLink "FinerSteps" 132 "FinerSteps$Machine" "high" "[I" ∈ BIG := big_2 _ (List.mem_of_getElem? (i := 130) (by decide +kernel)) (by decide +kernel)
theorem fl_X2_22 : Cond.fieldLink "FinerSteps$Machine" 22 "FinerSteps$Machine" "at" "[I" ∈ BIG := big_2 _ (List.mem_of_getElem? (i := 131) (by decide +kernel)) (by decide +kernel)
theorem fl_X5_144 : Cond.fieldLink "FinerSteps$Reader" 144 "FinerSteps$Machine" "at" "[I" ∈ BIG := big_2 _ (List.mem_of_getElem? (i := 132) (by decide +kernel)) (by decide +kernel)
theorem fl_X11_135 : Cond.fieldLink "FinerSteps" 135 "FinerSteps$Machine" "at" "[I" ∈ BIG := big_2 _ (List.mem_of_getElem? (i := 133) (by decide +kernel)) (by decide +kernel)
theorem fl_X2_25 : Cond.fieldLink "FinerSteps$Machine" 25 "FinerSteps$Machine" "lawCode" "[I" ∈ BIG := big_2 _ (List.mem_of_getElem? (i := 134) (by decide +kernel)) (by decide +kernel)
theorem fl_X5_149 : Cond.fieldLink "FinerSteps$Reader" 149 "FinerSteps$Machine" "lawCode" "[I" ∈ BIG := big_2 _ (List.mem_of_getElem? (i := 135) (by decide +kernel)) (by decide +kernel)
theorem fl_X3_113 : Cond.fieldLink "FinerSteps$Model" 113 "FinerSteps$Machine" "lawCode" "[I" ∈ BIG := big_2 _ (List.mem_of_getElem? (i := 136) (by decide +kernel)) (by decide +kernel)
theorem fl_X2_30 : Cond.fieldLink "FinerSteps$Machine" 30 "FinerSteps$Machine" "event" "[LFinerSteps$Event;" ∈ BIG := big_2 _ (List.mem_of_getElem? (i := 137) (by decide +kernel)) (by decide +kernel)
theorem fl_X5_43 : Cond.fieldLink "FinerSteps$Reader" 43 "FinerSteps$Machine" "event" "[LFinerSteps$Event;" ∈ BIG := big_2 _ (List.mem_of_getElem? (i := 138) (by decide +kernel)) (by decide +kernel)
theorem fl_X4_41 : Cond.fieldLink "FinerSteps$Paths" 41 "FinerSteps$Machine" "event" "[LFinerSteps$Event;" ∈ BIG := big_2 _ (List.mem_of_getElem? (i := 139) (by decide +kernel)) (by decide +kernel)
theorem fl_X1_61 : Cond.fieldLink "FinerSteps$Judge" 61 "FinerSteps$Machine" "event" "[LFinerSteps$Event;" ∈ BIG := big_2 _ (List.mem_of_getElem? (i := 140) (by decide +kernel)) (by decide +kernel)
theorem fl_X10_58 : Cond.fieldLink "FinerSteps$Walk" 58 "FinerSteps$Machine" "event" "[LFinerSteps$Event;" ∈ BIG := big_2 _ (List.mem_of_getElem? (i := 141) (by decide +kernel)) (by decide +kernel)
theorem fl_X3_56 : Cond.fieldLink "FinerSteps$Model" 56 "FinerSteps$Machine" "event" "[LFinerSteps$Event;" ∈ BIG := big_2 _ (List.mem_of_getElem? (i := 142) (by decide +kernel)) (by decide +kernel)
theorem fl_X11_141 : Cond.fieldLink "FinerSteps" 141 "FinerSteps$Machine" "event" "[LFinerSteps$Event;" ∈ BIG := big_2 _ (List.mem_of_getElem? (i := 143) (by decide +kernel)) (by decide +kernel)
theorem fl_X2_34 : Cond.fieldLink "FinerSteps$Machine" 34 "FinerSteps$Machine" "sound" "[Z" ∈ BIG := big_2 _ (List.mem_of_getElem? (i := 144) (by decide +kernel)) (by decide +kernel)
theorem fl_X4_65 : Cond.fieldLink "FinerSteps$Paths" 65 "FinerSteps$Machine" "sound" "[Z" ∈ BIG := big_2 _ (List.mem_of_getElem? (i := 145) (by decide +kernel)) (by decide +kernel)
theorem fl_X3_88 : Cond.fieldLink "FinerSteps$Model" 88 "FinerSteps$Machine" "sound" "[Z" ∈ BIG := big_2 _ (List.mem_of_getElem? (i := 146) (by decide +kernel)) (by decide +kernel)
theorem fl_X11_155 : Cond.fieldLink "FinerSteps" 155 "FinerSteps$Machine" "sound" "[Z" ∈ BIG := big_2 _ (List.mem_of_getElem? (i := 147) (by decide +kernel)) (by decide +kernel)
theorem fl_X1_155 : Cond.fieldLink "FinerSteps$Judge" 155 "FinerSteps$Machine" "sound" "[Z" ∈ BIG := big_2 _ (List.mem_of_getElem? (i := 148) (by decide +kernel)) (by decide +kernel)
theorem fl_X2_40 : Cond.fieldLink "FinerSteps$Machine" 40 "FinerSteps$Machine" "glue" "[LFinerSteps$StateSet;" ∈ BIG := big_2 _ (List.mem_of_getElem? (i := 149) (by decide +kernel)) (by decide +kernel)
theorem fl_X10_50 : Cond.fieldLink "FinerSteps$Walk" 50 "FinerSteps$Machine" "glue" "[LFinerSteps$StateSet;" ∈ BIG := big_2 _ (List.mem_of_getElem? (i := 150) (by decide +kernel)) (by decide +kernel)
theorem fl_X3_96 : Cond.fieldLink "FinerSteps$Model" 96 "FinerSteps$Machine" "glue" "[LFinerSteps$StateSet;" ∈ BIG := big_2 _ (List.mem_of_getElem? (i := 151) (by decide +kernel)) (by decide +kernel)
theorem fl_X1_144 : Cond.fieldLink "FinerSteps$Judge" 144 "FinerSteps$Machine" "glue" "[LFinerSteps$StateSet;" ∈ BIG := big_2 _ (List.mem_of_getElem? (i := 152) (by decide +kernel)) (by decide +kernel)
theorem fl_X11_159 : Cond.fieldLink "FinerSteps" 159 "FinerSteps$Machine" "glue" "[LFinerSteps$StateSet;" ∈ BIG := big_2 _ (List.mem_of_getElem? (i := 153) (by decide +kernel)) (by decide +kernel)
theorem fl_X2_44 : Cond.fieldLink "FinerSteps$Machine" 44 "FinerSteps$Machine" "variants" "[I" ∈ BIG := big_2 _ (List.mem_of_getElem? (i := 154) (by decide +kernel)) (by decide +kernel)
theorem fl_X1_140 : Cond.fieldLink "FinerSteps$Judge" 140 "FinerSteps$Machine" "variants" "[I" ∈ BIG := big_2 _ (List.mem_of_getElem? (i := 155) (by decide +kernel)) (by decide +kernel)
theorem fl_X3_123 : Cond.fieldLink "FinerSteps$Model" 123 "FinerSteps$Machine" "variants" "[I" ∈ BIG := big_2 _ (List.mem_of_getElem? (i := 156) (by decide +kernel)) (by decide +kernel)
theorem fl_X11_186 : Cond.fieldLink "FinerSteps" 186 "FinerSteps$Machine" "variants" "[I" ∈ BIG := big_2 _ (List.mem_of_getElem? (i := 157) (by decide +kernel)) (by decide +kernel)
theorem fl_X2_49 : Cond.fieldLink "FinerSteps$Machine" 49 "FinerSteps$Machine" "verdicts" "[LFinerSteps$Verdict;" ∈ BIG := big_2 _ (List.mem_of_getElem? (i := 158) (by decide +kernel)) (by decide +kernel)
theorem fl_X1_36 : Cond.fieldLink "FinerSteps$Judge" 36 "FinerSteps$Machine" "verdicts" "[LFinerSteps$Verdict;" ∈ BIG := big_2 _ (List.mem_of_getElem? (i := 159) (by decide +kernel)) (by decide +kernel)
theorem fl_X3_67 : Cond.fieldLink "FinerSteps$Model" 67 "FinerSteps$Machine" "verdicts" "[LFinerSteps$Verdict;" ∈ BIG := big_2 _ (List.mem_of_getElem? (i := 160) (by decide +kernel)) (by decide +kernel)
theorem fl_X2_56 : Cond.fieldLink "FinerSteps$Machine" 56 "FinerSteps$Machine" "name" "J" ∈ BIG := big_2 _ (List.mem_of_getElem? (i := 161) (by decide +kernel)) (by decide +kernel)
theorem fl_X11_296 : Cond.fieldLink "FinerSteps" 296 "FinerSteps$Machine" "name" "J" ∈ BIG := big_2 _ (List.mem_of_getElem? (i := 162) (by decide +kernel)) (by decide +kernel)
theorem fl_X2_60 : Cond.fieldLink "FinerSteps$Machine" 60 "FinerSteps$Machine" "variables" "I" ∈ BIG := big_2 _ (List.mem_of_getElem? (i := 163) (by decide +kernel)) (by decide +kernel)
theorem fl_X6_19 : Cond.fieldLink "FinerSteps$Scroll" 19 "FinerSteps$Machine" "variables" "I" ∈ BIG := big_2 _ (List.mem_of_getElem? (i := 164) (by decide +kernel)) (by decide +kernel)
theorem fl_X5_96 : Cond.fieldLink "FinerSteps$Reader" 96 "FinerSteps$Machine" "variables" "I" ∈ BIG := big_2 _ (List.mem_of_getElem? (i := 165) (by decide +kernel)) (by decide +kernel)
theorem fl_X3_148 : Cond.fieldLink "FinerSteps$Model" 148 "FinerSteps$Machine" "variables" "I" ∈ BIG := big_2 _ (List.mem_of_getElem? (i := 166) (by decide +kernel)) (by decide +kernel)
theorem fl_X11_312 : Cond.fieldLink "FinerSteps" 312 "FinerSteps$Machine" "variables" "I" ∈ BIG := big_2 _ (List.mem_of_getElem? (i := 167) (by decide +kernel)) (by decide +kernel)
theorem fl_X2_64 : Cond.fieldLink "FinerSteps$Machine" 64 "FinerSteps$Machine" "states" "I" ∈ BIG := big_2 _ (List.mem_of_getElem? (i := 168) (by decide +kernel)) (by decide +kernel)
theorem fl_X10_71 : Cond.fieldLink "FinerSteps$Walk" 71 "FinerSteps$Machine" "states" "I" ∈ BIG := big_2 _ (List.mem_of_getElem? (i := 169) (by decide +kernel)) (by decide +kernel)
theorem fl_X4_59 : Cond.fieldLink "FinerSteps$Paths" 59 "FinerSteps$Machine" "states" "I" ∈ BIG := big_2 _ (List.mem_of_getElem? (i := 170) (by decide +kernel)) (by decide +kernel)
theorem fl_X3_81 : Cond.fieldLink "FinerSteps$Model" 81 "FinerSteps$Machine" "states" "I" ∈ BIG := big_2 _ (List.mem_of_getElem? (i := 171) (by decide +kernel)) (by decide +kernel)
theorem fl_X1_107 : Cond.fieldLink "FinerSteps$Judge" 107 "FinerSteps$Machine" "states" "I" ∈ BIG := big_2 _ (List.mem_of_getElem? (i := 172) (by decide +kernel)) (by decide +kernel)
theorem fl_X5_134 : Cond.fieldLink "FinerSteps$Reader" 134 "FinerSteps$Machine" "states" "I" ∈ BIG := big_2 _ (List.mem_of_getElem? (i := 173) (by decide +kernel)) (by decide +kernel)
theorem fl_X11_318 : Cond.fieldLink "FinerSteps" 318 "FinerSteps$Machine" "states" "I" ∈ BIG := big_2 _ (List.mem_of_getElem? (i := 174) (by decide +kernel)) (by decide +kernel)
theorem fl_X2_67 : Cond.fieldLink "FinerSteps$Machine" 67 "FinerSteps$Machine" "laws" "I" ∈ BIG := big_2 _ (List.mem_of_getElem? (i := 175) (by decide +kernel)) (by decide +kernel)
theorem fl_X5_146 : Cond.fieldLink "FinerSteps$Reader" 146 "FinerSteps$Machine" "laws" "I" ∈ BIG := big_2 _ (List.mem_of_getElem? (i := 176) (by decide +kernel)) (by decide +kernel)
theorem fl_X3_110 : Cond.fieldLink "FinerSteps$Model" 110 "FinerSteps$Machine" "laws" "I" ∈ BIG := big_2 _ (List.mem_of_getElem? (i := 177) (by decide +kernel)) (by decide +kernel)
theorem fl_X2_70 : Cond.fieldLink "FinerSteps$Machine" 70 "FinerSteps$Machine" "events" "I" ∈ BIG := big_2 _ (List.mem_of_getElem? (i := 178) (by decide +kernel)) (by decide +kernel)
theorem fl_X4_38 : Cond.fieldLink "FinerSteps$Paths" 38 "FinerSteps$Machine" "events" "I" ∈ BIG := big_2 _ (List.mem_of_getElem? (i := 179) (by decide +kernel)) (by decide +kernel)
theorem fl_X1_73 : Cond.fieldLink "FinerSteps$Judge" 73 "FinerSteps$Machine" "events" "I" ∈ BIG := big_2 _ (List.mem_of_getElem? (i := 180) (by decide +kernel)) (by decide +kernel)
theorem fl_X3_53 : Cond.fieldLink "FinerSteps$Model" 53 "FinerSteps$Machine" "events" "I" ∈ BIG := big_2 _ (List.mem_of_getElem? (i := 181) (by decide +kernel)) (by decide +kernel)
theorem fl_X10_101 : Cond.fieldLink "FinerSteps$Walk" 101 "FinerSteps$Machine" "events" "I" ∈ BIG := big_2 _ (List.mem_of_getElem? (i := 182) (by decide +kernel)) (by decide +kernel)
theorem fl_X5_167 : Cond.fieldLink "FinerSteps$Reader" 167 "FinerSteps$Machine" "events" "I" ∈ BIG := big_2 _ (List.mem_of_getElem? (i := 183) (by decide +kernel)) (by decide +kernel)
theorem fl_X11_315 : Cond.fieldLink "FinerSteps" 315 "FinerSteps$Machine" "events" "I" ∈ BIG := big_2 _ (List.mem_of_getElem? (i := 184) (by decide +kernel)) (by decide +kernel)
theorem fl_X2_73 : Cond.fieldLink "FinerSteps$Machine" 73 "FinerSteps$Machine" "variantCode" "I" ∈ BIG := big_2 _ (List.mem_of_getElem? (i := 185) (by decide +kernel)) (by decide +kernel)
theorem fl_X5_161 : Cond.fieldLink "FinerSteps$Reader" 161 "FinerSteps$Machine" "variantCode" "I" ∈ BIG := big_2 _ (List.mem_of_getElem? (i := 186) (by decide +kernel)) (by decide +kernel)
theorem fl_X3_120 : Cond.fieldLink "FinerSteps$Model" 120 "FinerSteps$Machine" "variantCode" "I" ∈ BIG := big_2 _ (List.mem_of_getElem? (i := 187) (by decide +kernel)) (by decide +kernel)
theorem fl_X1_137 : Cond.fieldLink "FinerSteps$Judge" 137 "FinerSteps$Machine" "variantCode" "I" ∈ BIG := big_2 _ (List.mem_of_getElem? (i := 188) (by decide +kernel)) (by decide +kernel)
theorem fl_X11_183 : Cond.fieldLink "FinerSteps" 183 "FinerSteps$Machine" "variantCode" "I" ∈ BIG := big_2 _ (List.mem_of_getElem? (i := 189) (by decide +kernel)) (by decide +kernel)
theorem fl_X2_80 : Cond.fieldLink "FinerSteps$Machine" 80 "FinerSteps$Machine" "soundStates" "I" ∈ BIG := big_2 _ (List.mem_of_getElem? (i := 190) (by decide +kernel)) (by decide +kernel)
theorem fl_X3_75 : Cond.fieldLink "FinerSteps$Model" 75 "FinerSteps$Machine" "soundStates" "I" ∈ BIG := big_2 _ (List.mem_of_getElem? (i := 191) (by decide +kernel)) (by decide +kernel)
theorem fl_X2_83 : Cond.fieldLink "FinerSteps$Machine" 83 "FinerSteps$Machine" "pairs" "I" ∈ BIG := big_2 _ (List.mem_of_getElem? (i := 192) (by decide +kernel)) (by decide +kernel)
theorem fl_X3_78 : Cond.fieldLink "FinerSteps$Model" 78 "FinerSteps$Machine" "pairs" "I" ∈ BIG := big_2 _ (List.mem_of_getElem? (i := 193) (by decide +kernel)) (by decide +kernel)
theorem fl_X3_11 : Cond.fieldLink "FinerSteps$Model" 11 "FinerSteps$Model" "machines" "[LFinerSteps$Machine;" ∈ BIG := big_2 _ (List.mem_of_getElem? (i := 231) (by decide +kernel)) (by decide +kernel)
theorem fl_X1_26 : Cond.fieldLink "FinerSteps$Judge" 26 "FinerSteps$Model" "machines" "[LFinerSteps$Machine;" ∈ BIG := big_2 _ (List.mem_of_getElem? (i := 232) (by decide +kernel)) (by decide +kernel)
theorem fl_X5_35 : Cond.fieldLink "FinerSteps$Reader" 35 "FinerSteps$Model" "machines" "[LFinerSteps$Machine;" ∈ BIG := big_2 _ (List.mem_of_getElem? (i := 233) (by decide +kernel)) (by decide +kernel)
theorem fl_X10_25 : Cond.fieldLink "FinerSteps$Walk" 25 "FinerSteps$Model" "machines" "[LFinerSteps$Machine;" ∈ BIG := big_2 _ (List.mem_of_getElem? (i := 234) (by decide +kernel)) (by decide +kernel)
theorem fl_X11_116 : Cond.fieldLink "FinerSteps" 116 "FinerSteps$Model" "machines" "[LFinerSteps$Machine;" ∈ BIG := big_2 _ (List.mem_of_getElem? (i := 235) (by decide +kernel)) (by decide +kernel)
theorem fl_X3_17 : Cond.fieldLink "FinerSteps$Model" 17 "FinerSteps$Model" "code" "[I" ∈ BIG := big_2 _ (List.mem_of_getElem? (i := 236) (by decide +kernel)) (by decide +kernel)
theorem fl_X3_21 : Cond.fieldLink "FinerSteps$Model" 21 "FinerSteps$Model" "scene" "[I" ∈ BIG := big_2 _ (List.mem_of_getElem? (i := 237) (by decide +kernel)) (by decide +kernel)
theorem fl_X3_24 : Cond.fieldLink "FinerSteps$Model" 24 "FinerSteps$Model" "stack" "[I" ∈ BIG := big_2 _ (List.mem_of_getElem? (i := 238) (by decide +kernel)) (by decide +kernel)
theorem fl_X3_27 : Cond.fieldLink "FinerSteps$Model" 27 "FinerSteps$Model" "nextRow" "[I" ∈ BIG := big_2 _ (List.mem_of_getElem? (i := 239) (by decide +kernel)) (by decide +kernel)
theorem fl_X3_31 : Cond.fieldLink "FinerSteps$Model" 31 "FinerSteps$Model" "count" "I" ∈ BIG := big_3 _ (List.mem_of_getElem? (i := 0) (by decide +kernel)) (by decide +kernel)
theorem fl_X11_106 : Cond.fieldLink "FinerSteps" 106 "FinerSteps$Model" "count" "I" ∈ BIG := big_3 _ (List.mem_of_getElem? (i := 1) (by decide +kernel)) (by decide +kernel)
theorem fl_X5_102 : Cond.fieldLink "FinerSteps$Reader" 102 "FinerSteps$Model" "count" "I" ∈ BIG := big_3 _ (List.mem_of_getElem? (i := 2) (by decide +kernel)) (by decide +kernel)
theorem fl_X3_35 : Cond.fieldLink "FinerSteps$Model" 35 "FinerSteps$Model" "codeSize" "I" ∈ BIG := big_3 _ (List.mem_of_getElem? (i := 3) (by decide +kernel)) (by decide +kernel)
theorem fl_X5_227 : Cond.fieldLink "FinerSteps$Reader" 227 "FinerSteps$Model" "codeSize" "I" ∈ BIG := big_3 _ (List.mem_of_getElem? (i := 4) (by decide +kernel)) (by decide +kernel)
theorem fl_X11_9 : Cond.fieldLink "FinerSteps" 9 "FinerSteps" "tape" "[B" ∈ BIG := big_3 _ (List.mem_of_getElem? (i := 20) (by decide +kernel)) (by decide +kernel)
theorem fl_X11_16 : Cond.fieldLink "FinerSteps" 16 "FinerSteps" "reader" "LFinerSteps$Reader;" ∈ BIG := big_3 _ (List.mem_of_getElem? (i := 21) (by decide +kernel)) (by decide +kernel)
theorem fl_X11_23 : Cond.fieldLink "FinerSteps" 23 "FinerSteps" "judge" "LFinerSteps$Judge;" ∈ BIG := big_3 _ (List.mem_of_getElem? (i := 22) (by decide +kernel)) (by decide +kernel)
theorem fl_X11_30 : Cond.fieldLink "FinerSteps" 30 "FinerSteps" "walk" "LFinerSteps$Walk;" ∈ BIG := big_3 _ (List.mem_of_getElem? (i := 23) (by decide +kernel)) (by decide +kernel)
theorem fl_X11_37 : Cond.fieldLink "FinerSteps" 37 "FinerSteps" "paths" "LFinerSteps$Paths;" ∈ BIG := big_3 _ (List.mem_of_getElem? (i := 24) (by decide +kernel)) (by decide +kernel)
theorem fl_X11_44 : Cond.fieldLink "FinerSteps" 44 "FinerSteps" "scroll" "LFinerSteps$Scroll;" ∈ BIG := big_3 _ (List.mem_of_getElem? (i := 25) (by decide +kernel)) (by decide +kernel)
theorem fl_X11_48 : Cond.fieldLink "FinerSteps" 48 "FinerSteps" "shownCase" "[I" ∈ BIG := big_3 _ (List.mem_of_getElem? (i := 26) (by decide +kernel)) (by decide +kernel)
theorem fl_X11_55 : Cond.fieldLink "FinerSteps" 55 "FinerSteps" "model" "LFinerSteps$Model;" ∈ BIG := big_3 _ (List.mem_of_getElem? (i := 27) (by decide +kernel)) (by decide +kernel)
theorem fl_X11_59 : Cond.fieldLink "FinerSteps" 59 "FinerSteps" "draft" "LFinerSteps$Model;" ∈ BIG := big_3 _ (List.mem_of_getElem? (i := 28) (by decide +kernel)) (by decide +kernel)
theorem fl_X11_62 : Cond.fieldLink "FinerSteps" 62 "FinerSteps" "tapeSize" "I" ∈ BIG := big_3 _ (List.mem_of_getElem? (i := 29) (by decide +kernel)) (by decide +kernel)
theorem fl_X11_66 : Cond.fieldLink "FinerSteps" 66 "FinerSteps" "shownMachine" "I" ∈ BIG := big_3 _ (List.mem_of_getElem? (i := 30) (by decide +kernel)) (by decide +kernel)
theorem fl_X11_69 : Cond.fieldLink "FinerSteps" 69 "FinerSteps" "lastTrouble" "I" ∈ BIG := big_3 _ (List.mem_of_getElem? (i := 31) (by decide +kernel)) (by decide +kernel)
theorem fl_X11_72 : Cond.fieldLink "FinerSteps" 72 "FinerSteps" "lastFault" "I" ∈ BIG := big_3 _ (List.mem_of_getElem? (i := 32) (by decide +kernel)) (by decide +kernel)
theorem fl_X11_75 : Cond.fieldLink "FinerSteps" 75 "FinerSteps" "faultPlace" "I" ∈ BIG := big_3 _ (List.mem_of_getElem? (i := 33) (by decide +kernel)) (by decide +kernel)
theorem ml_L_19 : Cond.methodLink "FinerStepsLaw" 19 yX11_feed ∈ BIG := big_3 _ (List.mem_of_getElem? (i := 63) (by decide +kernel)) (by decide +kernel)
theorem im_yX11_feed : Cond.instanceMethod yX11_feed ∈ BIG := big_3 _ (List.mem_of_getElem? (i := 64) (by decide +kernel)) (by decide +kernel)
theorem se_yX11_feed : Cond.selects "FinerSteps" yX11_feed yX11_feed ∈ BIG := big_3 _ (List.mem_of_getElem? (i := 65) (by decide +kernel)) (by decide +kernel)
theorem co_yX11_feed : Cond.code yX11_feed cX11_feed 6 (some FieldType.int) ∈ BIG := big_3 _ (List.mem_of_getElem? (i := 66) (by decide +kernel)) (by decide +kernel)
theorem ml_X11_78 : Cond.methodLink "FinerSteps" 78 yX11_putBytes ∈ BIG := big_3 _ (List.mem_of_getElem? (i := 67) (by decide +kernel)) (by decide +kernel)
theorem im_yX11_putBytes : Cond.instanceMethod yX11_putBytes ∈ BIG := big_3 _ (List.mem_of_getElem? (i := 69) (by decide +kernel)) (by decide +kernel)
theorem co_yX11_putBytes : Cond.code yX11_putBytes cX11_putBytes 3 none ∈ BIG := big_3 _ (List.mem_of_getElem? (i := 70) (by decide +kernel)) (by decide +kernel)
theorem ml_L_24 : Cond.methodLink "FinerStepsLaw" 24 yX11_machines ∈ BIG := big_3 _ (List.mem_of_getElem? (i := 71) (by decide +kernel)) (by decide +kernel)
theorem im_yX11_machines : Cond.instanceMethod yX11_machines ∈ BIG := big_3 _ (List.mem_of_getElem? (i := 72) (by decide +kernel)) (by decide +kernel)
theorem se_yX11_machines : Cond.selects "FinerSteps" yX11_machines yX11_machines ∈ BIG := big_3 _ (List.mem_of_getElem? (i := 73) (by decide +kernel)) (by decide +kernel)
theorem co_yX11_machines : Cond.code yX11_machines cX11_machines 4 (some FieldType.int) ∈ BIG := big_3 _ (List.mem_of_getElem? (i := 74) (by decide +kernel)) (by decide +kernel)
theorem ml_X11_82 : Cond.methodLink "FinerSteps" 82 yX11_refuse ∈ BIG := big_3 _ (List.mem_of_getElem? (i := 75) (by decide +kernel)) (by decide +kernel)
theorem im_yX11_refuse : Cond.instanceMethod yX11_refuse ∈ BIG := big_3 _ (List.mem_of_getElem? (i := 77) (by decide +kernel)) (by decide +kernel)
theorem co_yX11_refuse : Cond.code yX11_refuse cX11_refuse 2 (some FieldType.int) ∈ BIG := big_3 _ (List.mem_of_getElem? (i := 78) (by decide +kernel)) (by decide +kernel)
theorem ml_X11_86 : Cond.methodLink "FinerSteps" 86 yX5_start ∈ BIG := big_3 _ (List.mem_of_getElem? (i := 79) (by decide +kernel)) (by decide +kernel)
theorem im_yX5_start : Cond.instanceMethod yX5_start ∈ BIG := big_3 _ (List.mem_of_getElem? (i := 80) (by decide +kernel)) (by decide +kernel)
theorem se_yX5_start : Cond.selects "FinerSteps$Reader" yX5_start yX5_start ∈ BIG := big_3 _ (List.mem_of_getElem? (i := 81) (by decide +kernel)) (by decide +kernel)
theorem co_yX5_start : Cond.code yX5_start cX5_start 4 none ∈ BIG := big_3 _ (List.mem_of_getElem? (i := 82) (by decide +kernel)) (by decide +kernel)
theorem ml_X5_22 : Cond.methodLink "FinerSteps$Reader" 22 yX8_cut ∈ BIG := big_3 _ (List.mem_of_getElem? (i := 83) (by decide +kernel)) (by decide +kernel)
theorem im_yX8_cut : Cond.instanceMethod yX8_cut ∈ BIG := big_3 _ (List.mem_of_getElem? (i := 84) (by decide +kernel)) (by decide +kernel)
theorem se_yX8_cut : Cond.selects "FinerSteps$Tokens" yX8_cut yX8_cut ∈ BIG := big_3 _ (List.mem_of_getElem? (i := 85) (by decide +kernel)) (by decide +kernel)
theorem co_yX8_cut : Cond.code yX8_cut cX8_cut 8 none ∈ BIG := big_3 _ (List.mem_of_getElem? (i := 86) (by decide +kernel)) (by decide +kernel)
theorem ml_X8_41 : Cond.methodLink "FinerSteps$Tokens" 41 yX8_familyOf ∈ BIG := big_3 _ (List.mem_of_getElem? (i := 87) (by decide +kernel)) (by decide +kernel)
theorem st_yX8_familyOf : Cond.static yX8_familyOf ∈ BIG := big_3 _ (List.mem_of_getElem? (i := 88) (by decide +kernel)) (by decide +kernel)
theorem co_yX8_familyOf : Cond.code yX8_familyOf cX8_familyOf 1 (some FieldType.int) ∈ BIG := big_3 _ (List.mem_of_getElem? (i := 89) (by decide +kernel)) (by decide +kernel)
theorem ml_X8_45 : Cond.methodLink "FinerSteps$Tokens" 45 yX8_lengthen ∈ BIG := big_3 _ (List.mem_of_getElem? (i := 90) (by decide +kernel)) (by decide +kernel)
theorem im_yX8_lengthen : Cond.instanceMethod yX8_lengthen ∈ BIG := big_3 _ (List.mem_of_getElem? (i := 92) (by decide +kernel)) (by decide +kernel)
theorem co_yX8_lengthen : Cond.code yX8_lengthen cX8_lengthen 4 none ∈ BIG := big_3 _ (List.mem_of_getElem? (i := 93) (by decide +kernel)) (by decide +kernel)
theorem kl_X8_59 : Cond.constantLong "FinerSteps$Tokens" 59 (10 : Int64) ∈ BIG := big_3 _ (List.mem_of_getElem? (i := 94) (by decide +kernel)) (by decide +kernel)
theorem ml_X8_49 : Cond.methodLink "FinerSteps$Tokens" 49 yX8_startToken ∈ BIG := big_3 _ (List.mem_of_getElem? (i := 95) (by decide +kernel)) (by decide +kernel)
theorem im_yX8_startToken : Cond.instanceMethod yX8_startToken ∈ BIG := big_3 _ (List.mem_of_getElem? (i := 97) (by decide +kernel)) (by decide +kernel)
theorem co_yX8_startToken : Cond.code yX8_startToken cX8_startToken 4 none ∈ BIG := big_3 _ (List.mem_of_getElem? (i := 98) (by decide +kernel)) (by decide +kernel)
theorem ml_X8_53 : Cond.methodLink "FinerSteps$Tokens" 53 yX8_kindOfWord ∈ BIG := big_3 _ (List.mem_of_getElem? (i := 99) (by decide +kernel)) (by decide +kernel)
theorem im_yX8_kindOfWord : Cond.instanceMethod yX8_kindOfWord ∈ BIG := big_3 _ (List.mem_of_getElem? (i := 101) (by decide +kernel)) (by decide +kernel)
theorem co_yX8_kindOfWord : Cond.code yX8_kindOfWord cX8_kindOfWord 4 (some FieldType.int) ∈ BIG := big_3 _ (List.mem_of_getElem? (i := 102) (by decide +kernel)) (by decide +kernel)
theorem ml_X5_26 : Cond.methodLink "FinerSteps$Reader" 26 yX3_clear ∈ BIG := big_3 _ (List.mem_of_getElem? (i := 103) (by decide +kernel)) (by decide +kernel)
theorem im_yX3_clear : Cond.instanceMethod yX3_clear ∈ BIG := big_3 _ (List.mem_of_getElem? (i := 104) (by decide +kernel)) (by decide +kernel)
theorem se_yX3_clear : Cond.selects "FinerSteps$Model" yX3_clear yX3_clear ∈ BIG := big_3 _ (List.mem_of_getElem? (i := 105) (by decide +kernel)) (by decide +kernel)
theorem co_yX3_clear : Cond.code yX3_clear cX3_clear 2 none ∈ BIG := big_3 _ (List.mem_of_getElem? (i := 106) (by decide +kernel)) (by decide +kernel)
theorem ml_X3_38 : Cond.methodLink "FinerSteps$Model" 38 yX2_clear ∈ BIG := big_3 _ (List.mem_of_getElem? (i := 107) (by decide +kernel)) (by decide +kernel)
theorem im_yX2_clear : Cond.instanceMethod yX2_clear ∈ BIG := big_3 _ (List.mem_of_getElem? (i := 108) (by decide +kernel)) (by decide +kernel)
theorem se_yX2_clear : Cond.selects "FinerSteps$Machine" yX2_clear yX2_clear ∈ BIG := big_3 _ (List.mem_of_getElem? (i := 109) (by decide +kernel)) (by decide +kernel)
theorem co_yX2_clear : Cond.code yX2_clear cX2_clear 3 none ∈ BIG := big_3 _ (List.mem_of_getElem? (i := 110) (by decide +kernel)) (by decide +kernel)
theorem ml_X11_90 : Cond.methodLink "FinerSteps" 90 yX5_readLines ∈ BIG := big_3 _ (List.mem_of_getElem? (i := 111) (by decide +kernel)) (by decide +kernel)
theorem im_yX5_readLines : Cond.instanceMethod yX5_readLines ∈ BIG := big_3 _ (List.mem_of_getElem? (i := 112) (by decide +kernel)) (by decide +kernel)
theorem se_yX5_readLines : Cond.selects "FinerSteps$Reader" yX5_readLines yX5_readLines ∈ BIG := big_3 _ (List.mem_of_getElem? (i := 113) (by decide +kernel)) (by decide +kernel)
theorem co_yX5_readLines : Cond.code yX5_readLines cX5_readLines 3 (some FieldType.boolean) ∈ BIG := big_3 _ (List.mem_of_getElem? (i := 114) (by decide +kernel)) (by decide +kernel)
theorem ml_X5_65 : Cond.methodLink "FinerSteps$Reader" 65 yX5_kind ∈ BIG := big_3 _ (List.mem_of_getElem? (i := 115) (by decide +kernel)) (by decide +kernel)
theorem im_yX5_kind : Cond.instanceMethod yX5_kind ∈ BIG := big_3 _ (List.mem_of_getElem? (i := 117) (by decide +kernel)) (by decide +kernel)
theorem co_yX5_kind : Cond.code yX5_kind cX5_kind 1 (some FieldType.int) ∈ BIG := big_3 _ (List.mem_of_getElem? (i := 118) (by decide +kernel)) (by decide +kernel)
theorem ml_X5_76 : Cond.methodLink "FinerSteps$Reader" 76 yX5_readMachine ∈ BIG := big_3 _ (List.mem_of_getElem? (i := 119) (by decide +kernel)) (by decide +kernel)
theorem im_yX5_readMachine : Cond.instanceMethod yX5_readMachine ∈ BIG := big_3 _ (List.mem_of_getElem? (i := 121) (by decide +kernel)) (by decide +kernel)
theorem co_yX5_readMachine : Cond.code yX5_readMachine cX5_readMachine 1 (some FieldType.boolean) ∈ BIG := big_3 _ (List.mem_of_getElem? (i := 122) (by decide +kernel)) (by decide +kernel)
theorem ml_X5_92 : Cond.methodLink "FinerSteps$Reader" 92 yX5_fail ∈ BIG := big_3 _ (List.mem_of_getElem? (i := 123) (by decide +kernel)) (by decide +kernel)
theorem im_yX5_fail : Cond.instanceMethod yX5_fail ∈ BIG := big_3 _ (List.mem_of_getElem? (i := 125) (by decide +kernel)) (by decide +kernel)
theorem co_yX5_fail : Cond.code yX5_fail cX5_fail 2 (some FieldType.boolean) ∈ BIG := big_3 _ (List.mem_of_getElem? (i := 126) (by decide +kernel)) (by decide +kernel)
theorem ml_X5_105 : Cond.methodLink "FinerSteps$Reader" 105 yX5_advance ∈ BIG := big_3 _ (List.mem_of_getElem? (i := 127) (by decide +kernel)) (by decide +kernel)
theorem im_yX5_advance : Cond.instanceMethod yX5_advance ∈ BIG := big_3 _ (List.mem_of_getElem? (i := 129) (by decide +kernel)) (by decide +kernel)
theorem co_yX5_advance : Cond.code yX5_advance cX5_advance 1 none ∈ BIG := big_3 _ (List.mem_of_getElem? (i := 130) (by decide +kernel)) (by decide +kernel)
theorem ml_X5_108 : Cond.methodLink "FinerSteps$Reader" 108 yX5_isNewName ∈ BIG := big_3 _ (List.mem_of_getElem? (i := 131) (by decide +kernel)) (by decide +kernel)
theorem im_yX5_isNewName : Cond.instanceMethod yX5_isNewName ∈ BIG := big_3 _ (List.mem_of_getElem? (i := 133) (by decide +kernel)) (by decide +kernel)
theorem co_yX5_isNewName : Cond.code yX5_isNewName cX5_isNewName 2 (some FieldType.boolean) ∈ BIG := big_3 _ (List.mem_of_getElem? (i := 134) (by decide +kernel)) (by decide +kernel)
theorem ml_X5_111 : Cond.methodLink "FinerSteps$Reader" 111 yX5_code ∈ BIG := big_3 _ (List.mem_of_getElem? (i := 135) (by decide +kernel)) (by decide +kernel)
theorem im_yX5_code : Cond.instanceMethod yX5_code ∈ BIG := big_3 _ (List.mem_of_getElem? (i := 137) (by decide +kernel)) (by decide +kernel)
theorem co_yX5_code : Cond.code yX5_code cX5_code 1 (some FieldType.long) ∈ BIG := big_3 _ (List.mem_of_getElem? (i := 138) (by decide +kernel)) (by decide +kernel)
theorem ml_X5_115 : Cond.methodLink "FinerSteps$Reader" 115 yX2_clear ∈ BIG := big_3 _ (List.mem_of_getElem? (i := 139) (by decide +kernel)) (by decide +kernel)
theorem ml_X5_80 : Cond.methodLink "FinerSteps$Reader" 80 yX5_readVariable ∈ BIG := big_3 _ (List.mem_of_getElem? (i := 140) (by decide +kernel)) (by decide +kernel)
theorem im_yX5_readVariable : Cond.instanceMethod yX5_readVariable ∈ BIG := big_3 _ (List.mem_of_getElem? (i := 142) (by decide +kernel)) (by decide +kernel)
theorem co_yX5_readVariable : Cond.code yX5_readVariable cX5_readVariable 2 (some FieldType.boolean) ∈ BIG := big_3 _ (List.mem_of_getElem? (i := 143) (by decide +kernel)) (by decide +kernel)
theorem ml_X5_118 : Cond.methodLink "FinerSteps$Reader" 118 yX2_hasOtherLines ∈ BIG := big_3 _ (List.mem_of_getElem? (i := 144) (by decide +kernel)) (by decide +kernel)
theorem im_yX2_hasOtherLines : Cond.instanceMethod yX2_hasOtherLines ∈ BIG := big_3 _ (List.mem_of_getElem? (i := 145) (by decide +kernel)) (by decide +kernel)
theorem se_yX2_hasOtherLines : Cond.selects "FinerSteps$Machine" yX2_hasOtherLines yX2_hasOtherLines ∈ BIG := big_3 _ (List.mem_of_getElem? (i := 146) (by decide +kernel)) (by decide +kernel)
theorem co_yX2_hasOtherLines : Cond.code yX2_hasOtherLines cX2_hasOtherLines 1 (some FieldType.boolean) ∈ BIG := big_3 _ (List.mem_of_getElem? (i := 147) (by decide +kernel)) (by decide +kernel)
theorem ml_X5_124 : Cond.methodLink "FinerSteps$Reader" 124 yX5_readBounds ∈ BIG := big_3 _ (List.mem_of_getElem? (i := 148) (by decide +kernel)) (by decide +kernel)
theorem im_yX5_readBounds : Cond.instanceMethod yX5_readBounds ∈ BIG := big_3 _ (List.mem_of_getElem? (i := 150) (by decide +kernel)) (by decide +kernel)
theorem co_yX5_readBounds : Cond.code yX5_readBounds cX5_readBounds 5 (some FieldType.boolean) ∈ BIG := big_3 _ (List.mem_of_getElem? (i := 151) (by decide +kernel)) (by decide +kernel)
theorem ml_X5_99 : Cond.methodLink "FinerSteps$Reader" 99 yX5_pass ∈ BIG := big_3 _ (List.mem_of_getElem? (i := 152) (by decide +kernel)) (by decide +kernel)
theorem im_yX5_pass : Cond.instanceMethod yX5_pass ∈ BIG := big_3 _ (List.mem_of_getElem? (i := 154) (by decide +kernel)) (by decide +kernel)
theorem co_yX5_pass : Cond.code yX5_pass cX5_pass 2 (some FieldType.boolean) ∈ BIG := big_3 _ (List.mem_of_getElem? (i := 155) (by decide +kernel)) (by decide +kernel)
theorem ml_X5_127 : Cond.methodLink "FinerSteps$Reader" 127 yX5_isWhole ∈ BIG := big_3 _ (List.mem_of_getElem? (i := 156) (by decide +kernel)) (by decide +kernel)
theorem im_yX5_isWhole : Cond.instanceMethod yX5_isWhole ∈ BIG := big_3 _ (List.mem_of_getElem? (i := 158) (by decide +kernel)) (by decide +kernel)
theorem co_yX5_isWhole : Cond.code yX5_isWhole cX5_isWhole 3 (some FieldType.boolean) ∈ BIG := big_3 _ (List.mem_of_getElem? (i := 159) (by decide +kernel)) (by decide +kernel)
theorem ml_X5_131 : Cond.methodLink "FinerSteps$Reader" 131 yX5_number ∈ BIG := big_3 _ (List.mem_of_getElem? (i := 160) (by decide +kernel)) (by decide +kernel)
theorem im_yX5_number : Cond.instanceMethod yX5_number ∈ BIG := big_3 _ (List.mem_of_getElem? (i := 162) (by decide +kernel)) (by decide +kernel)
theorem co_yX5_number : Cond.code yX5_number cX5_number 1 (some FieldType.int) ∈ BIG := big_3 _ (List.mem_of_getElem? (i := 163) (by decide +kernel)) (by decide +kernel)
theorem ml_X5_83 : Cond.methodLink "FinerSteps$Reader" 83 yX5_readLaw ∈ BIG := big_3 _ (List.mem_of_getElem? (i := 164) (by decide +kernel)) (by decide +kernel)
theorem im_yX5_readLaw : Cond.instanceMethod yX5_readLaw ∈ BIG := big_3 _ (List.mem_of_getElem? (i := 166) (by decide +kernel)) (by decide +kernel)
theorem co_yX5_readLaw : Cond.code yX5_readLaw cX5_readLaw 1 (some FieldType.boolean) ∈ BIG := big_3 _ (List.mem_of_getElem? (i := 167) (by decide +kernel)) (by decide +kernel)
theorem ml_X5_152 : Cond.methodLink "FinerSteps$Reader" 152 yX5_startCode ∈ BIG := big_3 _ (List.mem_of_getElem? (i := 168) (by decide +kernel)) (by decide +kernel)
theorem im_yX5_startCode : Cond.instanceMethod yX5_startCode ∈ BIG := big_3 _ (List.mem_of_getElem? (i := 170) (by decide +kernel)) (by decide +kernel)
theorem co_yX5_startCode : Cond.code yX5_startCode cX5_startCode 1 (some FieldType.int) ∈ BIG := big_3 _ (List.mem_of_getElem? (i := 171) (by decide +kernel)) (by decide +kernel)
theorem ml_X5_155 : Cond.methodLink "FinerSteps$Reader" 155 yX5_readTest ∈ BIG := big_3 _ (List.mem_of_getElem? (i := 172) (by decide +kernel)) (by decide +kernel)
theorem im_yX5_readTest : Cond.instanceMethod yX5_readTest ∈ BIG := big_3 _ (List.mem_of_getElem? (i := 174) (by decide +kernel)) (by decide +kernel)
theorem co_yX5_readTest : Cond.code yX5_readTest cX5_readTest 5 (some FieldType.boolean) ∈ BIG := big_3 _ (List.mem_of_getElem? (i := 175) (by decide +kernel)) (by decide +kernel)
theorem ml_X5_211 : Cond.methodLink "FinerSteps$Reader" 211 yX5_readFact ∈ BIG := big_3 _ (List.mem_of_getElem? (i := 176) (by decide +kernel)) (by decide +kernel)
theorem im_yX5_readFact : Cond.instanceMethod yX5_readFact ∈ BIG := big_3 _ (List.mem_of_getElem? (i := 178) (by decide +kernel)) (by decide +kernel)
theorem co_yX5_readFact : Cond.code yX5_readFact cX5_readFact 4 (some FieldType.boolean) ∈ BIG := big_3 _ (List.mem_of_getElem? (i := 179) (by decide +kernel)) (by decide +kernel)
theorem ml_X5_214 : Cond.methodLink "FinerSteps$Reader" 214 yX3_emit ∈ BIG := big_3 _ (List.mem_of_getElem? (i := 180) (by decide +kernel)) (by decide +kernel)
theorem im_yX3_emit : Cond.instanceMethod yX3_emit ∈ BIG := big_3 _ (List.mem_of_getElem? (i := 181) (by decide +kernel)) (by decide +kernel)
theorem se_yX3_emit : Cond.selects "FinerSteps$Model" yX3_emit yX3_emit ∈ BIG := big_3 _ (List.mem_of_getElem? (i := 182) (by decide +kernel)) (by decide +kernel)
theorem co_yX3_emit : Cond.code yX3_emit cX3_emit 2 none ∈ BIG := big_3 _ (List.mem_of_getElem? (i := 183) (by decide +kernel)) (by decide +kernel)
theorem ml_X5_164 : Cond.methodLink "FinerSteps$Reader" 164 yX5_readSum ∈ BIG := big_3 _ (List.mem_of_getElem? (i := 184) (by decide +kernel)) (by decide +kernel)
theorem im_yX5_readSum : Cond.instanceMethod yX5_readSum ∈ BIG := big_3 _ (List.mem_of_getElem? (i := 186) (by decide +kernel)) (by decide +kernel)
theorem co_yX5_readSum : Cond.code yX5_readSum cX5_readSum 5 (some FieldType.boolean) ∈ BIG := big_3 _ (List.mem_of_getElem? (i := 187) (by decide +kernel)) (by decide +kernel)
theorem ml_X5_218 : Cond.methodLink "FinerSteps$Reader" 218 yX5_readAtom ∈ BIG := big_3 _ (List.mem_of_getElem? (i := 188) (by decide +kernel)) (by decide +kernel)
theorem im_yX5_readAtom : Cond.instanceMethod yX5_readAtom ∈ BIG := big_3 _ (List.mem_of_getElem? (i := 190) (by decide +kernel)) (by decide +kernel)
theorem co_yX5_readAtom : Cond.code yX5_readAtom cX5_readAtom 5 (some FieldType.boolean) ∈ BIG := big_3 _ (List.mem_of_getElem? (i := 191) (by decide +kernel)) (by decide +kernel)
theorem ml_X5_201 : Cond.methodLink "FinerSteps$Reader" 201 yX5_slotOf ∈ BIG := big_3 _ (List.mem_of_getElem? (i := 192) (by decide +kernel)) (by decide +kernel)
theorem im_yX5_slotOf : Cond.instanceMethod yX5_slotOf ∈ BIG := big_3 _ (List.mem_of_getElem? (i := 194) (by decide +kernel)) (by decide +kernel)
theorem co_yX5_slotOf : Cond.code yX5_slotOf cX5_slotOf 5 (some FieldType.int) ∈ BIG := big_3 _ (List.mem_of_getElem? (i := 195) (by decide +kernel)) (by decide +kernel)
theorem ml_X5_221 : Cond.methodLink "FinerSteps$Reader" 221 yX5_joinsAtoms ∈ BIG := big_3 _ (List.mem_of_getElem? (i := 196) (by decide +kernel)) (by decide +kernel)
theorem st_yX5_joinsAtoms : Cond.static yX5_joinsAtoms ∈ BIG := big_3 _ (List.mem_of_getElem? (i := 197) (by decide +kernel)) (by decide +kernel)
theorem co_yX5_joinsAtoms : Cond.code yX5_joinsAtoms cX5_joinsAtoms 1 (some FieldType.boolean) ∈ BIG := big_3 _ (List.mem_of_getElem? (i := 198) (by decide +kernel)) (by decide +kernel)
theorem ml_X5_158 : Cond.methodLink "FinerSteps$Reader" 158 yX5_stopCode ∈ BIG := big_3 _ (List.mem_of_getElem? (i := 199) (by decide +kernel)) (by decide +kernel)
theorem im_yX5_stopCode : Cond.instanceMethod yX5_stopCode ∈ BIG := big_3 _ (List.mem_of_getElem? (i := 201) (by decide +kernel)) (by decide +kernel)
theorem co_yX5_stopCode : Cond.code yX5_stopCode cX5_stopCode 1 (some FieldType.boolean) ∈ BIG := big_3 _ (List.mem_of_getElem? (i := 202) (by decide +kernel)) (by decide +kernel)
theorem ml_X5_86 : Cond.methodLink "FinerSteps$Reader" 86 yX5_readEvent ∈ BIG := big_3 _ (List.mem_of_getElem? (i := 203) (by decide +kernel)) (by decide +kernel)
theorem im_yX5_readEvent : Cond.instanceMethod yX5_readEvent ∈ BIG := big_3 _ (List.mem_of_getElem? (i := 205) (by decide +kernel)) (by decide +kernel)
theorem co_yX5_readEvent : Cond.code yX5_readEvent cX5_readEvent 1 (some FieldType.boolean) ∈ BIG := big_3 _ (List.mem_of_getElem? (i := 206) (by decide +kernel)) (by decide +kernel)
theorem ml_X5_170 : Cond.methodLink "FinerSteps$Reader" 170 yX0_clear ∈ BIG := big_3 _ (List.mem_of_getElem? (i := 207) (by decide +kernel)) (by decide +kernel)
theorem im_yX0_clear : Cond.instanceMethod yX0_clear ∈ BIG := big_3 _ (List.mem_of_getElem? (i := 208) (by decide +kernel)) (by decide +kernel)
theorem se_yX0_clear : Cond.selects "FinerSteps$Event" yX0_clear yX0_clear ∈ BIG := big_3 _ (List.mem_of_getElem? (i := 209) (by decide +kernel)) (by decide +kernel)
theorem co_yX0_clear : Cond.code yX0_clear cX0_clear 3 none ∈ BIG := big_3 _ (List.mem_of_getElem? (i := 210) (by decide +kernel)) (by decide +kernel)
theorem ml_X5_173 : Cond.methodLink "FinerSteps$Reader" 173 yX5_readOf ∈ BIG := big_3 _ (List.mem_of_getElem? (i := 211) (by decide +kernel)) (by decide +kernel)
theorem im_yX5_readOf : Cond.instanceMethod yX5_readOf ∈ BIG := big_3 _ (List.mem_of_getElem? (i := 213) (by decide +kernel)) (by decide +kernel)
theorem co_yX5_readOf : Cond.code yX5_readOf cX5_readOf 3 (some FieldType.boolean) ∈ BIG := big_3 _ (List.mem_of_getElem? (i := 214) (by decide +kernel)) (by decide +kernel)
theorem ml_X5_176 : Cond.methodLink "FinerSteps$Reader" 176 yX5_readPicks ∈ BIG := big_3 _ (List.mem_of_getElem? (i := 215) (by decide +kernel)) (by decide +kernel)
theorem im_yX5_readPicks : Cond.instanceMethod yX5_readPicks ∈ BIG := big_3 _ (List.mem_of_getElem? (i := 217) (by decide +kernel)) (by decide +kernel)
theorem co_yX5_readPicks : Cond.code yX5_readPicks cX5_readPicks 1 (some FieldType.boolean) ∈ BIG := big_3 _ (List.mem_of_getElem? (i := 218) (by decide +kernel)) (by decide +kernel)
theorem ml_X5_182 : Cond.methodLink "FinerSteps$Reader" 182 yX5_readGivings ∈ BIG := big_3 _ (List.mem_of_getElem? (i := 219) (by decide +kernel)) (by decide +kernel)
theorem im_yX5_readGivings : Cond.instanceMethod yX5_readGivings ∈ BIG := big_3 _ (List.mem_of_getElem? (i := 221) (by decide +kernel)) (by decide +kernel)
theorem co_yX5_readGivings : Cond.code yX5_readGivings cX5_readGivings 2 (some FieldType.boolean) ∈ BIG := big_3 _ (List.mem_of_getElem? (i := 222) (by decide +kernel)) (by decide +kernel)
theorem ml_X5_198 : Cond.methodLink "FinerSteps$Reader" 198 yX5_readGiving ∈ BIG := big_3 _ (List.mem_of_getElem? (i := 223) (by decide +kernel)) (by decide +kernel)
theorem im_yX5_readGiving : Cond.instanceMethod yX5_readGiving ∈ BIG := big_3 _ (List.mem_of_getElem? (i := 225) (by decide +kernel)) (by decide +kernel)
theorem co_yX5_readGiving : Cond.code yX5_readGiving cX5_readGiving 2 (some FieldType.boolean) ∈ BIG := big_3 _ (List.mem_of_getElem? (i := 226) (by decide +kernel)) (by decide +kernel)
theorem ml_X5_89 : Cond.methodLink "FinerSteps$Reader" 89 yX5_readVariant ∈ BIG := big_3 _ (List.mem_of_getElem? (i := 227) (by decide +kernel)) (by decide +kernel)
theorem im_yX5_readVariant : Cond.instanceMethod yX5_readVariant ∈ BIG := big_3 _ (List.mem_of_getElem? (i := 229) (by decide +kernel)) (by decide +kernel)
theorem co_yX5_readVariant : Cond.code yX5_readVariant cX5_readVariant 1 (some FieldType.boolean) ∈ BIG := big_3 _ (List.mem_of_getElem? (i := 230) (by decide +kernel)) (by decide +kernel)
theorem ml_X11_100 : Cond.methodLink "FinerSteps" 100 yX3_settle ∈ BIG := big_3 _ (List.mem_of_getElem? (i := 231) (by decide +kernel)) (by decide +kernel)
theorem im_yX3_settle : Cond.instanceMethod yX3_settle ∈ BIG := big_3 _ (List.mem_of_getElem? (i := 232) (by decide +kernel)) (by decide +kernel)
theorem se_yX3_settle : Cond.selects "FinerSteps$Model" yX3_settle yX3_settle ∈ BIG := big_3 _ (List.mem_of_getElem? (i := 233) (by decide +kernel)) (by decide +kernel)
theorem co_yX3_settle : Cond.code yX3_settle cX3_settle 3 none ∈ BIG := big_3 _ (List.mem_of_getElem? (i := 234) (by decide +kernel)) (by decide +kernel)
theorem ml_X3_42 : Cond.methodLink "FinerSteps$Model" 42 yX3_settleFirst ∈ BIG := big_3 _ (List.mem_of_getElem? (i := 235) (by decide +kernel)) (by decide +kernel)
theorem im_yX3_settleFirst : Cond.instanceMethod yX3_settleFirst ∈ BIG := big_3 _ (List.mem_of_getElem? (i := 237) (by decide +kernel)) (by decide +kernel)
theorem co_yX3_settleFirst : Cond.code yX3_settleFirst cX3_settleFirst 3 none ∈ BIG := big_3 _ (List.mem_of_getElem? (i := 238) (by decide +kernel)) (by decide +kernel)
theorem ml_X3_84 : Cond.methodLink "FinerSteps$Model" 84 yX2_spread ∈ BIG := big_3 _ (List.mem_of_getElem? (i := 239) (by decide +kernel)) (by decide +kernel)
theorem im_yX2_spread : Cond.instanceMethod yX2_spread ∈ BIG := big_4 _ (List.mem_of_getElem? (i := 0) (by decide +kernel)) (by decide +kernel)
theorem se_yX2_spread : Cond.selects "FinerSteps$Machine" yX2_spread yX2_spread ∈ BIG := big_4 _ (List.mem_of_getElem? (i := 1) (by decide +kernel)) (by decide +kernel)
theorem co_yX2_spread : Cond.code yX2_spread cX2_spread 7 none ∈ BIG := big_4 _ (List.mem_of_getElem? (i := 2) (by decide +kernel)) (by decide +kernel)
theorem ml_X2_106 : Cond.methodLink "FinerSteps$Machine" 106 yX2_span ∈ BIG := big_4 _ (List.mem_of_getElem? (i := 3) (by decide +kernel)) (by decide +kernel)
theorem im_yX2_span : Cond.instanceMethod yX2_span ∈ BIG := big_4 _ (List.mem_of_getElem? (i := 5) (by decide +kernel)) (by decide +kernel)
theorem co_yX2_span : Cond.code yX2_span cX2_span 2 (some FieldType.int) ∈ BIG := big_4 _ (List.mem_of_getElem? (i := 6) (by decide +kernel)) (by decide +kernel)
theorem ml_X2_93 : Cond.methodLink "FinerSteps$Machine" 93 yJ9_max_7cf53 ∈ BIG := big_4 _ (List.mem_of_getElem? (i := 7) (by decide +kernel)) (by decide +kernel)
theorem st_yJ9_max_7cf53 : Cond.static yJ9_max_7cf53 ∈ BIG := big_4 _ (List.mem_of_getElem? (i := 8) (by decide +kernel)) (by decide +kernel)
theorem co_yJ9_max_7cf53 : Cond.code yJ9_max_7cf53 cJ9_max_7cf53 2 (some FieldType.int) ∈ BIG := big_4 _ (List.mem_of_getElem? (i := 9) (by decide +kernel)) (by decide +kernel)
theorem ml_X3_92 : Cond.methodLink "FinerSteps$Model" 92 yX3_lawsHold ∈ BIG := big_4 _ (List.mem_of_getElem? (i := 10) (by decide +kernel)) (by decide +kernel)
theorem im_yX3_lawsHold : Cond.instanceMethod yX3_lawsHold ∈ BIG := big_4 _ (List.mem_of_getElem? (i := 12) (by decide +kernel)) (by decide +kernel)
theorem co_yX3_lawsHold : Cond.code yX3_lawsHold cX3_lawsHold 3 (some FieldType.boolean) ∈ BIG := big_4 _ (List.mem_of_getElem? (i := 13) (by decide +kernel)) (by decide +kernel)
theorem ml_X3_116 : Cond.methodLink "FinerSteps$Model" 116 yX3_worth ∈ BIG := big_4 _ (List.mem_of_getElem? (i := 14) (by decide +kernel)) (by decide +kernel)
theorem im_yX3_worth : Cond.instanceMethod yX3_worth ∈ BIG := big_4 _ (List.mem_of_getElem? (i := 16) (by decide +kernel)) (by decide +kernel)
theorem co_yX3_worth : Cond.code yX3_worth cX3_worth 5 (some FieldType.int) ∈ BIG := big_4 _ (List.mem_of_getElem? (i := 17) (by decide +kernel)) (by decide +kernel)
theorem ml_X3_161 : Cond.methodLink "FinerSteps$Model" 161 yX3_joined ∈ BIG := big_4 _ (List.mem_of_getElem? (i := 18) (by decide +kernel)) (by decide +kernel)
theorem st_yX3_joined : Cond.static yX3_joined ∈ BIG := big_4 _ (List.mem_of_getElem? (i := 19) (by decide +kernel)) (by decide +kernel)
theorem co_yX3_joined : Cond.code yX3_joined cX3_joined 3 (some FieldType.int) ∈ BIG := big_4 _ (List.mem_of_getElem? (i := 20) (by decide +kernel)) (by decide +kernel)
theorem ml_X3_46 : Cond.methodLink "FinerSteps$Model" 46 yX3_settleGlue ∈ BIG := big_4 _ (List.mem_of_getElem? (i := 21) (by decide +kernel)) (by decide +kernel)
theorem im_yX3_settleGlue : Cond.instanceMethod yX3_settleGlue ∈ BIG := big_4 _ (List.mem_of_getElem? (i := 23) (by decide +kernel)) (by decide +kernel)
theorem co_yX3_settleGlue : Cond.code yX3_settleGlue cX3_settleGlue 6 none ∈ BIG := big_4 _ (List.mem_of_getElem? (i := 24) (by decide +kernel)) (by decide +kernel)
theorem ml_X3_100 : Cond.methodLink "FinerSteps$Model" 100 yX7_clear ∈ BIG := big_4 _ (List.mem_of_getElem? (i := 25) (by decide +kernel)) (by decide +kernel)
theorem im_yX7_clear : Cond.instanceMethod yX7_clear ∈ BIG := big_4 _ (List.mem_of_getElem? (i := 26) (by decide +kernel)) (by decide +kernel)
theorem se_yX7_clear : Cond.selects "FinerSteps$StateSet" yX7_clear yX7_clear ∈ BIG := big_4 _ (List.mem_of_getElem? (i := 27) (by decide +kernel)) (by decide +kernel)
theorem co_yX7_clear : Cond.code yX7_clear cX7_clear 1 none ∈ BIG := big_4 _ (List.mem_of_getElem? (i := 28) (by decide +kernel)) (by decide +kernel)
theorem ml_X3_103 : Cond.methodLink "FinerSteps$Model" 103 yX7_put ∈ BIG := big_4 _ (List.mem_of_getElem? (i := 29) (by decide +kernel)) (by decide +kernel)
theorem im_yX7_put : Cond.instanceMethod yX7_put ∈ BIG := big_4 _ (List.mem_of_getElem? (i := 30) (by decide +kernel)) (by decide +kernel)
theorem se_yX7_put : Cond.selects "FinerSteps$StateSet" yX7_put yX7_put ∈ BIG := big_4 _ (List.mem_of_getElem? (i := 31) (by decide +kernel)) (by decide +kernel)
theorem co_yX7_put : Cond.code yX7_put cX7_put 2 none ∈ BIG := big_4 _ (List.mem_of_getElem? (i := 32) (by decide +kernel)) (by decide +kernel)
theorem ml_X3_107 : Cond.methodLink "FinerSteps$Model" 107 yX7_count ∈ BIG := big_4 _ (List.mem_of_getElem? (i := 33) (by decide +kernel)) (by decide +kernel)
theorem im_yX7_count : Cond.instanceMethod yX7_count ∈ BIG := big_4 _ (List.mem_of_getElem? (i := 34) (by decide +kernel)) (by decide +kernel)
theorem se_yX7_count : Cond.selects "FinerSteps$StateSet" yX7_count yX7_count ∈ BIG := big_4 _ (List.mem_of_getElem? (i := 35) (by decide +kernel)) (by decide +kernel)
theorem co_yX7_count : Cond.code yX7_count cX7_count 1 (some FieldType.int) ∈ BIG := big_4 _ (List.mem_of_getElem? (i := 36) (by decide +kernel)) (by decide +kernel)
theorem ml_X7_18 : Cond.methodLink "FinerSteps$StateSet" 18 yJ13_bitCount_95d88 ∈ BIG := big_4 _ (List.mem_of_getElem? (i := 37) (by decide +kernel)) (by decide +kernel)
theorem st_yJ13_bitCount_95d88 : Cond.static yJ13_bitCount_95d88 ∈ BIG := big_4 _ (List.mem_of_getElem? (i := 38) (by decide +kernel)) (by decide +kernel)
theorem co_yJ13_bitCount_95d88 : Cond.code yJ13_bitCount_95d88 cJ13_bitCount_95d88 2 (some FieldType.int) ∈ BIG := big_4 _ (List.mem_of_getElem? (i := 39) (by decide +kernel)) (by decide +kernel)
theorem kl_J13_314 : Cond.constantLong "java/lang/Long" 314 (6148914691236517205 : Int64) ∈ BIG := big_4 _ (List.mem_of_getElem? (i := 40) (by decide +kernel)) (by decide +kernel)
theorem kl_J13_316 : Cond.constantLong "java/lang/Long" 316 (3689348814741910323 : Int64) ∈ BIG := big_4 _ (List.mem_of_getElem? (i := 41) (by decide +kernel)) (by decide +kernel)
theorem kl_J13_318 : Cond.constantLong "java/lang/Long" 318 (1085102592571150095 : Int64) ∈ BIG := big_4 _ (List.mem_of_getElem? (i := 42) (by decide +kernel)) (by decide +kernel)
theorem ml_X3_50 : Cond.methodLink "FinerSteps$Model" 50 yX3_settleVariants ∈ BIG := big_4 _ (List.mem_of_getElem? (i := 43) (by decide +kernel)) (by decide +kernel)
theorem im_yX3_settleVariants : Cond.instanceMethod yX3_settleVariants ∈ BIG := big_4 _ (List.mem_of_getElem? (i := 45) (by decide +kernel)) (by decide +kernel)
theorem co_yX3_settleVariants : Cond.code yX3_settleVariants cX3_settleVariants 3 none ∈ BIG := big_4 _ (List.mem_of_getElem? (i := 46) (by decide +kernel)) (by decide +kernel)
theorem ml_X3_60 : Cond.methodLink "FinerSteps$Model" 60 yX3_settleEvent ∈ BIG := big_4 _ (List.mem_of_getElem? (i := 47) (by decide +kernel)) (by decide +kernel)
theorem im_yX3_settleEvent : Cond.instanceMethod yX3_settleEvent ∈ BIG := big_4 _ (List.mem_of_getElem? (i := 49) (by decide +kernel)) (by decide +kernel)
theorem co_yX3_settleEvent : Cond.code yX3_settleEvent cX3_settleEvent 6 none ∈ BIG := big_4 _ (List.mem_of_getElem? (i := 50) (by decide +kernel)) (by decide +kernel)
theorem ml_X3_126 : Cond.methodLink "FinerSteps$Model" 126 yX0_forget ∈ BIG := big_4 _ (List.mem_of_getElem? (i := 51) (by decide +kernel)) (by decide +kernel)
theorem im_yX0_forget : Cond.instanceMethod yX0_forget ∈ BIG := big_4 _ (List.mem_of_getElem? (i := 52) (by decide +kernel)) (by decide +kernel)
theorem se_yX0_forget : Cond.selects "FinerSteps$Event" yX0_forget yX0_forget ∈ BIG := big_4 _ (List.mem_of_getElem? (i := 53) (by decide +kernel)) (by decide +kernel)
theorem co_yX0_forget : Cond.code yX0_forget cX0_forget 2 none ∈ BIG := big_4 _ (List.mem_of_getElem? (i := 54) (by decide +kernel)) (by decide +kernel)
theorem ml_X3_140 : Cond.methodLink "FinerSteps$Model" 140 yX3_stateGiven ∈ BIG := big_4 _ (List.mem_of_getElem? (i := 55) (by decide +kernel)) (by decide +kernel)
theorem im_yX3_stateGiven : Cond.instanceMethod yX3_stateGiven ∈ BIG := big_4 _ (List.mem_of_getElem? (i := 57) (by decide +kernel)) (by decide +kernel)
theorem co_yX3_stateGiven : Cond.code yX3_stateGiven cX3_stateGiven 5 (some FieldType.int) ∈ BIG := big_4 _ (List.mem_of_getElem? (i := 58) (by decide +kernel)) (by decide +kernel)
theorem ml_X3_157 : Cond.methodLink "FinerSteps$Model" 157 yX2_stateOf ∈ BIG := big_4 _ (List.mem_of_getElem? (i := 59) (by decide +kernel)) (by decide +kernel)
theorem im_yX2_stateOf : Cond.instanceMethod yX2_stateOf ∈ BIG := big_4 _ (List.mem_of_getElem? (i := 60) (by decide +kernel)) (by decide +kernel)
theorem se_yX2_stateOf : Cond.selects "FinerSteps$Machine" yX2_stateOf yX2_stateOf ∈ BIG := big_4 _ (List.mem_of_getElem? (i := 61) (by decide +kernel)) (by decide +kernel)
theorem co_yX2_stateOf : Cond.code yX2_stateOf cX2_stateOf 6 (some FieldType.int) ∈ BIG := big_4 _ (List.mem_of_getElem? (i := 62) (by decide +kernel)) (by decide +kernel)
theorem ml_X3_144 : Cond.methodLink "FinerSteps$Model" 144 yX0_settleAt ∈ BIG := big_4 _ (List.mem_of_getElem? (i := 63) (by decide +kernel)) (by decide +kernel)
theorem im_yX0_settleAt : Cond.instanceMethod yX0_settleAt ∈ BIG := big_4 _ (List.mem_of_getElem? (i := 64) (by decide +kernel)) (by decide +kernel)
theorem se_yX0_settleAt : Cond.selects "FinerSteps$Event" yX0_settleAt yX0_settleAt ∈ BIG := big_4 _ (List.mem_of_getElem? (i := 65) (by decide +kernel)) (by decide +kernel)
theorem co_yX0_settleAt : Cond.code yX0_settleAt cX0_settleAt 5 none ∈ BIG := big_4 _ (List.mem_of_getElem? (i := 66) (by decide +kernel)) (by decide +kernel)
theorem ml_X3_64 : Cond.methodLink "FinerSteps$Model" 64 yX3_forgetVerdicts ∈ BIG := big_4 _ (List.mem_of_getElem? (i := 67) (by decide +kernel)) (by decide +kernel)
theorem im_yX3_forgetVerdicts : Cond.instanceMethod yX3_forgetVerdicts ∈ BIG := big_4 _ (List.mem_of_getElem? (i := 68) (by decide +kernel)) (by decide +kernel)
theorem se_yX3_forgetVerdicts : Cond.selects "FinerSteps$Model" yX3_forgetVerdicts yX3_forgetVerdicts ∈ BIG := big_4 _ (List.mem_of_getElem? (i := 69) (by decide +kernel)) (by decide +kernel)
theorem co_yX3_forgetVerdicts : Cond.code yX3_forgetVerdicts cX3_forgetVerdicts 3 none ∈ BIG := big_4 _ (List.mem_of_getElem? (i := 70) (by decide +kernel)) (by decide +kernel)
theorem ml_X3_71 : Cond.methodLink "FinerSteps$Model" 71 yX9_clear ∈ BIG := big_4 _ (List.mem_of_getElem? (i := 71) (by decide +kernel)) (by decide +kernel)
theorem im_yX9_clear : Cond.instanceMethod yX9_clear ∈ BIG := big_4 _ (List.mem_of_getElem? (i := 72) (by decide +kernel)) (by decide +kernel)
theorem se_yX9_clear : Cond.selects "FinerSteps$Verdict" yX9_clear yX9_clear ∈ BIG := big_4 _ (List.mem_of_getElem? (i := 73) (by decide +kernel)) (by decide +kernel)
theorem co_yX9_clear : Cond.code yX9_clear cX9_clear 1 none ∈ BIG := big_4 _ (List.mem_of_getElem? (i := 74) (by decide +kernel)) (by decide +kernel)
theorem ml_X11_103 : Cond.methodLink "FinerSteps" 103 yX10_end ∈ BIG := big_4 _ (List.mem_of_getElem? (i := 75) (by decide +kernel)) (by decide +kernel)
theorem im_yX10_end : Cond.instanceMethod yX10_end ∈ BIG := big_4 _ (List.mem_of_getElem? (i := 76) (by decide +kernel)) (by decide +kernel)
theorem se_yX10_end : Cond.selects "FinerSteps$Walk" yX10_end yX10_end ∈ BIG := big_4 _ (List.mem_of_getElem? (i := 77) (by decide +kernel)) (by decide +kernel)
theorem co_yX10_end : Cond.code yX10_end cX10_end 1 none ∈ BIG := big_4 _ (List.mem_of_getElem? (i := 78) (by decide +kernel)) (by decide +kernel)
theorem ml_X11_109 : Cond.methodLink "FinerSteps" 109 yX11_answer ∈ BIG := big_4 _ (List.mem_of_getElem? (i := 79) (by decide +kernel)) (by decide +kernel)
theorem im_yX11_answer : Cond.instanceMethod yX11_answer ∈ BIG := big_4 _ (List.mem_of_getElem? (i := 81) (by decide +kernel)) (by decide +kernel)
theorem co_yX11_answer : Cond.code yX11_answer cX11_answer 2 (some FieldType.int) ∈ BIG := big_4 _ (List.mem_of_getElem? (i := 82) (by decide +kernel)) (by decide +kernel)
theorem ml_L_29 : Cond.methodLink "FinerStepsLaw" 29 yX11_fault ∈ BIG := big_4 _ (List.mem_of_getElem? (i := 83) (by decide +kernel)) (by decide +kernel)
theorem im_yX11_fault : Cond.instanceMethod yX11_fault ∈ BIG := big_4 _ (List.mem_of_getElem? (i := 84) (by decide +kernel)) (by decide +kernel)
theorem se_yX11_fault : Cond.selects "FinerSteps" yX11_fault yX11_fault ∈ BIG := big_4 _ (List.mem_of_getElem? (i := 85) (by decide +kernel)) (by decide +kernel)
theorem co_yX11_fault : Cond.code yX11_fault cX11_fault 1 (some FieldType.int) ∈ BIG := big_4 _ (List.mem_of_getElem? (i := 86) (by decide +kernel)) (by decide +kernel)
theorem ml_L_34 : Cond.methodLink "FinerStepsLaw" 34 yX11_where ∈ BIG := big_4 _ (List.mem_of_getElem? (i := 87) (by decide +kernel)) (by decide +kernel)
theorem im_yX11_where : Cond.instanceMethod yX11_where ∈ BIG := big_4 _ (List.mem_of_getElem? (i := 88) (by decide +kernel)) (by decide +kernel)
theorem se_yX11_where : Cond.selects "FinerSteps" yX11_where yX11_where ∈ BIG := big_4 _ (List.mem_of_getElem? (i := 89) (by decide +kernel)) (by decide +kernel)
theorem co_yX11_where : Cond.code yX11_where cX11_where 1 (some FieldType.int) ∈ BIG := big_4 _ (List.mem_of_getElem? (i := 90) (by decide +kernel)) (by decide +kernel)
theorem ml_L_38 : Cond.methodLink "FinerStepsLaw" 38 yX11_machine ∈ BIG := big_4 _ (List.mem_of_getElem? (i := 91) (by decide +kernel)) (by decide +kernel)
theorem im_yX11_machine : Cond.instanceMethod yX11_machine ∈ BIG := big_4 _ (List.mem_of_getElem? (i := 92) (by decide +kernel)) (by decide +kernel)
theorem se_yX11_machine : Cond.selects "FinerSteps" yX11_machine yX11_machine ∈ BIG := big_4 _ (List.mem_of_getElem? (i := 93) (by decide +kernel)) (by decide +kernel)
theorem co_yX11_machine : Cond.code yX11_machine cX11_machine 3 (some FieldType.int) ∈ BIG := big_4 _ (List.mem_of_getElem? (i := 94) (by decide +kernel)) (by decide +kernel)
theorem ml_X11_112 : Cond.methodLink "FinerSteps" 112 yX11_isMachine ∈ BIG := big_4 _ (List.mem_of_getElem? (i := 95) (by decide +kernel)) (by decide +kernel)
theorem im_yX11_isMachine : Cond.instanceMethod yX11_isMachine ∈ BIG := big_4 _ (List.mem_of_getElem? (i := 97) (by decide +kernel)) (by decide +kernel)
theorem co_yX11_isMachine : Cond.code yX11_isMachine cX11_isMachine 2 (some FieldType.boolean) ∈ BIG := big_4 _ (List.mem_of_getElem? (i := 98) (by decide +kernel)) (by decide +kernel)
theorem ml_X11_120 : Cond.methodLink "FinerSteps" 120 yX2_told ∈ BIG := big_4 _ (List.mem_of_getElem? (i := 99) (by decide +kernel)) (by decide +kernel)
theorem im_yX2_told : Cond.instanceMethod yX2_told ∈ BIG := big_4 _ (List.mem_of_getElem? (i := 100) (by decide +kernel)) (by decide +kernel)
theorem se_yX2_told : Cond.selects "FinerSteps$Machine" yX2_told yX2_told ∈ BIG := big_4 _ (List.mem_of_getElem? (i := 101) (by decide +kernel)) (by decide +kernel)
theorem co_yX2_told : Cond.code yX2_told cX2_told 2 (some FieldType.int) ∈ BIG := big_4 _ (List.mem_of_getElem? (i := 102) (by decide +kernel)) (by decide +kernel)
theorem ml_X2_76 : Cond.methodLink "FinerSteps$Machine" 76 yX2_beginState ∈ BIG := big_4 _ (List.mem_of_getElem? (i := 103) (by decide +kernel)) (by decide +kernel)
theorem im_yX2_beginState : Cond.instanceMethod yX2_beginState ∈ BIG := big_4 _ (List.mem_of_getElem? (i := 104) (by decide +kernel)) (by decide +kernel)
theorem se_yX2_beginState : Cond.selects "FinerSteps$Machine" yX2_beginState yX2_beginState ∈ BIG := big_4 _ (List.mem_of_getElem? (i := 105) (by decide +kernel)) (by decide +kernel)
theorem co_yX2_beginState : Cond.code yX2_beginState cX2_beginState 1 (some FieldType.int) ∈ BIG := big_4 _ (List.mem_of_getElem? (i := 106) (by decide +kernel)) (by decide +kernel)
theorem ml_X2_89 : Cond.methodLink "FinerSteps$Machine" 89 yX2_stateOf ∈ BIG := big_4 _ (List.mem_of_getElem? (i := 107) (by decide +kernel)) (by decide +kernel)
theorem ml_X2_86 : Cond.methodLink "FinerSteps$Machine" 86 yX2_countNew ∈ BIG := big_4 _ (List.mem_of_getElem? (i := 108) (by decide +kernel)) (by decide +kernel)
theorem im_yX2_countNew : Cond.instanceMethod yX2_countNew ∈ BIG := big_4 _ (List.mem_of_getElem? (i := 110) (by decide +kernel)) (by decide +kernel)
theorem co_yX2_countNew : Cond.code yX2_countNew cX2_countNew 3 (some FieldType.int) ∈ BIG := big_4 _ (List.mem_of_getElem? (i := 111) (by decide +kernel)) (by decide +kernel)
theorem ml_L_43 : Cond.methodLink "FinerStepsLaw" 43 yX11_variable ∈ BIG := big_4 _ (List.mem_of_getElem? (i := 112) (by decide +kernel)) (by decide +kernel)
theorem im_yX11_variable : Cond.instanceMethod yX11_variable ∈ BIG := big_4 _ (List.mem_of_getElem? (i := 113) (by decide +kernel)) (by decide +kernel)
theorem se_yX11_variable : Cond.selects "FinerSteps" yX11_variable yX11_variable ∈ BIG := big_4 _ (List.mem_of_getElem? (i := 114) (by decide +kernel)) (by decide +kernel)
theorem co_yX11_variable : Cond.code yX11_variable cX11_variable 5 (some FieldType.int) ∈ BIG := big_4 _ (List.mem_of_getElem? (i := 115) (by decide +kernel)) (by decide +kernel)
theorem ml_X11_125 : Cond.methodLink "FinerSteps" 125 yX11_isVariable ∈ BIG := big_4 _ (List.mem_of_getElem? (i := 116) (by decide +kernel)) (by decide +kernel)
theorem im_yX11_isVariable : Cond.instanceMethod yX11_isVariable ∈ BIG := big_4 _ (List.mem_of_getElem? (i := 118) (by decide +kernel)) (by decide +kernel)
theorem co_yX11_isVariable : Cond.code yX11_isVariable cX11_isVariable 3 (some FieldType.boolean) ∈ BIG := big_4 _ (List.mem_of_getElem? (i := 119) (by decide +kernel)) (by decide +kernel)
theorem ml_L_47 : Cond.methodLink "FinerStepsLaw" 47 yX11_event ∈ BIG := big_4 _ (List.mem_of_getElem? (i := 120) (by decide +kernel)) (by decide +kernel)
theorem im_yX11_event : Cond.instanceMethod yX11_event ∈ BIG := big_4 _ (List.mem_of_getElem? (i := 121) (by decide +kernel)) (by decide +kernel)
theorem se_yX11_event : Cond.selects "FinerSteps" yX11_event yX11_event ∈ BIG := big_4 _ (List.mem_of_getElem? (i := 122) (by decide +kernel)) (by decide +kernel)
theorem co_yX11_event : Cond.code yX11_event cX11_event 4 (some FieldType.int) ∈ BIG := big_4 _ (List.mem_of_getElem? (i := 123) (by decide +kernel)) (by decide +kernel)
theorem ml_X11_138 : Cond.methodLink "FinerSteps" 138 yX11_isEvent ∈ BIG := big_4 _ (List.mem_of_getElem? (i := 124) (by decide +kernel)) (by decide +kernel)
theorem im_yX11_isEvent : Cond.instanceMethod yX11_isEvent ∈ BIG := big_4 _ (List.mem_of_getElem? (i := 126) (by decide +kernel)) (by decide +kernel)
theorem co_yX11_isEvent : Cond.code yX11_isEvent cX11_isEvent 3 (some FieldType.boolean) ∈ BIG := big_4 _ (List.mem_of_getElem? (i := 127) (by decide +kernel)) (by decide +kernel)
theorem ml_X11_145 : Cond.methodLink "FinerSteps" 145 yX0_told ∈ BIG := big_4 _ (List.mem_of_getElem? (i := 128) (by decide +kernel)) (by decide +kernel)
theorem im_yX0_told : Cond.instanceMethod yX0_told ∈ BIG := big_4 _ (List.mem_of_getElem? (i := 129) (by decide +kernel)) (by decide +kernel)
theorem se_yX0_told : Cond.selects "FinerSteps$Event" yX0_told yX0_told ∈ BIG := big_4 _ (List.mem_of_getElem? (i := 130) (by decide +kernel)) (by decide +kernel)
theorem co_yX0_told : Cond.code yX0_told cX0_told 2 (some FieldType.int) ∈ BIG := big_4 _ (List.mem_of_getElem? (i := 131) (by decide +kernel)) (by decide +kernel)
theorem ml_L_51 : Cond.methodLink "FinerStepsLaw" 51 yX11_value ∈ BIG := big_4 _ (List.mem_of_getElem? (i := 132) (by decide +kernel)) (by decide +kernel)
theorem im_yX11_value : Cond.instanceMethod yX11_value ∈ BIG := big_4 _ (List.mem_of_getElem? (i := 133) (by decide +kernel)) (by decide +kernel)
theorem se_yX11_value : Cond.selects "FinerSteps" yX11_value yX11_value ∈ BIG := big_4 _ (List.mem_of_getElem? (i := 134) (by decide +kernel)) (by decide +kernel)
theorem co_yX11_value : Cond.code yX11_value cX11_value 4 (some FieldType.int) ∈ BIG := big_4 _ (List.mem_of_getElem? (i := 135) (by decide +kernel)) (by decide +kernel)
theorem ml_X11_148 : Cond.methodLink "FinerSteps" 148 yX11_isState ∈ BIG := big_4 _ (List.mem_of_getElem? (i := 136) (by decide +kernel)) (by decide +kernel)
theorem im_yX11_isState : Cond.instanceMethod yX11_isState ∈ BIG := big_4 _ (List.mem_of_getElem? (i := 138) (by decide +kernel)) (by decide +kernel)
theorem co_yX11_isState : Cond.code yX11_isState cX11_isState 3 (some FieldType.boolean) ∈ BIG := big_4 _ (List.mem_of_getElem? (i := 139) (by decide +kernel)) (by decide +kernel)
theorem ml_X11_151 : Cond.methodLink "FinerSteps" 151 yX2_number ∈ BIG := big_4 _ (List.mem_of_getElem? (i := 140) (by decide +kernel)) (by decide +kernel)
theorem im_yX2_number : Cond.instanceMethod yX2_number ∈ BIG := big_4 _ (List.mem_of_getElem? (i := 141) (by decide +kernel)) (by decide +kernel)
theorem se_yX2_number : Cond.selects "FinerSteps$Machine" yX2_number yX2_number ∈ BIG := big_4 _ (List.mem_of_getElem? (i := 142) (by decide +kernel)) (by decide +kernel)
theorem co_yX2_number : Cond.code yX2_number cX2_number 5 (some FieldType.int) ∈ BIG := big_4 _ (List.mem_of_getElem? (i := 143) (by decide +kernel)) (by decide +kernel)
theorem ml_L_55 : Cond.methodLink "FinerStepsLaw" 55 yX11_sound ∈ BIG := big_4 _ (List.mem_of_getElem? (i := 144) (by decide +kernel)) (by decide +kernel)
theorem im_yX11_sound : Cond.instanceMethod yX11_sound ∈ BIG := big_4 _ (List.mem_of_getElem? (i := 145) (by decide +kernel)) (by decide +kernel)
theorem se_yX11_sound : Cond.selects "FinerSteps" yX11_sound yX11_sound ∈ BIG := big_4 _ (List.mem_of_getElem? (i := 146) (by decide +kernel)) (by decide +kernel)
theorem co_yX11_sound : Cond.code yX11_sound cX11_sound 3 (some FieldType.int) ∈ BIG := big_4 _ (List.mem_of_getElem? (i := 147) (by decide +kernel)) (by decide +kernel)
theorem ml_L_59 : Cond.methodLink "FinerStepsLaw" 59 yX11_glued ∈ BIG := big_4 _ (List.mem_of_getElem? (i := 148) (by decide +kernel)) (by decide +kernel)
theorem im_yX11_glued : Cond.instanceMethod yX11_glued ∈ BIG := big_4 _ (List.mem_of_getElem? (i := 149) (by decide +kernel)) (by decide +kernel)
theorem se_yX11_glued : Cond.selects "FinerSteps" yX11_glued yX11_glued ∈ BIG := big_4 _ (List.mem_of_getElem? (i := 150) (by decide +kernel)) (by decide +kernel)
theorem co_yX11_glued : Cond.code yX11_glued cX11_glued 4 (some FieldType.int) ∈ BIG := big_4 _ (List.mem_of_getElem? (i := 151) (by decide +kernel)) (by decide +kernel)
theorem ml_X11_163 : Cond.methodLink "FinerSteps" 163 yX7_has ∈ BIG := big_4 _ (List.mem_of_getElem? (i := 152) (by decide +kernel)) (by decide +kernel)
theorem im_yX7_has : Cond.instanceMethod yX7_has ∈ BIG := big_4 _ (List.mem_of_getElem? (i := 153) (by decide +kernel)) (by decide +kernel)
theorem se_yX7_has : Cond.selects "FinerSteps$StateSet" yX7_has yX7_has ∈ BIG := big_4 _ (List.mem_of_getElem? (i := 154) (by decide +kernel)) (by decide +kernel)
theorem co_yX7_has : Cond.code yX7_has cX7_has 4 (some FieldType.boolean) ∈ BIG := big_4 _ (List.mem_of_getElem? (i := 155) (by decide +kernel)) (by decide +kernel)
theorem ml_L_63 : Cond.methodLink "FinerStepsLaw" 63 yX11_beneath ∈ BIG := big_4 _ (List.mem_of_getElem? (i := 156) (by decide +kernel)) (by decide +kernel)
theorem im_yX11_beneath : Cond.instanceMethod yX11_beneath ∈ BIG := big_4 _ (List.mem_of_getElem? (i := 157) (by decide +kernel)) (by decide +kernel)
theorem se_yX11_beneath : Cond.selects "FinerSteps" yX11_beneath yX11_beneath ∈ BIG := big_4 _ (List.mem_of_getElem? (i := 158) (by decide +kernel)) (by decide +kernel)
theorem co_yX11_beneath : Cond.code yX11_beneath cX11_beneath 4 (some FieldType.int) ∈ BIG := big_4 _ (List.mem_of_getElem? (i := 159) (by decide +kernel)) (by decide +kernel)
theorem ml_X11_168 : Cond.methodLink "FinerSteps" 168 yX7_member ∈ BIG := big_4 _ (List.mem_of_getElem? (i := 160) (by decide +kernel)) (by decide +kernel)
theorem im_yX7_member : Cond.instanceMethod yX7_member ∈ BIG := big_4 _ (List.mem_of_getElem? (i := 161) (by decide +kernel)) (by decide +kernel)
theorem se_yX7_member : Cond.selects "FinerSteps$StateSet" yX7_member yX7_member ∈ BIG := big_4 _ (List.mem_of_getElem? (i := 162) (by decide +kernel)) (by decide +kernel)
theorem co_yX7_member : Cond.code yX7_member cX7_member 4 (some FieldType.int) ∈ BIG := big_4 _ (List.mem_of_getElem? (i := 163) (by decide +kernel)) (by decide +kernel)
theorem ml_X7_24 : Cond.methodLink "FinerSteps$StateSet" 24 yX7_has ∈ BIG := big_4 _ (List.mem_of_getElem? (i := 164) (by decide +kernel)) (by decide +kernel)
theorem ml_L_67 : Cond.methodLink "FinerStepsLaw" 67 yX11_can ∈ BIG := big_4 _ (List.mem_of_getElem? (i := 165) (by decide +kernel)) (by decide +kernel)
theorem im_yX11_can : Cond.instanceMethod yX11_can ∈ BIG := big_4 _ (List.mem_of_getElem? (i := 166) (by decide +kernel)) (by decide +kernel)
theorem se_yX11_can : Cond.selects "FinerSteps" yX11_can yX11_can ∈ BIG := big_4 _ (List.mem_of_getElem? (i := 167) (by decide +kernel)) (by decide +kernel)
theorem co_yX11_can : Cond.code yX11_can cX11_can 6 (some FieldType.int) ∈ BIG := big_4 _ (List.mem_of_getElem? (i := 168) (by decide +kernel)) (by decide +kernel)
theorem ml_X11_171 : Cond.methodLink "FinerSteps" 171 yX0_hasPick ∈ BIG := big_4 _ (List.mem_of_getElem? (i := 169) (by decide +kernel)) (by decide +kernel)
theorem im_yX0_hasPick : Cond.instanceMethod yX0_hasPick ∈ BIG := big_4 _ (List.mem_of_getElem? (i := 170) (by decide +kernel)) (by decide +kernel)
theorem se_yX0_hasPick : Cond.selects "FinerSteps$Event" yX0_hasPick yX0_hasPick ∈ BIG := big_4 _ (List.mem_of_getElem? (i := 171) (by decide +kernel)) (by decide +kernel)
theorem co_yX0_hasPick : Cond.code yX0_hasPick cX0_hasPick 2 (some FieldType.boolean) ∈ BIG := big_4 _ (List.mem_of_getElem? (i := 172) (by decide +kernel)) (by decide +kernel)
theorem ml_X11_174 : Cond.methodLink "FinerSteps" 174 yX0_picksAt ∈ BIG := big_4 _ (List.mem_of_getElem? (i := 173) (by decide +kernel)) (by decide +kernel)
theorem im_yX0_picksAt : Cond.instanceMethod yX0_picksAt ∈ BIG := big_4 _ (List.mem_of_getElem? (i := 174) (by decide +kernel)) (by decide +kernel)
theorem se_yX0_picksAt : Cond.selects "FinerSteps$Event" yX0_picksAt yX0_picksAt ∈ BIG := big_4 _ (List.mem_of_getElem? (i := 175) (by decide +kernel)) (by decide +kernel)
theorem co_yX0_picksAt : Cond.code yX0_picksAt cX0_picksAt 2 (some FieldType.int) ∈ BIG := big_4 _ (List.mem_of_getElem? (i := 176) (by decide +kernel)) (by decide +kernel)
theorem ml_L_72 : Cond.methodLink "FinerStepsLaw" 72 yX11_gives ∈ BIG := big_4 _ (List.mem_of_getElem? (i := 177) (by decide +kernel)) (by decide +kernel)
theorem im_yX11_gives : Cond.instanceMethod yX11_gives ∈ BIG := big_4 _ (List.mem_of_getElem? (i := 178) (by decide +kernel)) (by decide +kernel)
theorem se_yX11_gives : Cond.selects "FinerSteps" yX11_gives yX11_gives ∈ BIG := big_4 _ (List.mem_of_getElem? (i := 179) (by decide +kernel)) (by decide +kernel)
theorem co_yX11_gives : Cond.code yX11_gives cX11_gives 6 (some FieldType.int) ∈ BIG := big_4 _ (List.mem_of_getElem? (i := 180) (by decide +kernel)) (by decide +kernel)
theorem ml_X11_180 : Cond.methodLink "FinerSteps" 180 yX0_after ∈ BIG := big_4 _ (List.mem_of_getElem? (i := 181) (by decide +kernel)) (by decide +kernel)
theorem im_yX0_after : Cond.instanceMethod yX0_after ∈ BIG := big_4 _ (List.mem_of_getElem? (i := 182) (by decide +kernel)) (by decide +kernel)
theorem se_yX0_after : Cond.selects "FinerSteps$Event" yX0_after yX0_after ∈ BIG := big_4 _ (List.mem_of_getElem? (i := 183) (by decide +kernel)) (by decide +kernel)
theorem co_yX0_after : Cond.code yX0_after cX0_after 3 (some FieldType.int) ∈ BIG := big_4 _ (List.mem_of_getElem? (i := 184) (by decide +kernel)) (by decide +kernel)
theorem ml_L_76 : Cond.methodLink "FinerStepsLaw" 76 yX11_variant ∈ BIG := big_4 _ (List.mem_of_getElem? (i := 185) (by decide +kernel)) (by decide +kernel)
theorem im_yX11_variant : Cond.instanceMethod yX11_variant ∈ BIG := big_4 _ (List.mem_of_getElem? (i := 186) (by decide +kernel)) (by decide +kernel)
theorem se_yX11_variant : Cond.selects "FinerSteps" yX11_variant yX11_variant ∈ BIG := big_4 _ (List.mem_of_getElem? (i := 187) (by decide +kernel)) (by decide +kernel)
theorem co_yX11_variant : Cond.code yX11_variant cX11_variant 4 (some FieldType.int) ∈ BIG := big_4 _ (List.mem_of_getElem? (i := 188) (by decide +kernel)) (by decide +kernel)
theorem ml_L_80 : Cond.methodLink "FinerStepsLaw" 80 yX11_duty ∈ BIG := big_4 _ (List.mem_of_getElem? (i := 189) (by decide +kernel)) (by decide +kernel)
theorem im_yX11_duty : Cond.instanceMethod yX11_duty ∈ BIG := big_4 _ (List.mem_of_getElem? (i := 190) (by decide +kernel)) (by decide +kernel)
theorem se_yX11_duty : Cond.selects "FinerSteps" yX11_duty yX11_duty ∈ BIG := big_4 _ (List.mem_of_getElem? (i := 191) (by decide +kernel)) (by decide +kernel)
theorem co_yX11_duty : Cond.code yX11_duty cX11_duty 5 (some FieldType.int) ∈ BIG := big_4 _ (List.mem_of_getElem? (i := 192) (by decide +kernel)) (by decide +kernel)
theorem ml_X11_189 : Cond.methodLink "FinerSteps" 189 yX11_isDuty ∈ BIG := big_4 _ (List.mem_of_getElem? (i := 193) (by decide +kernel)) (by decide +kernel)
theorem im_yX11_isDuty : Cond.instanceMethod yX11_isDuty ∈ BIG := big_4 _ (List.mem_of_getElem? (i := 195) (by decide +kernel)) (by decide +kernel)
theorem co_yX11_isDuty : Cond.code yX11_isDuty cX11_isDuty 4 (some FieldType.boolean) ∈ BIG := big_4 _ (List.mem_of_getElem? (i := 196) (by decide +kernel)) (by decide +kernel)
theorem ml_X11_193 : Cond.methodLink "FinerSteps" 193 yX1_verdictOn ∈ BIG := big_4 _ (List.mem_of_getElem? (i := 197) (by decide +kernel)) (by decide +kernel)
theorem im_yX1_verdictOn : Cond.instanceMethod yX1_verdictOn ∈ BIG := big_4 _ (List.mem_of_getElem? (i := 198) (by decide +kernel)) (by decide +kernel)
theorem se_yX1_verdictOn : Cond.selects "FinerSteps$Judge" yX1_verdictOn yX1_verdictOn ∈ BIG := big_4 _ (List.mem_of_getElem? (i := 199) (by decide +kernel)) (by decide +kernel)
theorem co_yX1_verdictOn : Cond.code yX1_verdictOn cX1_verdictOn 6 (some (FieldType.object "FinerSteps$Verdict")) ∈ BIG := big_4 _ (List.mem_of_getElem? (i := 200) (by decide +kernel)) (by decide +kernel)
theorem ml_X1_52 : Cond.methodLink "FinerSteps$Judge" 52 yX9_clear ∈ BIG := big_4 _ (List.mem_of_getElem? (i := 201) (by decide +kernel)) (by decide +kernel)
theorem ml_X1_55 : Cond.methodLink "FinerSteps$Judge" 55 yX1_judgeBegin ∈ BIG := big_4 _ (List.mem_of_getElem? (i := 202) (by decide +kernel)) (by decide +kernel)
theorem im_yX1_judgeBegin : Cond.instanceMethod yX1_judgeBegin ∈ BIG := big_4 _ (List.mem_of_getElem? (i := 204) (by decide +kernel)) (by decide +kernel)
theorem co_yX1_judgeBegin : Cond.code yX1_judgeBegin cX1_judgeBegin 3 none ∈ BIG := big_4 _ (List.mem_of_getElem? (i := 205) (by decide +kernel)) (by decide +kernel)
theorem ml_X1_88 : Cond.methodLink "FinerSteps$Judge" 88 yX2_beginState ∈ BIG := big_4 _ (List.mem_of_getElem? (i := 206) (by decide +kernel)) (by decide +kernel)
theorem ml_X1_92 : Cond.methodLink "FinerSteps$Judge" 92 yX1_paired ∈ BIG := big_4 _ (List.mem_of_getElem? (i := 207) (by decide +kernel)) (by decide +kernel)
theorem im_yX1_paired : Cond.instanceMethod yX1_paired ∈ BIG := big_4 _ (List.mem_of_getElem? (i := 209) (by decide +kernel)) (by decide +kernel)
theorem co_yX1_paired : Cond.code yX1_paired cX1_paired 3 (some FieldType.boolean) ∈ BIG := big_4 _ (List.mem_of_getElem? (i := 210) (by decide +kernel)) (by decide +kernel)
theorem ml_X1_152 : Cond.methodLink "FinerSteps$Judge" 152 yX7_has ∈ BIG := big_4 _ (List.mem_of_getElem? (i := 211) (by decide +kernel)) (by decide +kernel)
theorem ml_X1_96 : Cond.methodLink "FinerSteps$Judge" 96 yX9_note ∈ BIG := big_4 _ (List.mem_of_getElem? (i := 212) (by decide +kernel)) (by decide +kernel)
theorem im_yX9_note : Cond.instanceMethod yX9_note ∈ BIG := big_4 _ (List.mem_of_getElem? (i := 213) (by decide +kernel)) (by decide +kernel)
theorem se_yX9_note : Cond.selects "FinerSteps$Verdict" yX9_note yX9_note ∈ BIG := big_4 _ (List.mem_of_getElem? (i := 214) (by decide +kernel)) (by decide +kernel)
theorem co_yX9_note : Cond.code yX9_note cX9_note 4 none ∈ BIG := big_4 _ (List.mem_of_getElem? (i := 215) (by decide +kernel)) (by decide +kernel)
theorem ml_X1_58 : Cond.methodLink "FinerSteps$Judge" 58 yX1_judgeGoingOn ∈ BIG := big_4 _ (List.mem_of_getElem? (i := 216) (by decide +kernel)) (by decide +kernel)
theorem im_yX1_judgeGoingOn : Cond.instanceMethod yX1_judgeGoingOn ∈ BIG := big_4 _ (List.mem_of_getElem? (i := 218) (by decide +kernel)) (by decide +kernel)
theorem co_yX1_judgeGoingOn : Cond.code yX1_judgeGoingOn cX1_judgeGoingOn 3 none ∈ BIG := big_4 _ (List.mem_of_getElem? (i := 219) (by decide +kernel)) (by decide +kernel)
theorem ml_X1_100 : Cond.methodLink "FinerSteps$Judge" 100 yX1_statesAhead ∈ BIG := big_4 _ (List.mem_of_getElem? (i := 220) (by decide +kernel)) (by decide +kernel)
theorem im_yX1_statesAhead : Cond.instanceMethod yX1_statesAhead ∈ BIG := big_4 _ (List.mem_of_getElem? (i := 222) (by decide +kernel)) (by decide +kernel)
theorem co_yX1_statesAhead : Cond.code yX1_statesAhead cX1_statesAhead 1 (some FieldType.int) ∈ BIG := big_4 _ (List.mem_of_getElem? (i := 223) (by decide +kernel)) (by decide +kernel)
theorem ml_X1_103 : Cond.methodLink "FinerSteps$Judge" 103 yX2_anyCan ∈ BIG := big_4 _ (List.mem_of_getElem? (i := 224) (by decide +kernel)) (by decide +kernel)
theorem im_yX2_anyCan : Cond.instanceMethod yX2_anyCan ∈ BIG := big_4 _ (List.mem_of_getElem? (i := 225) (by decide +kernel)) (by decide +kernel)
theorem se_yX2_anyCan : Cond.selects "FinerSteps$Machine" yX2_anyCan yX2_anyCan ∈ BIG := big_4 _ (List.mem_of_getElem? (i := 226) (by decide +kernel)) (by decide +kernel)
theorem co_yX2_anyCan : Cond.code yX2_anyCan cX2_anyCan 3 (some FieldType.boolean) ∈ BIG := big_4 _ (List.mem_of_getElem? (i := 227) (by decide +kernel)) (by decide +kernel)
theorem ml_X2_110 : Cond.methodLink "FinerSteps$Machine" 110 yX0_picksAt ∈ BIG := big_4 _ (List.mem_of_getElem? (i := 228) (by decide +kernel)) (by decide +kernel)
theorem ml_X1_65 : Cond.methodLink "FinerSteps$Judge" 65 yX1_concerns ∈ BIG := big_4 _ (List.mem_of_getElem? (i := 229) (by decide +kernel)) (by decide +kernel)
theorem im_yX1_concerns : Cond.instanceMethod yX1_concerns ∈ BIG := big_4 _ (List.mem_of_getElem? (i := 231) (by decide +kernel)) (by decide +kernel)
theorem co_yX1_concerns : Cond.code yX1_concerns cX1_concerns 3 (some FieldType.boolean) ∈ BIG := big_4 _ (List.mem_of_getElem? (i := 232) (by decide +kernel)) (by decide +kernel)
theorem ml_X1_69 : Cond.methodLink "FinerSteps$Judge" 69 yX1_judgeEvent ∈ BIG := big_4 _ (List.mem_of_getElem? (i := 233) (by decide +kernel)) (by decide +kernel)
theorem im_yX1_judgeEvent : Cond.instanceMethod yX1_judgeEvent ∈ BIG := big_4 _ (List.mem_of_getElem? (i := 235) (by decide +kernel)) (by decide +kernel)
theorem co_yX1_judgeEvent : Cond.code yX1_judgeEvent cX1_judgeEvent 6 none ∈ BIG := big_4 _ (List.mem_of_getElem? (i := 236) (by decide +kernel)) (by decide +kernel)
theorem ml_X1_110 : Cond.methodLink "FinerSteps$Judge" 110 yX7_clear ∈ BIG := big_4 _ (List.mem_of_getElem? (i := 237) (by decide +kernel)) (by decide +kernel)
theorem ml_X1_111 : Cond.methodLink "FinerSteps$Judge" 111 yX0_putGiven ∈ BIG := big_4 _ (List.mem_of_getElem? (i := 238) (by decide +kernel)) (by decide +kernel)
theorem im_yX0_putGiven : Cond.instanceMethod yX0_putGiven ∈ BIG := big_4 _ (List.mem_of_getElem? (i := 239) (by decide +kernel)) (by decide +kernel)
theorem se_yX0_putGiven : Cond.selects "FinerSteps$Event" yX0_putGiven yX0_putGiven ∈ BIG := big_5 _ (List.mem_of_getElem? (i := 0) (by decide +kernel)) (by decide +kernel)
theorem co_yX0_putGiven : Cond.code yX0_putGiven cX0_putGiven 5 none ∈ BIG := big_5 _ (List.mem_of_getElem? (i := 1) (by decide +kernel)) (by decide +kernel)
theorem ml_X0_48 : Cond.methodLink "FinerSteps$Event" 48 yX0_stepsAt ∈ BIG := big_5 _ (List.mem_of_getElem? (i := 2) (by decide +kernel)) (by decide +kernel)
theorem im_yX0_stepsAt : Cond.instanceMethod yX0_stepsAt ∈ BIG := big_5 _ (List.mem_of_getElem? (i := 3) (by decide +kernel)) (by decide +kernel)
theorem se_yX0_stepsAt : Cond.selects "FinerSteps$Event" yX0_stepsAt yX0_stepsAt ∈ BIG := big_5 _ (List.mem_of_getElem? (i := 4) (by decide +kernel)) (by decide +kernel)
theorem co_yX0_stepsAt : Cond.code yX0_stepsAt cX0_stepsAt 2 (some FieldType.int) ∈ BIG := big_5 _ (List.mem_of_getElem? (i := 5) (by decide +kernel)) (by decide +kernel)
theorem ml_X0_52 : Cond.methodLink "FinerSteps$Event" 52 yX0_after ∈ BIG := big_5 _ (List.mem_of_getElem? (i := 6) (by decide +kernel)) (by decide +kernel)
theorem ml_X0_56 : Cond.methodLink "FinerSteps$Event" 56 yX7_put ∈ BIG := big_5 _ (List.mem_of_getElem? (i := 7) (by decide +kernel)) (by decide +kernel)
theorem ml_X1_115 : Cond.methodLink "FinerSteps$Judge" 115 yX0_picksAt ∈ BIG := big_5 _ (List.mem_of_getElem? (i := 8) (by decide +kernel)) (by decide +kernel)
theorem ml_X1_119 : Cond.methodLink "FinerSteps$Judge" 119 yX1_judgePicks ∈ BIG := big_5 _ (List.mem_of_getElem? (i := 9) (by decide +kernel)) (by decide +kernel)
theorem im_yX1_judgePicks : Cond.instanceMethod yX1_judgePicks ∈ BIG := big_5 _ (List.mem_of_getElem? (i := 11) (by decide +kernel)) (by decide +kernel)
theorem co_yX1_judgePicks : Cond.code yX1_judgePicks cX1_judgePicks 9 none ∈ BIG := big_5 _ (List.mem_of_getElem? (i := 12) (by decide +kernel)) (by decide +kernel)
theorem ml_X1_123 : Cond.methodLink "FinerSteps$Judge" 123 yX0_after ∈ BIG := big_5 _ (List.mem_of_getElem? (i := 13) (by decide +kernel)) (by decide +kernel)
theorem ml_X1_127 : Cond.methodLink "FinerSteps$Judge" 127 yX1_lessens ∈ BIG := big_5 _ (List.mem_of_getElem? (i := 14) (by decide +kernel)) (by decide +kernel)
theorem im_yX1_lessens : Cond.instanceMethod yX1_lessens ∈ BIG := big_5 _ (List.mem_of_getElem? (i := 16) (by decide +kernel)) (by decide +kernel)
theorem co_yX1_lessens : Cond.code yX1_lessens cX1_lessens 3 (some FieldType.boolean) ∈ BIG := big_5 _ (List.mem_of_getElem? (i := 17) (by decide +kernel)) (by decide +kernel)
theorem ml_X1_130 : Cond.methodLink "FinerSteps$Judge" 130 yX1_keeps ∈ BIG := big_5 _ (List.mem_of_getElem? (i := 18) (by decide +kernel)) (by decide +kernel)
theorem im_yX1_keeps : Cond.instanceMethod yX1_keeps ∈ BIG := big_5 _ (List.mem_of_getElem? (i := 20) (by decide +kernel)) (by decide +kernel)
theorem co_yX1_keeps : Cond.code yX1_keeps cX1_keeps 4 (some FieldType.boolean) ∈ BIG := big_5 _ (List.mem_of_getElem? (i := 21) (by decide +kernel)) (by decide +kernel)
theorem ml_X1_148 : Cond.methodLink "FinerSteps$Judge" 148 yX7_meets ∈ BIG := big_5 _ (List.mem_of_getElem? (i := 22) (by decide +kernel)) (by decide +kernel)
theorem im_yX7_meets : Cond.instanceMethod yX7_meets ∈ BIG := big_5 _ (List.mem_of_getElem? (i := 23) (by decide +kernel)) (by decide +kernel)
theorem se_yX7_meets : Cond.selects "FinerSteps$StateSet" yX7_meets yX7_meets ∈ BIG := big_5 _ (List.mem_of_getElem? (i := 24) (by decide +kernel)) (by decide +kernel)
theorem co_yX7_meets : Cond.code yX7_meets cX7_meets 2 (some FieldType.boolean) ∈ BIG := big_5 _ (List.mem_of_getElem? (i := 25) (by decide +kernel)) (by decide +kernel)
theorem ml_L_84 : Cond.methodLink "FinerStepsLaw" 84 yX11_shown ∈ BIG := big_5 _ (List.mem_of_getElem? (i := 26) (by decide +kernel)) (by decide +kernel)
theorem im_yX11_shown : Cond.instanceMethod yX11_shown ∈ BIG := big_5 _ (List.mem_of_getElem? (i := 27) (by decide +kernel)) (by decide +kernel)
theorem se_yX11_shown : Cond.selects "FinerSteps" yX11_shown yX11_shown ∈ BIG := big_5 _ (List.mem_of_getElem? (i := 28) (by decide +kernel)) (by decide +kernel)
theorem co_yX11_shown : Cond.code yX11_shown cX11_shown 2 (some FieldType.int) ∈ BIG := big_5 _ (List.mem_of_getElem? (i := 29) (by decide +kernel)) (by decide +kernel)
theorem ml_L_88 : Cond.methodLink "FinerStepsLaw" 88 yX11_open ∈ BIG := big_5 _ (List.mem_of_getElem? (i := 30) (by decide +kernel)) (by decide +kernel)
theorem im_yX11_open : Cond.instanceMethod yX11_open ∈ BIG := big_5 _ (List.mem_of_getElem? (i := 31) (by decide +kernel)) (by decide +kernel)
theorem se_yX11_open : Cond.selects "FinerSteps" yX11_open yX11_open ∈ BIG := big_5 _ (List.mem_of_getElem? (i := 32) (by decide +kernel)) (by decide +kernel)
theorem co_yX11_open : Cond.code yX11_open cX11_open 2 (some FieldType.int) ∈ BIG := big_5 _ (List.mem_of_getElem? (i := 33) (by decide +kernel)) (by decide +kernel)
theorem ml_X11_211 : Cond.methodLink "FinerSteps" 211 yX1_countOpen ∈ BIG := big_5 _ (List.mem_of_getElem? (i := 34) (by decide +kernel)) (by decide +kernel)
theorem im_yX1_countOpen : Cond.instanceMethod yX1_countOpen ∈ BIG := big_5 _ (List.mem_of_getElem? (i := 35) (by decide +kernel)) (by decide +kernel)
theorem se_yX1_countOpen : Cond.selects "FinerSteps$Judge" yX1_countOpen yX1_countOpen ∈ BIG := big_5 _ (List.mem_of_getElem? (i := 36) (by decide +kernel)) (by decide +kernel)
theorem co_yX1_countOpen : Cond.code yX1_countOpen cX1_countOpen 6 (some FieldType.int) ∈ BIG := big_5 _ (List.mem_of_getElem? (i := 37) (by decide +kernel)) (by decide +kernel)
theorem ml_X1_76 : Cond.methodLink "FinerSteps$Judge" 76 yX1_verdictOn ∈ BIG := big_5 _ (List.mem_of_getElem? (i := 38) (by decide +kernel)) (by decide +kernel)
theorem ml_L_92 : Cond.methodLink "FinerStepsLaw" 92 yX11_cases ∈ BIG := big_5 _ (List.mem_of_getElem? (i := 39) (by decide +kernel)) (by decide +kernel)
theorem im_yX11_cases : Cond.instanceMethod yX11_cases ∈ BIG := big_5 _ (List.mem_of_getElem? (i := 40) (by decide +kernel)) (by decide +kernel)
theorem se_yX11_cases : Cond.selects "FinerSteps" yX11_cases yX11_cases ∈ BIG := big_5 _ (List.mem_of_getElem? (i := 41) (by decide +kernel)) (by decide +kernel)
theorem co_yX11_cases : Cond.code yX11_cases cX11_cases 4 (some FieldType.int) ∈ BIG := big_5 _ (List.mem_of_getElem? (i := 42) (by decide +kernel)) (by decide +kernel)
theorem ml_L_96 : Cond.methodLink "FinerStepsLaw" 96 yX11_write ∈ BIG := big_5 _ (List.mem_of_getElem? (i := 43) (by decide +kernel)) (by decide +kernel)
theorem im_yX11_write : Cond.instanceMethod yX11_write ∈ BIG := big_5 _ (List.mem_of_getElem? (i := 44) (by decide +kernel)) (by decide +kernel)
theorem se_yX11_write : Cond.selects "FinerSteps" yX11_write yX11_write ∈ BIG := big_5 _ (List.mem_of_getElem? (i := 45) (by decide +kernel)) (by decide +kernel)
theorem co_yX11_write : Cond.code yX11_write cX11_write 1 (some FieldType.int) ∈ BIG := big_5 _ (List.mem_of_getElem? (i := 46) (by decide +kernel)) (by decide +kernel)
theorem ml_X11_215 : Cond.methodLink "FinerSteps" 215 yX6_clear ∈ BIG := big_5 _ (List.mem_of_getElem? (i := 47) (by decide +kernel)) (by decide +kernel)
theorem im_yX6_clear : Cond.instanceMethod yX6_clear ∈ BIG := big_5 _ (List.mem_of_getElem? (i := 48) (by decide +kernel)) (by decide +kernel)
theorem se_yX6_clear : Cond.selects "FinerSteps$Scroll" yX6_clear yX6_clear ∈ BIG := big_5 _ (List.mem_of_getElem? (i := 49) (by decide +kernel)) (by decide +kernel)
theorem co_yX6_clear : Cond.code yX6_clear cX6_clear 1 none ∈ BIG := big_5 _ (List.mem_of_getElem? (i := 50) (by decide +kernel)) (by decide +kernel)
theorem ml_X11_218 : Cond.methodLink "FinerSteps" 218 yX6_putState ∈ BIG := big_5 _ (List.mem_of_getElem? (i := 51) (by decide +kernel)) (by decide +kernel)
theorem im_yX6_putState : Cond.instanceMethod yX6_putState ∈ BIG := big_5 _ (List.mem_of_getElem? (i := 52) (by decide +kernel)) (by decide +kernel)
theorem se_yX6_putState : Cond.selects "FinerSteps$Scroll" yX6_putState yX6_putState ∈ BIG := big_5 _ (List.mem_of_getElem? (i := 53) (by decide +kernel)) (by decide +kernel)
theorem co_yX6_putState : Cond.code yX6_putState cX6_putState 8 none ∈ BIG := big_5 _ (List.mem_of_getElem? (i := 54) (by decide +kernel)) (by decide +kernel)
theorem st_yX11_lengthOf : Cond.static yX11_lengthOf ∈ BIG := big_5 _ (List.mem_of_getElem? (i := 56) (by decide +kernel)) (by decide +kernel)
theorem co_yX11_lengthOf : Cond.code yX11_lengthOf cX11_lengthOf 4 (some FieldType.int) ∈ BIG := big_5 _ (List.mem_of_getElem? (i := 57) (by decide +kernel)) (by decide +kernel)
theorem st_yX11_letterOf : Cond.static yX11_letterOf ∈ BIG := big_5 _ (List.mem_of_getElem? (i := 59) (by decide +kernel)) (by decide +kernel)
theorem co_yX11_letterOf : Cond.code yX11_letterOf cX11_letterOf 4 (some FieldType.int) ∈ BIG := big_5 _ (List.mem_of_getElem? (i := 60) (by decide +kernel)) (by decide +kernel)
theorem ml_X11_304 : Cond.methodLink "FinerSteps" 304 yX11_lengthOf ∈ BIG := big_5 _ (List.mem_of_getElem? (i := 61) (by decide +kernel)) (by decide +kernel)
theorem kl_X11_321 : Cond.constantLong "FinerSteps" 321 (31 : Int64) ∈ BIG := big_5 _ (List.mem_of_getElem? (i := 62) (by decide +kernel)) (by decide +kernel)
theorem ml_X6_36 : Cond.methodLink "FinerSteps$Scroll" 36 yX6_put ∈ BIG := big_5 _ (List.mem_of_getElem? (i := 63) (by decide +kernel)) (by decide +kernel)
theorem im_yX6_put : Cond.instanceMethod yX6_put ∈ BIG := big_5 _ (List.mem_of_getElem? (i := 65) (by decide +kernel)) (by decide +kernel)
theorem co_yX6_put : Cond.code yX6_put cX6_put 2 none ∈ BIG := big_5 _ (List.mem_of_getElem? (i := 66) (by decide +kernel)) (by decide +kernel)
theorem ml_X6_40 : Cond.methodLink "FinerSteps$Scroll" 40 yX2_number ∈ BIG := big_5 _ (List.mem_of_getElem? (i := 67) (by decide +kernel)) (by decide +kernel)
theorem ml_X6_44 : Cond.methodLink "FinerSteps$Scroll" 44 yX6_putNumber ∈ BIG := big_5 _ (List.mem_of_getElem? (i := 68) (by decide +kernel)) (by decide +kernel)
theorem im_yX6_putNumber : Cond.instanceMethod yX6_putNumber ∈ BIG := big_5 _ (List.mem_of_getElem? (i := 69) (by decide +kernel)) (by decide +kernel)
theorem se_yX6_putNumber : Cond.selects "FinerSteps$Scroll" yX6_putNumber yX6_putNumber ∈ BIG := big_5 _ (List.mem_of_getElem? (i := 70) (by decide +kernel)) (by decide +kernel)
theorem co_yX6_putNumber : Cond.code yX6_putNumber cX6_putNumber 2 none ∈ BIG := big_5 _ (List.mem_of_getElem? (i := 71) (by decide +kernel)) (by decide +kernel)
theorem ml_X11_224 : Cond.methodLink "FinerSteps" 224 yX6_putText ∈ BIG := big_5 _ (List.mem_of_getElem? (i := 73) (by decide +kernel)) (by decide +kernel)
theorem im_yX6_putText : Cond.instanceMethod yX6_putText ∈ BIG := big_5 _ (List.mem_of_getElem? (i := 74) (by decide +kernel)) (by decide +kernel)
theorem se_yX6_putText : Cond.selects "FinerSteps$Scroll" yX6_putText yX6_putText ∈ BIG := big_5 _ (List.mem_of_getElem? (i := 75) (by decide +kernel)) (by decide +kernel)
theorem co_yX6_putText : Cond.code yX6_putText cX6_putText 3 none ∈ BIG := big_5 _ (List.mem_of_getElem? (i := 76) (by decide +kernel)) (by decide +kernel)
theorem ml_X6_48 : Cond.methodLink "FinerSteps$Scroll" 48 yJ0_length_8abf5 ∈ BIG := big_5 _ (List.mem_of_getElem? (i := 77) (by decide +kernel)) (by decide +kernel)
theorem ml_X6_54 : Cond.methodLink "FinerSteps$Scroll" 54 yJ0_charAt_5068e ∈ BIG := big_5 _ (List.mem_of_getElem? (i := 78) (by decide +kernel)) (by decide +kernel)
theorem ml_X11_228 : Cond.methodLink "FinerSteps" 228 yX6_putNumber ∈ BIG := big_5 _ (List.mem_of_getElem? (i := 79) (by decide +kernel)) (by decide +kernel)
theorem ml_L_100 : Cond.methodLink "FinerStepsLaw" 100 yX11_octet ∈ BIG := big_5 _ (List.mem_of_getElem? (i := 80) (by decide +kernel)) (by decide +kernel)
theorem im_yX11_octet : Cond.instanceMethod yX11_octet ∈ BIG := big_5 _ (List.mem_of_getElem? (i := 81) (by decide +kernel)) (by decide +kernel)
theorem se_yX11_octet : Cond.selects "FinerSteps" yX11_octet yX11_octet ∈ BIG := big_5 _ (List.mem_of_getElem? (i := 82) (by decide +kernel)) (by decide +kernel)
theorem co_yX11_octet : Cond.code yX11_octet cX11_octet 2 (some FieldType.int) ∈ BIG := big_5 _ (List.mem_of_getElem? (i := 83) (by decide +kernel)) (by decide +kernel)
theorem ml_L_104 : Cond.methodLink "FinerStepsLaw" 104 yX11_run ∈ BIG := big_5 _ (List.mem_of_getElem? (i := 84) (by decide +kernel)) (by decide +kernel)
theorem im_yX11_run : Cond.instanceMethod yX11_run ∈ BIG := big_5 _ (List.mem_of_getElem? (i := 85) (by decide +kernel)) (by decide +kernel)
theorem se_yX11_run : Cond.selects "FinerSteps" yX11_run yX11_run ∈ BIG := big_5 _ (List.mem_of_getElem? (i := 86) (by decide +kernel)) (by decide +kernel)
theorem co_yX11_run : Cond.code yX11_run cX11_run 2 (some FieldType.int) ∈ BIG := big_5 _ (List.mem_of_getElem? (i := 87) (by decide +kernel)) (by decide +kernel)
theorem ml_X11_235 : Cond.methodLink "FinerSteps" 235 yX10_begin ∈ BIG := big_5 _ (List.mem_of_getElem? (i := 88) (by decide +kernel)) (by decide +kernel)
theorem im_yX10_begin : Cond.instanceMethod yX10_begin ∈ BIG := big_5 _ (List.mem_of_getElem? (i := 89) (by decide +kernel)) (by decide +kernel)
theorem se_yX10_begin : Cond.selects "FinerSteps$Walk" yX10_begin yX10_begin ∈ BIG := big_5 _ (List.mem_of_getElem? (i := 90) (by decide +kernel)) (by decide +kernel)
theorem co_yX10_begin : Cond.code yX10_begin cX10_begin 3 none ∈ BIG := big_5 _ (List.mem_of_getElem? (i := 91) (by decide +kernel)) (by decide +kernel)
theorem ml_X10_31 : Cond.methodLink "FinerSteps$Walk" 31 yX2_beginState ∈ BIG := big_5 _ (List.mem_of_getElem? (i := 92) (by decide +kernel)) (by decide +kernel)
theorem ml_X10_43 : Cond.methodLink "FinerSteps$Walk" 43 yX7_clear ∈ BIG := big_5 _ (List.mem_of_getElem? (i := 93) (by decide +kernel)) (by decide +kernel)
theorem ml_X10_46 : Cond.methodLink "FinerSteps$Walk" 46 yX7_put ∈ BIG := big_5 _ (List.mem_of_getElem? (i := 94) (by decide +kernel)) (by decide +kernel)
theorem ml_X10_54 : Cond.methodLink "FinerSteps$Walk" 54 yX7_keepOnly ∈ BIG := big_5 _ (List.mem_of_getElem? (i := 95) (by decide +kernel)) (by decide +kernel)
theorem im_yX7_keepOnly : Cond.instanceMethod yX7_keepOnly ∈ BIG := big_5 _ (List.mem_of_getElem? (i := 96) (by decide +kernel)) (by decide +kernel)
theorem se_yX7_keepOnly : Cond.selects "FinerSteps$StateSet" yX7_keepOnly yX7_keepOnly ∈ BIG := big_5 _ (List.mem_of_getElem? (i := 97) (by decide +kernel)) (by decide +kernel)
theorem co_yX7_keepOnly : Cond.code yX7_keepOnly cX7_keepOnly 2 none ∈ BIG := big_5 _ (List.mem_of_getElem? (i := 98) (by decide +kernel)) (by decide +kernel)
theorem ml_L_108 : Cond.methodLink "FinerStepsLaw" 108 yX11_step ∈ BIG := big_5 _ (List.mem_of_getElem? (i := 99) (by decide +kernel)) (by decide +kernel)
theorem im_yX11_step : Cond.instanceMethod yX11_step ∈ BIG := big_5 _ (List.mem_of_getElem? (i := 100) (by decide +kernel)) (by decide +kernel)
theorem se_yX11_step : Cond.selects "FinerSteps" yX11_step yX11_step ∈ BIG := big_5 _ (List.mem_of_getElem? (i := 101) (by decide +kernel)) (by decide +kernel)
theorem co_yX11_step : Cond.code yX11_step cX11_step 5 (some FieldType.int) ∈ BIG := big_5 _ (List.mem_of_getElem? (i := 102) (by decide +kernel)) (by decide +kernel)
theorem ml_X11_242 : Cond.methodLink "FinerSteps" 242 yX0_stepsAt ∈ BIG := big_5 _ (List.mem_of_getElem? (i := 103) (by decide +kernel)) (by decide +kernel)
theorem ml_X11_245 : Cond.methodLink "FinerSteps" 245 yX10_move ∈ BIG := big_5 _ (List.mem_of_getElem? (i := 104) (by decide +kernel)) (by decide +kernel)
theorem im_yX10_move : Cond.instanceMethod yX10_move ∈ BIG := big_5 _ (List.mem_of_getElem? (i := 105) (by decide +kernel)) (by decide +kernel)
theorem se_yX10_move : Cond.selects "FinerSteps$Walk" yX10_move yX10_move ∈ BIG := big_5 _ (List.mem_of_getElem? (i := 106) (by decide +kernel)) (by decide +kernel)
theorem co_yX10_move : Cond.code yX10_move cX10_move 8 none ∈ BIG := big_5 _ (List.mem_of_getElem? (i := 107) (by decide +kernel)) (by decide +kernel)
theorem ml_X10_62 : Cond.methodLink "FinerSteps$Walk" 62 yX0_after ∈ BIG := big_5 _ (List.mem_of_getElem? (i := 108) (by decide +kernel)) (by decide +kernel)
theorem ml_X10_74 : Cond.methodLink "FinerSteps$Walk" 74 yX7_has ∈ BIG := big_5 _ (List.mem_of_getElem? (i := 109) (by decide +kernel)) (by decide +kernel)
theorem ml_X10_78 : Cond.methodLink "FinerSteps$Walk" 78 yX0_putGiven ∈ BIG := big_5 _ (List.mem_of_getElem? (i := 110) (by decide +kernel)) (by decide +kernel)
theorem ml_X10_82 : Cond.methodLink "FinerSteps$Walk" 82 yX7_copy ∈ BIG := big_5 _ (List.mem_of_getElem? (i := 111) (by decide +kernel)) (by decide +kernel)
theorem im_yX7_copy : Cond.instanceMethod yX7_copy ∈ BIG := big_5 _ (List.mem_of_getElem? (i := 112) (by decide +kernel)) (by decide +kernel)
theorem se_yX7_copy : Cond.selects "FinerSteps$StateSet" yX7_copy yX7_copy ∈ BIG := big_5 _ (List.mem_of_getElem? (i := 113) (by decide +kernel)) (by decide +kernel)
theorem co_yX7_copy : Cond.code yX7_copy cX7_copy 2 none ∈ BIG := big_5 _ (List.mem_of_getElem? (i := 114) (by decide +kernel)) (by decide +kernel)
theorem ml_L_112 : Cond.methodLink "FinerStepsLaw" 112 yX11_now ∈ BIG := big_5 _ (List.mem_of_getElem? (i := 115) (by decide +kernel)) (by decide +kernel)
theorem im_yX11_now : Cond.instanceMethod yX11_now ∈ BIG := big_5 _ (List.mem_of_getElem? (i := 116) (by decide +kernel)) (by decide +kernel)
theorem se_yX11_now : Cond.selects "FinerSteps" yX11_now yX11_now ∈ BIG := big_5 _ (List.mem_of_getElem? (i := 117) (by decide +kernel)) (by decide +kernel)
theorem co_yX11_now : Cond.code yX11_now cX11_now 2 (some FieldType.int) ∈ BIG := big_5 _ (List.mem_of_getElem? (i := 118) (by decide +kernel)) (by decide +kernel)
theorem ml_X11_256 : Cond.methodLink "FinerSteps" 256 yX7_count ∈ BIG := big_5 _ (List.mem_of_getElem? (i := 119) (by decide +kernel)) (by decide +kernel)
theorem ml_X11_259 : Cond.methodLink "FinerSteps" 259 yX2_eventsFrom ∈ BIG := big_5 _ (List.mem_of_getElem? (i := 120) (by decide +kernel)) (by decide +kernel)
theorem im_yX2_eventsFrom : Cond.instanceMethod yX2_eventsFrom ∈ BIG := big_5 _ (List.mem_of_getElem? (i := 121) (by decide +kernel)) (by decide +kernel)
theorem se_yX2_eventsFrom : Cond.selects "FinerSteps$Machine" yX2_eventsFrom yX2_eventsFrom ∈ BIG := big_5 _ (List.mem_of_getElem? (i := 122) (by decide +kernel)) (by decide +kernel)
theorem co_yX2_eventsFrom : Cond.code yX2_eventsFrom cX2_eventsFrom 4 (some FieldType.int) ∈ BIG := big_5 _ (List.mem_of_getElem? (i := 123) (by decide +kernel)) (by decide +kernel)
theorem ml_X2_113 : Cond.methodLink "FinerSteps$Machine" 113 yX0_stepsAt ∈ BIG := big_5 _ (List.mem_of_getElem? (i := 124) (by decide +kernel)) (by decide +kernel)
theorem ml_L_116 : Cond.methodLink "FinerStepsLaw" 116 yX11_beside ∈ BIG := big_5 _ (List.mem_of_getElem? (i := 125) (by decide +kernel)) (by decide +kernel)
theorem im_yX11_beside : Cond.instanceMethod yX11_beside ∈ BIG := big_5 _ (List.mem_of_getElem? (i := 126) (by decide +kernel)) (by decide +kernel)
theorem se_yX11_beside : Cond.selects "FinerSteps" yX11_beside yX11_beside ∈ BIG := big_5 _ (List.mem_of_getElem? (i := 127) (by decide +kernel)) (by decide +kernel)
theorem co_yX11_beside : Cond.code yX11_beside cX11_beside 2 (some FieldType.int) ∈ BIG := big_5 _ (List.mem_of_getElem? (i := 128) (by decide +kernel)) (by decide +kernel)
theorem ml_L_120 : Cond.methodLink "FinerStepsLaw" 120 yX11_draws ∈ BIG := big_5 _ (List.mem_of_getElem? (i := 129) (by decide +kernel)) (by decide +kernel)
theorem im_yX11_draws : Cond.instanceMethod yX11_draws ∈ BIG := big_5 _ (List.mem_of_getElem? (i := 130) (by decide +kernel)) (by decide +kernel)
theorem se_yX11_draws : Cond.selects "FinerSteps" yX11_draws yX11_draws ∈ BIG := big_5 _ (List.mem_of_getElem? (i := 131) (by decide +kernel)) (by decide +kernel)
theorem co_yX11_draws : Cond.code yX11_draws cX11_draws 3 (some FieldType.int) ∈ BIG := big_5 _ (List.mem_of_getElem? (i := 132) (by decide +kernel)) (by decide +kernel)
theorem ml_X11_262 : Cond.methodLink "FinerSteps" 262 yX10_wander ∈ BIG := big_5 _ (List.mem_of_getElem? (i := 133) (by decide +kernel)) (by decide +kernel)
theorem im_yX10_wander : Cond.instanceMethod yX10_wander ∈ BIG := big_5 _ (List.mem_of_getElem? (i := 134) (by decide +kernel)) (by decide +kernel)
theorem se_yX10_wander : Cond.selects "FinerSteps$Walk" yX10_wander yX10_wander ∈ BIG := big_5 _ (List.mem_of_getElem? (i := 135) (by decide +kernel)) (by decide +kernel)
theorem co_yX10_wander : Cond.code yX10_wander cX10_wander 8 (some FieldType.int) ∈ BIG := big_5 _ (List.mem_of_getElem? (i := 136) (by decide +kernel)) (by decide +kernel)
theorem ml_X10_85 : Cond.methodLink "FinerSteps$Walk" 85 yX10_countChoices ∈ BIG := big_5 _ (List.mem_of_getElem? (i := 137) (by decide +kernel)) (by decide +kernel)
theorem im_yX10_countChoices : Cond.instanceMethod yX10_countChoices ∈ BIG := big_5 _ (List.mem_of_getElem? (i := 139) (by decide +kernel)) (by decide +kernel)
theorem co_yX10_countChoices : Cond.code yX10_countChoices cX10_countChoices 4 (some FieldType.int) ∈ BIG := big_5 _ (List.mem_of_getElem? (i := 140) (by decide +kernel)) (by decide +kernel)
theorem ml_X10_104 : Cond.methodLink "FinerSteps$Walk" 104 yX0_stepsAt ∈ BIG := big_5 _ (List.mem_of_getElem? (i := 141) (by decide +kernel)) (by decide +kernel)
theorem ml_X10_108 : Cond.methodLink "FinerSteps$Walk" 108 yJ6_bitCount_0f7a4 ∈ BIG := big_5 _ (List.mem_of_getElem? (i := 142) (by decide +kernel)) (by decide +kernel)
theorem st_yJ6_bitCount_0f7a4 : Cond.static yJ6_bitCount_0f7a4 ∈ BIG := big_5 _ (List.mem_of_getElem? (i := 143) (by decide +kernel)) (by decide +kernel)
theorem co_yJ6_bitCount_0f7a4 : Cond.code yJ6_bitCount_0f7a4 cJ6_bitCount_0f7a4 1 (some FieldType.int) ∈ BIG := big_5 _ (List.mem_of_getElem? (i := 144) (by decide +kernel)) (by decide +kernel)
theorem kc_J6_265 : Cond.constant "java/lang/Integer" 265 (1431655765 : Int32) ∈ BIG := big_5 _ (List.mem_of_getElem? (i := 145) (by decide +kernel)) (by decide +kernel)
theorem kc_J6_266 : Cond.constant "java/lang/Integer" 266 (858993459 : Int32) ∈ BIG := big_5 _ (List.mem_of_getElem? (i := 146) (by decide +kernel)) (by decide +kernel)
theorem kc_J6_267 : Cond.constant "java/lang/Integer" 267 (252645135 : Int32) ∈ BIG := big_5 _ (List.mem_of_getElem? (i := 147) (by decide +kernel)) (by decide +kernel)
theorem kl_X10_89 : Cond.constantLong "FinerSteps$Walk" 89 (1103515245 : Int64) ∈ BIG := big_5 _ (List.mem_of_getElem? (i := 148) (by decide +kernel)) (by decide +kernel)
theorem kl_X10_91 : Cond.constantLong "FinerSteps$Walk" 91 (12345 : Int64) ∈ BIG := big_5 _ (List.mem_of_getElem? (i := 149) (by decide +kernel)) (by decide +kernel)
theorem kl_X10_93 : Cond.constantLong "FinerSteps$Walk" 93 (2147483648 : Int64) ∈ BIG := big_5 _ (List.mem_of_getElem? (i := 150) (by decide +kernel)) (by decide +kernel)
theorem kl_X10_95 : Cond.constantLong "FinerSteps$Walk" 95 (65536 : Int64) ∈ BIG := big_5 _ (List.mem_of_getElem? (i := 151) (by decide +kernel)) (by decide +kernel)
theorem ml_X10_97 : Cond.methodLink "FinerSteps$Walk" 97 yX10_take ∈ BIG := big_5 _ (List.mem_of_getElem? (i := 152) (by decide +kernel)) (by decide +kernel)
theorem im_yX10_take : Cond.instanceMethod yX10_take ∈ BIG := big_5 _ (List.mem_of_getElem? (i := 154) (by decide +kernel)) (by decide +kernel)
theorem co_yX10_take : Cond.code yX10_take cX10_take 8 none ∈ BIG := big_5 _ (List.mem_of_getElem? (i := 155) (by decide +kernel)) (by decide +kernel)
theorem ml_X10_113 : Cond.methodLink "FinerSteps$Walk" 113 yX10_move ∈ BIG := big_5 _ (List.mem_of_getElem? (i := 156) (by decide +kernel)) (by decide +kernel)
theorem ml_L_124 : Cond.methodLink "FinerStepsLaw" 124 yX11_reach ∈ BIG := big_5 _ (List.mem_of_getElem? (i := 157) (by decide +kernel)) (by decide +kernel)
theorem im_yX11_reach : Cond.instanceMethod yX11_reach ∈ BIG := big_5 _ (List.mem_of_getElem? (i := 158) (by decide +kernel)) (by decide +kernel)
theorem se_yX11_reach : Cond.selects "FinerSteps" yX11_reach yX11_reach ∈ BIG := big_5 _ (List.mem_of_getElem? (i := 159) (by decide +kernel)) (by decide +kernel)
theorem co_yX11_reach : Cond.code yX11_reach cX11_reach 2 (some FieldType.int) ∈ BIG := big_5 _ (List.mem_of_getElem? (i := 160) (by decide +kernel)) (by decide +kernel)
theorem ml_X11_266 : Cond.methodLink "FinerSteps" 266 yX4_explore ∈ BIG := big_5 _ (List.mem_of_getElem? (i := 161) (by decide +kernel)) (by decide +kernel)
theorem im_yX4_explore : Cond.instanceMethod yX4_explore ∈ BIG := big_5 _ (List.mem_of_getElem? (i := 162) (by decide +kernel)) (by decide +kernel)
theorem se_yX4_explore : Cond.selects "FinerSteps$Paths" yX4_explore yX4_explore ∈ BIG := big_5 _ (List.mem_of_getElem? (i := 163) (by decide +kernel)) (by decide +kernel)
theorem co_yX4_explore : Cond.code yX4_explore cX4_explore 5 none ∈ BIG := big_5 _ (List.mem_of_getElem? (i := 164) (by decide +kernel)) (by decide +kernel)
theorem ml_X4_18 : Cond.methodLink "FinerSteps$Paths" 18 yJ7_fill_53178 ∈ BIG := big_5 _ (List.mem_of_getElem? (i := 165) (by decide +kernel)) (by decide +kernel)
theorem st_yJ7_fill_53178 : Cond.static yJ7_fill_53178 ∈ BIG := big_5 _ (List.mem_of_getElem? (i := 166) (by decide +kernel)) (by decide +kernel)
theorem co_yJ7_fill_53178 : Cond.code yJ7_fill_53178 cJ7_fill_53178 4 none ∈ BIG := big_5 _ (List.mem_of_getElem? (i := 167) (by decide +kernel)) (by decide +kernel)
theorem ml_X4_28 : Cond.methodLink "FinerSteps$Paths" 28 yX2_beginState ∈ BIG := big_5 _ (List.mem_of_getElem? (i := 168) (by decide +kernel)) (by decide +kernel)
theorem ml_X4_34 : Cond.methodLink "FinerSteps$Paths" 34 yX4_reachState ∈ BIG := big_5 _ (List.mem_of_getElem? (i := 169) (by decide +kernel)) (by decide +kernel)
theorem im_yX4_reachState : Cond.instanceMethod yX4_reachState ∈ BIG := big_5 _ (List.mem_of_getElem? (i := 171) (by decide +kernel)) (by decide +kernel)
theorem co_yX4_reachState : Cond.code yX4_reachState cX4_reachState 3 none ∈ BIG := big_5 _ (List.mem_of_getElem? (i := 172) (by decide +kernel)) (by decide +kernel)
theorem ml_X4_45 : Cond.methodLink "FinerSteps$Paths" 45 yX4_reachFrom ∈ BIG := big_5 _ (List.mem_of_getElem? (i := 173) (by decide +kernel)) (by decide +kernel)
theorem im_yX4_reachFrom : Cond.instanceMethod yX4_reachFrom ∈ BIG := big_5 _ (List.mem_of_getElem? (i := 175) (by decide +kernel)) (by decide +kernel)
theorem co_yX4_reachFrom : Cond.code yX4_reachFrom cX4_reachFrom 5 none ∈ BIG := big_5 _ (List.mem_of_getElem? (i := 176) (by decide +kernel)) (by decide +kernel)
theorem ml_X4_49 : Cond.methodLink "FinerSteps$Paths" 49 yX0_stepsAt ∈ BIG := big_5 _ (List.mem_of_getElem? (i := 177) (by decide +kernel)) (by decide +kernel)
theorem ml_X4_55 : Cond.methodLink "FinerSteps$Paths" 55 yX0_after ∈ BIG := big_5 _ (List.mem_of_getElem? (i := 178) (by decide +kernel)) (by decide +kernel)
theorem ml_L_128 : Cond.methodLink "FinerStepsLaw" 128 yX11_steps ∈ BIG := big_5 _ (List.mem_of_getElem? (i := 179) (by decide +kernel)) (by decide +kernel)
theorem im_yX11_steps : Cond.instanceMethod yX11_steps ∈ BIG := big_5 _ (List.mem_of_getElem? (i := 180) (by decide +kernel)) (by decide +kernel)
theorem se_yX11_steps : Cond.selects "FinerSteps" yX11_steps yX11_steps ∈ BIG := big_5 _ (List.mem_of_getElem? (i := 181) (by decide +kernel)) (by decide +kernel)
theorem co_yX11_steps : Cond.code yX11_steps cX11_steps 3 (some FieldType.int) ∈ BIG := big_5 _ (List.mem_of_getElem? (i := 182) (by decide +kernel)) (by decide +kernel)
theorem ml_L_132 : Cond.methodLink "FinerStepsLaw" 132 yX11_stuck ∈ BIG := big_5 _ (List.mem_of_getElem? (i := 183) (by decide +kernel)) (by decide +kernel)
theorem im_yX11_stuck : Cond.instanceMethod yX11_stuck ∈ BIG := big_5 _ (List.mem_of_getElem? (i := 184) (by decide +kernel)) (by decide +kernel)
theorem se_yX11_stuck : Cond.selects "FinerSteps" yX11_stuck yX11_stuck ∈ BIG := big_5 _ (List.mem_of_getElem? (i := 185) (by decide +kernel)) (by decide +kernel)
theorem co_yX11_stuck : Cond.code yX11_stuck cX11_stuck 3 (some FieldType.int) ∈ BIG := big_5 _ (List.mem_of_getElem? (i := 186) (by decide +kernel)) (by decide +kernel)
theorem ml_X11_276 : Cond.methodLink "FinerSteps" 276 yX4_firstEnd ∈ BIG := big_5 _ (List.mem_of_getElem? (i := 187) (by decide +kernel)) (by decide +kernel)
theorem im_yX4_firstEnd : Cond.instanceMethod yX4_firstEnd ∈ BIG := big_5 _ (List.mem_of_getElem? (i := 188) (by decide +kernel)) (by decide +kernel)
theorem se_yX4_firstEnd : Cond.selects "FinerSteps$Paths" yX4_firstEnd yX4_firstEnd ∈ BIG := big_5 _ (List.mem_of_getElem? (i := 189) (by decide +kernel)) (by decide +kernel)
theorem co_yX4_firstEnd : Cond.code yX4_firstEnd cX4_firstEnd 4 (some FieldType.int) ∈ BIG := big_5 _ (List.mem_of_getElem? (i := 190) (by decide +kernel)) (by decide +kernel)
theorem ml_X4_62 : Cond.methodLink "FinerSteps$Paths" 62 yX2_eventsFrom ∈ BIG := big_5 _ (List.mem_of_getElem? (i := 191) (by decide +kernel)) (by decide +kernel)
theorem ml_L_136 : Cond.methodLink "FinerStepsLaw" 136 yX11_unsound ∈ BIG := big_5 _ (List.mem_of_getElem? (i := 192) (by decide +kernel)) (by decide +kernel)
theorem im_yX11_unsound : Cond.instanceMethod yX11_unsound ∈ BIG := big_5 _ (List.mem_of_getElem? (i := 193) (by decide +kernel)) (by decide +kernel)
theorem se_yX11_unsound : Cond.selects "FinerSteps" yX11_unsound yX11_unsound ∈ BIG := big_5 _ (List.mem_of_getElem? (i := 194) (by decide +kernel)) (by decide +kernel)
theorem co_yX11_unsound : Cond.code yX11_unsound cX11_unsound 3 (some FieldType.int) ∈ BIG := big_5 _ (List.mem_of_getElem? (i := 195) (by decide +kernel)) (by decide +kernel)
theorem ml_X11_280 : Cond.methodLink "FinerSteps" 280 yX4_countUnsound ∈ BIG := big_5 _ (List.mem_of_getElem? (i := 196) (by decide +kernel)) (by decide +kernel)
theorem im_yX4_countUnsound : Cond.instanceMethod yX4_countUnsound ∈ BIG := big_5 _ (List.mem_of_getElem? (i := 197) (by decide +kernel)) (by decide +kernel)
theorem se_yX4_countUnsound : Cond.selects "FinerSteps$Paths" yX4_countUnsound yX4_countUnsound ∈ BIG := big_5 _ (List.mem_of_getElem? (i := 198) (by decide +kernel)) (by decide +kernel)
theorem co_yX4_countUnsound : Cond.code yX4_countUnsound cX4_countUnsound 4 (some FieldType.int) ∈ BIG := big_5 _ (List.mem_of_getElem? (i := 199) (by decide +kernel)) (by decide +kernel)
theorem ml_L_140 : Cond.methodLink "FinerStepsLaw" 140 yX11_aside ∈ BIG := big_5 _ (List.mem_of_getElem? (i := 200) (by decide +kernel)) (by decide +kernel)
theorem im_yX11_aside : Cond.instanceMethod yX11_aside ∈ BIG := big_5 _ (List.mem_of_getElem? (i := 201) (by decide +kernel)) (by decide +kernel)
theorem se_yX11_aside : Cond.selects "FinerSteps" yX11_aside yX11_aside ∈ BIG := big_5 _ (List.mem_of_getElem? (i := 202) (by decide +kernel)) (by decide +kernel)
theorem co_yX11_aside : Cond.code yX11_aside cX11_aside 5 (some FieldType.int) ∈ BIG := big_5 _ (List.mem_of_getElem? (i := 203) (by decide +kernel)) (by decide +kernel)
theorem ml_X11_287 : Cond.methodLink "FinerSteps" 287 yX3_forgetVerdicts ∈ BIG := big_5 _ (List.mem_of_getElem? (i := 204) (by decide +kernel)) (by decide +kernel)
theorem ml_X11_290 : Cond.methodLink "FinerSteps" 290 yX2_countAside ∈ BIG := big_5 _ (List.mem_of_getElem? (i := 205) (by decide +kernel)) (by decide +kernel)
theorem im_yX2_countAside : Cond.instanceMethod yX2_countAside ∈ BIG := big_5 _ (List.mem_of_getElem? (i := 206) (by decide +kernel)) (by decide +kernel)
theorem se_yX2_countAside : Cond.selects "FinerSteps$Machine" yX2_countAside yX2_countAside ∈ BIG := big_5 _ (List.mem_of_getElem? (i := 207) (by decide +kernel)) (by decide +kernel)
theorem co_yX2_countAside : Cond.code yX2_countAside cX2_countAside 3 (some FieldType.int) ∈ BIG := big_5 _ (List.mem_of_getElem? (i := 208) (by decide +kernel)) (by decide +kernel)
theorem ml_L_154 : Cond.methodLink "FinerStepsLaw" 154 yX11_size ∈ BIG := big_5 _ (List.mem_of_getElem? (i := 209) (by decide +kernel)) (by decide +kernel)
theorem im_yX11_size : Cond.instanceMethod yX11_size ∈ BIG := big_5 _ (List.mem_of_getElem? (i := 210) (by decide +kernel)) (by decide +kernel)
theorem se_yX11_size : Cond.selects "FinerSteps" yX11_size yX11_size ∈ BIG := big_5 _ (List.mem_of_getElem? (i := 211) (by decide +kernel)) (by decide +kernel)
theorem co_yX11_size : Cond.code yX11_size cX11_size 1 (some FieldType.int) ∈ BIG := big_5 _ (List.mem_of_getElem? (i := 212) (by decide +kernel)) (by decide +kernel)
theorem ml_L_158 : Cond.methodLink "FinerStepsLaw" 158 yX11_trouble ∈ BIG := big_5 _ (List.mem_of_getElem? (i := 213) (by decide +kernel)) (by decide +kernel)
theorem im_yX11_trouble : Cond.instanceMethod yX11_trouble ∈ BIG := big_5 _ (List.mem_of_getElem? (i := 214) (by decide +kernel)) (by decide +kernel)
theorem se_yX11_trouble : Cond.selects "FinerSteps" yX11_trouble yX11_trouble ∈ BIG := big_5 _ (List.mem_of_getElem? (i := 215) (by decide +kernel)) (by decide +kernel)
theorem co_yX11_trouble : Cond.code yX11_trouble cX11_trouble 1 (some FieldType.int) ∈ BIG := big_5 _ (List.mem_of_getElem? (i := 216) (by decide +kernel)) (by decide +kernel)
theorem ml_L_145 : Cond.methodLink "FinerStepsLaw" 145 yL_letter ∈ BIG := big_5 _ (List.mem_of_getElem? (i := 217) (by decide +kernel)) (by decide +kernel)
theorem st_yL_letter : Cond.static yL_letter ∈ BIG := big_5 _ (List.mem_of_getElem? (i := 218) (by decide +kernel)) (by decide +kernel)
theorem cl_L_13 : Cond.classLink "FinerStepsLaw" 13 "java/util/NoSuchElementException" ∈ BIG := big_5 _ (List.mem_of_getElem? (i := 220) (by decide +kernel)) (by decide +kernel)
theorem ml_L_7 : Cond.methodLink "FinerStepsLaw" 7 yX11_letter ∈ BIG := big_5 _ (List.mem_of_getElem? (i := 221) (by decide +kernel)) (by decide +kernel)
theorem im_yX11_letter : Cond.instanceMethod yX11_letter ∈ BIG := big_5 _ (List.mem_of_getElem? (i := 222) (by decide +kernel)) (by decide +kernel)
theorem se_yX11_letter : Cond.selects "FinerSteps" yX11_letter yX11_letter ∈ BIG := big_5 _ (List.mem_of_getElem? (i := 223) (by decide +kernel)) (by decide +kernel)
theorem co_yX11_letter : Cond.code yX11_letter cX11_letter 7 (some FieldType.int) ∈ BIG := big_5 _ (List.mem_of_getElem? (i := 224) (by decide +kernel)) (by decide +kernel)
theorem cl_X11_293 : Cond.classLink "FinerSteps" 293 "java/util/NoSuchElementException" ∈ BIG := big_5 _ (List.mem_of_getElem? (i := 225) (by decide +kernel)) (by decide +kernel)
theorem ins__java_util_NoSuchElementException : Cond.instantiable "java/util/NoSuchElementException" 6 ∈ BIG := big_5 _ (List.mem_of_getElem? (i := 226) (by decide +kernel)) (by decide +kernel)
theorem fl__java_lang_Throwable_198 : Cond.fieldLink "java/lang/Throwable" 198 "java/lang/Throwable" "backtrace" "Ljava/lang/Object;" ∈ BIG := big_6 _ (List.mem_of_getElem? (i := 6) (by decide +kernel)) (by decide +kernel)
theorem ml__java_lang_Throwable_1 : Cond.methodLink "java/lang/Throwable" 1 objectInit ∈ BIG := big_6 _ (List.mem_of_getElem? (i := 10) (by decide +kernel)) (by decide +kernel)
theorem fl__java_lang_Throwable_13 : Cond.fieldLink "java/lang/Throwable" 13 "java/lang/Throwable" "UNASSIGNED_STACK" "[Ljava/lang/StackTraceElement;" ∈ BIG := big_6 _ (List.mem_of_getElem? (i := 11) (by decide +kernel)) (by decide +kernel)
theorem fl__java_lang_Throwable_20 : Cond.fieldLink "java/lang/Throwable" 20 "java/lang/Throwable" "SUPPRESSED_SENTINEL" "Ljava/util/List;" ∈ BIG := big_6 _ (List.mem_of_getElem? (i := 13) (by decide +kernel)) (by decide +kernel)
theorem ml__java_lang_Throwable_27 : Cond.methodLink "java/lang/Throwable" 27 (⟨"java/lang/Throwable", "fillInStackTrace", "()Ljava/lang/Throwable;"⟩ : MethodName) ∈ BIG := big_6 _ (List.mem_of_getElem? (i := 15) (by decide +kernel)) (by decide +kernel)
theorem ml__java_lang_Throwable_202 : Cond.methodLink "java/lang/Throwable" 202 (⟨"java/lang/Throwable", "fillInStackTrace", "(I)Ljava/lang/Throwable;"⟩ : MethodName) ∈ BIG := big_6 _ (List.mem_of_getElem? (i := 19) (by decide +kernel)) (by decide +kernel)
theorem ins__java_lang_Throwable : Cond.instantiable "java/lang/Throwable" 6 ∈ BIG := big_6 _ (List.mem_of_getElem? (i := 22) (by decide +kernel)) (by decide +kernel)
theorem ml_X11_295 : Cond.methodLink "FinerSteps" 295 (⟨"java/util/NoSuchElementException", "<init>", "()V"⟩ : MethodName) ∈ BIG := big_6 _ (List.mem_of_getElem? (i := 24) (by decide +kernel)) (by decide +kernel)
theorem ml__java_util_NoSuchElementException_1 : Cond.methodLink "java/util/NoSuchElementException" 1 (⟨"java/lang/RuntimeException", "<init>", "()V"⟩ : MethodName) ∈ BIG := big_6 _ (List.mem_of_getElem? (i := 27) (by decide +kernel)) (by decide +kernel)
theorem ml__java_lang_RuntimeException_1 : Cond.methodLink "java/lang/RuntimeException" 1 (⟨"java/lang/Exception", "<init>", "()V"⟩ : MethodName) ∈ BIG := big_6 _ (List.mem_of_getElem? (i := 30) (by decide +kernel)) (by decide +kernel)
theorem ml__java_lang_Exception_1 : Cond.methodLink "java/lang/Exception" 1 (⟨"java/lang/Throwable", "<init>", "()V"⟩ : MethodName) ∈ BIG := big_6 _ (List.mem_of_getElem? (i := 33) (by decide +kernel)) (by decide +kernel)
theorem fl__java_lang_Throwable_7 : Cond.fieldLink "java/lang/Throwable" 7 "java/lang/Throwable" "cause" "Ljava/lang/Throwable;" ∈ BIG := big_6 _ (List.mem_of_getElem? (i := 35) (by decide +kernel)) (by decide +kernel)
theorem fl__java_lang_Throwable_17 : Cond.fieldLink "java/lang/Throwable" 17 "java/lang/Throwable" "stackTrace" "[Ljava/lang/StackTraceElement;" ∈ BIG := big_6 _ (List.mem_of_getElem? (i := 36) (by decide +kernel)) (by decide +kernel)
theorem fl__java_lang_Throwable_24 : Cond.fieldLink "java/lang/Throwable" 24 "java/lang/Throwable" "suppressedExceptions" "Ljava/util/List;" ∈ BIG := big_6 _ (List.mem_of_getElem? (i := 37) (by decide +kernel)) (by decide +kernel)
theorem ml_X11_308 : Cond.methodLink "FinerSteps" 308 yX11_letterOf ∈ BIG := big_6 _ (List.mem_of_getElem? (i := 46) (by decide +kernel)) (by decide +kernel)
theorem cl_L_16 : Cond.classLink "FinerStepsLaw" 16 "FinerStepsModel" ∈ BIG := big_6 _ (List.mem_of_getElem? (i := 47) (by decide +kernel)) (by decide +kernel)
theorem ins_X12 : Cond.instantiable "FinerStepsModel" 65 ∈ BIG := big_6 _ (List.mem_of_getElem? (i := 48) (by decide +kernel)) (by decide +kernel)
theorem ml_L_18 : Cond.methodLink "FinerStepsLaw" 18 yX12_init ∈ BIG := big_6 _ (List.mem_of_getElem? (i := 49) (by decide +kernel)) (by decide +kernel)
theorem im_yX12_init : Cond.instanceMethod yX12_init ∈ BIG := big_6 _ (List.mem_of_getElem? (i := 50) (by decide +kernel)) (by decide +kernel)
theorem co_yX12_init : Cond.code yX12_init cX12_init 1 none ∈ BIG := big_6 _ (List.mem_of_getElem? (i := 51) (by decide +kernel)) (by decide +kernel)
theorem ml_X12_1 : Cond.methodLink "FinerStepsModel" 1 objectInit ∈ BIG := big_6 _ (List.mem_of_getElem? (i := 52) (by decide +kernel)) (by decide +kernel)
theorem fl_X12_121 : Cond.fieldLink "FinerStepsModel" 121 "FinerStepsModel" "thrown" "I" ∈ BIG := big_6 _ (List.mem_of_getElem? (i := 53) (by decide +kernel)) (by decide +kernel)
theorem fl_X12_124 : Cond.fieldLink "FinerStepsModel" 124 "FinerStepsModel" "trouble" "I" ∈ BIG := big_6 _ (List.mem_of_getElem? (i := 54) (by decide +kernel)) (by decide +kernel)
theorem fl_X12_9 : Cond.fieldLink "FinerStepsModel" 9 "FinerStepsModel" "wrongAt" "I" ∈ BIG := big_6 _ (List.mem_of_getElem? (i := 55) (by decide +kernel)) (by decide +kernel)
theorem fl_X12_13 : Cond.fieldLink "FinerStepsModel" 13 "FinerStepsModel" "tape" "[I" ∈ BIG := big_6 _ (List.mem_of_getElem? (i := 56) (by decide +kernel)) (by decide +kernel)
theorem fl_X12_127 : Cond.fieldLink "FinerStepsModel" 127 "FinerStepsModel" "taped" "I" ∈ BIG := big_6 _ (List.mem_of_getElem? (i := 57) (by decide +kernel)) (by decide +kernel)
theorem fl_X12_139 : Cond.fieldLink "FinerStepsModel" 139 "FinerStepsModel" "size" "I" ∈ BIG := big_6 _ (List.mem_of_getElem? (i := 58) (by decide +kernel)) (by decide +kernel)
theorem fl_X12_146 : Cond.fieldLink "FinerStepsModel" 146 "FinerStepsModel" "spot" "I" ∈ BIG := big_6 _ (List.mem_of_getElem? (i := 59) (by decide +kernel)) (by decide +kernel)
theorem fl_X12_130 : Cond.fieldLink "FinerStepsModel" 130 "FinerStepsModel" "fault" "I" ∈ BIG := big_6 _ (List.mem_of_getElem? (i := 60) (by decide +kernel)) (by decide +kernel)
theorem fl_X12_136 : Cond.fieldLink "FinerStepsModel" 136 "FinerStepsModel" "faultAt" "I" ∈ BIG := big_6 _ (List.mem_of_getElem? (i := 61) (by decide +kernel)) (by decide +kernel)
theorem fl_X12_149 : Cond.fieldLink "FinerStepsModel" 149 "FinerStepsModel" "token" "I" ∈ BIG := big_6 _ (List.mem_of_getElem? (i := 62) (by decide +kernel)) (by decide +kernel)
theorem fl_X12_133 : Cond.fieldLink "FinerStepsModel" 133 "FinerStepsModel" "at" "I" ∈ BIG := big_6 _ (List.mem_of_getElem? (i := 63) (by decide +kernel)) (by decide +kernel)
theorem fl_X12_170 : Cond.fieldLink "FinerStepsModel" 170 "FinerStepsModel" "sign" "I" ∈ BIG := big_6 _ (List.mem_of_getElem? (i := 64) (by decide +kernel)) (by decide +kernel)
theorem fl_X12_167 : Cond.fieldLink "FinerStepsModel" 167 "FinerStepsModel" "number" "I" ∈ BIG := big_6 _ (List.mem_of_getElem? (i := 65) (by decide +kernel)) (by decide +kernel)
theorem fl_X12_156 : Cond.fieldLink "FinerStepsModel" 156 "FinerStepsModel" "word" "J" ∈ BIG := big_6 _ (List.mem_of_getElem? (i := 66) (by decide +kernel)) (by decide +kernel)
theorem fl_X12_17 : Cond.fieldLink "FinerStepsModel" 17 "FinerStepsModel" "machineName" "[J" ∈ BIG := big_6 _ (List.mem_of_getElem? (i := 67) (by decide +kernel)) (by decide +kernel)
theorem fl_X12_21 : Cond.fieldLink "FinerStepsModel" 21 "FinerStepsModel" "varName" "[J" ∈ BIG := big_6 _ (List.mem_of_getElem? (i := 68) (by decide +kernel)) (by decide +kernel)
theorem fl_X12_24 : Cond.fieldLink "FinerStepsModel" 24 "FinerStepsModel" "eventName" "[J" ∈ BIG := big_6 _ (List.mem_of_getElem? (i := 69) (by decide +kernel)) (by decide +kernel)
theorem fl_X12_27 : Cond.fieldLink "FinerStepsModel" 27 "FinerStepsModel" "varMany" "[I" ∈ BIG := big_6 _ (List.mem_of_getElem? (i := 70) (by decide +kernel)) (by decide +kernel)
theorem fl_X12_30 : Cond.fieldLink "FinerStepsModel" 30 "FinerStepsModel" "lawMany" "[I" ∈ BIG := big_6 _ (List.mem_of_getElem? (i := 71) (by decide +kernel)) (by decide +kernel)
theorem fl_X12_33 : Cond.fieldLink "FinerStepsModel" 33 "FinerStepsModel" "eventMany" "[I" ∈ BIG := big_6 _ (List.mem_of_getElem? (i := 72) (by decide +kernel)) (by decide +kernel)
theorem fl_X12_36 : Cond.fieldLink "FinerStepsModel" 36 "FinerStepsModel" "sizes" "[I" ∈ BIG := big_6 _ (List.mem_of_getElem? (i := 73) (by decide +kernel)) (by decide +kernel)
theorem fl_X12_39 : Cond.fieldLink "FinerStepsModel" 39 "FinerStepsModel" "variantFrom" "[I" ∈ BIG := big_6 _ (List.mem_of_getElem? (i := 74) (by decide +kernel)) (by decide +kernel)
theorem fl_X12_42 : Cond.fieldLink "FinerStepsModel" 42 "FinerStepsModel" "variantTo" "[I" ∈ BIG := big_6 _ (List.mem_of_getElem? (i := 75) (by decide +kernel)) (by decide +kernel)
theorem fl_X12_45 : Cond.fieldLink "FinerStepsModel" 45 "FinerStepsModel" "varLow" "[I" ∈ BIG := big_6 _ (List.mem_of_getElem? (i := 76) (by decide +kernel)) (by decide +kernel)
theorem fl_X12_48 : Cond.fieldLink "FinerStepsModel" 48 "FinerStepsModel" "varHigh" "[I" ∈ BIG := big_6 _ (List.mem_of_getElem? (i := 77) (by decide +kernel)) (by decide +kernel)
theorem fl_X12_51 : Cond.fieldLink "FinerStepsModel" 51 "FinerStepsModel" "varAt" "[I" ∈ BIG := big_6 _ (List.mem_of_getElem? (i := 78) (by decide +kernel)) (by decide +kernel)
theorem fl_X12_54 : Cond.fieldLink "FinerStepsModel" 54 "FinerStepsModel" "lawFrom" "[I" ∈ BIG := big_6 _ (List.mem_of_getElem? (i := 79) (by decide +kernel)) (by decide +kernel)
theorem fl_X12_57 : Cond.fieldLink "FinerStepsModel" 57 "FinerStepsModel" "lawTo" "[I" ∈ BIG := big_6 _ (List.mem_of_getElem? (i := 80) (by decide +kernel)) (by decide +kernel)
theorem fl_X12_60 : Cond.fieldLink "FinerStepsModel" 60 "FinerStepsModel" "eventOf" "[I" ∈ BIG := big_6 _ (List.mem_of_getElem? (i := 81) (by decide +kernel)) (by decide +kernel)
theorem fl_X12_63 : Cond.fieldLink "FinerStepsModel" 63 "FinerStepsModel" "firstPick" "[I" ∈ BIG := big_6 _ (List.mem_of_getElem? (i := 82) (by decide +kernel)) (by decide +kernel)
theorem fl_X12_66 : Cond.fieldLink "FinerStepsModel" 66 "FinerStepsModel" "lastPick" "[I" ∈ BIG := big_6 _ (List.mem_of_getElem? (i := 83) (by decide +kernel)) (by decide +kernel)
theorem fl_X12_69 : Cond.fieldLink "FinerStepsModel" 69 "FinerStepsModel" "guardFrom" "[I" ∈ BIG := big_6 _ (List.mem_of_getElem? (i := 84) (by decide +kernel)) (by decide +kernel)
theorem fl_X12_72 : Cond.fieldLink "FinerStepsModel" 72 "FinerStepsModel" "guardTo" "[I" ∈ BIG := big_6 _ (List.mem_of_getElem? (i := 85) (by decide +kernel)) (by decide +kernel)
theorem fl_X12_75 : Cond.fieldLink "FinerStepsModel" 75 "FinerStepsModel" "givenBits" "[I" ∈ BIG := big_6 _ (List.mem_of_getElem? (i := 86) (by decide +kernel)) (by decide +kernel)
theorem fl_X12_78 : Cond.fieldLink "FinerStepsModel" 78 "FinerStepsModel" "sumFrom" "[I" ∈ BIG := big_6 _ (List.mem_of_getElem? (i := 87) (by decide +kernel)) (by decide +kernel)
theorem fl_X12_81 : Cond.fieldLink "FinerStepsModel" 81 "FinerStepsModel" "sumTo" "[I" ∈ BIG := big_6 _ (List.mem_of_getElem? (i := 88) (by decide +kernel)) (by decide +kernel)
theorem fl_X12_84 : Cond.fieldLink "FinerStepsModel" 84 "FinerStepsModel" "isAside" "[Z" ∈ BIG := big_6 _ (List.mem_of_getElem? (i := 89) (by decide +kernel)) (by decide +kernel)
theorem fl_X12_347 : Cond.fieldLink "FinerStepsModel" 347 "FinerStepsModel" "machineMany" "I" ∈ BIG := big_6 _ (List.mem_of_getElem? (i := 90) (by decide +kernel)) (by decide +kernel)
theorem fl_X12_252 : Cond.fieldLink "FinerStepsModel" 252 "FinerStepsModel" "readMany" "I" ∈ BIG := big_6 _ (List.mem_of_getElem? (i := 91) (by decide +kernel)) (by decide +kernel)
theorem fl_X12_88 : Cond.fieldLink "FinerStepsModel" 88 "FinerStepsModel" "what" "[I" ∈ BIG := big_6 _ (List.mem_of_getElem? (i := 92) (by decide +kernel)) (by decide +kernel)
theorem fl_X12_91 : Cond.fieldLink "FinerStepsModel" 91 "FinerStepsModel" "which" "[I" ∈ BIG := big_6 _ (List.mem_of_getElem? (i := 93) (by decide +kernel)) (by decide +kernel)
theorem fl_X12_239 : Cond.fieldLink "FinerStepsModel" 239 "FinerStepsModel" "steps" "I" ∈ BIG := big_6 _ (List.mem_of_getElem? (i := 94) (by decide +kernel)) (by decide +kernel)
theorem fl_X12_262 : Cond.fieldLink "FinerStepsModel" 262 "FinerStepsModel" "atoms" "I" ∈ BIG := big_6 _ (List.mem_of_getElem? (i := 95) (by decide +kernel)) (by decide +kernel)
theorem fl_X12_242 : Cond.fieldLink "FinerStepsModel" 242 "FinerStepsModel" "open" "I" ∈ BIG := big_6 _ (List.mem_of_getElem? (i := 96) (by decide +kernel)) (by decide +kernel)
theorem fl_X12_259 : Cond.fieldLink "FinerStepsModel" 259 "FinerStepsModel" "mayAhead" "Z" ∈ BIG := big_6 _ (List.mem_of_getElem? (i := 97) (by decide +kernel)) (by decide +kernel)
theorem fl_X12_248 : Cond.fieldLink "FinerStepsModel" 248 "FinerStepsModel" "mayPick" "Z" ∈ BIG := big_6 _ (List.mem_of_getElem? (i := 98) (by decide +kernel)) (by decide +kernel)
theorem fl_X12_94 : Cond.fieldLink "FinerStepsModel" 94 "FinerStepsModel" "pile" "[I" ∈ BIG := big_6 _ (List.mem_of_getElem? (i := 99) (by decide +kernel)) (by decide +kernel)
theorem fl_X12_97 : Cond.fieldLink "FinerStepsModel" 97 "FinerStepsModel" "isSound" "[Z" ∈ BIG := big_6 _ (List.mem_of_getElem? (i := 100) (by decide +kernel)) (by decide +kernel)
theorem fl_X12_100 : Cond.fieldLink "FinerStepsModel" 100 "FinerStepsModel" "isGlued" "[Z" ∈ BIG := big_6 _ (List.mem_of_getElem? (i := 101) (by decide +kernel)) (by decide +kernel)
theorem fl_X12_432 : Cond.fieldLink "FinerStepsModel" 432 "FinerStepsModel" "shownOf" "I" ∈ BIG := big_6 _ (List.mem_of_getElem? (i := 102) (by decide +kernel)) (by decide +kernel)
theorem fl_X12_435 : Cond.fieldLink "FinerStepsModel" 435 "FinerStepsModel" "shownA" "I" ∈ BIG := big_6 _ (List.mem_of_getElem? (i := 103) (by decide +kernel)) (by decide +kernel)
theorem fl_X12_438 : Cond.fieldLink "FinerStepsModel" 438 "FinerStepsModel" "shownS" "I" ∈ BIG := big_6 _ (List.mem_of_getElem? (i := 104) (by decide +kernel)) (by decide +kernel)
theorem fl_X12_441 : Cond.fieldLink "FinerStepsModel" 441 "FinerStepsModel" "shownPick" "I" ∈ BIG := big_6 _ (List.mem_of_getElem? (i := 105) (by decide +kernel)) (by decide +kernel)
theorem fl_X12_362 : Cond.fieldLink "FinerStepsModel" 362 "FinerStepsModel" "isShown" "Z" ∈ BIG := big_6 _ (List.mem_of_getElem? (i := 106) (by decide +kernel)) (by decide +kernel)
theorem fl_X12_103 : Cond.fieldLink "FinerStepsModel" 103 "FinerStepsModel" "ink" "[I" ∈ BIG := big_6 _ (List.mem_of_getElem? (i := 107) (by decide +kernel)) (by decide +kernel)
theorem fl_X12_457 : Cond.fieldLink "FinerStepsModel" 457 "FinerStepsModel" "inked" "I" ∈ BIG := big_6 _ (List.mem_of_getElem? (i := 108) (by decide +kernel)) (by decide +kernel)
theorem fl_X12_106 : Cond.fieldLink "FinerStepsModel" 106 "FinerStepsModel" "runOf" "I" ∈ BIG := big_6 _ (List.mem_of_getElem? (i := 109) (by decide +kernel)) (by decide +kernel)
theorem fl_X12_473 : Cond.fieldLink "FinerStepsModel" 473 "FinerStepsModel" "runState" "I" ∈ BIG := big_6 _ (List.mem_of_getElem? (i := 110) (by decide +kernel)) (by decide +kernel)
theorem fl_X12_476 : Cond.fieldLink "FinerStepsModel" 476 "FinerStepsModel" "runMany" "I" ∈ BIG := big_6 _ (List.mem_of_getElem? (i := 111) (by decide +kernel)) (by decide +kernel)
theorem fl_X12_109 : Cond.fieldLink "FinerStepsModel" 109 "FinerStepsModel" "isBeside" "[Z" ∈ BIG := big_6 _ (List.mem_of_getElem? (i := 112) (by decide +kernel)) (by decide +kernel)
theorem fl_X12_112 : Cond.fieldLink "FinerStepsModel" 112 "FinerStepsModel" "wasBeside" "[Z" ∈ BIG := big_6 _ (List.mem_of_getElem? (i := 113) (by decide +kernel)) (by decide +kernel)
theorem fl_X12_496 : Cond.fieldLink "FinerStepsModel" 496 "FinerStepsModel" "seed" "J" ∈ BIG := big_6 _ (List.mem_of_getElem? (i := 114) (by decide +kernel)) (by decide +kernel)
theorem fl_X12_115 : Cond.fieldLink "FinerStepsModel" 115 "FinerStepsModel" "far" "[I" ∈ BIG := big_6 _ (List.mem_of_getElem? (i := 115) (by decide +kernel)) (by decide +kernel)
theorem fl_X12_118 : Cond.fieldLink "FinerStepsModel" 118 "FinerStepsModel" "queue" "[I" ∈ BIG := big_6 _ (List.mem_of_getElem? (i := 116) (by decide +kernel)) (by decide +kernel)
theorem fl_X12_511 : Cond.fieldLink "FinerStepsModel" 511 "FinerStepsModel" "met" "I" ∈ BIG := big_6 _ (List.mem_of_getElem? (i := 117) (by decide +kernel)) (by decide +kernel)
theorem ml_L_151 : Cond.methodLink "FinerStepsLaw" 151 yX12_thrown ∈ BIG := big_7 _ (List.mem_of_getElem? (i := 9) (by decide +kernel)) (by decide +kernel)
theorem im_yX12_thrown : Cond.instanceMethod yX12_thrown ∈ BIG := big_7 _ (List.mem_of_getElem? (i := 10) (by decide +kernel)) (by decide +kernel)
theorem se_yX12_thrown : Cond.selects "FinerStepsModel" yX12_thrown yX12_thrown ∈ BIG := big_7 _ (List.mem_of_getElem? (i := 11) (by decide +kernel)) (by decide +kernel)
theorem co_yX12_thrown : Cond.code yX12_thrown cX12_thrown 1 (some FieldType.int) ∈ BIG := big_7 _ (List.mem_of_getElem? (i := 12) (by decide +kernel)) (by decide +kernel)
theorem ml_L_23 : Cond.methodLink "FinerStepsLaw" 23 yX12_feed ∈ BIG := big_7 _ (List.mem_of_getElem? (i := 13) (by decide +kernel)) (by decide +kernel)
theorem im_yX12_feed : Cond.instanceMethod yX12_feed ∈ BIG := big_7 _ (List.mem_of_getElem? (i := 14) (by decide +kernel)) (by decide +kernel)
theorem se_yX12_feed : Cond.selects "FinerStepsModel" yX12_feed yX12_feed ∈ BIG := big_7 _ (List.mem_of_getElem? (i := 15) (by decide +kernel)) (by decide +kernel)
theorem co_yX12_feed : Cond.code yX12_feed cX12_feed 8 (some FieldType.int) ∈ BIG := big_7 _ (List.mem_of_getElem? (i := 16) (by decide +kernel)) (by decide +kernel)
theorem ml_L_33 : Cond.methodLink "FinerStepsLaw" 33 yX12_fault ∈ BIG := big_7 _ (List.mem_of_getElem? (i := 17) (by decide +kernel)) (by decide +kernel)
theorem im_yX12_fault : Cond.instanceMethod yX12_fault ∈ BIG := big_7 _ (List.mem_of_getElem? (i := 18) (by decide +kernel)) (by decide +kernel)
theorem se_yX12_fault : Cond.selects "FinerStepsModel" yX12_fault yX12_fault ∈ BIG := big_7 _ (List.mem_of_getElem? (i := 19) (by decide +kernel)) (by decide +kernel)
theorem co_yX12_fault : Cond.code yX12_fault cX12_fault 1 (some FieldType.int) ∈ BIG := big_7 _ (List.mem_of_getElem? (i := 20) (by decide +kernel)) (by decide +kernel)
theorem ml_L_37 : Cond.methodLink "FinerStepsLaw" 37 yX12_where ∈ BIG := big_7 _ (List.mem_of_getElem? (i := 21) (by decide +kernel)) (by decide +kernel)
theorem im_yX12_where : Cond.instanceMethod yX12_where ∈ BIG := big_7 _ (List.mem_of_getElem? (i := 22) (by decide +kernel)) (by decide +kernel)
theorem se_yX12_where : Cond.selects "FinerStepsModel" yX12_where yX12_where ∈ BIG := big_7 _ (List.mem_of_getElem? (i := 23) (by decide +kernel)) (by decide +kernel)
theorem co_yX12_where : Cond.code yX12_where cX12_where 1 (some FieldType.int) ∈ BIG := big_7 _ (List.mem_of_getElem? (i := 24) (by decide +kernel)) (by decide +kernel)
theorem ml_L_28 : Cond.methodLink "FinerStepsLaw" 28 yX12_machines ∈ BIG := big_7 _ (List.mem_of_getElem? (i := 25) (by decide +kernel)) (by decide +kernel)
theorem im_yX12_machines : Cond.instanceMethod yX12_machines ∈ BIG := big_7 _ (List.mem_of_getElem? (i := 26) (by decide +kernel)) (by decide +kernel)
theorem se_yX12_machines : Cond.selects "FinerStepsModel" yX12_machines yX12_machines ∈ BIG := big_7 _ (List.mem_of_getElem? (i := 27) (by decide +kernel)) (by decide +kernel)
theorem co_yX12_machines : Cond.code yX12_machines cX12_machines 3 (some FieldType.int) ∈ BIG := big_7 _ (List.mem_of_getElem? (i := 28) (by decide +kernel)) (by decide +kernel)
theorem ml_X12_142 : Cond.methodLink "FinerStepsModel" 142 yX12_in ∈ BIG := big_7 _ (List.mem_of_getElem? (i := 29) (by decide +kernel)) (by decide +kernel)
theorem st_yX12_in : Cond.static yX12_in ∈ BIG := big_7 _ (List.mem_of_getElem? (i := 30) (by decide +kernel)) (by decide +kernel)
theorem co_yX12_in : Cond.code yX12_in cX12_in 3 (some FieldType.boolean) ∈ BIG := big_7 _ (List.mem_of_getElem? (i := 31) (by decide +kernel)) (by decide +kernel)
theorem ml_X12_350 : Cond.methodLink "FinerStepsModel" 350 yX12_refused ∈ BIG := big_7 _ (List.mem_of_getElem? (i := 32) (by decide +kernel)) (by decide +kernel)
theorem im_yX12_refused : Cond.instanceMethod yX12_refused ∈ BIG := big_7 _ (List.mem_of_getElem? (i := 34) (by decide +kernel)) (by decide +kernel)
theorem co_yX12_refused : Cond.code yX12_refused cX12_refused 2 (some FieldType.int) ∈ BIG := big_7 _ (List.mem_of_getElem? (i := 35) (by decide +kernel)) (by decide +kernel)
theorem ml_X12_353 : Cond.methodLink "FinerStepsModel" 353 yX12_readAll ∈ BIG := big_7 _ (List.mem_of_getElem? (i := 36) (by decide +kernel)) (by decide +kernel)
theorem im_yX12_readAll : Cond.instanceMethod yX12_readAll ∈ BIG := big_7 _ (List.mem_of_getElem? (i := 38) (by decide +kernel)) (by decide +kernel)
theorem co_yX12_readAll : Cond.code yX12_readAll cX12_readAll 1 none ∈ BIG := big_7 _ (List.mem_of_getElem? (i := 39) (by decide +kernel)) (by decide +kernel)
theorem ml_X12_198 : Cond.methodLink "FinerStepsModel" 198 yX12_goOn ∈ BIG := big_7 _ (List.mem_of_getElem? (i := 40) (by decide +kernel)) (by decide +kernel)
theorem im_yX12_goOn : Cond.instanceMethod yX12_goOn ∈ BIG := big_7 _ (List.mem_of_getElem? (i := 42) (by decide +kernel)) (by decide +kernel)
theorem co_yX12_goOn : Cond.code yX12_goOn cX12_goOn 1 none ∈ BIG := big_7 _ (List.mem_of_getElem? (i := 43) (by decide +kernel)) (by decide +kernel)
theorem ml_X12_152 : Cond.methodLink "FinerStepsModel" 152 yX12_isLetterAt ∈ BIG := big_7 _ (List.mem_of_getElem? (i := 44) (by decide +kernel)) (by decide +kernel)
theorem im_yX12_isLetterAt : Cond.instanceMethod yX12_isLetterAt ∈ BIG := big_7 _ (List.mem_of_getElem? (i := 46) (by decide +kernel)) (by decide +kernel)
theorem co_yX12_isLetterAt : Cond.code yX12_isLetterAt cX12_isLetterAt 2 (some FieldType.boolean) ∈ BIG := big_7 _ (List.mem_of_getElem? (i := 47) (by decide +kernel)) (by decide +kernel)
theorem kl_X12_160 : Cond.constantLong "FinerStepsModel" 160 (32 : Int64) ∈ BIG := big_7 _ (List.mem_of_getElem? (i := 48) (by decide +kernel)) (by decide +kernel)
theorem kl_X12_162 : Cond.constantLong "FinerStepsModel" 162 (97 : Int64) ∈ BIG := big_7 _ (List.mem_of_getElem? (i := 49) (by decide +kernel)) (by decide +kernel)
theorem ml_X12_164 : Cond.methodLink "FinerStepsModel" 164 yX12_isDigitAt ∈ BIG := big_7 _ (List.mem_of_getElem? (i := 50) (by decide +kernel)) (by decide +kernel)
theorem im_yX12_isDigitAt : Cond.instanceMethod yX12_isDigitAt ∈ BIG := big_7 _ (List.mem_of_getElem? (i := 52) (by decide +kernel)) (by decide +kernel)
theorem co_yX12_isDigitAt : Cond.code yX12_isDigitAt cX12_isDigitAt 2 (some FieldType.boolean) ∈ BIG := big_7 _ (List.mem_of_getElem? (i := 53) (by decide +kernel)) (by decide +kernel)
theorem ml_X12_173 : Cond.methodLink "FinerStepsModel" 173 yX12_isSignOf ∈ BIG := big_7 _ (List.mem_of_getElem? (i := 54) (by decide +kernel)) (by decide +kernel)
theorem st_yX12_isSignOf : Cond.static yX12_isSignOf ∈ BIG := big_7 _ (List.mem_of_getElem? (i := 55) (by decide +kernel)) (by decide +kernel)
theorem co_yX12_isSignOf : Cond.code yX12_isSignOf cX12_isSignOf 1 (some FieldType.boolean) ∈ BIG := big_7 _ (List.mem_of_getElem? (i := 56) (by decide +kernel)) (by decide +kernel)
theorem ml_X12_344 : Cond.methodLink "FinerStepsModel" 344 yX12_readLine ∈ BIG := big_7 _ (List.mem_of_getElem? (i := 57) (by decide +kernel)) (by decide +kernel)
theorem im_yX12_readLine : Cond.instanceMethod yX12_readLine ∈ BIG := big_7 _ (List.mem_of_getElem? (i := 59) (by decide +kernel)) (by decide +kernel)
theorem co_yX12_readLine : Cond.code yX12_readLine cX12_readLine 3 none ∈ BIG := big_7 _ (List.mem_of_getElem? (i := 60) (by decide +kernel)) (by decide +kernel)
theorem ml_X12_190 : Cond.methodLink "FinerStepsModel" 190 yX12_isWord ∈ BIG := big_7 _ (List.mem_of_getElem? (i := 62) (by decide +kernel)) (by decide +kernel)
theorem im_yX12_isWord : Cond.instanceMethod yX12_isWord ∈ BIG := big_7 _ (List.mem_of_getElem? (i := 64) (by decide +kernel)) (by decide +kernel)
theorem co_yX12_isWord : Cond.code yX12_isWord cX12_isWord 2 (some FieldType.boolean) ∈ BIG := big_7 _ (List.mem_of_getElem? (i := 65) (by decide +kernel)) (by decide +kernel)
theorem ml_X12_186 : Cond.methodLink "FinerStepsModel" 186 yX12_wordOf ∈ BIG := big_7 _ (List.mem_of_getElem? (i := 66) (by decide +kernel)) (by decide +kernel)
theorem st_yX12_wordOf : Cond.static yX12_wordOf ∈ BIG := big_7 _ (List.mem_of_getElem? (i := 67) (by decide +kernel)) (by decide +kernel)
theorem co_yX12_wordOf : Cond.code yX12_wordOf cX12_wordOf 4 (some FieldType.long) ∈ BIG := big_7 _ (List.mem_of_getElem? (i := 68) (by decide +kernel)) (by decide +kernel)
theorem ml_X12_176 : Cond.methodLink "FinerStepsModel" 176 yJ0_length_8abf5 ∈ BIG := big_7 _ (List.mem_of_getElem? (i := 69) (by decide +kernel)) (by decide +kernel)
theorem ml_X12_182 : Cond.methodLink "FinerStepsModel" 182 yJ0_charAt_5068e ∈ BIG := big_7 _ (List.mem_of_getElem? (i := 70) (by decide +kernel)) (by decide +kernel)
theorem ml_X12_329 : Cond.methodLink "FinerStepsModel" 329 yX12_readMachine ∈ BIG := big_7 _ (List.mem_of_getElem? (i := 71) (by decide +kernel)) (by decide +kernel)
theorem im_yX12_readMachine : Cond.instanceMethod yX12_readMachine ∈ BIG := big_7 _ (List.mem_of_getElem? (i := 73) (by decide +kernel)) (by decide +kernel)
theorem co_yX12_readMachine : Cond.code yX12_readMachine cX12_readMachine 4 none ∈ BIG := big_7 _ (List.mem_of_getElem? (i := 74) (by decide +kernel)) (by decide +kernel)
theorem ml_X12_194 : Cond.methodLink "FinerStepsModel" 194 yX12_flaw ∈ BIG := big_7 _ (List.mem_of_getElem? (i := 75) (by decide +kernel)) (by decide +kernel)
theorem im_yX12_flaw : Cond.instanceMethod yX12_flaw ∈ BIG := big_7 _ (List.mem_of_getElem? (i := 77) (by decide +kernel)) (by decide +kernel)
theorem co_yX12_flaw : Cond.code yX12_flaw cX12_flaw 2 none ∈ BIG := big_7 _ (List.mem_of_getElem? (i := 78) (by decide +kernel)) (by decide +kernel)
theorem ml_X12_306 : Cond.methodLink "FinerStepsModel" 306 yX12_readNew ∈ BIG := big_7 _ (List.mem_of_getElem? (i := 79) (by decide +kernel)) (by decide +kernel)
theorem im_yX12_readNew : Cond.instanceMethod yX12_readNew ∈ BIG := big_7 _ (List.mem_of_getElem? (i := 81) (by decide +kernel)) (by decide +kernel)
theorem co_yX12_readNew : Cond.code yX12_readNew cX12_readNew 3 (some FieldType.long) ∈ BIG := big_7 _ (List.mem_of_getElem? (i := 82) (by decide +kernel)) (by decide +kernel)
theorem ml_X12_245 : Cond.methodLink "FinerStepsModel" 245 yX12_isName ∈ BIG := big_7 _ (List.mem_of_getElem? (i := 83) (by decide +kernel)) (by decide +kernel)
theorem im_yX12_isName : Cond.instanceMethod yX12_isName ∈ BIG := big_7 _ (List.mem_of_getElem? (i := 85) (by decide +kernel)) (by decide +kernel)
theorem co_yX12_isName : Cond.code yX12_isName cX12_isName 1 (some FieldType.boolean) ∈ BIG := big_7 _ (List.mem_of_getElem? (i := 86) (by decide +kernel)) (by decide +kernel)
theorem ml_X12_235 : Cond.methodLink "FinerStepsModel" 235 yX12_isOwn ∈ BIG := big_7 _ (List.mem_of_getElem? (i := 87) (by decide +kernel)) (by decide +kernel)
theorem im_yX12_isOwn : Cond.instanceMethod yX12_isOwn ∈ BIG := big_7 _ (List.mem_of_getElem? (i := 89) (by decide +kernel)) (by decide +kernel)
theorem co_yX12_isOwn : Cond.code yX12_isOwn cX12_isOwn 2 (some FieldType.boolean) ∈ BIG := big_7 _ (List.mem_of_getElem? (i := 90) (by decide +kernel)) (by decide +kernel)
theorem ml_X12_302 : Cond.methodLink "FinerStepsModel" 302 yX12_isTold ∈ BIG := big_7 _ (List.mem_of_getElem? (i := 106) (by decide +kernel)) (by decide +kernel)
theorem im_yX12_isTold : Cond.instanceMethod yX12_isTold ∈ BIG := big_7 _ (List.mem_of_getElem? (i := 108) (by decide +kernel)) (by decide +kernel)
theorem co_yX12_isTold : Cond.code yX12_isTold cX12_isTold 4 (some FieldType.boolean) ∈ BIG := big_7 _ (List.mem_of_getElem? (i := 109) (by decide +kernel)) (by decide +kernel)
theorem ml_X12_255 : Cond.methodLink "FinerStepsModel" 255 yX12_varOf ∈ BIG := big_7 _ (List.mem_of_getElem? (i := 110) (by decide +kernel)) (by decide +kernel)
theorem im_yX12_varOf : Cond.instanceMethod yX12_varOf ∈ BIG := big_7 _ (List.mem_of_getElem? (i := 112) (by decide +kernel)) (by decide +kernel)
theorem co_yX12_varOf : Cond.code yX12_varOf cX12_varOf 5 (some FieldType.int) ∈ BIG := big_7 _ (List.mem_of_getElem? (i := 113) (by decide +kernel)) (by decide +kernel)
theorem ml_X12_299 : Cond.methodLink "FinerStepsModel" 299 yX12_eventIn ∈ BIG := big_7 _ (List.mem_of_getElem? (i := 114) (by decide +kernel)) (by decide +kernel)
theorem im_yX12_eventIn : Cond.instanceMethod yX12_eventIn ∈ BIG := big_7 _ (List.mem_of_getElem? (i := 116) (by decide +kernel)) (by decide +kernel)
theorem co_yX12_eventIn : Cond.code yX12_eventIn cX12_eventIn 5 (some FieldType.int) ∈ BIG := big_7 _ (List.mem_of_getElem? (i := 117) (by decide +kernel)) (by decide +kernel)
theorem ml_X12_332 : Cond.methodLink "FinerStepsModel" 332 yX12_readVar ∈ BIG := big_7 _ (List.mem_of_getElem? (i := 118) (by decide +kernel)) (by decide +kernel)
theorem im_yX12_readVar : Cond.instanceMethod yX12_readVar ∈ BIG := big_7 _ (List.mem_of_getElem? (i := 120) (by decide +kernel)) (by decide +kernel)
theorem co_yX12_readVar : Cond.code yX12_readVar cX12_readVar 8 none ∈ BIG := big_7 _ (List.mem_of_getElem? (i := 121) (by decide +kernel)) (by decide +kernel)
theorem ml_X12_310 : Cond.methodLink "FinerStepsModel" 310 yX12_needs ∈ BIG := big_7 _ (List.mem_of_getElem? (i := 122) (by decide +kernel)) (by decide +kernel)
theorem im_yX12_needs : Cond.instanceMethod yX12_needs ∈ BIG := big_7 _ (List.mem_of_getElem? (i := 124) (by decide +kernel)) (by decide +kernel)
theorem co_yX12_needs : Cond.code yX12_needs cX12_needs 2 none ∈ BIG := big_7 _ (List.mem_of_getElem? (i := 125) (by decide +kernel)) (by decide +kernel)
theorem ml_X12_314 : Cond.methodLink "FinerStepsModel" 314 yX12_readWhole ∈ BIG := big_7 _ (List.mem_of_getElem? (i := 126) (by decide +kernel)) (by decide +kernel)
theorem im_yX12_readWhole : Cond.instanceMethod yX12_readWhole ∈ BIG := big_7 _ (List.mem_of_getElem? (i := 128) (by decide +kernel)) (by decide +kernel)
theorem co_yX12_readWhole : Cond.code yX12_readWhole cX12_readWhole 4 (some FieldType.int) ∈ BIG := big_7 _ (List.mem_of_getElem? (i := 129) (by decide +kernel)) (by decide +kernel)
theorem ml_X12_335 : Cond.methodLink "FinerStepsModel" 335 yX12_readLaw ∈ BIG := big_7 _ (List.mem_of_getElem? (i := 130) (by decide +kernel)) (by decide +kernel)
theorem im_yX12_readLaw : Cond.instanceMethod yX12_readLaw ∈ BIG := big_7 _ (List.mem_of_getElem? (i := 132) (by decide +kernel)) (by decide +kernel)
theorem co_yX12_readLaw : Cond.code yX12_readLaw cX12_readLaw 3 none ∈ BIG := big_7 _ (List.mem_of_getElem? (i := 133) (by decide +kernel)) (by decide +kernel)
theorem ml_X12_318 : Cond.methodLink "FinerStepsModel" 318 yX12_begins ∈ BIG := big_7 _ (List.mem_of_getElem? (i := 134) (by decide +kernel)) (by decide +kernel)
theorem im_yX12_begins : Cond.instanceMethod yX12_begins ∈ BIG := big_7 _ (List.mem_of_getElem? (i := 136) (by decide +kernel)) (by decide +kernel)
theorem co_yX12_begins : Cond.code yX12_begins cX12_begins 3 none ∈ BIG := big_7 _ (List.mem_of_getElem? (i := 137) (by decide +kernel)) (by decide +kernel)
theorem ml_X12_290 : Cond.methodLink "FinerStepsModel" 290 yX12_readTest ∈ BIG := big_7 _ (List.mem_of_getElem? (i := 138) (by decide +kernel)) (by decide +kernel)
theorem im_yX12_readTest : Cond.instanceMethod yX12_readTest ∈ BIG := big_7 _ (List.mem_of_getElem? (i := 140) (by decide +kernel)) (by decide +kernel)
theorem co_yX12_readTest : Cond.code yX12_readTest cX12_readTest 1 none ∈ BIG := big_7 _ (List.mem_of_getElem? (i := 141) (by decide +kernel)) (by decide +kernel)
theorem ml_X12_296 : Cond.methodLink "FinerStepsModel" 296 yX12_readBoth ∈ BIG := big_7 _ (List.mem_of_getElem? (i := 142) (by decide +kernel)) (by decide +kernel)
theorem im_yX12_readBoth : Cond.instanceMethod yX12_readBoth ∈ BIG := big_7 _ (List.mem_of_getElem? (i := 144) (by decide +kernel)) (by decide +kernel)
theorem co_yX12_readBoth : Cond.code yX12_readBoth cX12_readBoth 1 none ∈ BIG := big_7 _ (List.mem_of_getElem? (i := 145) (by decide +kernel)) (by decide +kernel)
theorem ml_X12_287 : Cond.methodLink "FinerStepsModel" 287 yX12_readFact ∈ BIG := big_7 _ (List.mem_of_getElem? (i := 146) (by decide +kernel)) (by decide +kernel)
theorem im_yX12_readFact : Cond.instanceMethod yX12_readFact ∈ BIG := big_7 _ (List.mem_of_getElem? (i := 148) (by decide +kernel)) (by decide +kernel)
theorem co_yX12_readFact : Cond.code yX12_readFact cX12_readFact 2 none ∈ BIG := big_7 _ (List.mem_of_getElem? (i := 149) (by decide +kernel)) (by decide +kernel)
theorem ml_X12_265 : Cond.methodLink "FinerStepsModel" 265 yX12_opens ∈ BIG := big_7 _ (List.mem_of_getElem? (i := 150) (by decide +kernel)) (by decide +kernel)
theorem im_yX12_opens : Cond.instanceMethod yX12_opens ∈ BIG := big_7 _ (List.mem_of_getElem? (i := 152) (by decide +kernel)) (by decide +kernel)
theorem co_yX12_opens : Cond.code yX12_opens cX12_opens 1 none ∈ BIG := big_7 _ (List.mem_of_getElem? (i := 153) (by decide +kernel)) (by decide +kernel)
theorem ml_X12_274 : Cond.methodLink "FinerStepsModel" 274 yX12_emits ∈ BIG := big_7 _ (List.mem_of_getElem? (i := 154) (by decide +kernel)) (by decide +kernel)
theorem im_yX12_emits : Cond.instanceMethod yX12_emits ∈ BIG := big_7 _ (List.mem_of_getElem? (i := 156) (by decide +kernel)) (by decide +kernel)
theorem co_yX12_emits : Cond.code yX12_emits cX12_emits 3 none ∈ BIG := big_7 _ (List.mem_of_getElem? (i := 157) (by decide +kernel)) (by decide +kernel)
theorem ml_X12_201 : Cond.methodLink "FinerStepsModel" 201 yX12_isSign ∈ BIG := big_7 _ (List.mem_of_getElem? (i := 158) (by decide +kernel)) (by decide +kernel)
theorem im_yX12_isSign : Cond.instanceMethod yX12_isSign ∈ BIG := big_7 _ (List.mem_of_getElem? (i := 160) (by decide +kernel)) (by decide +kernel)
theorem co_yX12_isSign : Cond.code yX12_isSign cX12_isSign 2 (some FieldType.boolean) ∈ BIG := big_7 _ (List.mem_of_getElem? (i := 161) (by decide +kernel)) (by decide +kernel)
theorem ml_X12_271 : Cond.methodLink "FinerStepsModel" 271 yX12_needsSign ∈ BIG := big_7 _ (List.mem_of_getElem? (i := 162) (by decide +kernel)) (by decide +kernel)
theorem im_yX12_needsSign : Cond.instanceMethod yX12_needsSign ∈ BIG := big_7 _ (List.mem_of_getElem? (i := 164) (by decide +kernel)) (by decide +kernel)
theorem co_yX12_needsSign : Cond.code yX12_needsSign cX12_needsSign 2 none ∈ BIG := big_7 _ (List.mem_of_getElem? (i := 165) (by decide +kernel)) (by decide +kernel)
theorem ml_X12_268 : Cond.methodLink "FinerStepsModel" 268 yX12_readSum ∈ BIG := big_7 _ (List.mem_of_getElem? (i := 166) (by decide +kernel)) (by decide +kernel)
theorem im_yX12_readSum : Cond.instanceMethod yX12_readSum ∈ BIG := big_7 _ (List.mem_of_getElem? (i := 168) (by decide +kernel)) (by decide +kernel)
theorem co_yX12_readSum : Cond.code yX12_readSum cX12_readSum 2 none ∈ BIG := big_7 _ (List.mem_of_getElem? (i := 169) (by decide +kernel)) (by decide +kernel)
theorem ml_X12_284 : Cond.methodLink "FinerStepsModel" 284 yX12_readTerm ∈ BIG := big_7 _ (List.mem_of_getElem? (i := 170) (by decide +kernel)) (by decide +kernel)
theorem im_yX12_readTerm : Cond.instanceMethod yX12_readTerm ∈ BIG := big_7 _ (List.mem_of_getElem? (i := 172) (by decide +kernel)) (by decide +kernel)
theorem co_yX12_readTerm : Cond.code yX12_readTerm cX12_readTerm 1 none ∈ BIG := big_7 _ (List.mem_of_getElem? (i := 173) (by decide +kernel)) (by decide +kernel)
theorem ml_X12_278 : Cond.methodLink "FinerStepsModel" 278 yX12_readAtom ∈ BIG := big_7 _ (List.mem_of_getElem? (i := 174) (by decide +kernel)) (by decide +kernel)
theorem im_yX12_readAtom : Cond.instanceMethod yX12_readAtom ∈ BIG := big_7 _ (List.mem_of_getElem? (i := 176) (by decide +kernel)) (by decide +kernel)
theorem co_yX12_readAtom : Cond.code yX12_readAtom cX12_readAtom 5 none ∈ BIG := big_7 _ (List.mem_of_getElem? (i := 177) (by decide +kernel)) (by decide +kernel)
theorem ml_X12_281 : Cond.methodLink "FinerStepsModel" 281 yX12_passesSign ∈ BIG := big_7 _ (List.mem_of_getElem? (i := 178) (by decide +kernel)) (by decide +kernel)
theorem im_yX12_passesSign : Cond.instanceMethod yX12_passesSign ∈ BIG := big_7 _ (List.mem_of_getElem? (i := 180) (by decide +kernel)) (by decide +kernel)
theorem co_yX12_passesSign : Cond.code yX12_passesSign cX12_passesSign 2 (some FieldType.boolean) ∈ BIG := big_7 _ (List.mem_of_getElem? (i := 181) (by decide +kernel)) (by decide +kernel)
theorem ml_X12_293 : Cond.methodLink "FinerStepsModel" 293 yX12_passes ∈ BIG := big_7 _ (List.mem_of_getElem? (i := 182) (by decide +kernel)) (by decide +kernel)
theorem im_yX12_passes : Cond.instanceMethod yX12_passes ∈ BIG := big_7 _ (List.mem_of_getElem? (i := 184) (by decide +kernel)) (by decide +kernel)
theorem co_yX12_passes : Cond.code yX12_passes cX12_passes 2 (some FieldType.boolean) ∈ BIG := big_7 _ (List.mem_of_getElem? (i := 185) (by decide +kernel)) (by decide +kernel)
theorem ml_X12_338 : Cond.methodLink "FinerStepsModel" 338 yX12_readEvent ∈ BIG := big_7 _ (List.mem_of_getElem? (i := 186) (by decide +kernel)) (by decide +kernel)
theorem im_yX12_readEvent : Cond.instanceMethod yX12_readEvent ∈ BIG := big_7 _ (List.mem_of_getElem? (i := 188) (by decide +kernel)) (by decide +kernel)
theorem co_yX12_readEvent : Cond.code yX12_readEvent cX12_readEvent 10 none ∈ BIG := big_7 _ (List.mem_of_getElem? (i := 189) (by decide +kernel)) (by decide +kernel)
theorem ml_X12_322 : Cond.methodLink "FinerStepsModel" 322 yX12_readOf ∈ BIG := big_7 _ (List.mem_of_getElem? (i := 190) (by decide +kernel)) (by decide +kernel)
theorem im_yX12_readOf : Cond.instanceMethod yX12_readOf ∈ BIG := big_7 _ (List.mem_of_getElem? (i := 192) (by decide +kernel)) (by decide +kernel)
theorem co_yX12_readOf : Cond.code yX12_readOf cX12_readOf 3 (some FieldType.int) ∈ BIG := big_7 _ (List.mem_of_getElem? (i := 193) (by decide +kernel)) (by decide +kernel)
theorem ml_X12_326 : Cond.methodLink "FinerStepsModel" 326 yX12_readGiven ∈ BIG := big_7 _ (List.mem_of_getElem? (i := 194) (by decide +kernel)) (by decide +kernel)
theorem im_yX12_readGiven : Cond.instanceMethod yX12_readGiven ∈ BIG := big_7 _ (List.mem_of_getElem? (i := 196) (by decide +kernel)) (by decide +kernel)
theorem co_yX12_readGiven : Cond.code yX12_readGiven cX12_readGiven 5 none ∈ BIG := big_7 _ (List.mem_of_getElem? (i := 197) (by decide +kernel)) (by decide +kernel)
theorem ml_X12_341 : Cond.methodLink "FinerStepsModel" 341 yX12_readVariant ∈ BIG := big_7 _ (List.mem_of_getElem? (i := 198) (by decide +kernel)) (by decide +kernel)
theorem im_yX12_readVariant : Cond.instanceMethod yX12_readVariant ∈ BIG := big_7 _ (List.mem_of_getElem? (i := 200) (by decide +kernel)) (by decide +kernel)
theorem co_yX12_readVariant : Cond.code yX12_readVariant cX12_readVariant 3 none ∈ BIG := big_7 _ (List.mem_of_getElem? (i := 201) (by decide +kernel)) (by decide +kernel)
theorem ml_X12_356 : Cond.methodLink "FinerStepsModel" 356 yX12_holds ∈ BIG := big_7 _ (List.mem_of_getElem? (i := 202) (by decide +kernel)) (by decide +kernel)
theorem im_yX12_holds : Cond.instanceMethod yX12_holds ∈ BIG := big_7 _ (List.mem_of_getElem? (i := 204) (by decide +kernel)) (by decide +kernel)
theorem co_yX12_holds : Cond.code yX12_holds cX12_holds 3 none ∈ BIG := big_7 _ (List.mem_of_getElem? (i := 205) (by decide +kernel)) (by decide +kernel)
theorem ml_X12_359 : Cond.methodLink "FinerStepsModel" 359 yX12_glues ∈ BIG := big_7 _ (List.mem_of_getElem? (i := 206) (by decide +kernel)) (by decide +kernel)
theorem im_yX12_glues : Cond.instanceMethod yX12_glues ∈ BIG := big_7 _ (List.mem_of_getElem? (i := 208) (by decide +kernel)) (by decide +kernel)
theorem co_yX12_glues : Cond.code yX12_glues cX12_glues 5 none ∈ BIG := big_7 _ (List.mem_of_getElem? (i := 209) (by decide +kernel)) (by decide +kernel)
theorem ml_X12_379 : Cond.methodLink "FinerStepsModel" 379 yX12_holdsAll ∈ BIG := big_7 _ (List.mem_of_getElem? (i := 210) (by decide +kernel)) (by decide +kernel)
theorem im_yX12_holdsAll : Cond.instanceMethod yX12_holdsAll ∈ BIG := big_7 _ (List.mem_of_getElem? (i := 212) (by decide +kernel)) (by decide +kernel)
theorem co_yX12_holdsAll : Cond.code yX12_holdsAll cX12_holdsAll 5 (some FieldType.boolean) ∈ BIG := big_7 _ (List.mem_of_getElem? (i := 213) (by decide +kernel)) (by decide +kernel)
theorem ml_X12_375 : Cond.methodLink "FinerStepsModel" 375 yX12_told ∈ BIG := big_7 _ (List.mem_of_getElem? (i := 214) (by decide +kernel)) (by decide +kernel)
theorem im_yX12_told : Cond.instanceMethod yX12_told ∈ BIG := big_7 _ (List.mem_of_getElem? (i := 216) (by decide +kernel)) (by decide +kernel)
theorem co_yX12_told : Cond.code yX12_told cX12_told 10 (some FieldType.int) ∈ BIG := big_7 _ (List.mem_of_getElem? (i := 217) (by decide +kernel)) (by decide +kernel)
theorem ml_X12_368 : Cond.methodLink "FinerStepsModel" 368 yX12_valueOf ∈ BIG := big_7 _ (List.mem_of_getElem? (i := 218) (by decide +kernel)) (by decide +kernel)
theorem im_yX12_valueOf : Cond.instanceMethod yX12_valueOf ∈ BIG := big_7 _ (List.mem_of_getElem? (i := 220) (by decide +kernel)) (by decide +kernel)
theorem co_yX12_valueOf : Cond.code yX12_valueOf cX12_valueOf 8 (some FieldType.int) ∈ BIG := big_7 _ (List.mem_of_getElem? (i := 221) (by decide +kernel)) (by decide +kernel)
theorem ml_X12_372 : Cond.methodLink "FinerStepsModel" 372 yX12_joined ∈ BIG := big_7 _ (List.mem_of_getElem? (i := 222) (by decide +kernel)) (by decide +kernel)
theorem st_yX12_joined : Cond.static yX12_joined ∈ BIG := big_7 _ (List.mem_of_getElem? (i := 223) (by decide +kernel)) (by decide +kernel)
theorem co_yX12_joined : Cond.code yX12_joined cX12_joined 3 (some FieldType.int) ∈ BIG := big_7 _ (List.mem_of_getElem? (i := 224) (by decide +kernel)) (by decide +kernel)
theorem ml_X12_382 : Cond.methodLink "FinerStepsModel" 382 yX12_pair ∈ BIG := big_7 _ (List.mem_of_getElem? (i := 225) (by decide +kernel)) (by decide +kernel)
theorem st_yX12_pair : Cond.static yX12_pair ∈ BIG := big_7 _ (List.mem_of_getElem? (i := 226) (by decide +kernel)) (by decide +kernel)
theorem co_yX12_pair : Cond.code yX12_pair cX12_pair 3 (some FieldType.int) ∈ BIG := big_7 _ (List.mem_of_getElem? (i := 227) (by decide +kernel)) (by decide +kernel)
theorem ml_X12_365 : Cond.methodLink "FinerStepsModel" 365 yX12_good ∈ BIG := big_7 _ (List.mem_of_getElem? (i := 228) (by decide +kernel)) (by decide +kernel)
theorem im_yX12_good : Cond.instanceMethod yX12_good ∈ BIG := big_7 _ (List.mem_of_getElem? (i := 230) (by decide +kernel)) (by decide +kernel)
theorem co_yX12_good : Cond.code yX12_good cX12_good 2 (some FieldType.int) ∈ BIG := big_7 _ (List.mem_of_getElem? (i := 231) (by decide +kernel)) (by decide +kernel)
theorem ml_L_42 : Cond.methodLink "FinerStepsLaw" 42 yX12_machine ∈ BIG := big_7 _ (List.mem_of_getElem? (i := 232) (by decide +kernel)) (by decide +kernel)
theorem im_yX12_machine : Cond.instanceMethod yX12_machine ∈ BIG := big_7 _ (List.mem_of_getElem? (i := 233) (by decide +kernel)) (by decide +kernel)
theorem se_yX12_machine : Cond.selects "FinerStepsModel" yX12_machine yX12_machine ∈ BIG := big_7 _ (List.mem_of_getElem? (i := 234) (by decide +kernel)) (by decide +kernel)
theorem co_yX12_machine : Cond.code yX12_machine cX12_machine 5 (some FieldType.int) ∈ BIG := big_7 _ (List.mem_of_getElem? (i := 235) (by decide +kernel)) (by decide +kernel)
theorem ml_X12_389 : Cond.methodLink "FinerStepsModel" 389 yX12_isMachine ∈ BIG := big_7 _ (List.mem_of_getElem? (i := 236) (by decide +kernel)) (by decide +kernel)
theorem im_yX12_isMachine : Cond.instanceMethod yX12_isMachine ∈ BIG := big_7 _ (List.mem_of_getElem? (i := 238) (by decide +kernel)) (by decide +kernel)
theorem co_yX12_isMachine : Cond.code yX12_isMachine cX12_isMachine 2 (some FieldType.boolean) ∈ BIG := big_7 _ (List.mem_of_getElem? (i := 239) (by decide +kernel)) (by decide +kernel)
theorem ml_X12_392 : Cond.methodLink "FinerStepsModel" 392 yX12_beginOf ∈ BIG := big_8 _ (List.mem_of_getElem? (i := 0) (by decide +kernel)) (by decide +kernel)
theorem im_yX12_beginOf : Cond.instanceMethod yX12_beginOf ∈ BIG := big_8 _ (List.mem_of_getElem? (i := 2) (by decide +kernel)) (by decide +kernel)
theorem co_yX12_beginOf : Cond.code yX12_beginOf cX12_beginOf 4 (some FieldType.int) ∈ BIG := big_8 _ (List.mem_of_getElem? (i := 3) (by decide +kernel)) (by decide +kernel)
theorem ml_X12_395 : Cond.methodLink "FinerStepsModel" 395 yX12_pairs ∈ BIG := big_8 _ (List.mem_of_getElem? (i := 4) (by decide +kernel)) (by decide +kernel)
theorem im_yX12_pairs : Cond.instanceMethod yX12_pairs ∈ BIG := big_8 _ (List.mem_of_getElem? (i := 6) (by decide +kernel)) (by decide +kernel)
theorem co_yX12_pairs : Cond.code yX12_pairs cX12_pairs 5 (some FieldType.int) ∈ BIG := big_8 _ (List.mem_of_getElem? (i := 7) (by decide +kernel)) (by decide +kernel)
theorem ml_L_46 : Cond.methodLink "FinerStepsLaw" 46 yX12_variable ∈ BIG := big_8 _ (List.mem_of_getElem? (i := 8) (by decide +kernel)) (by decide +kernel)
theorem im_yX12_variable : Cond.instanceMethod yX12_variable ∈ BIG := big_8 _ (List.mem_of_getElem? (i := 9) (by decide +kernel)) (by decide +kernel)
theorem se_yX12_variable : Cond.selects "FinerStepsModel" yX12_variable yX12_variable ∈ BIG := big_8 _ (List.mem_of_getElem? (i := 10) (by decide +kernel)) (by decide +kernel)
theorem co_yX12_variable : Cond.code yX12_variable cX12_variable 5 (some FieldType.int) ∈ BIG := big_8 _ (List.mem_of_getElem? (i := 11) (by decide +kernel)) (by decide +kernel)
theorem ml_X12_398 : Cond.methodLink "FinerStepsModel" 398 yX12_isVar ∈ BIG := big_8 _ (List.mem_of_getElem? (i := 12) (by decide +kernel)) (by decide +kernel)
theorem im_yX12_isVar : Cond.instanceMethod yX12_isVar ∈ BIG := big_8 _ (List.mem_of_getElem? (i := 14) (by decide +kernel)) (by decide +kernel)
theorem co_yX12_isVar : Cond.code yX12_isVar cX12_isVar 3 (some FieldType.boolean) ∈ BIG := big_8 _ (List.mem_of_getElem? (i := 15) (by decide +kernel)) (by decide +kernel)
theorem ml_L_50 : Cond.methodLink "FinerStepsLaw" 50 yX12_event ∈ BIG := big_8 _ (List.mem_of_getElem? (i := 16) (by decide +kernel)) (by decide +kernel)
theorem im_yX12_event : Cond.instanceMethod yX12_event ∈ BIG := big_8 _ (List.mem_of_getElem? (i := 17) (by decide +kernel)) (by decide +kernel)
theorem se_yX12_event : Cond.selects "FinerStepsModel" yX12_event yX12_event ∈ BIG := big_8 _ (List.mem_of_getElem? (i := 18) (by decide +kernel)) (by decide +kernel)
theorem co_yX12_event : Cond.code yX12_event cX12_event 5 (some FieldType.int) ∈ BIG := big_8 _ (List.mem_of_getElem? (i := 19) (by decide +kernel)) (by decide +kernel)
theorem ml_X12_402 : Cond.methodLink "FinerStepsModel" 402 yX12_isEvent ∈ BIG := big_8 _ (List.mem_of_getElem? (i := 20) (by decide +kernel)) (by decide +kernel)
theorem im_yX12_isEvent : Cond.instanceMethod yX12_isEvent ∈ BIG := big_8 _ (List.mem_of_getElem? (i := 22) (by decide +kernel)) (by decide +kernel)
theorem co_yX12_isEvent : Cond.code yX12_isEvent cX12_isEvent 3 (some FieldType.boolean) ∈ BIG := big_8 _ (List.mem_of_getElem? (i := 23) (by decide +kernel)) (by decide +kernel)
theorem ml_L_54 : Cond.methodLink "FinerStepsLaw" 54 yX12_value ∈ BIG := big_8 _ (List.mem_of_getElem? (i := 24) (by decide +kernel)) (by decide +kernel)
theorem im_yX12_value : Cond.instanceMethod yX12_value ∈ BIG := big_8 _ (List.mem_of_getElem? (i := 25) (by decide +kernel)) (by decide +kernel)
theorem se_yX12_value : Cond.selects "FinerStepsModel" yX12_value yX12_value ∈ BIG := big_8 _ (List.mem_of_getElem? (i := 26) (by decide +kernel)) (by decide +kernel)
theorem co_yX12_value : Cond.code yX12_value cX12_value 4 (some FieldType.int) ∈ BIG := big_8 _ (List.mem_of_getElem? (i := 27) (by decide +kernel)) (by decide +kernel)
theorem ml_X12_405 : Cond.methodLink "FinerStepsModel" 405 yX12_isState ∈ BIG := big_8 _ (List.mem_of_getElem? (i := 28) (by decide +kernel)) (by decide +kernel)
theorem im_yX12_isState : Cond.instanceMethod yX12_isState ∈ BIG := big_8 _ (List.mem_of_getElem? (i := 30) (by decide +kernel)) (by decide +kernel)
theorem co_yX12_isState : Cond.code yX12_isState cX12_isState 3 (some FieldType.boolean) ∈ BIG := big_8 _ (List.mem_of_getElem? (i := 31) (by decide +kernel)) (by decide +kernel)
theorem ml_L_58 : Cond.methodLink "FinerStepsLaw" 58 yX12_sound ∈ BIG := big_8 _ (List.mem_of_getElem? (i := 32) (by decide +kernel)) (by decide +kernel)
theorem im_yX12_sound : Cond.instanceMethod yX12_sound ∈ BIG := big_8 _ (List.mem_of_getElem? (i := 33) (by decide +kernel)) (by decide +kernel)
theorem se_yX12_sound : Cond.selects "FinerStepsModel" yX12_sound yX12_sound ∈ BIG := big_8 _ (List.mem_of_getElem? (i := 34) (by decide +kernel)) (by decide +kernel)
theorem co_yX12_sound : Cond.code yX12_sound cX12_sound 3 (some FieldType.int) ∈ BIG := big_8 _ (List.mem_of_getElem? (i := 35) (by decide +kernel)) (by decide +kernel)
theorem ml_L_62 : Cond.methodLink "FinerStepsLaw" 62 yX12_glued ∈ BIG := big_8 _ (List.mem_of_getElem? (i := 36) (by decide +kernel)) (by decide +kernel)
theorem im_yX12_glued : Cond.instanceMethod yX12_glued ∈ BIG := big_8 _ (List.mem_of_getElem? (i := 37) (by decide +kernel)) (by decide +kernel)
theorem se_yX12_glued : Cond.selects "FinerStepsModel" yX12_glued yX12_glued ∈ BIG := big_8 _ (List.mem_of_getElem? (i := 38) (by decide +kernel)) (by decide +kernel)
theorem co_yX12_glued : Cond.code yX12_glued cX12_glued 4 (some FieldType.int) ∈ BIG := big_8 _ (List.mem_of_getElem? (i := 39) (by decide +kernel)) (by decide +kernel)
theorem ml_L_66 : Cond.methodLink "FinerStepsLaw" 66 yX12_beneath ∈ BIG := big_8 _ (List.mem_of_getElem? (i := 40) (by decide +kernel)) (by decide +kernel)
theorem im_yX12_beneath : Cond.instanceMethod yX12_beneath ∈ BIG := big_8 _ (List.mem_of_getElem? (i := 41) (by decide +kernel)) (by decide +kernel)
theorem se_yX12_beneath : Cond.selects "FinerStepsModel" yX12_beneath yX12_beneath ∈ BIG := big_8 _ (List.mem_of_getElem? (i := 42) (by decide +kernel)) (by decide +kernel)
theorem co_yX12_beneath : Cond.code yX12_beneath cX12_beneath 6 (some FieldType.int) ∈ BIG := big_8 _ (List.mem_of_getElem? (i := 43) (by decide +kernel)) (by decide +kernel)
theorem ml_L_71 : Cond.methodLink "FinerStepsLaw" 71 yX12_can ∈ BIG := big_8 _ (List.mem_of_getElem? (i := 44) (by decide +kernel)) (by decide +kernel)
theorem im_yX12_can : Cond.instanceMethod yX12_can ∈ BIG := big_8 _ (List.mem_of_getElem? (i := 45) (by decide +kernel)) (by decide +kernel)
theorem se_yX12_can : Cond.selects "FinerStepsModel" yX12_can yX12_can ∈ BIG := big_8 _ (List.mem_of_getElem? (i := 46) (by decide +kernel)) (by decide +kernel)
theorem co_yX12_can : Cond.code yX12_can cX12_can 5 (some FieldType.int) ∈ BIG := big_8 _ (List.mem_of_getElem? (i := 47) (by decide +kernel)) (by decide +kernel)
theorem ml_X12_408 : Cond.methodLink "FinerStepsModel" 408 yX12_isPick ∈ BIG := big_8 _ (List.mem_of_getElem? (i := 48) (by decide +kernel)) (by decide +kernel)
theorem im_yX12_isPick : Cond.instanceMethod yX12_isPick ∈ BIG := big_8 _ (List.mem_of_getElem? (i := 50) (by decide +kernel)) (by decide +kernel)
theorem co_yX12_isPick : Cond.code yX12_isPick cX12_isPick 4 (some FieldType.boolean) ∈ BIG := big_8 _ (List.mem_of_getElem? (i := 51) (by decide +kernel)) (by decide +kernel)
theorem ml_X12_385 : Cond.methodLink "FinerStepsModel" 385 yX12_canBe ∈ BIG := big_8 _ (List.mem_of_getElem? (i := 52) (by decide +kernel)) (by decide +kernel)
theorem im_yX12_canBe : Cond.instanceMethod yX12_canBe ∈ BIG := big_8 _ (List.mem_of_getElem? (i := 54) (by decide +kernel)) (by decide +kernel)
theorem co_yX12_canBe : Cond.code yX12_canBe cX12_canBe 6 (some FieldType.boolean) ∈ BIG := big_8 _ (List.mem_of_getElem? (i := 55) (by decide +kernel)) (by decide +kernel)
theorem ml_L_75 : Cond.methodLink "FinerStepsLaw" 75 yX12_gives ∈ BIG := big_8 _ (List.mem_of_getElem? (i := 56) (by decide +kernel)) (by decide +kernel)
theorem im_yX12_gives : Cond.instanceMethod yX12_gives ∈ BIG := big_8 _ (List.mem_of_getElem? (i := 57) (by decide +kernel)) (by decide +kernel)
theorem se_yX12_gives : Cond.selects "FinerStepsModel" yX12_gives yX12_gives ∈ BIG := big_8 _ (List.mem_of_getElem? (i := 58) (by decide +kernel)) (by decide +kernel)
theorem co_yX12_gives : Cond.code yX12_gives cX12_gives 5 (some FieldType.int) ∈ BIG := big_8 _ (List.mem_of_getElem? (i := 59) (by decide +kernel)) (by decide +kernel)
theorem ml_X12_411 : Cond.methodLink "FinerStepsModel" 411 yX12_givenBy ∈ BIG := big_8 _ (List.mem_of_getElem? (i := 60) (by decide +kernel)) (by decide +kernel)
theorem im_yX12_givenBy : Cond.instanceMethod yX12_givenBy ∈ BIG := big_8 _ (List.mem_of_getElem? (i := 62) (by decide +kernel)) (by decide +kernel)
theorem co_yX12_givenBy : Cond.code yX12_givenBy cX12_givenBy 12 (some FieldType.int) ∈ BIG := big_8 _ (List.mem_of_getElem? (i := 63) (by decide +kernel)) (by decide +kernel)
theorem ml_L_79 : Cond.methodLink "FinerStepsLaw" 79 yX12_variant ∈ BIG := big_8 _ (List.mem_of_getElem? (i := 64) (by decide +kernel)) (by decide +kernel)
theorem im_yX12_variant : Cond.instanceMethod yX12_variant ∈ BIG := big_8 _ (List.mem_of_getElem? (i := 65) (by decide +kernel)) (by decide +kernel)
theorem se_yX12_variant : Cond.selects "FinerStepsModel" yX12_variant yX12_variant ∈ BIG := big_8 _ (List.mem_of_getElem? (i := 66) (by decide +kernel)) (by decide +kernel)
theorem co_yX12_variant : Cond.code yX12_variant cX12_variant 4 (some FieldType.int) ∈ BIG := big_8 _ (List.mem_of_getElem? (i := 67) (by decide +kernel)) (by decide +kernel)
theorem ml_X12_415 : Cond.methodLink "FinerStepsModel" 415 yX12_variantOf ∈ BIG := big_8 _ (List.mem_of_getElem? (i := 68) (by decide +kernel)) (by decide +kernel)
theorem im_yX12_variantOf : Cond.instanceMethod yX12_variantOf ∈ BIG := big_8 _ (List.mem_of_getElem? (i := 70) (by decide +kernel)) (by decide +kernel)
theorem co_yX12_variantOf : Cond.code yX12_variantOf cX12_variantOf 3 (some FieldType.int) ∈ BIG := big_8 _ (List.mem_of_getElem? (i := 71) (by decide +kernel)) (by decide +kernel)
theorem ml_L_83 : Cond.methodLink "FinerStepsLaw" 83 yX12_duty ∈ BIG := big_8 _ (List.mem_of_getElem? (i := 72) (by decide +kernel)) (by decide +kernel)
theorem im_yX12_duty : Cond.instanceMethod yX12_duty ∈ BIG := big_8 _ (List.mem_of_getElem? (i := 73) (by decide +kernel)) (by decide +kernel)
theorem se_yX12_duty : Cond.selects "FinerStepsModel" yX12_duty yX12_duty ∈ BIG := big_8 _ (List.mem_of_getElem? (i := 74) (by decide +kernel)) (by decide +kernel)
theorem co_yX12_duty : Cond.code yX12_duty cX12_duty 4 (some FieldType.int) ∈ BIG := big_8 _ (List.mem_of_getElem? (i := 75) (by decide +kernel)) (by decide +kernel)
theorem ml_X12_447 : Cond.methodLink "FinerStepsModel" 447 yX12_begins_ ∈ BIG := big_8 _ (List.mem_of_getElem? (i := 76) (by decide +kernel)) (by decide +kernel)
theorem im_yX12_begins_ : Cond.instanceMethod yX12_begins_ ∈ BIG := big_8 _ (List.mem_of_getElem? (i := 78) (by decide +kernel)) (by decide +kernel)
theorem co_yX12_begins_ : Cond.code yX12_begins_ cX12_begins_ 6 (some FieldType.boolean) ∈ BIG := big_8 _ (List.mem_of_getElem? (i := 79) (by decide +kernel)) (by decide +kernel)
theorem ml_X12_428 : Cond.methodLink "FinerStepsModel" 428 yX12_shows ∈ BIG := big_8 _ (List.mem_of_getElem? (i := 80) (by decide +kernel)) (by decide +kernel)
theorem im_yX12_shows : Cond.instanceMethod yX12_shows ∈ BIG := big_8 _ (List.mem_of_getElem? (i := 82) (by decide +kernel)) (by decide +kernel)
theorem co_yX12_shows : Cond.code yX12_shows cX12_shows 5 none ∈ BIG := big_8 _ (List.mem_of_getElem? (i := 83) (by decide +kernel)) (by decide +kernel)
theorem ml_X12_450 : Cond.methodLink "FinerStepsModel" 450 yX12_goesOn ∈ BIG := big_8 _ (List.mem_of_getElem? (i := 84) (by decide +kernel)) (by decide +kernel)
theorem im_yX12_goesOn : Cond.instanceMethod yX12_goesOn ∈ BIG := big_8 _ (List.mem_of_getElem? (i := 86) (by decide +kernel)) (by decide +kernel)
theorem co_yX12_goesOn : Cond.code yX12_goesOn cX12_goesOn 5 (some FieldType.boolean) ∈ BIG := big_8 _ (List.mem_of_getElem? (i := 87) (by decide +kernel)) (by decide +kernel)
theorem ml_X12_444 : Cond.methodLink "FinerStepsModel" 444 yX12_canGoOn ∈ BIG := big_8 _ (List.mem_of_getElem? (i := 88) (by decide +kernel)) (by decide +kernel)
theorem im_yX12_canGoOn : Cond.instanceMethod yX12_canGoOn ∈ BIG := big_8 _ (List.mem_of_getElem? (i := 90) (by decide +kernel)) (by decide +kernel)
theorem co_yX12_canGoOn : Cond.code yX12_canGoOn cX12_canGoOn 4 (some FieldType.boolean) ∈ BIG := big_8 _ (List.mem_of_getElem? (i := 91) (by decide +kernel)) (by decide +kernel)
theorem ml_X12_418 : Cond.methodLink "FinerStepsModel" 418 yX12_canBeAny ∈ BIG := big_8 _ (List.mem_of_getElem? (i := 92) (by decide +kernel)) (by decide +kernel)
theorem im_yX12_canBeAny : Cond.instanceMethod yX12_canBeAny ∈ BIG := big_8 _ (List.mem_of_getElem? (i := 94) (by decide +kernel)) (by decide +kernel)
theorem co_yX12_canBeAny : Cond.code yX12_canBeAny cX12_canBeAny 5 (some FieldType.boolean) ∈ BIG := big_8 _ (List.mem_of_getElem? (i := 95) (by decide +kernel)) (by decide +kernel)
theorem ml_X12_453 : Cond.methodLink "FinerStepsModel" 453 yX12_failing ∈ BIG := big_8 _ (List.mem_of_getElem? (i := 96) (by decide +kernel)) (by decide +kernel)
theorem im_yX12_failing : Cond.instanceMethod yX12_failing ∈ BIG := big_8 _ (List.mem_of_getElem? (i := 98) (by decide +kernel)) (by decide +kernel)
theorem co_yX12_failing : Cond.code yX12_failing cX12_failing 9 (some FieldType.int) ∈ BIG := big_8 _ (List.mem_of_getElem? (i := 99) (by decide +kernel)) (by decide +kernel)
theorem ml_X12_424 : Cond.methodLink "FinerStepsModel" 424 yX12_fails ∈ BIG := big_8 _ (List.mem_of_getElem? (i := 100) (by decide +kernel)) (by decide +kernel)
theorem im_yX12_fails : Cond.instanceMethod yX12_fails ∈ BIG := big_8 _ (List.mem_of_getElem? (i := 102) (by decide +kernel)) (by decide +kernel)
theorem co_yX12_fails : Cond.code yX12_fails cX12_fails 9 (some FieldType.boolean) ∈ BIG := big_8 _ (List.mem_of_getElem? (i := 103) (by decide +kernel)) (by decide +kernel)
theorem ml_X12_421 : Cond.methodLink "FinerStepsModel" 421 yX12_isAnswered ∈ BIG := big_8 _ (List.mem_of_getElem? (i := 104) (by decide +kernel)) (by decide +kernel)
theorem im_yX12_isAnswered : Cond.instanceMethod yX12_isAnswered ∈ BIG := big_8 _ (List.mem_of_getElem? (i := 106) (by decide +kernel)) (by decide +kernel)
theorem co_yX12_isAnswered : Cond.code yX12_isAnswered cX12_isAnswered 7 (some FieldType.boolean) ∈ BIG := big_8 _ (List.mem_of_getElem? (i := 107) (by decide +kernel)) (by decide +kernel)
theorem ml_L_87 : Cond.methodLink "FinerStepsLaw" 87 yX12_shown ∈ BIG := big_8 _ (List.mem_of_getElem? (i := 108) (by decide +kernel)) (by decide +kernel)
theorem im_yX12_shown : Cond.instanceMethod yX12_shown ∈ BIG := big_8 _ (List.mem_of_getElem? (i := 109) (by decide +kernel)) (by decide +kernel)
theorem se_yX12_shown : Cond.selects "FinerStepsModel" yX12_shown yX12_shown ∈ BIG := big_8 _ (List.mem_of_getElem? (i := 110) (by decide +kernel)) (by decide +kernel)
theorem co_yX12_shown : Cond.code yX12_shown cX12_shown 2 (some FieldType.int) ∈ BIG := big_8 _ (List.mem_of_getElem? (i := 111) (by decide +kernel)) (by decide +kernel)
theorem ml_L_91 : Cond.methodLink "FinerStepsLaw" 91 yX12_open ∈ BIG := big_8 _ (List.mem_of_getElem? (i := 112) (by decide +kernel)) (by decide +kernel)
theorem im_yX12_open : Cond.instanceMethod yX12_open ∈ BIG := big_8 _ (List.mem_of_getElem? (i := 113) (by decide +kernel)) (by decide +kernel)
theorem se_yX12_open : Cond.selects "FinerStepsModel" yX12_open yX12_open ∈ BIG := big_8 _ (List.mem_of_getElem? (i := 114) (by decide +kernel)) (by decide +kernel)
theorem co_yX12_open : Cond.code yX12_open cX12_open 5 (some FieldType.int) ∈ BIG := big_8 _ (List.mem_of_getElem? (i := 115) (by decide +kernel)) (by decide +kernel)
theorem ml_L_95 : Cond.methodLink "FinerStepsLaw" 95 yX12_cases ∈ BIG := big_8 _ (List.mem_of_getElem? (i := 116) (by decide +kernel)) (by decide +kernel)
theorem im_yX12_cases : Cond.instanceMethod yX12_cases ∈ BIG := big_8 _ (List.mem_of_getElem? (i := 117) (by decide +kernel)) (by decide +kernel)
theorem se_yX12_cases : Cond.selects "FinerStepsModel" yX12_cases yX12_cases ∈ BIG := big_8 _ (List.mem_of_getElem? (i := 118) (by decide +kernel)) (by decide +kernel)
theorem co_yX12_cases : Cond.code yX12_cases cX12_cases 4 (some FieldType.int) ∈ BIG := big_8 _ (List.mem_of_getElem? (i := 119) (by decide +kernel)) (by decide +kernel)
theorem ml_L_99 : Cond.methodLink "FinerStepsLaw" 99 yX12_write ∈ BIG := big_8 _ (List.mem_of_getElem? (i := 120) (by decide +kernel)) (by decide +kernel)
theorem im_yX12_write : Cond.instanceMethod yX12_write ∈ BIG := big_8 _ (List.mem_of_getElem? (i := 121) (by decide +kernel)) (by decide +kernel)
theorem se_yX12_write : Cond.selects "FinerStepsModel" yX12_write yX12_write ∈ BIG := big_8 _ (List.mem_of_getElem? (i := 122) (by decide +kernel)) (by decide +kernel)
theorem co_yX12_write : Cond.code yX12_write cX12_write 1 (some FieldType.int) ∈ BIG := big_8 _ (List.mem_of_getElem? (i := 123) (by decide +kernel)) (by decide +kernel)
theorem ml_X12_470 : Cond.methodLink "FinerStepsModel" 470 yX12_inksState ∈ BIG := big_8 _ (List.mem_of_getElem? (i := 124) (by decide +kernel)) (by decide +kernel)
theorem im_yX12_inksState : Cond.instanceMethod yX12_inksState ∈ BIG := big_8 _ (List.mem_of_getElem? (i := 126) (by decide +kernel)) (by decide +kernel)
theorem co_yX12_inksState : Cond.code yX12_inksState cX12_inksState 5 none ∈ BIG := big_8 _ (List.mem_of_getElem? (i := 127) (by decide +kernel)) (by decide +kernel)
theorem ml_X12_466 : Cond.methodLink "FinerStepsModel" 466 yX12_letterOf ∈ BIG := big_8 _ (List.mem_of_getElem? (i := 128) (by decide +kernel)) (by decide +kernel)
theorem st_yX12_letterOf : Cond.static yX12_letterOf ∈ BIG := big_8 _ (List.mem_of_getElem? (i := 129) (by decide +kernel)) (by decide +kernel)
theorem co_yX12_letterOf : Cond.code yX12_letterOf cX12_letterOf 7 (some FieldType.int) ∈ BIG := big_8 _ (List.mem_of_getElem? (i := 130) (by decide +kernel)) (by decide +kernel)
theorem ml_X12_463 : Cond.methodLink "FinerStepsModel" 463 yX12_inks ∈ BIG := big_8 _ (List.mem_of_getElem? (i := 131) (by decide +kernel)) (by decide +kernel)
theorem im_yX12_inks : Cond.instanceMethod yX12_inks ∈ BIG := big_8 _ (List.mem_of_getElem? (i := 133) (by decide +kernel)) (by decide +kernel)
theorem co_yX12_inks : Cond.code yX12_inks cX12_inks 2 none ∈ BIG := big_8 _ (List.mem_of_getElem? (i := 134) (by decide +kernel)) (by decide +kernel)
theorem ml_X12_460 : Cond.methodLink "FinerStepsModel" 460 yX12_inksNumber ∈ BIG := big_8 _ (List.mem_of_getElem? (i := 135) (by decide +kernel)) (by decide +kernel)
theorem im_yX12_inksNumber : Cond.instanceMethod yX12_inksNumber ∈ BIG := big_8 _ (List.mem_of_getElem? (i := 137) (by decide +kernel)) (by decide +kernel)
theorem co_yX12_inksNumber : Cond.code yX12_inksNumber cX12_inksNumber 2 none ∈ BIG := big_8 _ (List.mem_of_getElem? (i := 138) (by decide +kernel)) (by decide +kernel)
theorem ml_L_103 : Cond.methodLink "FinerStepsLaw" 103 yX12_octet ∈ BIG := big_8 _ (List.mem_of_getElem? (i := 139) (by decide +kernel)) (by decide +kernel)
theorem im_yX12_octet : Cond.instanceMethod yX12_octet ∈ BIG := big_8 _ (List.mem_of_getElem? (i := 140) (by decide +kernel)) (by decide +kernel)
theorem se_yX12_octet : Cond.selects "FinerStepsModel" yX12_octet yX12_octet ∈ BIG := big_8 _ (List.mem_of_getElem? (i := 141) (by decide +kernel)) (by decide +kernel)
theorem co_yX12_octet : Cond.code yX12_octet cX12_octet 2 (some FieldType.int) ∈ BIG := big_8 _ (List.mem_of_getElem? (i := 142) (by decide +kernel)) (by decide +kernel)
theorem ml_L_107 : Cond.methodLink "FinerStepsLaw" 107 yX12_run ∈ BIG := big_8 _ (List.mem_of_getElem? (i := 143) (by decide +kernel)) (by decide +kernel)
theorem im_yX12_run : Cond.instanceMethod yX12_run ∈ BIG := big_8 _ (List.mem_of_getElem? (i := 144) (by decide +kernel)) (by decide +kernel)
theorem se_yX12_run : Cond.selects "FinerStepsModel" yX12_run yX12_run ∈ BIG := big_8 _ (List.mem_of_getElem? (i := 145) (by decide +kernel)) (by decide +kernel)
theorem co_yX12_run : Cond.code yX12_run cX12_run 3 (some FieldType.int) ∈ BIG := big_8 _ (List.mem_of_getElem? (i := 146) (by decide +kernel)) (by decide +kernel)
theorem ml_L_111 : Cond.methodLink "FinerStepsLaw" 111 yX12_step ∈ BIG := big_8 _ (List.mem_of_getElem? (i := 147) (by decide +kernel)) (by decide +kernel)
theorem im_yX12_step : Cond.instanceMethod yX12_step ∈ BIG := big_8 _ (List.mem_of_getElem? (i := 148) (by decide +kernel)) (by decide +kernel)
theorem se_yX12_step : Cond.selects "FinerStepsModel" yX12_step yX12_step ∈ BIG := big_8 _ (List.mem_of_getElem? (i := 149) (by decide +kernel)) (by decide +kernel)
theorem co_yX12_step : Cond.code yX12_step cX12_step 3 (some FieldType.int) ∈ BIG := big_8 _ (List.mem_of_getElem? (i := 150) (by decide +kernel)) (by decide +kernel)
theorem ml_X12_482 : Cond.methodLink "FinerStepsModel" 482 yX12_goes ∈ BIG := big_8 _ (List.mem_of_getElem? (i := 151) (by decide +kernel)) (by decide +kernel)
theorem im_yX12_goes : Cond.instanceMethod yX12_goes ∈ BIG := big_8 _ (List.mem_of_getElem? (i := 153) (by decide +kernel)) (by decide +kernel)
theorem co_yX12_goes : Cond.code yX12_goes cX12_goes 5 (some FieldType.boolean) ∈ BIG := big_8 _ (List.mem_of_getElem? (i := 154) (by decide +kernel)) (by decide +kernel)
theorem ml_X12_485 : Cond.methodLink "FinerStepsModel" 485 yX12_makes ∈ BIG := big_8 _ (List.mem_of_getElem? (i := 155) (by decide +kernel)) (by decide +kernel)
theorem im_yX12_makes : Cond.instanceMethod yX12_makes ∈ BIG := big_8 _ (List.mem_of_getElem? (i := 157) (by decide +kernel)) (by decide +kernel)
theorem co_yX12_makes : Cond.code yX12_makes cX12_makes 4 none ∈ BIG := big_8 _ (List.mem_of_getElem? (i := 158) (by decide +kernel)) (by decide +kernel)
theorem ml_X12_479 : Cond.methodLink "FinerStepsModel" 479 yX12_follows ∈ BIG := big_8 _ (List.mem_of_getElem? (i := 159) (by decide +kernel)) (by decide +kernel)
theorem im_yX12_follows : Cond.instanceMethod yX12_follows ∈ BIG := big_8 _ (List.mem_of_getElem? (i := 161) (by decide +kernel)) (by decide +kernel)
theorem co_yX12_follows : Cond.code yX12_follows cX12_follows 8 none ∈ BIG := big_8 _ (List.mem_of_getElem? (i := 162) (by decide +kernel)) (by decide +kernel)
theorem ml_L_115 : Cond.methodLink "FinerStepsLaw" 115 yX12_now ∈ BIG := big_8 _ (List.mem_of_getElem? (i := 163) (by decide +kernel)) (by decide +kernel)
theorem im_yX12_now : Cond.instanceMethod yX12_now ∈ BIG := big_8 _ (List.mem_of_getElem? (i := 164) (by decide +kernel)) (by decide +kernel)
theorem se_yX12_now : Cond.selects "FinerStepsModel" yX12_now yX12_now ∈ BIG := big_8 _ (List.mem_of_getElem? (i := 165) (by decide +kernel)) (by decide +kernel)
theorem co_yX12_now : Cond.code yX12_now cX12_now 2 (some FieldType.int) ∈ BIG := big_8 _ (List.mem_of_getElem? (i := 166) (by decide +kernel)) (by decide +kernel)
theorem ml_X12_488 : Cond.methodLink "FinerStepsModel" 488 yX12_besideMany ∈ BIG := big_8 _ (List.mem_of_getElem? (i := 167) (by decide +kernel)) (by decide +kernel)
theorem im_yX12_besideMany : Cond.instanceMethod yX12_besideMany ∈ BIG := big_8 _ (List.mem_of_getElem? (i := 169) (by decide +kernel)) (by decide +kernel)
theorem co_yX12_besideMany : Cond.code yX12_besideMany cX12_besideMany 3 (some FieldType.int) ∈ BIG := big_8 _ (List.mem_of_getElem? (i := 170) (by decide +kernel)) (by decide +kernel)
theorem ml_X12_491 : Cond.methodLink "FinerStepsModel" 491 yX12_eventsNow ∈ BIG := big_8 _ (List.mem_of_getElem? (i := 171) (by decide +kernel)) (by decide +kernel)
theorem im_yX12_eventsNow : Cond.instanceMethod yX12_eventsNow ∈ BIG := big_8 _ (List.mem_of_getElem? (i := 173) (by decide +kernel)) (by decide +kernel)
theorem co_yX12_eventsNow : Cond.code yX12_eventsNow cX12_eventsNow 4 (some FieldType.int) ∈ BIG := big_8 _ (List.mem_of_getElem? (i := 174) (by decide +kernel)) (by decide +kernel)
theorem ml_L_119 : Cond.methodLink "FinerStepsLaw" 119 yX12_beside ∈ BIG := big_8 _ (List.mem_of_getElem? (i := 175) (by decide +kernel)) (by decide +kernel)
theorem im_yX12_beside : Cond.instanceMethod yX12_beside ∈ BIG := big_8 _ (List.mem_of_getElem? (i := 176) (by decide +kernel)) (by decide +kernel)
theorem se_yX12_beside : Cond.selects "FinerStepsModel" yX12_beside yX12_beside ∈ BIG := big_8 _ (List.mem_of_getElem? (i := 177) (by decide +kernel)) (by decide +kernel)
theorem co_yX12_beside : Cond.code yX12_beside cX12_beside 4 (some FieldType.int) ∈ BIG := big_8 _ (List.mem_of_getElem? (i := 178) (by decide +kernel)) (by decide +kernel)
theorem ml_L_123 : Cond.methodLink "FinerStepsLaw" 123 yX12_draws ∈ BIG := big_8 _ (List.mem_of_getElem? (i := 179) (by decide +kernel)) (by decide +kernel)
theorem im_yX12_draws : Cond.instanceMethod yX12_draws ∈ BIG := big_8 _ (List.mem_of_getElem? (i := 180) (by decide +kernel)) (by decide +kernel)
theorem se_yX12_draws : Cond.selects "FinerStepsModel" yX12_draws yX12_draws ∈ BIG := big_8 _ (List.mem_of_getElem? (i := 181) (by decide +kernel)) (by decide +kernel)
theorem co_yX12_draws : Cond.code yX12_draws cX12_draws 6 (some FieldType.int) ∈ BIG := big_8 _ (List.mem_of_getElem? (i := 182) (by decide +kernel)) (by decide +kernel)
theorem ml_X12_505 : Cond.methodLink "FinerStepsModel" 505 yX12_ways ∈ BIG := big_8 _ (List.mem_of_getElem? (i := 183) (by decide +kernel)) (by decide +kernel)
theorem im_yX12_ways : Cond.instanceMethod yX12_ways ∈ BIG := big_8 _ (List.mem_of_getElem? (i := 185) (by decide +kernel)) (by decide +kernel)
theorem co_yX12_ways : Cond.code yX12_ways cX12_ways 5 (some FieldType.int) ∈ BIG := big_8 _ (List.mem_of_getElem? (i := 186) (by decide +kernel)) (by decide +kernel)
theorem ml_X12_508 : Cond.methodLink "FinerStepsModel" 508 yX12_draw ∈ BIG := big_8 _ (List.mem_of_getElem? (i := 187) (by decide +kernel)) (by decide +kernel)
theorem im_yX12_draw : Cond.instanceMethod yX12_draw ∈ BIG := big_8 _ (List.mem_of_getElem? (i := 189) (by decide +kernel)) (by decide +kernel)
theorem co_yX12_draw : Cond.code yX12_draw cX12_draw 2 (some FieldType.int) ∈ BIG := big_8 _ (List.mem_of_getElem? (i := 190) (by decide +kernel)) (by decide +kernel)
theorem kl_X12_494 : Cond.constantLong "FinerStepsModel" 494 (1103515245 : Int64) ∈ BIG := big_8 _ (List.mem_of_getElem? (i := 191) (by decide +kernel)) (by decide +kernel)
theorem kl_X12_499 : Cond.constantLong "FinerStepsModel" 499 (12345 : Int64) ∈ BIG := big_8 _ (List.mem_of_getElem? (i := 192) (by decide +kernel)) (by decide +kernel)
theorem kl_X12_501 : Cond.constantLong "FinerStepsModel" 501 (2147483648 : Int64) ∈ BIG := big_8 _ (List.mem_of_getElem? (i := 193) (by decide +kernel)) (by decide +kernel)
theorem kl_X12_503 : Cond.constantLong "FinerStepsModel" 503 (65536 : Int64) ∈ BIG := big_8 _ (List.mem_of_getElem? (i := 194) (by decide +kernel)) (by decide +kernel)
theorem ml_L_127 : Cond.methodLink "FinerStepsLaw" 127 yX12_reach ∈ BIG := big_8 _ (List.mem_of_getElem? (i := 195) (by decide +kernel)) (by decide +kernel)
theorem im_yX12_reach : Cond.instanceMethod yX12_reach ∈ BIG := big_8 _ (List.mem_of_getElem? (i := 196) (by decide +kernel)) (by decide +kernel)
theorem se_yX12_reach : Cond.selects "FinerStepsModel" yX12_reach yX12_reach ∈ BIG := big_8 _ (List.mem_of_getElem? (i := 197) (by decide +kernel)) (by decide +kernel)
theorem co_yX12_reach : Cond.code yX12_reach cX12_reach 2 (some FieldType.int) ∈ BIG := big_8 _ (List.mem_of_getElem? (i := 198) (by decide +kernel)) (by decide +kernel)
theorem ml_X12_514 : Cond.methodLink "FinerStepsModel" 514 yX12_spreads ∈ BIG := big_8 _ (List.mem_of_getElem? (i := 199) (by decide +kernel)) (by decide +kernel)
theorem im_yX12_spreads : Cond.instanceMethod yX12_spreads ∈ BIG := big_8 _ (List.mem_of_getElem? (i := 201) (by decide +kernel)) (by decide +kernel)
theorem co_yX12_spreads : Cond.code yX12_spreads cX12_spreads 6 none ∈ BIG := big_8 _ (List.mem_of_getElem? (i := 202) (by decide +kernel)) (by decide +kernel)
theorem ml_L_131 : Cond.methodLink "FinerStepsLaw" 131 yX12_steps ∈ BIG := big_8 _ (List.mem_of_getElem? (i := 203) (by decide +kernel)) (by decide +kernel)
theorem im_yX12_steps : Cond.instanceMethod yX12_steps ∈ BIG := big_8 _ (List.mem_of_getElem? (i := 204) (by decide +kernel)) (by decide +kernel)
theorem se_yX12_steps : Cond.selects "FinerStepsModel" yX12_steps yX12_steps ∈ BIG := big_8 _ (List.mem_of_getElem? (i := 205) (by decide +kernel)) (by decide +kernel)
theorem co_yX12_steps : Cond.code yX12_steps cX12_steps 3 (some FieldType.int) ∈ BIG := big_8 _ (List.mem_of_getElem? (i := 206) (by decide +kernel)) (by decide +kernel)
theorem ml_L_135 : Cond.methodLink "FinerStepsLaw" 135 yX12_stuck ∈ BIG := big_8 _ (List.mem_of_getElem? (i := 207) (by decide +kernel)) (by decide +kernel)
theorem im_yX12_stuck : Cond.instanceMethod yX12_stuck ∈ BIG := big_8 _ (List.mem_of_getElem? (i := 208) (by decide +kernel)) (by decide +kernel)
theorem se_yX12_stuck : Cond.selects "FinerStepsModel" yX12_stuck yX12_stuck ∈ BIG := big_8 _ (List.mem_of_getElem? (i := 209) (by decide +kernel)) (by decide +kernel)
theorem co_yX12_stuck : Cond.code yX12_stuck cX12_stuck 4 (some FieldType.int) ∈ BIG := big_8 _ (List.mem_of_getElem? (i := 210) (by decide +kernel)) (by decide +kernel)
theorem ml_X12_517 : Cond.methodLink "FinerStepsModel" 517 yX12_leads ∈ BIG := big_8 _ (List.mem_of_getElem? (i := 211) (by decide +kernel)) (by decide +kernel)
theorem im_yX12_leads : Cond.instanceMethod yX12_leads ∈ BIG := big_8 _ (List.mem_of_getElem? (i := 213) (by decide +kernel)) (by decide +kernel)
theorem co_yX12_leads : Cond.code yX12_leads cX12_leads 5 (some FieldType.boolean) ∈ BIG := big_8 _ (List.mem_of_getElem? (i := 214) (by decide +kernel)) (by decide +kernel)
theorem ml_L_139 : Cond.methodLink "FinerStepsLaw" 139 yX12_unsound ∈ BIG := big_8 _ (List.mem_of_getElem? (i := 215) (by decide +kernel)) (by decide +kernel)
theorem im_yX12_unsound : Cond.instanceMethod yX12_unsound ∈ BIG := big_8 _ (List.mem_of_getElem? (i := 216) (by decide +kernel)) (by decide +kernel)
theorem se_yX12_unsound : Cond.selects "FinerStepsModel" yX12_unsound yX12_unsound ∈ BIG := big_8 _ (List.mem_of_getElem? (i := 217) (by decide +kernel)) (by decide +kernel)
theorem co_yX12_unsound : Cond.code yX12_unsound cX12_unsound 4 (some FieldType.int) ∈ BIG := big_8 _ (List.mem_of_getElem? (i := 218) (by decide +kernel)) (by decide +kernel)
theorem ml_L_144 : Cond.methodLink "FinerStepsLaw" 144 yX12_aside ∈ BIG := big_8 _ (List.mem_of_getElem? (i := 219) (by decide +kernel)) (by decide +kernel)
theorem im_yX12_aside : Cond.instanceMethod yX12_aside ∈ BIG := big_8 _ (List.mem_of_getElem? (i := 220) (by decide +kernel)) (by decide +kernel)
theorem se_yX12_aside : Cond.selects "FinerStepsModel" yX12_aside yX12_aside ∈ BIG := big_8 _ (List.mem_of_getElem? (i := 221) (by decide +kernel)) (by decide +kernel)
theorem co_yX12_aside : Cond.code yX12_aside cX12_aside 6 (some FieldType.int) ∈ BIG := big_8 _ (List.mem_of_getElem? (i := 222) (by decide +kernel)) (by decide +kernel)
theorem ml_L_150 : Cond.methodLink "FinerStepsLaw" 150 yX12_letter ∈ BIG := big_8 _ (List.mem_of_getElem? (i := 223) (by decide +kernel)) (by decide +kernel)
theorem im_yX12_letter : Cond.instanceMethod yX12_letter ∈ BIG := big_8 _ (List.mem_of_getElem? (i := 224) (by decide +kernel)) (by decide +kernel)
theorem se_yX12_letter : Cond.selects "FinerStepsModel" yX12_letter yX12_letter ∈ BIG := big_8 _ (List.mem_of_getElem? (i := 225) (by decide +kernel)) (by decide +kernel)
theorem co_yX12_letter : Cond.code yX12_letter cX12_letter 5 (some FieldType.int) ∈ BIG := big_8 _ (List.mem_of_getElem? (i := 226) (by decide +kernel)) (by decide +kernel)
theorem ml_L_157 : Cond.methodLink "FinerStepsLaw" 157 yX12_size ∈ BIG := big_8 _ (List.mem_of_getElem? (i := 227) (by decide +kernel)) (by decide +kernel)
theorem im_yX12_size : Cond.instanceMethod yX12_size ∈ BIG := big_8 _ (List.mem_of_getElem? (i := 228) (by decide +kernel)) (by decide +kernel)
theorem se_yX12_size : Cond.selects "FinerStepsModel" yX12_size yX12_size ∈ BIG := big_8 _ (List.mem_of_getElem? (i := 229) (by decide +kernel)) (by decide +kernel)
theorem co_yX12_size : Cond.code yX12_size cX12_size 1 (some FieldType.int) ∈ BIG := big_8 _ (List.mem_of_getElem? (i := 230) (by decide +kernel)) (by decide +kernel)
theorem ml_L_161 : Cond.methodLink "FinerStepsLaw" 161 yX12_trouble ∈ BIG := big_8 _ (List.mem_of_getElem? (i := 231) (by decide +kernel)) (by decide +kernel)
theorem im_yX12_trouble : Cond.instanceMethod yX12_trouble ∈ BIG := big_8 _ (List.mem_of_getElem? (i := 232) (by decide +kernel)) (by decide +kernel)
theorem se_yX12_trouble : Cond.selects "FinerStepsModel" yX12_trouble yX12_trouble ∈ BIG := big_8 _ (List.mem_of_getElem? (i := 233) (by decide +kernel)) (by decide +kernel)
theorem co_yX12_trouble : Cond.code yX12_trouble cX12_trouble 1 (some FieldType.int) ∈ BIG := big_8 _ (List.mem_of_getElem? (i := 234) (by decide +kernel)) (by decide +kernel)
theorem fl_J0_9 : Cond.fieldLink "java/lang/String" 9 "java/lang/String" "value" "[B" ∈ BIG := big_9 _ (List.mem_of_getElem? (i := 12) (by decide +kernel)) (by decide +kernel)
theorem fl_J0_15 : Cond.fieldLink "java/lang/String" 15 "java/lang/String" "coder" "B" ∈ BIG := big_9 _ (List.mem_of_getElem? (i := 13) (by decide +kernel)) (by decide +kernel)
theorem se_yX11_putBytes : Cond.selects "FinerSteps" yX11_putBytes yX11_putBytes ∈ BIG := big_0 _ (List.mem_of_getElem? (i := 0) (by decide +kernel)) (by decide +kernel)
theorem se_yX11_refuse : Cond.selects "FinerSteps" yX11_refuse yX11_refuse ∈ BIG := big_0 _ (List.mem_of_getElem? (i := 1) (by decide +kernel)) (by decide +kernel)
theorem se_yX8_lengthen : Cond.selects "FinerSteps$Tokens" yX8_lengthen yX8_lengthen ∈ BIG := big_0 _ (List.mem_of_getElem? (i := 2) (by decide +kernel)) (by decide +kernel)
theorem se_yX8_startToken : Cond.selects "FinerSteps$Tokens" yX8_startToken yX8_startToken ∈ BIG := big_0 _ (List.mem_of_getElem? (i := 3) (by decide +kernel)) (by decide +kernel)
theorem se_yX8_kindOfWord : Cond.selects "FinerSteps$Tokens" yX8_kindOfWord yX8_kindOfWord ∈ BIG := big_0 _ (List.mem_of_getElem? (i := 4) (by decide +kernel)) (by decide +kernel)
theorem se_yX5_kind : Cond.selects "FinerSteps$Reader" yX5_kind yX5_kind ∈ BIG := big_0 _ (List.mem_of_getElem? (i := 5) (by decide +kernel)) (by decide +kernel)
theorem se_yX5_readMachine : Cond.selects "FinerSteps$Reader" yX5_readMachine yX5_readMachine ∈ BIG := big_0 _ (List.mem_of_getElem? (i := 6) (by decide +kernel)) (by decide +kernel)
theorem se_yX5_fail : Cond.selects "FinerSteps$Reader" yX5_fail yX5_fail ∈ BIG := big_0 _ (List.mem_of_getElem? (i := 7) (by decide +kernel)) (by decide +kernel)
theorem se_yX5_advance : Cond.selects "FinerSteps$Reader" yX5_advance yX5_advance ∈ BIG := big_0 _ (List.mem_of_getElem? (i := 8) (by decide +kernel)) (by decide +kernel)
theorem se_yX5_isNewName : Cond.selects "FinerSteps$Reader" yX5_isNewName yX5_isNewName ∈ BIG := big_0 _ (List.mem_of_getElem? (i := 9) (by decide +kernel)) (by decide +kernel)
theorem se_yX5_code : Cond.selects "FinerSteps$Reader" yX5_code yX5_code ∈ BIG := big_0 _ (List.mem_of_getElem? (i := 10) (by decide +kernel)) (by decide +kernel)
theorem se_yX5_readVariable : Cond.selects "FinerSteps$Reader" yX5_readVariable yX5_readVariable ∈ BIG := big_0 _ (List.mem_of_getElem? (i := 11) (by decide +kernel)) (by decide +kernel)
theorem se_yX5_readBounds : Cond.selects "FinerSteps$Reader" yX5_readBounds yX5_readBounds ∈ BIG := big_0 _ (List.mem_of_getElem? (i := 12) (by decide +kernel)) (by decide +kernel)
theorem se_yX5_pass : Cond.selects "FinerSteps$Reader" yX5_pass yX5_pass ∈ BIG := big_0 _ (List.mem_of_getElem? (i := 13) (by decide +kernel)) (by decide +kernel)
theorem se_yX5_isWhole : Cond.selects "FinerSteps$Reader" yX5_isWhole yX5_isWhole ∈ BIG := big_0 _ (List.mem_of_getElem? (i := 14) (by decide +kernel)) (by decide +kernel)
theorem se_yX5_number : Cond.selects "FinerSteps$Reader" yX5_number yX5_number ∈ BIG := big_0 _ (List.mem_of_getElem? (i := 15) (by decide +kernel)) (by decide +kernel)
theorem se_yX5_readLaw : Cond.selects "FinerSteps$Reader" yX5_readLaw yX5_readLaw ∈ BIG := big_0 _ (List.mem_of_getElem? (i := 16) (by decide +kernel)) (by decide +kernel)
theorem se_yX5_startCode : Cond.selects "FinerSteps$Reader" yX5_startCode yX5_startCode ∈ BIG := big_0 _ (List.mem_of_getElem? (i := 17) (by decide +kernel)) (by decide +kernel)
theorem se_yX5_readTest : Cond.selects "FinerSteps$Reader" yX5_readTest yX5_readTest ∈ BIG := big_0 _ (List.mem_of_getElem? (i := 18) (by decide +kernel)) (by decide +kernel)
theorem se_yX5_readFact : Cond.selects "FinerSteps$Reader" yX5_readFact yX5_readFact ∈ BIG := big_0 _ (List.mem_of_getElem? (i := 19) (by decide +kernel)) (by decide +kernel)
theorem se_yX5_readSum : Cond.selects "FinerSteps$Reader" yX5_readSum yX5_readSum ∈ BIG := big_0 _ (List.mem_of_getElem? (i := 20) (by decide +kernel)) (by decide +kernel)
theorem se_yX5_readAtom : Cond.selects "FinerSteps$Reader" yX5_readAtom yX5_readAtom ∈ BIG := big_0 _ (List.mem_of_getElem? (i := 21) (by decide +kernel)) (by decide +kernel)
theorem se_yX5_slotOf : Cond.selects "FinerSteps$Reader" yX5_slotOf yX5_slotOf ∈ BIG := big_0 _ (List.mem_of_getElem? (i := 22) (by decide +kernel)) (by decide +kernel)
theorem se_yX5_stopCode : Cond.selects "FinerSteps$Reader" yX5_stopCode yX5_stopCode ∈ BIG := big_0 _ (List.mem_of_getElem? (i := 23) (by decide +kernel)) (by decide +kernel)
theorem se_yX5_readEvent : Cond.selects "FinerSteps$Reader" yX5_readEvent yX5_readEvent ∈ BIG := big_0 _ (List.mem_of_getElem? (i := 24) (by decide +kernel)) (by decide +kernel)
theorem se_yX5_readOf : Cond.selects "FinerSteps$Reader" yX5_readOf yX5_readOf ∈ BIG := big_0 _ (List.mem_of_getElem? (i := 25) (by decide +kernel)) (by decide +kernel)
theorem se_yX5_readPicks : Cond.selects "FinerSteps$Reader" yX5_readPicks yX5_readPicks ∈ BIG := big_0 _ (List.mem_of_getElem? (i := 26) (by decide +kernel)) (by decide +kernel)
theorem se_yX5_readGivings : Cond.selects "FinerSteps$Reader" yX5_readGivings yX5_readGivings ∈ BIG := big_0 _ (List.mem_of_getElem? (i := 27) (by decide +kernel)) (by decide +kernel)
theorem se_yX5_readGiving : Cond.selects "FinerSteps$Reader" yX5_readGiving yX5_readGiving ∈ BIG := big_0 _ (List.mem_of_getElem? (i := 28) (by decide +kernel)) (by decide +kernel)
theorem se_yX5_readVariant : Cond.selects "FinerSteps$Reader" yX5_readVariant yX5_readVariant ∈ BIG := big_0 _ (List.mem_of_getElem? (i := 29) (by decide +kernel)) (by decide +kernel)
theorem se_yX3_settleFirst : Cond.selects "FinerSteps$Model" yX3_settleFirst yX3_settleFirst ∈ BIG := big_0 _ (List.mem_of_getElem? (i := 30) (by decide +kernel)) (by decide +kernel)
theorem se_yX2_span : Cond.selects "FinerSteps$Machine" yX2_span yX2_span ∈ BIG := big_0 _ (List.mem_of_getElem? (i := 31) (by decide +kernel)) (by decide +kernel)
theorem se_yX3_lawsHold : Cond.selects "FinerSteps$Model" yX3_lawsHold yX3_lawsHold ∈ BIG := big_0 _ (List.mem_of_getElem? (i := 32) (by decide +kernel)) (by decide +kernel)
theorem se_yX3_worth : Cond.selects "FinerSteps$Model" yX3_worth yX3_worth ∈ BIG := big_0 _ (List.mem_of_getElem? (i := 33) (by decide +kernel)) (by decide +kernel)
theorem se_yX3_settleGlue : Cond.selects "FinerSteps$Model" yX3_settleGlue yX3_settleGlue ∈ BIG := big_0 _ (List.mem_of_getElem? (i := 34) (by decide +kernel)) (by decide +kernel)
theorem se_yX3_settleVariants : Cond.selects "FinerSteps$Model" yX3_settleVariants yX3_settleVariants ∈ BIG := big_0 _ (List.mem_of_getElem? (i := 35) (by decide +kernel)) (by decide +kernel)
theorem se_yX3_settleEvent : Cond.selects "FinerSteps$Model" yX3_settleEvent yX3_settleEvent ∈ BIG := big_0 _ (List.mem_of_getElem? (i := 36) (by decide +kernel)) (by decide +kernel)
theorem se_yX3_stateGiven : Cond.selects "FinerSteps$Model" yX3_stateGiven yX3_stateGiven ∈ BIG := big_0 _ (List.mem_of_getElem? (i := 37) (by decide +kernel)) (by decide +kernel)
theorem se_yX11_answer : Cond.selects "FinerSteps" yX11_answer yX11_answer ∈ BIG := big_0 _ (List.mem_of_getElem? (i := 38) (by decide +kernel)) (by decide +kernel)
theorem se_yX11_isMachine : Cond.selects "FinerSteps" yX11_isMachine yX11_isMachine ∈ BIG := big_0 _ (List.mem_of_getElem? (i := 39) (by decide +kernel)) (by decide +kernel)
theorem se_yX2_countNew : Cond.selects "FinerSteps$Machine" yX2_countNew yX2_countNew ∈ BIG := big_0 _ (List.mem_of_getElem? (i := 40) (by decide +kernel)) (by decide +kernel)
theorem se_yX11_isVariable : Cond.selects "FinerSteps" yX11_isVariable yX11_isVariable ∈ BIG := big_0 _ (List.mem_of_getElem? (i := 41) (by decide +kernel)) (by decide +kernel)
theorem se_yX11_isEvent : Cond.selects "FinerSteps" yX11_isEvent yX11_isEvent ∈ BIG := big_0 _ (List.mem_of_getElem? (i := 42) (by decide +kernel)) (by decide +kernel)
theorem se_yX11_isState : Cond.selects "FinerSteps" yX11_isState yX11_isState ∈ BIG := big_0 _ (List.mem_of_getElem? (i := 43) (by decide +kernel)) (by decide +kernel)
theorem se_yX11_isDuty : Cond.selects "FinerSteps" yX11_isDuty yX11_isDuty ∈ BIG := big_0 _ (List.mem_of_getElem? (i := 44) (by decide +kernel)) (by decide +kernel)
theorem se_yX1_judgeBegin : Cond.selects "FinerSteps$Judge" yX1_judgeBegin yX1_judgeBegin ∈ BIG := big_0 _ (List.mem_of_getElem? (i := 45) (by decide +kernel)) (by decide +kernel)
theorem se_yX1_paired : Cond.selects "FinerSteps$Judge" yX1_paired yX1_paired ∈ BIG := big_0 _ (List.mem_of_getElem? (i := 46) (by decide +kernel)) (by decide +kernel)
theorem se_yX1_judgeGoingOn : Cond.selects "FinerSteps$Judge" yX1_judgeGoingOn yX1_judgeGoingOn ∈ BIG := big_0 _ (List.mem_of_getElem? (i := 47) (by decide +kernel)) (by decide +kernel)
theorem se_yX1_statesAhead : Cond.selects "FinerSteps$Judge" yX1_statesAhead yX1_statesAhead ∈ BIG := big_0 _ (List.mem_of_getElem? (i := 48) (by decide +kernel)) (by decide +kernel)
theorem se_yX1_concerns : Cond.selects "FinerSteps$Judge" yX1_concerns yX1_concerns ∈ BIG := big_0 _ (List.mem_of_getElem? (i := 49) (by decide +kernel)) (by decide +kernel)
theorem se_yX1_judgeEvent : Cond.selects "FinerSteps$Judge" yX1_judgeEvent yX1_judgeEvent ∈ BIG := big_0 _ (List.mem_of_getElem? (i := 50) (by decide +kernel)) (by decide +kernel)
theorem se_yX1_judgePicks : Cond.selects "FinerSteps$Judge" yX1_judgePicks yX1_judgePicks ∈ BIG := big_0 _ (List.mem_of_getElem? (i := 51) (by decide +kernel)) (by decide +kernel)
theorem se_yX1_lessens : Cond.selects "FinerSteps$Judge" yX1_lessens yX1_lessens ∈ BIG := big_0 _ (List.mem_of_getElem? (i := 52) (by decide +kernel)) (by decide +kernel)
theorem se_yX1_keeps : Cond.selects "FinerSteps$Judge" yX1_keeps yX1_keeps ∈ BIG := big_0 _ (List.mem_of_getElem? (i := 53) (by decide +kernel)) (by decide +kernel)
theorem se_yX6_put : Cond.selects "FinerSteps$Scroll" yX6_put yX6_put ∈ BIG := big_0 _ (List.mem_of_getElem? (i := 54) (by decide +kernel)) (by decide +kernel)
theorem se_yX10_countChoices : Cond.selects "FinerSteps$Walk" yX10_countChoices yX10_countChoices ∈ BIG := big_0 _ (List.mem_of_getElem? (i := 55) (by decide +kernel)) (by decide +kernel)
theorem se_yX10_take : Cond.selects "FinerSteps$Walk" yX10_take yX10_take ∈ BIG := big_0 _ (List.mem_of_getElem? (i := 56) (by decide +kernel)) (by decide +kernel)
theorem se_yX4_reachState : Cond.selects "FinerSteps$Paths" yX4_reachState yX4_reachState ∈ BIG := big_0 _ (List.mem_of_getElem? (i := 57) (by decide +kernel)) (by decide +kernel)
theorem se_yX4_reachFrom : Cond.selects "FinerSteps$Paths" yX4_reachFrom yX4_reachFrom ∈ BIG := big_0 _ (List.mem_of_getElem? (i := 58) (by decide +kernel)) (by decide +kernel)
theorem se_yX12_refused : Cond.selects "FinerStepsModel" yX12_refused yX12_refused ∈ BIG := big_0 _ (List.mem_of_getElem? (i := 60) (by decide +kernel)) (by decide +kernel)
theorem se_yX12_readAll : Cond.selects "FinerStepsModel" yX12_readAll yX12_readAll ∈ BIG := big_0 _ (List.mem_of_getElem? (i := 61) (by decide +kernel)) (by decide +kernel)
theorem se_yX12_goOn : Cond.selects "FinerStepsModel" yX12_goOn yX12_goOn ∈ BIG := big_0 _ (List.mem_of_getElem? (i := 62) (by decide +kernel)) (by decide +kernel)
theorem se_yX12_isLetterAt : Cond.selects "FinerStepsModel" yX12_isLetterAt yX12_isLetterAt ∈ BIG := big_0 _ (List.mem_of_getElem? (i := 63) (by decide +kernel)) (by decide +kernel)
theorem se_yX12_isDigitAt : Cond.selects "FinerStepsModel" yX12_isDigitAt yX12_isDigitAt ∈ BIG := big_0 _ (List.mem_of_getElem? (i := 64) (by decide +kernel)) (by decide +kernel)
theorem se_yX12_readLine : Cond.selects "FinerStepsModel" yX12_readLine yX12_readLine ∈ BIG := big_0 _ (List.mem_of_getElem? (i := 65) (by decide +kernel)) (by decide +kernel)
theorem se_yX12_isWord : Cond.selects "FinerStepsModel" yX12_isWord yX12_isWord ∈ BIG := big_0 _ (List.mem_of_getElem? (i := 66) (by decide +kernel)) (by decide +kernel)
theorem se_yX12_readMachine : Cond.selects "FinerStepsModel" yX12_readMachine yX12_readMachine ∈ BIG := big_0 _ (List.mem_of_getElem? (i := 67) (by decide +kernel)) (by decide +kernel)
theorem se_yX12_flaw : Cond.selects "FinerStepsModel" yX12_flaw yX12_flaw ∈ BIG := big_0 _ (List.mem_of_getElem? (i := 68) (by decide +kernel)) (by decide +kernel)
theorem se_yX12_readNew : Cond.selects "FinerStepsModel" yX12_readNew yX12_readNew ∈ BIG := big_0 _ (List.mem_of_getElem? (i := 69) (by decide +kernel)) (by decide +kernel)
theorem se_yX12_isName : Cond.selects "FinerStepsModel" yX12_isName yX12_isName ∈ BIG := big_0 _ (List.mem_of_getElem? (i := 70) (by decide +kernel)) (by decide +kernel)
theorem se_yX12_isOwn : Cond.selects "FinerStepsModel" yX12_isOwn yX12_isOwn ∈ BIG := big_0 _ (List.mem_of_getElem? (i := 71) (by decide +kernel)) (by decide +kernel)
theorem se_yX12_isTold : Cond.selects "FinerStepsModel" yX12_isTold yX12_isTold ∈ BIG := big_0 _ (List.mem_of_getElem? (i := 72) (by decide +kernel)) (by decide +kernel)
theorem se_yX12_varOf : Cond.selects "FinerStepsModel" yX12_varOf yX12_varOf ∈ BIG := big_0 _ (List.mem_of_getElem? (i := 73) (by decide +kernel)) (by decide +kernel)
theorem se_yX12_eventIn : Cond.selects "FinerStepsModel" yX12_eventIn yX12_eventIn ∈ BIG := big_0 _ (List.mem_of_getElem? (i := 74) (by decide +kernel)) (by decide +kernel)
theorem se_yX12_readVar : Cond.selects "FinerStepsModel" yX12_readVar yX12_readVar ∈ BIG := big_0 _ (List.mem_of_getElem? (i := 75) (by decide +kernel)) (by decide +kernel)
theorem se_yX12_needs : Cond.selects "FinerStepsModel" yX12_needs yX12_needs ∈ BIG := big_0 _ (List.mem_of_getElem? (i := 76) (by decide +kernel)) (by decide +kernel)
theorem se_yX12_readWhole : Cond.selects "FinerStepsModel" yX12_readWhole yX12_readWhole ∈ BIG := big_0 _ (List.mem_of_getElem? (i := 77) (by decide +kernel)) (by decide +kernel)
theorem se_yX12_readLaw : Cond.selects "FinerStepsModel" yX12_readLaw yX12_readLaw ∈ BIG := big_0 _ (List.mem_of_getElem? (i := 78) (by decide +kernel)) (by decide +kernel)
theorem se_yX12_begins : Cond.selects "FinerStepsModel" yX12_begins yX12_begins ∈ BIG := big_0 _ (List.mem_of_getElem? (i := 79) (by decide +kernel)) (by decide +kernel)
theorem se_yX12_readTest : Cond.selects "FinerStepsModel" yX12_readTest yX12_readTest ∈ BIG := big_0 _ (List.mem_of_getElem? (i := 80) (by decide +kernel)) (by decide +kernel)
theorem se_yX12_readBoth : Cond.selects "FinerStepsModel" yX12_readBoth yX12_readBoth ∈ BIG := big_0 _ (List.mem_of_getElem? (i := 81) (by decide +kernel)) (by decide +kernel)
theorem se_yX12_readFact : Cond.selects "FinerStepsModel" yX12_readFact yX12_readFact ∈ BIG := big_0 _ (List.mem_of_getElem? (i := 82) (by decide +kernel)) (by decide +kernel)
theorem se_yX12_opens : Cond.selects "FinerStepsModel" yX12_opens yX12_opens ∈ BIG := big_0 _ (List.mem_of_getElem? (i := 83) (by decide +kernel)) (by decide +kernel)
theorem se_yX12_emits : Cond.selects "FinerStepsModel" yX12_emits yX12_emits ∈ BIG := big_0 _ (List.mem_of_getElem? (i := 84) (by decide +kernel)) (by decide +kernel)
theorem se_yX12_isSign : Cond.selects "FinerStepsModel" yX12_isSign yX12_isSign ∈ BIG := big_0 _ (List.mem_of_getElem? (i := 85) (by decide +kernel)) (by decide +kernel)
theorem se_yX12_needsSign : Cond.selects "FinerStepsModel" yX12_needsSign yX12_needsSign ∈ BIG := big_0 _ (List.mem_of_getElem? (i := 86) (by decide +kernel)) (by decide +kernel)
theorem se_yX12_readSum : Cond.selects "FinerStepsModel" yX12_readSum yX12_readSum ∈ BIG := big_0 _ (List.mem_of_getElem? (i := 87) (by decide +kernel)) (by decide +kernel)
theorem se_yX12_readTerm : Cond.selects "FinerStepsModel" yX12_readTerm yX12_readTerm ∈ BIG := big_0 _ (List.mem_of_getElem? (i := 88) (by decide +kernel)) (by decide +kernel)
theorem se_yX12_readAtom : Cond.selects "FinerStepsModel" yX12_readAtom yX12_readAtom ∈ BIG := big_0 _ (List.mem_of_getElem? (i := 89) (by decide +kernel)) (by decide +kernel)
theorem se_yX12_passesSign : Cond.selects "FinerStepsModel" yX12_passesSign yX12_passesSign ∈ BIG := big_0 _ (List.mem_of_getElem? (i := 90) (by decide +kernel)) (by decide +kernel)
theorem se_yX12_passes : Cond.selects "FinerStepsModel" yX12_passes yX12_passes ∈ BIG := big_0 _ (List.mem_of_getElem? (i := 91) (by decide +kernel)) (by decide +kernel)
theorem se_yX12_readEvent : Cond.selects "FinerStepsModel" yX12_readEvent yX12_readEvent ∈ BIG := big_0 _ (List.mem_of_getElem? (i := 92) (by decide +kernel)) (by decide +kernel)
theorem se_yX12_readOf : Cond.selects "FinerStepsModel" yX12_readOf yX12_readOf ∈ BIG := big_0 _ (List.mem_of_getElem? (i := 93) (by decide +kernel)) (by decide +kernel)
theorem se_yX12_readGiven : Cond.selects "FinerStepsModel" yX12_readGiven yX12_readGiven ∈ BIG := big_0 _ (List.mem_of_getElem? (i := 94) (by decide +kernel)) (by decide +kernel)
theorem se_yX12_readVariant : Cond.selects "FinerStepsModel" yX12_readVariant yX12_readVariant ∈ BIG := big_0 _ (List.mem_of_getElem? (i := 95) (by decide +kernel)) (by decide +kernel)
theorem se_yX12_holds : Cond.selects "FinerStepsModel" yX12_holds yX12_holds ∈ BIG := big_0 _ (List.mem_of_getElem? (i := 96) (by decide +kernel)) (by decide +kernel)
theorem se_yX12_glues : Cond.selects "FinerStepsModel" yX12_glues yX12_glues ∈ BIG := big_0 _ (List.mem_of_getElem? (i := 97) (by decide +kernel)) (by decide +kernel)
theorem se_yX12_holdsAll : Cond.selects "FinerStepsModel" yX12_holdsAll yX12_holdsAll ∈ BIG := big_0 _ (List.mem_of_getElem? (i := 98) (by decide +kernel)) (by decide +kernel)
theorem se_yX12_told : Cond.selects "FinerStepsModel" yX12_told yX12_told ∈ BIG := big_0 _ (List.mem_of_getElem? (i := 99) (by decide +kernel)) (by decide +kernel)
theorem se_yX12_valueOf : Cond.selects "FinerStepsModel" yX12_valueOf yX12_valueOf ∈ BIG := big_0 _ (List.mem_of_getElem? (i := 100) (by decide +kernel)) (by decide +kernel)
theorem se_yX12_good : Cond.selects "FinerStepsModel" yX12_good yX12_good ∈ BIG := big_0 _ (List.mem_of_getElem? (i := 101) (by decide +kernel)) (by decide +kernel)
theorem se_yX12_isMachine : Cond.selects "FinerStepsModel" yX12_isMachine yX12_isMachine ∈ BIG := big_0 _ (List.mem_of_getElem? (i := 102) (by decide +kernel)) (by decide +kernel)
theorem se_yX12_beginOf : Cond.selects "FinerStepsModel" yX12_beginOf yX12_beginOf ∈ BIG := big_0 _ (List.mem_of_getElem? (i := 103) (by decide +kernel)) (by decide +kernel)
theorem se_yX12_pairs : Cond.selects "FinerStepsModel" yX12_pairs yX12_pairs ∈ BIG := big_0 _ (List.mem_of_getElem? (i := 104) (by decide +kernel)) (by decide +kernel)
theorem se_yX12_isVar : Cond.selects "FinerStepsModel" yX12_isVar yX12_isVar ∈ BIG := big_0 _ (List.mem_of_getElem? (i := 105) (by decide +kernel)) (by decide +kernel)
theorem se_yX12_isEvent : Cond.selects "FinerStepsModel" yX12_isEvent yX12_isEvent ∈ BIG := big_0 _ (List.mem_of_getElem? (i := 106) (by decide +kernel)) (by decide +kernel)
theorem se_yX12_isState : Cond.selects "FinerStepsModel" yX12_isState yX12_isState ∈ BIG := big_0 _ (List.mem_of_getElem? (i := 107) (by decide +kernel)) (by decide +kernel)
theorem se_yX12_isPick : Cond.selects "FinerStepsModel" yX12_isPick yX12_isPick ∈ BIG := big_0 _ (List.mem_of_getElem? (i := 108) (by decide +kernel)) (by decide +kernel)
theorem se_yX12_canBe : Cond.selects "FinerStepsModel" yX12_canBe yX12_canBe ∈ BIG := big_0 _ (List.mem_of_getElem? (i := 109) (by decide +kernel)) (by decide +kernel)
theorem se_yX12_givenBy : Cond.selects "FinerStepsModel" yX12_givenBy yX12_givenBy ∈ BIG := big_0 _ (List.mem_of_getElem? (i := 110) (by decide +kernel)) (by decide +kernel)
theorem se_yX12_variantOf : Cond.selects "FinerStepsModel" yX12_variantOf yX12_variantOf ∈ BIG := big_0 _ (List.mem_of_getElem? (i := 111) (by decide +kernel)) (by decide +kernel)
theorem se_yX12_begins_ : Cond.selects "FinerStepsModel" yX12_begins_ yX12_begins_ ∈ BIG := big_0 _ (List.mem_of_getElem? (i := 112) (by decide +kernel)) (by decide +kernel)
theorem se_yX12_shows : Cond.selects "FinerStepsModel" yX12_shows yX12_shows ∈ BIG := big_0 _ (List.mem_of_getElem? (i := 113) (by decide +kernel)) (by decide +kernel)
theorem se_yX12_goesOn : Cond.selects "FinerStepsModel" yX12_goesOn yX12_goesOn ∈ BIG := big_0 _ (List.mem_of_getElem? (i := 114) (by decide +kernel)) (by decide +kernel)
theorem se_yX12_canGoOn : Cond.selects "FinerStepsModel" yX12_canGoOn yX12_canGoOn ∈ BIG := big_0 _ (List.mem_of_getElem? (i := 115) (by decide +kernel)) (by decide +kernel)
theorem se_yX12_canBeAny : Cond.selects "FinerStepsModel" yX12_canBeAny yX12_canBeAny ∈ BIG := big_0 _ (List.mem_of_getElem? (i := 116) (by decide +kernel)) (by decide +kernel)
theorem se_yX12_failing : Cond.selects "FinerStepsModel" yX12_failing yX12_failing ∈ BIG := big_0 _ (List.mem_of_getElem? (i := 117) (by decide +kernel)) (by decide +kernel)
theorem se_yX12_fails : Cond.selects "FinerStepsModel" yX12_fails yX12_fails ∈ BIG := big_0 _ (List.mem_of_getElem? (i := 118) (by decide +kernel)) (by decide +kernel)
theorem se_yX12_isAnswered : Cond.selects "FinerStepsModel" yX12_isAnswered yX12_isAnswered ∈ BIG := big_0 _ (List.mem_of_getElem? (i := 119) (by decide +kernel)) (by decide +kernel)
theorem se_yX12_inksState : Cond.selects "FinerStepsModel" yX12_inksState yX12_inksState ∈ BIG := big_0 _ (List.mem_of_getElem? (i := 120) (by decide +kernel)) (by decide +kernel)
theorem se_yX12_inks : Cond.selects "FinerStepsModel" yX12_inks yX12_inks ∈ BIG := big_0 _ (List.mem_of_getElem? (i := 121) (by decide +kernel)) (by decide +kernel)
theorem se_yX12_inksNumber : Cond.selects "FinerStepsModel" yX12_inksNumber yX12_inksNumber ∈ BIG := big_0 _ (List.mem_of_getElem? (i := 122) (by decide +kernel)) (by decide +kernel)
theorem se_yX12_goes : Cond.selects "FinerStepsModel" yX12_goes yX12_goes ∈ BIG := big_0 _ (List.mem_of_getElem? (i := 123) (by decide +kernel)) (by decide +kernel)
theorem se_yX12_makes : Cond.selects "FinerStepsModel" yX12_makes yX12_makes ∈ BIG := big_0 _ (List.mem_of_getElem? (i := 124) (by decide +kernel)) (by decide +kernel)
theorem se_yX12_follows : Cond.selects "FinerStepsModel" yX12_follows yX12_follows ∈ BIG := big_0 _ (List.mem_of_getElem? (i := 125) (by decide +kernel)) (by decide +kernel)
theorem se_yX12_besideMany : Cond.selects "FinerStepsModel" yX12_besideMany yX12_besideMany ∈ BIG := big_0 _ (List.mem_of_getElem? (i := 126) (by decide +kernel)) (by decide +kernel)
theorem se_yX12_eventsNow : Cond.selects "FinerStepsModel" yX12_eventsNow yX12_eventsNow ∈ BIG := big_0 _ (List.mem_of_getElem? (i := 127) (by decide +kernel)) (by decide +kernel)
theorem se_yX12_ways : Cond.selects "FinerStepsModel" yX12_ways yX12_ways ∈ BIG := big_0 _ (List.mem_of_getElem? (i := 128) (by decide +kernel)) (by decide +kernel)
theorem se_yX12_draw : Cond.selects "FinerStepsModel" yX12_draw yX12_draw ∈ BIG := big_0 _ (List.mem_of_getElem? (i := 129) (by decide +kernel)) (by decide +kernel)
theorem se_yX12_spreads : Cond.selects "FinerStepsModel" yX12_spreads yX12_spreads ∈ BIG := big_0 _ (List.mem_of_getElem? (i := 130) (by decide +kernel)) (by decide +kernel)
theorem se_yX12_leads : Cond.selects "FinerStepsModel" yX12_leads yX12_leads ∈ BIG := big_0 _ (List.mem_of_getElem? (i := 131) (by decide +kernel)) (by decide +kernel)
set_option maxRecDepth 20000 in
theorem uw_X0 : ∀ w ∈ u_ws RX0 TX0 11, w ∈ BIG := by
  have e : u_ws RX0 TX0 11 = [Cond.laysFinal "FinerSteps$Event" "FinerSteps$Event" "giveCode" "[I", Cond.laysFinal "FinerSteps$Event" "FinerSteps$Event" "holding" "[I", Cond.laysFinal "FinerSteps$Event" "FinerSteps$Event" "leading" "[I", Cond.laysFinal "FinerSteps$Event" "FinerSteps$Event" "given" "[I", Cond.lays "FinerSteps$Event" "FinerSteps$Event" "name" "J", Cond.lays "FinerSteps$Event" "FinerSteps$Event" "of" "I", Cond.lays "FinerSteps$Event" "FinerSteps$Event" "first" "I", Cond.lays "FinerSteps$Event" "FinerSteps$Event" "last" "I", Cond.lays "FinerSteps$Event" "FinerSteps$Event" "gives" "I", Cond.lays "FinerSteps$Event" "FinerSteps$Event" "whenCode" "I", Cond.lays "FinerSteps$Event" "FinerSteps$Event" "aside" "Z"] := by decide +kernel
  rw [e]
  exact List.forall_mem_cons.mpr ⟨big_2 _ (List.mem_of_getElem? (i := 69) (by decide +kernel)) (by decide +kernel), List.forall_mem_cons.mpr ⟨big_2 _ (List.mem_of_getElem? (i := 71) (by decide +kernel)) (by decide +kernel), List.forall_mem_cons.mpr ⟨big_2 _ (List.mem_of_getElem? (i := 73) (by decide +kernel)) (by decide +kernel), List.forall_mem_cons.mpr ⟨big_2 _ (List.mem_of_getElem? (i := 75) (by decide +kernel)) (by decide +kernel), List.forall_mem_cons.mpr ⟨big_2 _ (List.mem_of_getElem? (i := 77) (by decide +kernel)) (by decide +kernel), List.forall_mem_cons.mpr ⟨big_2 _ (List.mem_of_getElem? (i := 79) (by decide +kernel)) (by decide +kernel), List.forall_mem_cons.mpr ⟨big_2 _ (List.mem_of_getElem? (i := 81) (by decide +kernel)) (by decide +kernel), List.forall_mem_cons.mpr ⟨big_2 _ (List.mem_of_getElem? (i := 83) (by decide +kernel)) (by decide +kernel), List.forall_mem_cons.mpr ⟨big_2 _ (List.mem_of_getElem? (i := 85) (by decide +kernel)) (by decide +kernel), List.forall_mem_cons.mpr ⟨big_2 _ (List.mem_of_getElem? (i := 87) (by decide +kernel)) (by decide +kernel), List.forall_mem_cons.mpr ⟨big_2 _ (List.mem_of_getElem? (i := 89) (by decide +kernel)) (by decide +kernel), fun _ h => absurd h List.not_mem_nil⟩⟩⟩⟩⟩⟩⟩⟩⟩⟩⟩
set_option maxRecDepth 20000 in
theorem uw_X1 : ∀ w ∈ u_ws RX1 TX1 5, w ∈ BIG := by
  have e : u_ws RX1 TX1 5 = [Cond.laysFinal "FinerSteps$Judge" "FinerSteps$Judge" "image" "LFinerSteps$StateSet;", Cond.lays "FinerSteps$Judge" "FinerSteps$Judge" "model" "LFinerSteps$Model;", Cond.lays "FinerSteps$Judge" "FinerSteps$Judge" "machine" "LFinerSteps$Machine;", Cond.lays "FinerSteps$Judge" "FinerSteps$Judge" "verdict" "LFinerSteps$Verdict;", Cond.lays "FinerSteps$Judge" "FinerSteps$Judge" "number" "I"] := by decide +kernel
  rw [e]
  exact List.forall_mem_cons.mpr ⟨big_1 _ (List.mem_of_getElem? (i := 183) (by decide +kernel)) (by decide +kernel), List.forall_mem_cons.mpr ⟨big_1 _ (List.mem_of_getElem? (i := 185) (by decide +kernel)) (by decide +kernel), List.forall_mem_cons.mpr ⟨big_1 _ (List.mem_of_getElem? (i := 187) (by decide +kernel)) (by decide +kernel), List.forall_mem_cons.mpr ⟨big_1 _ (List.mem_of_getElem? (i := 189) (by decide +kernel)) (by decide +kernel), List.forall_mem_cons.mpr ⟨big_1 _ (List.mem_of_getElem? (i := 191) (by decide +kernel)) (by decide +kernel), fun _ h => absurd h List.not_mem_nil⟩⟩⟩⟩⟩
set_option maxRecDepth 20000 in
theorem uw_X2 : ∀ w ∈ u_ws RX2 TX2 18, w ∈ BIG := by
  have e : u_ws RX2 TX2 18 = [Cond.laysFinal "FinerSteps$Machine" "FinerSteps$Machine" "names" "[J", Cond.laysFinal "FinerSteps$Machine" "FinerSteps$Machine" "low" "[I", Cond.laysFinal "FinerSteps$Machine" "FinerSteps$Machine" "high" "[I", Cond.laysFinal "FinerSteps$Machine" "FinerSteps$Machine" "at" "[I", Cond.laysFinal "FinerSteps$Machine" "FinerSteps$Machine" "lawCode" "[I", Cond.laysFinal "FinerSteps$Machine" "FinerSteps$Machine" "event" "[LFinerSteps$Event;", Cond.laysFinal "FinerSteps$Machine" "FinerSteps$Machine" "sound" "[Z", Cond.laysFinal "FinerSteps$Machine" "FinerSteps$Machine" "glue" "[LFinerSteps$StateSet;", Cond.laysFinal "FinerSteps$Machine" "FinerSteps$Machine" "variants" "[I", Cond.laysFinal "FinerSteps$Machine" "FinerSteps$Machine" "verdicts" "[LFinerSteps$Verdict;", Cond.lays "FinerSteps$Machine" "FinerSteps$Machine" "name" "J", Cond.lays "FinerSteps$Machine" "FinerSteps$Machine" "variables" "I", Cond.lays "FinerSteps$Machine" "FinerSteps$Machine" "states" "I", Cond.lays "FinerSteps$Machine" "FinerSteps$Machine" "laws" "I", Cond.lays "FinerSteps$Machine" "FinerSteps$Machine" "events" "I", Cond.lays "FinerSteps$Machine" "FinerSteps$Machine" "variantCode" "I", Cond.lays "FinerSteps$Machine" "FinerSteps$Machine" "soundStates" "I", Cond.lays "FinerSteps$Machine" "FinerSteps$Machine" "pairs" "I"] := by decide +kernel
  rw [e]
  exact List.forall_mem_cons.mpr ⟨big_2 _ (List.mem_of_getElem? (i := 194) (by decide +kernel)) (by decide +kernel), List.forall_mem_cons.mpr ⟨big_2 _ (List.mem_of_getElem? (i := 196) (by decide +kernel)) (by decide +kernel), List.forall_mem_cons.mpr ⟨big_2 _ (List.mem_of_getElem? (i := 198) (by decide +kernel)) (by decide +kernel), List.forall_mem_cons.mpr ⟨big_2 _ (List.mem_of_getElem? (i := 200) (by decide +kernel)) (by decide +kernel), List.forall_mem_cons.mpr ⟨big_2 _ (List.mem_of_getElem? (i := 202) (by decide +kernel)) (by decide +kernel), List.forall_mem_cons.mpr ⟨big_2 _ (List.mem_of_getElem? (i := 204) (by decide +kernel)) (by decide +kernel), List.forall_mem_cons.mpr ⟨big_2 _ (List.mem_of_getElem? (i := 206) (by decide +kernel)) (by decide +kernel), List.forall_mem_cons.mpr ⟨big_2 _ (List.mem_of_getElem? (i := 208) (by decide +kernel)) (by decide +kernel), List.forall_mem_cons.mpr ⟨big_2 _ (List.mem_of_getElem? (i := 210) (by decide +kernel)) (by decide +kernel), List.forall_mem_cons.mpr ⟨big_2 _ (List.mem_of_getElem? (i := 212) (by decide +kernel)) (by decide +kernel), List.forall_mem_cons.mpr ⟨big_2 _ (List.mem_of_getElem? (i := 214) (by decide +kernel)) (by decide +kernel), List.forall_mem_cons.mpr ⟨big_2 _ (List.mem_of_getElem? (i := 216) (by decide +kernel)) (by decide +kernel), List.forall_mem_cons.mpr ⟨big_2 _ (List.mem_of_getElem? (i := 218) (by decide +kernel)) (by decide +kernel), List.forall_mem_cons.mpr ⟨big_2 _ (List.mem_of_getElem? (i := 220) (by decide +kernel)) (by decide +kernel), List.forall_mem_cons.mpr ⟨big_2 _ (List.mem_of_getElem? (i := 222) (by decide +kernel)) (by decide +kernel), List.forall_mem_cons.mpr ⟨big_2 _ (List.mem_of_getElem? (i := 224) (by decide +kernel)) (by decide +kernel), List.forall_mem_cons.mpr ⟨big_2 _ (List.mem_of_getElem? (i := 226) (by decide +kernel)) (by decide +kernel), List.forall_mem_cons.mpr ⟨big_2 _ (List.mem_of_getElem? (i := 228) (by decide +kernel)) (by decide +kernel), fun _ h => absurd h List.not_mem_nil⟩⟩⟩⟩⟩⟩⟩⟩⟩⟩⟩⟩⟩⟩⟩⟩⟩⟩
set_option maxRecDepth 20000 in
theorem uw_X3 : ∀ w ∈ u_ws RX3 TX3 7, w ∈ BIG := by
  have e : u_ws RX3 TX3 7 = [Cond.laysFinal "FinerSteps$Model" "FinerSteps$Model" "machines" "[LFinerSteps$Machine;", Cond.laysFinal "FinerSteps$Model" "FinerSteps$Model" "code" "[I", Cond.laysFinal "FinerSteps$Model" "FinerSteps$Model" "scene" "[I", Cond.laysFinal "FinerSteps$Model" "FinerSteps$Model" "stack" "[I", Cond.laysFinal "FinerSteps$Model" "FinerSteps$Model" "nextRow" "[I", Cond.lays "FinerSteps$Model" "FinerSteps$Model" "count" "I", Cond.lays "FinerSteps$Model" "FinerSteps$Model" "codeSize" "I"] := by decide +kernel
  rw [e]
  exact List.forall_mem_cons.mpr ⟨big_3 _ (List.mem_of_getElem? (i := 5) (by decide +kernel)) (by decide +kernel), List.forall_mem_cons.mpr ⟨big_3 _ (List.mem_of_getElem? (i := 7) (by decide +kernel)) (by decide +kernel), List.forall_mem_cons.mpr ⟨big_3 _ (List.mem_of_getElem? (i := 9) (by decide +kernel)) (by decide +kernel), List.forall_mem_cons.mpr ⟨big_3 _ (List.mem_of_getElem? (i := 11) (by decide +kernel)) (by decide +kernel), List.forall_mem_cons.mpr ⟨big_3 _ (List.mem_of_getElem? (i := 13) (by decide +kernel)) (by decide +kernel), List.forall_mem_cons.mpr ⟨big_3 _ (List.mem_of_getElem? (i := 15) (by decide +kernel)) (by decide +kernel), List.forall_mem_cons.mpr ⟨big_3 _ (List.mem_of_getElem? (i := 17) (by decide +kernel)) (by decide +kernel), fun _ h => absurd h List.not_mem_nil⟩⟩⟩⟩⟩⟩⟩
set_option maxRecDepth 20000 in
theorem uw_X4 : ∀ w ∈ u_ws RX4 TX4 3, w ∈ BIG := by
  have e : u_ws RX4 TX4 3 = [Cond.laysFinal "FinerSteps$Paths" "FinerSteps$Paths" "far" "[I", Cond.laysFinal "FinerSteps$Paths" "FinerSteps$Paths" "queue" "[I", Cond.lays "FinerSteps$Paths" "FinerSteps$Paths" "found" "I"] := by decide +kernel
  rw [e]
  exact List.forall_mem_cons.mpr ⟨big_1 _ (List.mem_of_getElem? (i := 233) (by decide +kernel)) (by decide +kernel), List.forall_mem_cons.mpr ⟨big_1 _ (List.mem_of_getElem? (i := 235) (by decide +kernel)) (by decide +kernel), List.forall_mem_cons.mpr ⟨big_1 _ (List.mem_of_getElem? (i := 237) (by decide +kernel)) (by decide +kernel), fun _ h => absurd h List.not_mem_nil⟩⟩⟩
set_option maxRecDepth 20000 in
theorem uw_X5 : ∀ w ∈ u_ws RX5 TX5 12, w ∈ BIG := by
  have e : u_ws RX5 TX5 12 = [Cond.laysFinal "FinerSteps$Reader" "FinerSteps$Reader" "tokens" "LFinerSteps$Tokens;", Cond.laysFinal "FinerSteps$Reader" "FinerSteps$Reader" "toldNames" "[J", Cond.lays "FinerSteps$Reader" "FinerSteps$Reader" "faultMet" "I", Cond.lays "FinerSteps$Reader" "FinerSteps$Reader" "faultAt" "I", Cond.lays "FinerSteps$Reader" "FinerSteps$Reader" "model" "LFinerSteps$Model;", Cond.lays "FinerSteps$Reader" "FinerSteps$Reader" "machine" "LFinerSteps$Machine;", Cond.lays "FinerSteps$Reader" "FinerSteps$Reader" "event" "LFinerSteps$Event;", Cond.lays "FinerSteps$Reader" "FinerSteps$Reader" "toldCount" "I", Cond.lays "FinerSteps$Reader" "FinerSteps$Reader" "at" "I", Cond.lays "FinerSteps$Reader" "FinerSteps$Reader" "atoms" "I", Cond.lays "FinerSteps$Reader" "FinerSteps$Reader" "inLaw" "Z", Cond.lays "FinerSteps$Reader" "FinerSteps$Reader" "inEvent" "Z"] := by decide +kernel
  rw [e]
  exact List.forall_mem_cons.mpr ⟨big_1 _ (List.mem_of_getElem? (i := 134) (by decide +kernel)) (by decide +kernel), List.forall_mem_cons.mpr ⟨big_1 _ (List.mem_of_getElem? (i := 136) (by decide +kernel)) (by decide +kernel), List.forall_mem_cons.mpr ⟨big_1 _ (List.mem_of_getElem? (i := 138) (by decide +kernel)) (by decide +kernel), List.forall_mem_cons.mpr ⟨big_1 _ (List.mem_of_getElem? (i := 140) (by decide +kernel)) (by decide +kernel), List.forall_mem_cons.mpr ⟨big_1 _ (List.mem_of_getElem? (i := 142) (by decide +kernel)) (by decide +kernel), List.forall_mem_cons.mpr ⟨big_1 _ (List.mem_of_getElem? (i := 144) (by decide +kernel)) (by decide +kernel), List.forall_mem_cons.mpr ⟨big_1 _ (List.mem_of_getElem? (i := 146) (by decide +kernel)) (by decide +kernel), List.forall_mem_cons.mpr ⟨big_1 _ (List.mem_of_getElem? (i := 148) (by decide +kernel)) (by decide +kernel), List.forall_mem_cons.mpr ⟨big_1 _ (List.mem_of_getElem? (i := 150) (by decide +kernel)) (by decide +kernel), List.forall_mem_cons.mpr ⟨big_1 _ (List.mem_of_getElem? (i := 152) (by decide +kernel)) (by decide +kernel), List.forall_mem_cons.mpr ⟨big_1 _ (List.mem_of_getElem? (i := 154) (by decide +kernel)) (by decide +kernel), List.forall_mem_cons.mpr ⟨big_1 _ (List.mem_of_getElem? (i := 156) (by decide +kernel)) (by decide +kernel), fun _ h => absurd h List.not_mem_nil⟩⟩⟩⟩⟩⟩⟩⟩⟩⟩⟩⟩
set_option maxRecDepth 20000 in
theorem uw_X6 : ∀ w ∈ u_ws RX6 TX6 2, w ∈ BIG := by
  have e : u_ws RX6 TX6 2 = [Cond.laysFinal "FinerSteps$Scroll" "FinerSteps$Scroll" "bytes" "[B", Cond.lays "FinerSteps$Scroll" "FinerSteps$Scroll" "count" "I"] := by decide +kernel
  rw [e]
  exact List.forall_mem_cons.mpr ⟨big_2 _ (List.mem_of_getElem? (i := 10) (by decide +kernel)) (by decide +kernel), List.forall_mem_cons.mpr ⟨big_2 _ (List.mem_of_getElem? (i := 12) (by decide +kernel)) (by decide +kernel), fun _ h => absurd h List.not_mem_nil⟩⟩
set_option maxRecDepth 20000 in
theorem uw_X7 : ∀ w ∈ u_ws RX7 TX7 2, w ∈ BIG := by
  have e : u_ws RX7 TX7 2 = [Cond.lays "FinerSteps$StateSet" "FinerSteps$StateSet" "low" "J", Cond.lays "FinerSteps$StateSet" "FinerSteps$StateSet" "high" "J"] := by decide +kernel
  rw [e]
  exact List.forall_mem_cons.mpr ⟨big_1 _ (List.mem_of_getElem? (i := 173) (by decide +kernel)) (by decide +kernel), List.forall_mem_cons.mpr ⟨big_1 _ (List.mem_of_getElem? (i := 175) (by decide +kernel)) (by decide +kernel), fun _ h => absurd h List.not_mem_nil⟩⟩
set_option maxRecDepth 20000 in
theorem uw_X8 : ∀ w ∈ u_ws RX8 TX8 6, w ∈ BIG := by
  have e : u_ws RX8 TX8 6 = [Cond.laysFinal "FinerSteps$Tokens" "FinerSteps$Tokens" "kinds" "[I", Cond.laysFinal "FinerSteps$Tokens" "FinerSteps$Tokens" "places" "[I", Cond.laysFinal "FinerSteps$Tokens" "FinerSteps$Tokens" "codes" "[J", Cond.laysFinal "FinerSteps$Tokens" "FinerSteps$Tokens" "reserved" "[J", Cond.lays "FinerSteps$Tokens" "FinerSteps$Tokens" "count" "I", Cond.lays "FinerSteps$Tokens" "FinerSteps$Tokens" "length" "I"] := by decide +kernel
  rw [e]
  exact List.forall_mem_cons.mpr ⟨big_1 _ (List.mem_of_getElem? (i := 104) (by decide +kernel)) (by decide +kernel), List.forall_mem_cons.mpr ⟨big_1 _ (List.mem_of_getElem? (i := 106) (by decide +kernel)) (by decide +kernel), List.forall_mem_cons.mpr ⟨big_1 _ (List.mem_of_getElem? (i := 108) (by decide +kernel)) (by decide +kernel), List.forall_mem_cons.mpr ⟨big_1 _ (List.mem_of_getElem? (i := 110) (by decide +kernel)) (by decide +kernel), List.forall_mem_cons.mpr ⟨big_1 _ (List.mem_of_getElem? (i := 112) (by decide +kernel)) (by decide +kernel), List.forall_mem_cons.mpr ⟨big_1 _ (List.mem_of_getElem? (i := 114) (by decide +kernel)) (by decide +kernel), fun _ h => absurd h List.not_mem_nil⟩⟩⟩⟩⟩⟩
set_option maxRecDepth 20000 in
theorem uw_X9 : ∀ w ∈ u_ws RX9 TX9 5, w ∈ BIG := by
  have e : u_ws RX9 TX9 5 = [Cond.lays "FinerSteps$Verdict" "FinerSteps$Verdict" "known" "Z", Cond.lays "FinerSteps$Verdict" "FinerSteps$Verdict" "failing" "I", Cond.lays "FinerSteps$Verdict" "FinerSteps$Verdict" "ahead" "I", Cond.lays "FinerSteps$Verdict" "FinerSteps$Verdict" "state" "I", Cond.lays "FinerSteps$Verdict" "FinerSteps$Verdict" "pick" "I"] := by decide +kernel
  rw [e]
  exact List.forall_mem_cons.mpr ⟨big_2 _ (List.mem_of_getElem? (i := 110) (by decide +kernel)) (by decide +kernel), List.forall_mem_cons.mpr ⟨big_2 _ (List.mem_of_getElem? (i := 112) (by decide +kernel)) (by decide +kernel), List.forall_mem_cons.mpr ⟨big_2 _ (List.mem_of_getElem? (i := 114) (by decide +kernel)) (by decide +kernel), List.forall_mem_cons.mpr ⟨big_2 _ (List.mem_of_getElem? (i := 116) (by decide +kernel)) (by decide +kernel), List.forall_mem_cons.mpr ⟨big_2 _ (List.mem_of_getElem? (i := 118) (by decide +kernel)) (by decide +kernel), fun _ h => absurd h List.not_mem_nil⟩⟩⟩⟩⟩
set_option maxRecDepth 20000 in
theorem uw_X10 : ∀ w ∈ u_ws RX10 TX10 5, w ∈ BIG := by
  have e : u_ws RX10 TX10 5 = [Cond.laysFinal "FinerSteps$Walk" "FinerSteps$Walk" "near" "LFinerSteps$StateSet;", Cond.laysFinal "FinerSteps$Walk" "FinerSteps$Walk" "image" "LFinerSteps$StateSet;", Cond.lays "FinerSteps$Walk" "FinerSteps$Walk" "number" "I", Cond.lays "FinerSteps$Walk" "FinerSteps$Walk" "state" "I", Cond.lays "FinerSteps$Walk" "FinerSteps$Walk" "made" "I"] := by decide +kernel
  rw [e]
  exact List.forall_mem_cons.mpr ⟨big_1 _ (List.mem_of_getElem? (i := 211) (by decide +kernel)) (by decide +kernel), List.forall_mem_cons.mpr ⟨big_1 _ (List.mem_of_getElem? (i := 213) (by decide +kernel)) (by decide +kernel), List.forall_mem_cons.mpr ⟨big_1 _ (List.mem_of_getElem? (i := 215) (by decide +kernel)) (by decide +kernel), List.forall_mem_cons.mpr ⟨big_1 _ (List.mem_of_getElem? (i := 217) (by decide +kernel)) (by decide +kernel), List.forall_mem_cons.mpr ⟨big_1 _ (List.mem_of_getElem? (i := 219) (by decide +kernel)) (by decide +kernel), fun _ h => absurd h List.not_mem_nil⟩⟩⟩⟩⟩
set_option maxRecDepth 20000 in
theorem uw_X11 : ∀ w ∈ u_ws RX11 TX11 14, w ∈ BIG := by
  have e : u_ws RX11 TX11 14 = [Cond.laysFinal "FinerSteps" "FinerSteps" "tape" "[B", Cond.laysFinal "FinerSteps" "FinerSteps" "reader" "LFinerSteps$Reader;", Cond.laysFinal "FinerSteps" "FinerSteps" "judge" "LFinerSteps$Judge;", Cond.laysFinal "FinerSteps" "FinerSteps" "walk" "LFinerSteps$Walk;", Cond.laysFinal "FinerSteps" "FinerSteps" "paths" "LFinerSteps$Paths;", Cond.laysFinal "FinerSteps" "FinerSteps" "scroll" "LFinerSteps$Scroll;", Cond.laysFinal "FinerSteps" "FinerSteps" "shownCase" "[I", Cond.lays "FinerSteps" "FinerSteps" "model" "LFinerSteps$Model;", Cond.lays "FinerSteps" "FinerSteps" "draft" "LFinerSteps$Model;", Cond.lays "FinerSteps" "FinerSteps" "tapeSize" "I", Cond.lays "FinerSteps" "FinerSteps" "shownMachine" "I", Cond.lays "FinerSteps" "FinerSteps" "lastTrouble" "I", Cond.lays "FinerSteps" "FinerSteps" "lastFault" "I", Cond.lays "FinerSteps" "FinerSteps" "faultPlace" "I"] := by decide +kernel
  rw [e]
  exact List.forall_mem_cons.mpr ⟨big_3 _ (List.mem_of_getElem? (i := 34) (by decide +kernel)) (by decide +kernel), List.forall_mem_cons.mpr ⟨big_3 _ (List.mem_of_getElem? (i := 36) (by decide +kernel)) (by decide +kernel), List.forall_mem_cons.mpr ⟨big_3 _ (List.mem_of_getElem? (i := 38) (by decide +kernel)) (by decide +kernel), List.forall_mem_cons.mpr ⟨big_3 _ (List.mem_of_getElem? (i := 40) (by decide +kernel)) (by decide +kernel), List.forall_mem_cons.mpr ⟨big_3 _ (List.mem_of_getElem? (i := 42) (by decide +kernel)) (by decide +kernel), List.forall_mem_cons.mpr ⟨big_3 _ (List.mem_of_getElem? (i := 44) (by decide +kernel)) (by decide +kernel), List.forall_mem_cons.mpr ⟨big_3 _ (List.mem_of_getElem? (i := 46) (by decide +kernel)) (by decide +kernel), List.forall_mem_cons.mpr ⟨big_3 _ (List.mem_of_getElem? (i := 48) (by decide +kernel)) (by decide +kernel), List.forall_mem_cons.mpr ⟨big_3 _ (List.mem_of_getElem? (i := 50) (by decide +kernel)) (by decide +kernel), List.forall_mem_cons.mpr ⟨big_3 _ (List.mem_of_getElem? (i := 52) (by decide +kernel)) (by decide +kernel), List.forall_mem_cons.mpr ⟨big_3 _ (List.mem_of_getElem? (i := 54) (by decide +kernel)) (by decide +kernel), List.forall_mem_cons.mpr ⟨big_3 _ (List.mem_of_getElem? (i := 56) (by decide +kernel)) (by decide +kernel), List.forall_mem_cons.mpr ⟨big_3 _ (List.mem_of_getElem? (i := 58) (by decide +kernel)) (by decide +kernel), List.forall_mem_cons.mpr ⟨big_3 _ (List.mem_of_getElem? (i := 60) (by decide +kernel)) (by decide +kernel), fun _ h => absurd h List.not_mem_nil⟩⟩⟩⟩⟩⟩⟩⟩⟩⟩⟩⟩⟩⟩
set_option maxRecDepth 20000 in
theorem uw_X12 : ∀ w ∈ u_ws RX12 TX12 65, w ∈ BIG := by
  have e : u_ws RX12 TX12 65 = [Cond.lays "FinerStepsModel" "FinerStepsModel" "thrown" "I", Cond.lays "FinerStepsModel" "FinerStepsModel" "trouble" "I", Cond.lays "FinerStepsModel" "FinerStepsModel" "wrongAt" "I", Cond.laysFinal "FinerStepsModel" "FinerStepsModel" "tape" "[I", Cond.lays "FinerStepsModel" "FinerStepsModel" "taped" "I", Cond.lays "FinerStepsModel" "FinerStepsModel" "size" "I", Cond.lays "FinerStepsModel" "FinerStepsModel" "spot" "I", Cond.lays "FinerStepsModel" "FinerStepsModel" "fault" "I", Cond.lays "FinerStepsModel" "FinerStepsModel" "faultAt" "I", Cond.lays "FinerStepsModel" "FinerStepsModel" "token" "I", Cond.lays "FinerStepsModel" "FinerStepsModel" "at" "I", Cond.lays "FinerStepsModel" "FinerStepsModel" "sign" "I", Cond.lays "FinerStepsModel" "FinerStepsModel" "number" "I", Cond.lays "FinerStepsModel" "FinerStepsModel" "word" "J", Cond.laysFinal "FinerStepsModel" "FinerStepsModel" "machineName" "[J", Cond.laysFinal "FinerStepsModel" "FinerStepsModel" "varName" "[J", Cond.laysFinal "FinerStepsModel" "FinerStepsModel" "eventName" "[J", Cond.laysFinal "FinerStepsModel" "FinerStepsModel" "varMany" "[I", Cond.laysFinal "FinerStepsModel" "FinerStepsModel" "lawMany" "[I", Cond.laysFinal "FinerStepsModel" "FinerStepsModel" "eventMany" "[I", Cond.laysFinal "FinerStepsModel" "FinerStepsModel" "sizes" "[I", Cond.laysFinal "FinerStepsModel" "FinerStepsModel" "variantFrom" "[I", Cond.laysFinal "FinerStepsModel" "FinerStepsModel" "variantTo" "[I", Cond.laysFinal "FinerStepsModel" "FinerStepsModel" "varLow" "[I", Cond.laysFinal "FinerStepsModel" "FinerStepsModel" "varHigh" "[I", Cond.laysFinal "FinerStepsModel" "FinerStepsModel" "varAt" "[I", Cond.laysFinal "FinerStepsModel" "FinerStepsModel" "lawFrom" "[I", Cond.laysFinal "FinerStepsModel" "FinerStepsModel" "lawTo" "[I", Cond.laysFinal "FinerStepsModel" "FinerStepsModel" "eventOf" "[I", Cond.laysFinal "FinerStepsModel" "FinerStepsModel" "firstPick" "[I", Cond.laysFinal "FinerStepsModel" "FinerStepsModel" "lastPick" "[I", Cond.laysFinal "FinerStepsModel" "FinerStepsModel" "guardFrom" "[I", Cond.laysFinal "FinerStepsModel" "FinerStepsModel" "guardTo" "[I", Cond.laysFinal "FinerStepsModel" "FinerStepsModel" "givenBits" "[I", Cond.laysFinal "FinerStepsModel" "FinerStepsModel" "sumFrom" "[I", Cond.laysFinal "FinerStepsModel" "FinerStepsModel" "sumTo" "[I", Cond.laysFinal "FinerStepsModel" "FinerStepsModel" "isAside" "[Z", Cond.lays "FinerStepsModel" "FinerStepsModel" "machineMany" "I", Cond.lays "FinerStepsModel" "FinerStepsModel" "readMany" "I", Cond.laysFinal "FinerStepsModel" "FinerStepsModel" "what" "[I", Cond.laysFinal "FinerStepsModel" "FinerStepsModel" "which" "[I", Cond.lays "FinerStepsModel" "FinerStepsModel" "steps" "I", Cond.lays "FinerStepsModel" "FinerStepsModel" "atoms" "I", Cond.lays "FinerStepsModel" "FinerStepsModel" "open" "I", Cond.lays "FinerStepsModel" "FinerStepsModel" "mayAhead" "Z", Cond.lays "FinerStepsModel" "FinerStepsModel" "mayPick" "Z", Cond.laysFinal "FinerStepsModel" "FinerStepsModel" "pile" "[I", Cond.laysFinal "FinerStepsModel" "FinerStepsModel" "isSound" "[Z", Cond.laysFinal "FinerStepsModel" "FinerStepsModel" "isGlued" "[Z", Cond.lays "FinerStepsModel" "FinerStepsModel" "shownOf" "I", Cond.lays "FinerStepsModel" "FinerStepsModel" "shownA" "I", Cond.lays "FinerStepsModel" "FinerStepsModel" "shownS" "I", Cond.lays "FinerStepsModel" "FinerStepsModel" "shownPick" "I", Cond.lays "FinerStepsModel" "FinerStepsModel" "isShown" "Z", Cond.laysFinal "FinerStepsModel" "FinerStepsModel" "ink" "[I", Cond.lays "FinerStepsModel" "FinerStepsModel" "inked" "I", Cond.lays "FinerStepsModel" "FinerStepsModel" "runOf" "I", Cond.lays "FinerStepsModel" "FinerStepsModel" "runState" "I", Cond.lays "FinerStepsModel" "FinerStepsModel" "runMany" "I", Cond.laysFinal "FinerStepsModel" "FinerStepsModel" "isBeside" "[Z", Cond.laysFinal "FinerStepsModel" "FinerStepsModel" "wasBeside" "[Z", Cond.lays "FinerStepsModel" "FinerStepsModel" "seed" "J", Cond.laysFinal "FinerStepsModel" "FinerStepsModel" "far" "[I", Cond.laysFinal "FinerStepsModel" "FinerStepsModel" "queue" "[I", Cond.lays "FinerStepsModel" "FinerStepsModel" "met" "I"] := by decide +kernel
  rw [e]
  exact List.forall_mem_cons.mpr ⟨big_6 _ (List.mem_of_getElem? (i := 118) (by decide +kernel)) (by decide +kernel), List.forall_mem_cons.mpr ⟨big_6 _ (List.mem_of_getElem? (i := 120) (by decide +kernel)) (by decide +kernel), List.forall_mem_cons.mpr ⟨big_6 _ (List.mem_of_getElem? (i := 122) (by decide +kernel)) (by decide +kernel), List.forall_mem_cons.mpr ⟨big_6 _ (List.mem_of_getElem? (i := 124) (by decide +kernel)) (by decide +kernel), List.forall_mem_cons.mpr ⟨big_6 _ (List.mem_of_getElem? (i := 126) (by decide +kernel)) (by decide +kernel), List.forall_mem_cons.mpr ⟨big_6 _ (List.mem_of_getElem? (i := 128) (by decide +kernel)) (by decide +kernel), List.forall_mem_cons.mpr ⟨big_6 _ (List.mem_of_getElem? (i := 130) (by decide +kernel)) (by decide +kernel), List.forall_mem_cons.mpr ⟨big_6 _ (List.mem_of_getElem? (i := 132) (by decide +kernel)) (by decide +kernel), List.forall_mem_cons.mpr ⟨big_6 _ (List.mem_of_getElem? (i := 134) (by decide +kernel)) (by decide +kernel), List.forall_mem_cons.mpr ⟨big_6 _ (List.mem_of_getElem? (i := 136) (by decide +kernel)) (by decide +kernel), List.forall_mem_cons.mpr ⟨big_6 _ (List.mem_of_getElem? (i := 138) (by decide +kernel)) (by decide +kernel), List.forall_mem_cons.mpr ⟨big_6 _ (List.mem_of_getElem? (i := 140) (by decide +kernel)) (by decide +kernel), List.forall_mem_cons.mpr ⟨big_6 _ (List.mem_of_getElem? (i := 142) (by decide +kernel)) (by decide +kernel), List.forall_mem_cons.mpr ⟨big_6 _ (List.mem_of_getElem? (i := 144) (by decide +kernel)) (by decide +kernel), List.forall_mem_cons.mpr ⟨big_6 _ (List.mem_of_getElem? (i := 146) (by decide +kernel)) (by decide +kernel), List.forall_mem_cons.mpr ⟨big_6 _ (List.mem_of_getElem? (i := 148) (by decide +kernel)) (by decide +kernel), List.forall_mem_cons.mpr ⟨big_6 _ (List.mem_of_getElem? (i := 150) (by decide +kernel)) (by decide +kernel), List.forall_mem_cons.mpr ⟨big_6 _ (List.mem_of_getElem? (i := 152) (by decide +kernel)) (by decide +kernel), List.forall_mem_cons.mpr ⟨big_6 _ (List.mem_of_getElem? (i := 154) (by decide +kernel)) (by decide +kernel), List.forall_mem_cons.mpr ⟨big_6 _ (List.mem_of_getElem? (i := 156) (by decide +kernel)) (by decide +kernel), List.forall_mem_cons.mpr ⟨big_6 _ (List.mem_of_getElem? (i := 158) (by decide +kernel)) (by decide +kernel), List.forall_mem_cons.mpr ⟨big_6 _ (List.mem_of_getElem? (i := 160) (by decide +kernel)) (by decide +kernel), List.forall_mem_cons.mpr ⟨big_6 _ (List.mem_of_getElem? (i := 162) (by decide +kernel)) (by decide +kernel), List.forall_mem_cons.mpr ⟨big_6 _ (List.mem_of_getElem? (i := 164) (by decide +kernel)) (by decide +kernel), List.forall_mem_cons.mpr ⟨big_6 _ (List.mem_of_getElem? (i := 166) (by decide +kernel)) (by decide +kernel), List.forall_mem_cons.mpr ⟨big_6 _ (List.mem_of_getElem? (i := 168) (by decide +kernel)) (by decide +kernel), List.forall_mem_cons.mpr ⟨big_6 _ (List.mem_of_getElem? (i := 170) (by decide +kernel)) (by decide +kernel), List.forall_mem_cons.mpr ⟨big_6 _ (List.mem_of_getElem? (i := 172) (by decide +kernel)) (by decide +kernel), List.forall_mem_cons.mpr ⟨big_6 _ (List.mem_of_getElem? (i := 174) (by decide +kernel)) (by decide +kernel), List.forall_mem_cons.mpr ⟨big_6 _ (List.mem_of_getElem? (i := 176) (by decide +kernel)) (by decide +kernel), List.forall_mem_cons.mpr ⟨big_6 _ (List.mem_of_getElem? (i := 178) (by decide +kernel)) (by decide +kernel), List.forall_mem_cons.mpr ⟨big_6 _ (List.mem_of_getElem? (i := 180) (by decide +kernel)) (by decide +kernel), List.forall_mem_cons.mpr ⟨big_6 _ (List.mem_of_getElem? (i := 182) (by decide +kernel)) (by decide +kernel), List.forall_mem_cons.mpr ⟨big_6 _ (List.mem_of_getElem? (i := 184) (by decide +kernel)) (by decide +kernel), List.forall_mem_cons.mpr ⟨big_6 _ (List.mem_of_getElem? (i := 186) (by decide +kernel)) (by decide +kernel), List.forall_mem_cons.mpr ⟨big_6 _ (List.mem_of_getElem? (i := 188) (by decide +kernel)) (by decide +kernel), List.forall_mem_cons.mpr ⟨big_6 _ (List.mem_of_getElem? (i := 190) (by decide +kernel)) (by decide +kernel), List.forall_mem_cons.mpr ⟨big_6 _ (List.mem_of_getElem? (i := 192) (by decide +kernel)) (by decide +kernel), List.forall_mem_cons.mpr ⟨big_6 _ (List.mem_of_getElem? (i := 194) (by decide +kernel)) (by decide +kernel), List.forall_mem_cons.mpr ⟨big_6 _ (List.mem_of_getElem? (i := 196) (by decide +kernel)) (by decide +kernel), List.forall_mem_cons.mpr ⟨big_6 _ (List.mem_of_getElem? (i := 198) (by decide +kernel)) (by decide +kernel), List.forall_mem_cons.mpr ⟨big_6 _ (List.mem_of_getElem? (i := 200) (by decide +kernel)) (by decide +kernel), List.forall_mem_cons.mpr ⟨big_6 _ (List.mem_of_getElem? (i := 202) (by decide +kernel)) (by decide +kernel), List.forall_mem_cons.mpr ⟨big_6 _ (List.mem_of_getElem? (i := 204) (by decide +kernel)) (by decide +kernel), List.forall_mem_cons.mpr ⟨big_6 _ (List.mem_of_getElem? (i := 206) (by decide +kernel)) (by decide +kernel), List.forall_mem_cons.mpr ⟨big_6 _ (List.mem_of_getElem? (i := 208) (by decide +kernel)) (by decide +kernel), List.forall_mem_cons.mpr ⟨big_6 _ (List.mem_of_getElem? (i := 210) (by decide +kernel)) (by decide +kernel), List.forall_mem_cons.mpr ⟨big_6 _ (List.mem_of_getElem? (i := 212) (by decide +kernel)) (by decide +kernel), List.forall_mem_cons.mpr ⟨big_6 _ (List.mem_of_getElem? (i := 214) (by decide +kernel)) (by decide +kernel), List.forall_mem_cons.mpr ⟨big_6 _ (List.mem_of_getElem? (i := 216) (by decide +kernel)) (by decide +kernel), List.forall_mem_cons.mpr ⟨big_6 _ (List.mem_of_getElem? (i := 218) (by decide +kernel)) (by decide +kernel), List.forall_mem_cons.mpr ⟨big_6 _ (List.mem_of_getElem? (i := 220) (by decide +kernel)) (by decide +kernel), List.forall_mem_cons.mpr ⟨big_6 _ (List.mem_of_getElem? (i := 222) (by decide +kernel)) (by decide +kernel), List.forall_mem_cons.mpr ⟨big_6 _ (List.mem_of_getElem? (i := 224) (by decide +kernel)) (by decide +kernel), List.forall_mem_cons.mpr ⟨big_6 _ (List.mem_of_getElem? (i := 226) (by decide +kernel)) (by decide +kernel), List.forall_mem_cons.mpr ⟨big_6 _ (List.mem_of_getElem? (i := 228) (by decide +kernel)) (by decide +kernel), List.forall_mem_cons.mpr ⟨big_6 _ (List.mem_of_getElem? (i := 230) (by decide +kernel)) (by decide +kernel), List.forall_mem_cons.mpr ⟨big_6 _ (List.mem_of_getElem? (i := 232) (by decide +kernel)) (by decide +kernel), List.forall_mem_cons.mpr ⟨big_6 _ (List.mem_of_getElem? (i := 234) (by decide +kernel)) (by decide +kernel), List.forall_mem_cons.mpr ⟨big_6 _ (List.mem_of_getElem? (i := 236) (by decide +kernel)) (by decide +kernel), List.forall_mem_cons.mpr ⟨big_6 _ (List.mem_of_getElem? (i := 238) (by decide +kernel)) (by decide +kernel), List.forall_mem_cons.mpr ⟨big_7 _ (List.mem_of_getElem? (i := 0) (by decide +kernel)) (by decide +kernel), List.forall_mem_cons.mpr ⟨big_7 _ (List.mem_of_getElem? (i := 2) (by decide +kernel)) (by decide +kernel), List.forall_mem_cons.mpr ⟨big_7 _ (List.mem_of_getElem? (i := 4) (by decide +kernel)) (by decide +kernel), List.forall_mem_cons.mpr ⟨big_7 _ (List.mem_of_getElem? (i := 6) (by decide +kernel)) (by decide +kernel), fun _ h => absurd h List.not_mem_nil⟩⟩⟩⟩⟩⟩⟩⟩⟩⟩⟩⟩⟩⟩⟩⟩⟩⟩⟩⟩⟩⟩⟩⟩⟩⟩⟩⟩⟩⟩⟩⟩⟩⟩⟩⟩⟩⟩⟩⟩⟩⟩⟩⟩⟩⟩⟩⟩⟩⟩⟩⟩⟩⟩⟩⟩⟩⟩⟩⟩⟩⟩⟩⟩⟩
