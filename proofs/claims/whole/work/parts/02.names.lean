/-! ===== BEGIN words of one list among another's, by their places ===== -/
theorem goodIn_r {big : List Cond} (ws : List Cond) (ps : List Nat) (hp : ws = ps.filterMap (fun i => big[i]?)) (h : ws.all goodWord = true) : GoodIn big ws := by
  intro w hw
  have h1 := List.all_eq_true.mp h w hw
  rw [hp] at hw
  obtain ⟨i, -, hi⟩ := List.mem_filterMap.mp hw
  have hm : w ∈ big := by first | exact List.mem_of_getElem? hi | exact List.getElem?_mem hi
  exact ⟨hm, good_of_word h1⟩
theorem goodIn_app {big a b : List Cond} (ha : GoodIn big a) (hb : GoodIn big b) : GoodIn big (a ++ b) := fun w h => (List.mem_append.mp h).elim (ha w) (hb w)
theorem goodIn_ca {big a b : List Cond} {c : Cond} (ha : GoodIn big (c :: a)) (hb : GoodIn big b) : GoodIn big (c :: (a ++ b)) := fun w h => (List.mem_cons.mp h).elim (fun e => ha w (List.mem_cons.mpr (Or.inl e))) (fun h => (List.mem_append.mp h).elim (fun h => ha w (List.mem_cons.mpr (Or.inr h))) (hb w))
theorem goodIn_sub {big ws : List Cond} (hm : ∀ w ∈ ws, w ∈ big) (h : ws.all goodWord = true) : GoodIn big ws := fun w hw => ⟨hm w hw, good_of_word (List.all_eq_true.mp h w hw)⟩
/-! ===== END ===== -/

/-! ===== BEGIN printed: names, fields, word lists, decode rows ===== -/
def RX0 : String := "SignalBox$Section"
def TX0 : u_T := fun k => match k with
  | 0 => ("SignalBox$Section", "number", "I", true)
  | 1 => ("SignalBox$Section", "kind", "I", true)
  | 2 => ("SignalBox$Section", "limit", "I", true)
  | 3 => ("SignalBox$Section", "mark", "I", false)
  | 4 => ("SignalBox$Section", "axles", "I", false)
  | 5 => ("SignalBox$Section", "leg", "I", false)
  | 6 => ("SignalBox$Section", "claims", "I", false)
  | 7 => ("SignalBox$Section", "held", "I", false)
  | _ => ("SignalBox$Section", "most", "I", false)
def tyX0 : Nat → FieldType := fun k => match k with
  | 0 => .int
  | 1 => .int
  | 2 => .int
  | 3 => .int
  | 4 => .int
  | 5 => .int
  | 6 => .int
  | 7 => .int
  | _ => .int
abbrev wsX00 : List Cond := u_ws RX0 TX0 9
theorem nmX0 : ∀ a, a < 9 → ∀ b, b < 9 → a ≠ b → (TX0 a).2.1 ≠ (TX0 b).2.1 := by decide +kernel
theorem tyX0_ok : ∀ k, k < 9 → parseFieldDescriptor (TX0 k).2.2.1 = some (tyX0 k) := by decide +kernel
abbrev cX0_init : ByteArray := prog_2_method_1_code
def yX0_init : MethodName := ⟨RX0, "<init>", "(IIII)V"⟩
abbrev cX0_hasRoomFor : ByteArray := prog_2_method_2_code
def yX0_hasRoomFor : MethodName := ⟨RX0, "hasRoomFor", "(I)Z"⟩
def RX1 : String := "SignalBox"
def TX1 : u_T := fun k => match k with
  | 0 => ("SignalBox", "standing", "[LSignalBox$Section;", true)
  | 1 => ("SignalBox", "routePlaces", "[I", true)
  | 2 => ("SignalBox", "routeLengths", "[I", true)
  | 3 => ("SignalBox", "trace", "[I", true)
  | 4 => ("SignalBox", "traceLength", "I", false)
  | 5 => ("SignalBox", "made", "I", false)
  | 6 => ("SignalBox", "runs", "I", false)
  | 7 => ("SignalBox", "nullFailures", "I", false)
  | 8 => ("SignalBox", "fullFailures", "I", false)
  | _ => ("SignalBox", "passed", "I", false)
def tyX1 : Nat → FieldType := fun k => match k with
  | 0 => .array (.object "SignalBox$Section")
  | 1 => .array .int
  | 2 => .array .int
  | 3 => .array .int
  | 4 => .int
  | 5 => .int
  | 6 => .int
  | 7 => .int
  | 8 => .int
  | _ => .int
abbrev wsX10 : List Cond := u_ws RX1 TX1 10
theorem nmX1 : ∀ a, a < 10 → ∀ b, b < 10 → a ≠ b → (TX1 a).2.1 ≠ (TX1 b).2.1 := by decide +kernel
theorem tyX1_ok : ∀ k, k < 10 → parseFieldDescriptor (TX1 k).2.2.1 = some (tyX1 k) := by decide +kernel
abbrev cX1_init : ByteArray := prog_1_method_1_code
def yX1_init : MethodName := ⟨RX1, "<init>", "()V"⟩
abbrev cX1_section : ByteArray := prog_1_method_2_code
def yX1_section : MethodName := ⟨RX1, "section", "(IIII)I"⟩
abbrev cX1_share : ByteArray := prog_1_method_3_code
def yX1_share : MethodName := ⟨RX1, "share", "(II)I"⟩
abbrev cX1_remove : ByteArray := prog_1_method_4_code
def yX1_remove : MethodName := ⟨RX1, "remove", "(I)I"⟩
abbrev cX1_same : ByteArray := prog_1_method_5_code
def yX1_same : MethodName := ⟨RX1, "same", "(II)I"⟩
abbrev cX1_lead : ByteArray := prog_1_method_6_code
def yX1_lead : MethodName := ⟨RX1, "lead", "(II)I"⟩
abbrev cX1_unlead : ByteArray := prog_1_method_7_code
def yX1_unlead : MethodName := ⟨RX1, "unlead", "(I)I"⟩
abbrev cX1_run : ByteArray := prog_1_method_8_code
def yX1_run : MethodName := ⟨RX1, "run", "(III)I"⟩
abbrev cX1_shunt : ByteArray := prog_1_method_9_code
def yX1_shunt : MethodName := ⟨RX1, "shunt", "(III)I"⟩
abbrev cX1_passed : ByteArray := prog_1_method_10_code
def yX1_passed : MethodName := ⟨RX1, "passed", "()I"⟩
abbrev cX1_trace : ByteArray := prog_1_method_11_code
def yX1_trace : MethodName := ⟨RX1, "trace", "(I)I"⟩
abbrev cX1_told : ByteArray := prog_1_method_12_code
def yX1_told : MethodName := ⟨RX1, "told", "(II)I"⟩
abbrev cX1_count : ByteArray := prog_1_method_13_code
def yX1_count : MethodName := ⟨RX1, "count", "(I)I"⟩
abbrev cX1_isPlace : ByteArray := prog_1_method_14_code
def yX1_isPlace : MethodName := ⟨RX1, "isPlace", "(I)Z"⟩
abbrev cX1_isRoute : ByteArray := prog_1_method_15_code
def yX1_isRoute : MethodName := ⟨RX1, "isRoute", "(I)Z"⟩
abbrev cX1_isAxles : ByteArray := prog_1_method_16_code
def yX1_isAxles : MethodName := ⟨RX1, "isAxles", "(I)Z"⟩
abbrev cX1_isLimit : ByteArray := prog_1_method_17_code
def yX1_isLimit : MethodName := ⟨RX1, "isLimit", "(I)Z"⟩
abbrev cX1_countStanding : ByteArray := prog_1_method_18_code
def yX1_countStanding : MethodName := ⟨RX1, "countStanding", "()I"⟩
abbrev cX1_counted : ByteArray := prog_1_method_19_code
def yX1_counted : MethodName := ⟨RX1, "counted", "(I)I"⟩
abbrev cX1_goAlone : ByteArray := prog_1_method_20_code
def yX1_goAlone : MethodName := ⟨RX1, "goAlone", "(III)I"⟩
abbrev cX1_goTwoByTwo : ByteArray := prog_1_method_21_code
def yX1_goTwoByTwo : MethodName := ⟨RX1, "goTwoByTwo", "(II)I"⟩
abbrev cX1_goAll : ByteArray := prog_1_method_22_code
def yX1_goAll : MethodName := ⟨RX1, "goAll", "(II)I"⟩
abbrev cX1_claimAll : ByteArray := prog_1_method_23_code
def yX1_claimAll : MethodName := ⟨RX1, "claimAll", "(I)I"⟩
abbrev cX1_letAll : ByteArray := prog_1_method_24_code
def yX1_letAll : MethodName := ⟨RX1, "letAll", "(II)V"⟩
abbrev cX1_goFirst : ByteArray := prog_1_method_25_code
def yX1_goFirst : MethodName := ⟨RX1, "goFirst", "(II)I"⟩
abbrev cX1_sectionOn : ByteArray := prog_1_method_26_code
def yX1_sectionOn : MethodName := ⟨RX1, "sectionOn", "(II)LSignalBox$Section;"⟩
abbrev cX1_answerTo : ByteArray := prog_1_method_27_code
def yX1_answerTo : MethodName := ⟨RX1, "answerTo", "(II)I"⟩
abbrev cX1_pass : ByteArray := prog_1_method_28_code
def yX1_pass : MethodName := ⟨RX1, "pass", "(LSignalBox$Section;I)I"⟩
abbrev cX1_passBridge : ByteArray := prog_1_method_29_code
def yX1_passBridge : MethodName := ⟨RX1, "passBridge", "(LSignalBox$Section;I)I"⟩
abbrev cX1_passPoints : ByteArray := prog_1_method_30_code
def yX1_passPoints : MethodName := ⟨RX1, "passPoints", "(LSignalBox$Section;I)I"⟩
abbrev cX1_passPlain : ByteArray := prog_1_method_31_code
def yX1_passPlain : MethodName := ⟨RX1, "passPlain", "(LSignalBox$Section;I)I"⟩
abbrev cX1_shuntOnto : ByteArray := prog_1_method_32_code
def yX1_shuntOnto : MethodName := ⟨RX1, "shuntOnto", "(LSignalBox$Section;LSignalBox$Section;I)I"⟩
abbrev cX1_claim : ByteArray := prog_1_method_33_code
def yX1_claim : MethodName := ⟨RX1, "claim", "(LSignalBox$Section;)V"⟩
abbrev cX1_let : ByteArray := prog_1_method_34_code
def yX1_let : MethodName := ⟨RX1, "let", "(LSignalBox$Section;)V"⟩
def RX2 : String := "SignalBoxModel"
def TX2 : u_T := fun k => match k with
  | 0 => ("SignalBoxModel", "made", "I", false)
  | 1 => ("SignalBoxModel", "kinds", "[I", true)
  | 2 => ("SignalBoxModel", "limits", "[I", true)
  | 3 => ("SignalBoxModel", "marks", "[I", true)
  | 4 => ("SignalBoxModel", "axles", "[I", true)
  | 5 => ("SignalBoxModel", "legs", "[I", true)
  | 6 => ("SignalBoxModel", "claims", "[I", true)
  | 7 => ("SignalBoxModel", "held", "[I", true)
  | 8 => ("SignalBoxModel", "most", "[I", true)
  | 9 => ("SignalBoxModel", "at", "[I", true)
  | 10 => ("SignalBoxModel", "routes", "[I", true)
  | 11 => ("SignalBoxModel", "lengths", "[I", true)
  | 12 => ("SignalBoxModel", "trace", "[I", true)
  | 13 => ("SignalBoxModel", "traced", "I", false)
  | 14 => ("SignalBoxModel", "passed", "I", false)
  | 15 => ("SignalBoxModel", "runs", "I", false)
  | 16 => ("SignalBoxModel", "nulls", "I", false)
  | _ => ("SignalBoxModel", "fulls", "I", false)
def tyX2 : Nat → FieldType := fun k => match k with
  | 0 => .int
  | 1 => .array .int
  | 2 => .array .int
  | 3 => .array .int
  | 4 => .array .int
  | 5 => .array .int
  | 6 => .array .int
  | 7 => .array .int
  | 8 => .array .int
  | 9 => .array .int
  | 10 => .array .int
  | 11 => .array .int
  | 12 => .array .int
  | 13 => .int
  | 14 => .int
  | 15 => .int
  | 16 => .int
  | _ => .int
abbrev wsX20 : List Cond := u_ws RX2 TX2 18
theorem nmX2 : ∀ a, a < 18 → ∀ b, b < 18 → a ≠ b → (TX2 a).2.1 ≠ (TX2 b).2.1 := by decide +kernel
theorem tyX2_ok : ∀ k, k < 18 → parseFieldDescriptor (TX2 k).2.2.1 = some (tyX2 k) := by decide +kernel
abbrev cX2_init : ByteArray := prog_4_method_1_code
def yX2_init : MethodName := ⟨RX2, "<init>", "()V"⟩
abbrev cX2_in : ByteArray := prog_4_method_3_code
def yX2_in : MethodName := ⟨RX2, "in", "(III)Z"⟩
abbrev cX2_isPlace : ByteArray := prog_4_method_4_code
def yX2_isPlace : MethodName := ⟨RX2, "isPlace", "(I)Z"⟩
abbrev cX2_isRoute : ByteArray := prog_4_method_5_code
def yX2_isRoute : MethodName := ⟨RX2, "isRoute", "(I)Z"⟩
abbrev cX2_section : ByteArray := prog_4_method_6_code
def yX2_section : MethodName := ⟨RX2, "section", "(IIII)I"⟩
abbrev cX2_share : ByteArray := prog_4_method_7_code
def yX2_share : MethodName := ⟨RX2, "share", "(II)I"⟩
abbrev cX2_remove : ByteArray := prog_4_method_8_code
def yX2_remove : MethodName := ⟨RX2, "remove", "(I)I"⟩
abbrev cX2_same : ByteArray := prog_4_method_9_code
def yX2_same : MethodName := ⟨RX2, "same", "(II)I"⟩
abbrev cX2_lead : ByteArray := prog_4_method_10_code
def yX2_lead : MethodName := ⟨RX2, "lead", "(II)I"⟩
abbrev cX2_unlead : ByteArray := prog_4_method_11_code
def yX2_unlead : MethodName := ⟨RX2, "unlead", "(I)I"⟩
abbrev cX2_leave : ByteArray := prog_4_method_12_code
def yX2_leave : MethodName := ⟨RX2, "leave", "(I)V"⟩
abbrev cX2_claim : ByteArray := prog_4_method_13_code
def yX2_claim : MethodName := ⟨RX2, "claim", "(I)V"⟩
abbrev cX2_let : ByteArray := prog_4_method_14_code
def yX2_let : MethodName := ⟨RX2, "let", "(I)V"⟩
abbrev cX2_passPlain : ByteArray := prog_4_method_15_code
def yX2_passPlain : MethodName := ⟨RX2, "passPlain", "(II)I"⟩
abbrev cX2_passPoints : ByteArray := prog_4_method_16_code
def yX2_passPoints : MethodName := ⟨RX2, "passPoints", "(II)I"⟩
abbrev cX2_passBridge : ByteArray := prog_4_method_17_code
def yX2_passBridge : MethodName := ⟨RX2, "passBridge", "(II)I"⟩
abbrev cX2_pass : ByteArray := prog_4_method_18_code
def yX2_pass : MethodName := ⟨RX2, "pass", "(II)I"⟩
abbrev cX2_sectionOf : ByteArray := prog_4_method_19_code
def yX2_sectionOf : MethodName := ⟨RX2, "sectionOf", "(II)I"⟩
abbrev cX2_ended : ByteArray := prog_4_method_20_code
def yX2_ended : MethodName := ⟨RX2, "ended", "(II)I"⟩
abbrev cX2_alone : ByteArray := prog_4_method_21_code
def yX2_alone : MethodName := ⟨RX2, "alone", "(II)I"⟩
abbrev cX2_twoByTwo : ByteArray := prog_4_method_22_code
def yX2_twoByTwo : MethodName := ⟨RX2, "twoByTwo", "(II)I"⟩
abbrev cX2_all : ByteArray := prog_4_method_23_code
def yX2_all : MethodName := ⟨RX2, "all", "(II)I"⟩
abbrev cX2_first : ByteArray := prog_4_method_24_code
def yX2_first : MethodName := ⟨RX2, "first", "(II)I"⟩
abbrev cX2_round : ByteArray := prog_4_method_25_code
def yX2_round : MethodName := ⟨RX2, "round", "(II)I"⟩
abbrev cX2_run : ByteArray := prog_4_method_26_code
def yX2_run : MethodName := ⟨RX2, "run", "(III)I"⟩
abbrev cX2_shunt : ByteArray := prog_4_method_27_code
def yX2_shunt : MethodName := ⟨RX2, "shunt", "(III)I"⟩
abbrev cX2_passed : ByteArray := prog_4_method_28_code
def yX2_passed : MethodName := ⟨RX2, "passed", "()I"⟩
abbrev cX2_trace : ByteArray := prog_4_method_29_code
def yX2_trace : MethodName := ⟨RX2, "trace", "(I)I"⟩
abbrev cX2_told : ByteArray := prog_4_method_30_code
def yX2_told : MethodName := ⟨RX2, "told", "(II)I"⟩
abbrev cX2_count : ByteArray := prog_4_method_31_code
def yX2_count : MethodName := ⟨RX2, "count", "(I)I"⟩
def RL : String := "SignalBoxLaw"
abbrev cL_law : ByteArray := code
def yL_law : MethodName := ⟨RL, "law", "([I)Z"⟩
def wsX0_init : List Cond := .code yX0_init cX0_init 5 none :: ([.methodLink RX0 1 objectInit, .instanceMethod objectInit, .code objectInit ⟨#[0xb1]⟩ 1 none, .fieldLink RX0 7 "SignalBox$Section" "number" "I", .fieldLink RX0 13 "SignalBox$Section" "kind" "I", .fieldLink RX0 16 "SignalBox$Section" "limit" "I", .fieldLink RX0 19 "SignalBox$Section" "mark" "I"] ++ wsX00)
def wsX0_hasRoomFor : List Cond := .code yX0_hasRoomFor cX0_hasRoomFor 2 (some .boolean) :: ([.fieldLink RX0 22 "SignalBox$Section" "axles" "I", .fieldLink RX0 16 "SignalBox$Section" "limit" "I"] ++ wsX00)
def wsX1_init : List Cond := .code yX1_init cX1_init 1 none :: ([.methodLink RX1 1 objectInit, .instanceMethod objectInit, .code objectInit ⟨#[0xb1]⟩ 1 none, .classLink RX1 9 RX0, .fieldLink RX1 11 "SignalBox" "standing" "[LSignalBox$Section;", .arrayClass .int, .fieldLink RX1 15 "SignalBox" "routePlaces" "[I", .fieldLink RX1 19 "SignalBox" "routeLengths" "[I", .fieldLink RX1 22 "SignalBox" "trace" "[I"] ++ wsX10)
def wsX1_isPlace : List Cond := .code yX1_isPlace cX1_isPlace 1 (some .boolean) :: ([])
def wsX1_isLimit : List Cond := .code yX1_isLimit cX1_isLimit 1 (some .boolean) :: ([.constant RX1 120 (100000)])
def wsX1_section : List Cond := .code yX1_section cX1_section 6 (some .int) :: ([.classLink RX1 9 RX0, .instantiable RX0 9, .initialized RX0, .fieldLink RX1 32 "SignalBox" "made" "I", .fieldLink RX1 11 "SignalBox" "standing" "[LSignalBox$Section;", .methodLink RX1 25 yX1_isPlace, .static yX1_isPlace, .initialized RX1, .code yX1_isPlace cX1_isPlace 1 (some .boolean), .methodLink RX1 29 yX1_isLimit, .static yX1_isLimit, .code yX1_isLimit cX1_isLimit 1 (some .boolean), .constant RX1 120 (100000), .instanceMethod yX0_init, .code yX0_init cX0_init 5 none, .methodLink RX0 1 objectInit, .instanceMethod objectInit, .code objectInit ⟨#[0xb1]⟩ 1 none, .fieldLink RX0 7 "SignalBox$Section" "number" "I", .fieldLink RX0 13 "SignalBox$Section" "kind" "I", .fieldLink RX0 16 "SignalBox$Section" "limit" "I", .fieldLink RX0 19 "SignalBox$Section" "mark" "I"] ++ wsX00 ++ wsX10)
def wsX1_share : List Cond := .code yX1_share cX1_share 3 (some .int) :: ([.fieldLink RX1 11 "SignalBox" "standing" "[LSignalBox$Section;", .methodLink RX1 25 yX1_isPlace, .static yX1_isPlace, .initialized RX1, .code yX1_isPlace cX1_isPlace 1 (some .boolean)] ++ wsX10)
def wsX1_remove : List Cond := .code yX1_remove cX1_remove 3 (some .int) :: ([.fieldLink RX1 11 "SignalBox" "standing" "[LSignalBox$Section;", .methodLink RX1 25 yX1_isPlace, .static yX1_isPlace, .initialized RX1, .code yX1_isPlace cX1_isPlace 1 (some .boolean)] ++ wsX10)
def wsX1_same : List Cond := .code yX1_same cX1_same 3 (some .int) :: ([.fieldLink RX1 11 "SignalBox" "standing" "[LSignalBox$Section;", .methodLink RX1 25 yX1_isPlace, .static yX1_isPlace, .initialized RX1, .code yX1_isPlace cX1_isPlace 1 (some .boolean)] ++ wsX10)
def wsX1_isRoute : List Cond := .code yX1_isRoute cX1_isRoute 1 (some .boolean) :: ([])
def wsX1_lead : List Cond := .code yX1_lead cX1_lead 4 (some .int) :: ([.fieldLink RX1 19 "SignalBox" "routeLengths" "[I", .fieldLink RX1 15 "SignalBox" "routePlaces" "[I", .methodLink RX1 42 yX1_isRoute, .static yX1_isRoute, .initialized RX1, .code yX1_isRoute cX1_isRoute 1 (some .boolean), .methodLink RX1 25 yX1_isPlace, .static yX1_isPlace, .code yX1_isPlace cX1_isPlace 1 (some .boolean)] ++ wsX10)
def wsX1_unlead : List Cond := .code yX1_unlead cX1_unlead 3 (some .int) :: ([.fieldLink RX1 19 "SignalBox" "routeLengths" "[I", .methodLink RX1 42 yX1_isRoute, .static yX1_isRoute, .initialized RX1, .code yX1_isRoute cX1_isRoute 1 (some .boolean)] ++ wsX10)
def wsX1_isAxles : List Cond := .code yX1_isAxles cX1_isAxles 1 (some .boolean) :: ([])
def wsX1_sectionOn : List Cond := .code yX1_sectionOn cX1_sectionOn 3 (some (.object "SignalBox$Section")) :: ([.fieldLink RX1 11 "SignalBox" "standing" "[LSignalBox$Section;", .fieldLink RX1 15 "SignalBox" "routePlaces" "[I"] ++ wsX10)
def wsX1_claim : List Cond := .code yX1_claim cX1_claim 2 none :: ([.fieldLink RX1 54 "SignalBox" "traceLength" "I", .fieldLink RX1 22 "SignalBox" "trace" "[I"] ++ wsX00 ++ wsX10)
def wsX1_let : List Cond := .code yX1_let cX1_let 2 none :: ([.fieldLink RX1 54 "SignalBox" "traceLength" "I", .fieldLink RX1 22 "SignalBox" "trace" "[I"] ++ wsX00 ++ wsX10)
def wsX1_passPlain : List Cond := .code yX1_passPlain cX1_passPlain 4 (some .int) :: ([.methodLink RX1 75 yX1_claim, .instanceMethod yX1_claim, .selects RX1 yX1_claim yX1_claim, .initialized RX1, .code yX1_claim cX1_claim 2 none, .fieldLink RX1 54 "SignalBox" "traceLength" "I", .fieldLink RX1 22 "SignalBox" "trace" "[I", .instanceMethod yX0_hasRoomFor, .initialized RX0, .selects RX0 yX0_hasRoomFor yX0_hasRoomFor, .code yX0_hasRoomFor cX0_hasRoomFor 2 (some .boolean), .fieldLink RX0 22 "SignalBox$Section" "axles" "I", .fieldLink RX0 16 "SignalBox$Section" "limit" "I", .methodLink RX1 83 yX1_let, .instanceMethod yX1_let, .selects RX1 yX1_let yX1_let, .code yX1_let cX1_let 2 none] ++ wsX00 ++ wsX10)
def wsX1_passPoints : List Cond := .code yX1_passPoints cX1_passPoints 4 (some .int) :: ([.methodLink RX1 75 yX1_claim, .instanceMethod yX1_claim, .selects RX1 yX1_claim yX1_claim, .initialized RX1, .code yX1_claim cX1_claim 2 none, .fieldLink RX1 54 "SignalBox" "traceLength" "I", .fieldLink RX1 22 "SignalBox" "trace" "[I", .methodLink RX1 148 yX1_passPlain, .instanceMethod yX1_passPlain, .selects RX1 yX1_passPlain yX1_passPlain, .code yX1_passPlain cX1_passPlain 4 (some .int), .instanceMethod yX0_hasRoomFor, .initialized RX0, .selects RX0 yX0_hasRoomFor yX0_hasRoomFor, .code yX0_hasRoomFor cX0_hasRoomFor 2 (some .boolean), .fieldLink RX0 22 "SignalBox$Section" "axles" "I", .fieldLink RX0 16 "SignalBox$Section" "limit" "I", .methodLink RX1 83 yX1_let, .instanceMethod yX1_let, .selects RX1 yX1_let yX1_let, .code yX1_let cX1_let 2 none] ++ wsX00 ++ wsX10)
def wsX1_passBridge_r1 : List Cond := [Cond.methodLink RX1 75 yX1_claim, Cond.instanceMethod yX1_claim, Cond.selects RX1 yX1_claim yX1_claim, Cond.initialized RX1, Cond.code yX1_claim cX1_claim 2 none, Cond.fieldLink RX1 54 "SignalBox" "traceLength" "I", Cond.fieldLink RX1 22 "SignalBox" "trace" "[I", Cond.methodLink RX1 145 yX1_passPoints, Cond.instanceMethod yX1_passPoints, Cond.selects RX1 yX1_passPoints yX1_passPoints, Cond.code yX1_passPoints cX1_passPoints 4 (some .int), Cond.methodLink RX1 148 yX1_passPlain, Cond.instanceMethod yX1_passPlain, Cond.selects RX1 yX1_passPlain yX1_passPlain, Cond.code yX1_passPlain cX1_passPlain 4 (some .int), Cond.instanceMethod yX0_hasRoomFor, Cond.initialized RX0, Cond.selects RX0 yX0_hasRoomFor yX0_hasRoomFor, Cond.code yX0_hasRoomFor cX0_hasRoomFor 2 (some .boolean), Cond.fieldLink RX0 22 "SignalBox$Section" "axles" "I", Cond.fieldLink RX0 16 "SignalBox$Section" "limit" "I", Cond.methodLink RX1 83 yX1_let, Cond.instanceMethod yX1_let, Cond.selects RX1 yX1_let yX1_let]
def wsX1_passBridge_r2 : List Cond := [Cond.code yX1_let cX1_let 2 none]
def wsX1_passBridge : List Cond := .code yX1_passBridge cX1_passBridge 4 (some .int) :: ((wsX1_passBridge_r1 ++ wsX1_passBridge_r2) ++ wsX00 ++ wsX10)
def wsX1_pass_r1 : List Cond := [Cond.fieldLink RX1 51 "SignalBox" "passed" "I", Cond.methodLink RX1 142 yX1_passBridge, Cond.instanceMethod yX1_passBridge, Cond.selects RX1 yX1_passBridge yX1_passBridge, Cond.initialized RX1, Cond.code yX1_passBridge cX1_passBridge 4 (some .int), Cond.methodLink RX1 75 yX1_claim, Cond.instanceMethod yX1_claim, Cond.selects RX1 yX1_claim yX1_claim, Cond.code yX1_claim cX1_claim 2 none, Cond.fieldLink RX1 54 "SignalBox" "traceLength" "I", Cond.fieldLink RX1 22 "SignalBox" "trace" "[I", Cond.methodLink RX1 145 yX1_passPoints, Cond.instanceMethod yX1_passPoints, Cond.selects RX1 yX1_passPoints yX1_passPoints, Cond.code yX1_passPoints cX1_passPoints 4 (some .int), Cond.methodLink RX1 148 yX1_passPlain, Cond.instanceMethod yX1_passPlain, Cond.selects RX1 yX1_passPlain yX1_passPlain, Cond.code yX1_passPlain cX1_passPlain 4 (some .int), Cond.instanceMethod yX0_hasRoomFor, Cond.initialized RX0, Cond.selects RX0 yX0_hasRoomFor yX0_hasRoomFor, Cond.code yX0_hasRoomFor cX0_hasRoomFor 2 (some .boolean)]
def wsX1_pass_r2 : List Cond := [Cond.fieldLink RX0 22 "SignalBox$Section" "axles" "I", Cond.fieldLink RX0 16 "SignalBox$Section" "limit" "I", Cond.methodLink RX1 83 yX1_let, Cond.instanceMethod yX1_let, Cond.selects RX1 yX1_let yX1_let, Cond.code yX1_let cX1_let 2 none]
def wsX1_pass : List Cond := .code yX1_pass cX1_pass 4 (some .int) :: ((wsX1_pass_r1 ++ wsX1_pass_r2) ++ wsX00 ++ wsX10)
def wsX1_answerTo : List Cond := .code yX1_answerTo cX1_answerTo 3 (some .int) :: ([.fieldLink RX1 51 "SignalBox" "passed" "I"] ++ wsX10)
def wsX1_goAlone_r1 : List Cond := [Cond.fieldLink RX1 19 "SignalBox" "routeLengths" "[I", Cond.fieldLink RX1 51 "SignalBox" "passed" "I", Cond.methodLink RX1 121 yX1_sectionOn, Cond.instanceMethod yX1_sectionOn, Cond.selects RX1 yX1_sectionOn yX1_sectionOn, Cond.initialized RX1, Cond.code yX1_sectionOn cX1_sectionOn 3 (some (.object "SignalBox$Section")), Cond.fieldLink RX1 11 "SignalBox" "standing" "[LSignalBox$Section;", Cond.fieldLink RX1 15 "SignalBox" "routePlaces" "[I", Cond.methodLink RX1 75 yX1_claim, Cond.instanceMethod yX1_claim, Cond.selects RX1 yX1_claim yX1_claim, Cond.code yX1_claim cX1_claim 2 none, Cond.fieldLink RX1 54 "SignalBox" "traceLength" "I", Cond.fieldLink RX1 22 "SignalBox" "trace" "[I", Cond.methodLink RX1 125 yX1_pass, Cond.instanceMethod yX1_pass, Cond.selects RX1 yX1_pass yX1_pass, Cond.code yX1_pass cX1_pass 4 (some .int), Cond.methodLink RX1 142 yX1_passBridge, Cond.instanceMethod yX1_passBridge, Cond.selects RX1 yX1_passBridge yX1_passBridge, Cond.code yX1_passBridge cX1_passBridge 4 (some .int), Cond.methodLink RX1 145 yX1_passPoints]
def wsX1_goAlone_r2 : List Cond := [Cond.instanceMethod yX1_passPoints, Cond.selects RX1 yX1_passPoints yX1_passPoints, Cond.code yX1_passPoints cX1_passPoints 4 (some .int), Cond.methodLink RX1 148 yX1_passPlain, Cond.instanceMethod yX1_passPlain, Cond.selects RX1 yX1_passPlain yX1_passPlain, Cond.code yX1_passPlain cX1_passPlain 4 (some .int), Cond.instanceMethod yX0_hasRoomFor, Cond.initialized RX0, Cond.selects RX0 yX0_hasRoomFor yX0_hasRoomFor, Cond.code yX0_hasRoomFor cX0_hasRoomFor 2 (some .boolean), Cond.fieldLink RX0 22 "SignalBox$Section" "axles" "I", Cond.fieldLink RX0 16 "SignalBox$Section" "limit" "I", Cond.methodLink RX1 83 yX1_let, Cond.instanceMethod yX1_let, Cond.selects RX1 yX1_let yX1_let, Cond.code yX1_let cX1_let 2 none, Cond.methodLink RX1 129 yX1_answerTo, Cond.instanceMethod yX1_answerTo, Cond.selects RX1 yX1_answerTo yX1_answerTo, Cond.code yX1_answerTo cX1_answerTo 3 (some .int)]
def wsX1_goAlone : List Cond := .code yX1_goAlone cX1_goAlone 8 (some .int) :: ((wsX1_goAlone_r1 ++ wsX1_goAlone_r2) ++ wsX10 ++ wsX00)
def wsX1_counted : List Cond := .code yX1_counted cX1_counted 2 (some .int) :: ([.fieldLink RX1 114 "SignalBox" "nullFailures" "I", .fieldLink RX1 117 "SignalBox" "fullFailures" "I"] ++ wsX10)
def wsX1_goTwoByTwo_r1 : List Cond := [Cond.fieldLink RX1 19 "SignalBox" "routeLengths" "[I", Cond.fieldLink RX1 51 "SignalBox" "passed" "I", Cond.methodLink RX1 121 yX1_sectionOn, Cond.instanceMethod yX1_sectionOn, Cond.selects RX1 yX1_sectionOn yX1_sectionOn, Cond.initialized RX1, Cond.code yX1_sectionOn cX1_sectionOn 3 (some (.object "SignalBox$Section")), Cond.fieldLink RX1 11 "SignalBox" "standing" "[LSignalBox$Section;", Cond.fieldLink RX1 15 "SignalBox" "routePlaces" "[I", Cond.methodLink RX1 75 yX1_claim, Cond.instanceMethod yX1_claim, Cond.selects RX1 yX1_claim yX1_claim, Cond.code yX1_claim cX1_claim 2 none, Cond.fieldLink RX1 54 "SignalBox" "traceLength" "I", Cond.fieldLink RX1 22 "SignalBox" "trace" "[I", Cond.methodLink RX1 125 yX1_pass, Cond.instanceMethod yX1_pass, Cond.selects RX1 yX1_pass yX1_pass, Cond.code yX1_pass cX1_pass 4 (some .int), Cond.methodLink RX1 142 yX1_passBridge, Cond.instanceMethod yX1_passBridge, Cond.selects RX1 yX1_passBridge yX1_passBridge, Cond.code yX1_passBridge cX1_passBridge 4 (some .int), Cond.methodLink RX1 145 yX1_passPoints]
def wsX1_goTwoByTwo_r2 : List Cond := [Cond.instanceMethod yX1_passPoints, Cond.selects RX1 yX1_passPoints yX1_passPoints, Cond.code yX1_passPoints cX1_passPoints 4 (some .int), Cond.methodLink RX1 148 yX1_passPlain, Cond.instanceMethod yX1_passPlain, Cond.selects RX1 yX1_passPlain yX1_passPlain, Cond.code yX1_passPlain cX1_passPlain 4 (some .int), Cond.instanceMethod yX0_hasRoomFor, Cond.initialized RX0, Cond.selects RX0 yX0_hasRoomFor yX0_hasRoomFor, Cond.code yX0_hasRoomFor cX0_hasRoomFor 2 (some .boolean), Cond.fieldLink RX0 22 "SignalBox$Section" "axles" "I", Cond.fieldLink RX0 16 "SignalBox$Section" "limit" "I", Cond.methodLink RX1 83 yX1_let, Cond.instanceMethod yX1_let, Cond.selects RX1 yX1_let yX1_let, Cond.code yX1_let cX1_let 2 none, Cond.methodLink RX1 129 yX1_answerTo, Cond.instanceMethod yX1_answerTo, Cond.selects RX1 yX1_answerTo yX1_answerTo, Cond.code yX1_answerTo cX1_answerTo 3 (some .int)]
def wsX1_goTwoByTwo : List Cond := .code yX1_goTwoByTwo cX1_goTwoByTwo 8 (some .int) :: ((wsX1_goTwoByTwo_r1 ++ wsX1_goTwoByTwo_r2) ++ wsX10 ++ wsX00)
def wsX1_claimAll : List Cond := .code yX1_claimAll cX1_claimAll 4 (some .int) :: ([.fieldLink RX1 19 "SignalBox" "routeLengths" "[I", .methodLink RX1 121 yX1_sectionOn, .instanceMethod yX1_sectionOn, .selects RX1 yX1_sectionOn yX1_sectionOn, .initialized RX1, .code yX1_sectionOn cX1_sectionOn 3 (some (.object "SignalBox$Section")), .fieldLink RX1 11 "SignalBox" "standing" "[LSignalBox$Section;", .fieldLink RX1 15 "SignalBox" "routePlaces" "[I", .methodLink RX1 75 yX1_claim, .instanceMethod yX1_claim, .selects RX1 yX1_claim yX1_claim, .code yX1_claim cX1_claim 2 none, .fieldLink RX1 54 "SignalBox" "traceLength" "I", .fieldLink RX1 22 "SignalBox" "trace" "[I"] ++ wsX10 ++ wsX00)
def wsX1_letAll : List Cond := .code yX1_letAll cX1_letAll 5 none :: ([.methodLink RX1 121 yX1_sectionOn, .instanceMethod yX1_sectionOn, .selects RX1 yX1_sectionOn yX1_sectionOn, .initialized RX1, .code yX1_sectionOn cX1_sectionOn 3 (some (.object "SignalBox$Section")), .fieldLink RX1 11 "SignalBox" "standing" "[LSignalBox$Section;", .fieldLink RX1 15 "SignalBox" "routePlaces" "[I", .methodLink RX1 83 yX1_let, .instanceMethod yX1_let, .selects RX1 yX1_let yX1_let, .code yX1_let cX1_let 2 none, .fieldLink RX1 54 "SignalBox" "traceLength" "I", .fieldLink RX1 22 "SignalBox" "trace" "[I"] ++ wsX10 ++ wsX00)
def wsX1_goAll_r1 : List Cond := [Cond.fieldLink RX1 19 "SignalBox" "routeLengths" "[I", Cond.methodLink RX1 132 yX1_claimAll, Cond.instanceMethod yX1_claimAll, Cond.selects RX1 yX1_claimAll yX1_claimAll, Cond.initialized RX1, Cond.code yX1_claimAll cX1_claimAll 4 (some .int), Cond.methodLink RX1 121 yX1_sectionOn, Cond.instanceMethod yX1_sectionOn, Cond.selects RX1 yX1_sectionOn yX1_sectionOn, Cond.code yX1_sectionOn cX1_sectionOn 3 (some (.object "SignalBox$Section")), Cond.fieldLink RX1 11 "SignalBox" "standing" "[LSignalBox$Section;", Cond.fieldLink RX1 15 "SignalBox" "routePlaces" "[I", Cond.methodLink RX1 75 yX1_claim, Cond.instanceMethod yX1_claim, Cond.selects RX1 yX1_claim yX1_claim, Cond.code yX1_claim cX1_claim 2 none, Cond.fieldLink RX1 54 "SignalBox" "traceLength" "I", Cond.fieldLink RX1 22 "SignalBox" "trace" "[I", Cond.methodLink RX1 129 yX1_answerTo, Cond.instanceMethod yX1_answerTo, Cond.selects RX1 yX1_answerTo yX1_answerTo, Cond.code yX1_answerTo cX1_answerTo 3 (some .int), Cond.fieldLink RX1 51 "SignalBox" "passed" "I", Cond.methodLink RX1 125 yX1_pass]
def wsX1_goAll_r2 : List Cond := [Cond.instanceMethod yX1_pass, Cond.selects RX1 yX1_pass yX1_pass, Cond.code yX1_pass cX1_pass 4 (some .int), Cond.methodLink RX1 142 yX1_passBridge, Cond.instanceMethod yX1_passBridge, Cond.selects RX1 yX1_passBridge yX1_passBridge, Cond.code yX1_passBridge cX1_passBridge 4 (some .int), Cond.methodLink RX1 145 yX1_passPoints, Cond.instanceMethod yX1_passPoints, Cond.selects RX1 yX1_passPoints yX1_passPoints, Cond.code yX1_passPoints cX1_passPoints 4 (some .int), Cond.methodLink RX1 148 yX1_passPlain, Cond.instanceMethod yX1_passPlain, Cond.selects RX1 yX1_passPlain yX1_passPlain, Cond.code yX1_passPlain cX1_passPlain 4 (some .int), Cond.instanceMethod yX0_hasRoomFor, Cond.initialized RX0, Cond.selects RX0 yX0_hasRoomFor yX0_hasRoomFor, Cond.code yX0_hasRoomFor cX0_hasRoomFor 2 (some .boolean), Cond.fieldLink RX0 22 "SignalBox$Section" "axles" "I", Cond.fieldLink RX0 16 "SignalBox$Section" "limit" "I", Cond.methodLink RX1 83 yX1_let, Cond.instanceMethod yX1_let, Cond.selects RX1 yX1_let yX1_let]
def wsX1_goAll_r3 : List Cond := [Cond.code yX1_let cX1_let 2 none, Cond.methodLink RX1 135 yX1_letAll, Cond.instanceMethod yX1_letAll, Cond.selects RX1 yX1_letAll yX1_letAll, Cond.code yX1_letAll cX1_letAll 5 none]
def wsX1_goAll : List Cond := .code yX1_goAll cX1_goAll 8 (some .int) :: ((wsX1_goAll_r1 ++ (wsX1_goAll_r2 ++ wsX1_goAll_r3)) ++ wsX10 ++ wsX00)
def wsX1_goFirst_r1 : List Cond := [Cond.fieldLink RX1 19 "SignalBox" "routeLengths" "[I", Cond.fieldLink RX1 51 "SignalBox" "passed" "I", Cond.methodLink RX1 121 yX1_sectionOn, Cond.instanceMethod yX1_sectionOn, Cond.selects RX1 yX1_sectionOn yX1_sectionOn, Cond.initialized RX1, Cond.code yX1_sectionOn cX1_sectionOn 3 (some (.object "SignalBox$Section")), Cond.fieldLink RX1 11 "SignalBox" "standing" "[LSignalBox$Section;", Cond.fieldLink RX1 15 "SignalBox" "routePlaces" "[I", Cond.methodLink RX1 75 yX1_claim, Cond.instanceMethod yX1_claim, Cond.selects RX1 yX1_claim yX1_claim, Cond.code yX1_claim cX1_claim 2 none, Cond.fieldLink RX1 54 "SignalBox" "traceLength" "I", Cond.fieldLink RX1 22 "SignalBox" "trace" "[I", Cond.instanceMethod yX0_hasRoomFor, Cond.initialized RX0, Cond.selects RX0 yX0_hasRoomFor yX0_hasRoomFor, Cond.code yX0_hasRoomFor cX0_hasRoomFor 2 (some .boolean), Cond.fieldLink RX0 22 "SignalBox$Section" "axles" "I", Cond.fieldLink RX0 16 "SignalBox$Section" "limit" "I", Cond.methodLink RX1 125 yX1_pass, Cond.instanceMethod yX1_pass, Cond.selects RX1 yX1_pass yX1_pass]
def wsX1_goFirst_r2 : List Cond := [Cond.code yX1_pass cX1_pass 4 (some .int), Cond.methodLink RX1 142 yX1_passBridge, Cond.instanceMethod yX1_passBridge, Cond.selects RX1 yX1_passBridge yX1_passBridge, Cond.code yX1_passBridge cX1_passBridge 4 (some .int), Cond.methodLink RX1 145 yX1_passPoints, Cond.instanceMethod yX1_passPoints, Cond.selects RX1 yX1_passPoints yX1_passPoints, Cond.code yX1_passPoints cX1_passPoints 4 (some .int), Cond.methodLink RX1 148 yX1_passPlain, Cond.instanceMethod yX1_passPlain, Cond.selects RX1 yX1_passPlain yX1_passPlain, Cond.code yX1_passPlain cX1_passPlain 4 (some .int), Cond.methodLink RX1 83 yX1_let, Cond.instanceMethod yX1_let, Cond.selects RX1 yX1_let yX1_let, Cond.code yX1_let cX1_let 2 none, Cond.methodLink RX1 129 yX1_answerTo, Cond.instanceMethod yX1_answerTo, Cond.selects RX1 yX1_answerTo yX1_answerTo, Cond.code yX1_answerTo cX1_answerTo 3 (some .int)]
def wsX1_goFirst : List Cond := .code yX1_goFirst cX1_goFirst 7 (some .int) :: ((wsX1_goFirst_r1 ++ wsX1_goFirst_r2) ++ wsX10 ++ wsX00)
def wsX1_run_r1 : List Cond := [Cond.fieldLink RX1 48 "SignalBox" "runs" "I", Cond.fieldLink RX1 51 "SignalBox" "passed" "I", Cond.fieldLink RX1 54 "SignalBox" "traceLength" "I", Cond.methodLink RX1 42 yX1_isRoute, Cond.static yX1_isRoute, Cond.initialized RX1, Cond.code yX1_isRoute cX1_isRoute 1 (some .boolean), Cond.methodLink RX1 45 yX1_isAxles, Cond.static yX1_isAxles, Cond.code yX1_isAxles cX1_isAxles 1 (some .boolean), Cond.methodLink RX1 57 yX1_goAlone, Cond.instanceMethod yX1_goAlone, Cond.selects RX1 yX1_goAlone yX1_goAlone, Cond.code yX1_goAlone cX1_goAlone 8 (some .int), Cond.fieldLink RX1 19 "SignalBox" "routeLengths" "[I", Cond.methodLink RX1 121 yX1_sectionOn, Cond.instanceMethod yX1_sectionOn, Cond.selects RX1 yX1_sectionOn yX1_sectionOn, Cond.code yX1_sectionOn cX1_sectionOn 3 (some (.object "SignalBox$Section")), Cond.fieldLink RX1 11 "SignalBox" "standing" "[LSignalBox$Section;", Cond.fieldLink RX1 15 "SignalBox" "routePlaces" "[I", Cond.methodLink RX1 75 yX1_claim, Cond.instanceMethod yX1_claim, Cond.selects RX1 yX1_claim yX1_claim]
def wsX1_run_r2 : List Cond := [Cond.code yX1_claim cX1_claim 2 none, Cond.fieldLink RX1 22 "SignalBox" "trace" "[I", Cond.methodLink RX1 125 yX1_pass, Cond.instanceMethod yX1_pass, Cond.selects RX1 yX1_pass yX1_pass, Cond.code yX1_pass cX1_pass 4 (some .int), Cond.methodLink RX1 142 yX1_passBridge, Cond.instanceMethod yX1_passBridge, Cond.selects RX1 yX1_passBridge yX1_passBridge, Cond.code yX1_passBridge cX1_passBridge 4 (some .int), Cond.methodLink RX1 145 yX1_passPoints, Cond.instanceMethod yX1_passPoints, Cond.selects RX1 yX1_passPoints yX1_passPoints, Cond.code yX1_passPoints cX1_passPoints 4 (some .int), Cond.methodLink RX1 148 yX1_passPlain, Cond.instanceMethod yX1_passPlain, Cond.selects RX1 yX1_passPlain yX1_passPlain, Cond.code yX1_passPlain cX1_passPlain 4 (some .int), Cond.instanceMethod yX0_hasRoomFor, Cond.initialized RX0, Cond.selects RX0 yX0_hasRoomFor yX0_hasRoomFor, Cond.code yX0_hasRoomFor cX0_hasRoomFor 2 (some .boolean), Cond.fieldLink RX0 22 "SignalBox$Section" "axles" "I", Cond.fieldLink RX0 16 "SignalBox$Section" "limit" "I"]
def wsX1_run_r3 : List Cond := [Cond.methodLink RX1 83 yX1_let, Cond.instanceMethod yX1_let, Cond.selects RX1 yX1_let yX1_let, Cond.code yX1_let cX1_let 2 none, Cond.methodLink RX1 129 yX1_answerTo, Cond.instanceMethod yX1_answerTo, Cond.selects RX1 yX1_answerTo yX1_answerTo, Cond.code yX1_answerTo cX1_answerTo 3 (some .int), Cond.methodLink RX1 61 yX1_counted, Cond.instanceMethod yX1_counted, Cond.selects RX1 yX1_counted yX1_counted, Cond.code yX1_counted cX1_counted 2 (some .int), Cond.fieldLink RX1 114 "SignalBox" "nullFailures" "I", Cond.fieldLink RX1 117 "SignalBox" "fullFailures" "I", Cond.methodLink RX1 65 yX1_goTwoByTwo, Cond.instanceMethod yX1_goTwoByTwo, Cond.selects RX1 yX1_goTwoByTwo yX1_goTwoByTwo, Cond.code yX1_goTwoByTwo cX1_goTwoByTwo 8 (some .int), Cond.methodLink RX1 69 yX1_goAll, Cond.instanceMethod yX1_goAll, Cond.selects RX1 yX1_goAll yX1_goAll, Cond.code yX1_goAll cX1_goAll 8 (some .int), Cond.methodLink RX1 132 yX1_claimAll, Cond.instanceMethod yX1_claimAll]
def wsX1_run_r4 : List Cond := [Cond.selects RX1 yX1_claimAll yX1_claimAll, Cond.code yX1_claimAll cX1_claimAll 4 (some .int), Cond.methodLink RX1 135 yX1_letAll, Cond.instanceMethod yX1_letAll, Cond.selects RX1 yX1_letAll yX1_letAll, Cond.code yX1_letAll cX1_letAll 5 none, Cond.methodLink RX1 72 yX1_goFirst, Cond.instanceMethod yX1_goFirst, Cond.selects RX1 yX1_goFirst yX1_goFirst, Cond.code yX1_goFirst cX1_goFirst 7 (some .int)]
def wsX1_run : List Cond := .code yX1_run cX1_run 4 (some .int) :: ((wsX1_run_r1 ++ (wsX1_run_r2 ++ (wsX1_run_r3 ++ wsX1_run_r4))) ++ wsX10 ++ wsX00)
def wsX1_shuntOnto : List Cond := .code yX1_shuntOnto cX1_shuntOnto 5 (some .int) :: ([.methodLink RX1 75 yX1_claim, .instanceMethod yX1_claim, .selects RX1 yX1_claim yX1_claim, .initialized RX1, .code yX1_claim cX1_claim 2 none, .fieldLink RX1 54 "SignalBox" "traceLength" "I", .fieldLink RX1 22 "SignalBox" "trace" "[I", .instanceMethod yX0_hasRoomFor, .initialized RX0, .selects RX0 yX0_hasRoomFor yX0_hasRoomFor, .code yX0_hasRoomFor cX0_hasRoomFor 2 (some .boolean), .fieldLink RX0 22 "SignalBox$Section" "axles" "I", .fieldLink RX0 16 "SignalBox$Section" "limit" "I", .methodLink RX1 83 yX1_let, .instanceMethod yX1_let, .selects RX1 yX1_let yX1_let, .code yX1_let cX1_let 2 none] ++ wsX00 ++ wsX10)
def wsX1_shunt_r1 : List Cond := [Cond.fieldLink RX1 54 "SignalBox" "traceLength" "I", Cond.fieldLink RX1 11 "SignalBox" "standing" "[LSignalBox$Section;", Cond.methodLink RX1 25 yX1_isPlace, Cond.static yX1_isPlace, Cond.initialized RX1, Cond.code yX1_isPlace cX1_isPlace 1 (some .boolean), Cond.methodLink RX1 45 yX1_isAxles, Cond.static yX1_isAxles, Cond.code yX1_isAxles cX1_isAxles 1 (some .boolean), Cond.methodLink RX1 75 yX1_claim, Cond.instanceMethod yX1_claim, Cond.selects RX1 yX1_claim yX1_claim, Cond.code yX1_claim cX1_claim 2 none, Cond.fieldLink RX1 22 "SignalBox" "trace" "[I", Cond.methodLink RX1 79 yX1_shuntOnto, Cond.instanceMethod yX1_shuntOnto, Cond.selects RX1 yX1_shuntOnto yX1_shuntOnto, Cond.code yX1_shuntOnto cX1_shuntOnto 5 (some .int), Cond.instanceMethod yX0_hasRoomFor, Cond.initialized RX0, Cond.selects RX0 yX0_hasRoomFor yX0_hasRoomFor, Cond.code yX0_hasRoomFor cX0_hasRoomFor 2 (some .boolean), Cond.fieldLink RX0 22 "SignalBox$Section" "axles" "I", Cond.fieldLink RX0 16 "SignalBox$Section" "limit" "I"]
def wsX1_shunt_r2 : List Cond := [Cond.methodLink RX1 83 yX1_let, Cond.instanceMethod yX1_let, Cond.selects RX1 yX1_let yX1_let, Cond.code yX1_let cX1_let 2 none]
def wsX1_shunt : List Cond := .code yX1_shunt cX1_shunt 6 (some .int) :: ((wsX1_shunt_r1 ++ wsX1_shunt_r2) ++ wsX10 ++ wsX00)
def wsX1_passed : List Cond := .code yX1_passed cX1_passed 1 (some .int) :: ([.fieldLink RX1 51 "SignalBox" "passed" "I"] ++ wsX10)
def wsX1_trace : List Cond := .code yX1_trace cX1_trace 2 (some .int) :: ([.fieldLink RX1 54 "SignalBox" "traceLength" "I", .fieldLink RX1 22 "SignalBox" "trace" "[I"] ++ wsX10)
def wsX1_told : List Cond := .code yX1_told cX1_told 4 (some .int) :: ([.fieldLink RX1 11 "SignalBox" "standing" "[LSignalBox$Section;", .methodLink RX1 25 yX1_isPlace, .static yX1_isPlace, .initialized RX1, .code yX1_isPlace cX1_isPlace 1 (some .boolean)] ++ wsX10 ++ wsX00)
def wsX1_countStanding : List Cond := .code yX1_countStanding cX1_countStanding 3 (some .int) :: ([.fieldLink RX1 11 "SignalBox" "standing" "[LSignalBox$Section;"] ++ wsX10)
def wsX1_count : List Cond := .code yX1_count cX1_count 2 (some .int) :: ([.fieldLink RX1 32 "SignalBox" "made" "I", .fieldLink RX1 48 "SignalBox" "runs" "I", .fieldLink RX1 114 "SignalBox" "nullFailures" "I", .fieldLink RX1 117 "SignalBox" "fullFailures" "I", .fieldLink RX1 19 "SignalBox" "routeLengths" "[I", .methodLink RX1 110 yX1_countStanding, .instanceMethod yX1_countStanding, .selects RX1 yX1_countStanding yX1_countStanding, .initialized RX1, .code yX1_countStanding cX1_countStanding 3 (some .int), .fieldLink RX1 11 "SignalBox" "standing" "[LSignalBox$Section;", .methodLink RX1 42 yX1_isRoute, .static yX1_isRoute, .code yX1_isRoute cX1_isRoute 1 (some .boolean)] ++ wsX10)
def wsX2_init : List Cond := .code yX2_init cX2_init 2 none :: ([.methodLink RX2 1 objectInit, .instanceMethod objectInit, .code objectInit ⟨#[0xb1]⟩ 1 none, .arrayClass .int, .fieldLink RX2 7 "SignalBoxModel" "kinds" "[I", .fieldLink RX2 13 "SignalBoxModel" "limits" "[I", .fieldLink RX2 16 "SignalBoxModel" "marks" "[I", .fieldLink RX2 19 "SignalBoxModel" "axles" "[I", .fieldLink RX2 22 "SignalBoxModel" "legs" "[I", .fieldLink RX2 25 "SignalBoxModel" "claims" "[I", .fieldLink RX2 28 "SignalBoxModel" "held" "[I", .fieldLink RX2 31 "SignalBoxModel" "most" "[I", .fieldLink RX2 34 "SignalBoxModel" "at" "[I", .fieldLink RX2 37 "SignalBoxModel" "routes" "[I", .fieldLink RX2 40 "SignalBoxModel" "lengths" "[I", .fieldLink RX2 43 "SignalBoxModel" "trace" "[I"] ++ wsX20)
def wsX2_in : List Cond := .code yX2_in cX2_in 3 (some .boolean) :: ([])
def wsX2_isPlace : List Cond := .code yX2_isPlace cX2_isPlace 1 (some .boolean) :: ([.methodLink RX2 46 yX2_in, .static yX2_in, .initialized RX2, .code yX2_in cX2_in 3 (some .boolean)])
def wsX2_isRoute : List Cond := .code yX2_isRoute cX2_isRoute 1 (some .boolean) :: ([.methodLink RX2 46 yX2_in, .static yX2_in, .initialized RX2, .code yX2_in cX2_in 3 (some .boolean)])
def wsX2_section : List Cond := .code yX2_section cX2_section 5 (some .int) :: ([.constant RX2 54 (100000), .fieldLink RX2 7 "SignalBoxModel" "kinds" "[I", .fieldLink RX2 55 "SignalBoxModel" "made" "I", .fieldLink RX2 13 "SignalBoxModel" "limits" "[I", .fieldLink RX2 16 "SignalBoxModel" "marks" "[I", .fieldLink RX2 34 "SignalBoxModel" "at" "[I", .methodLink RX2 50 yX2_isPlace, .static yX2_isPlace, .initialized RX2, .code yX2_isPlace cX2_isPlace 1 (some .boolean), .methodLink RX2 46 yX2_in, .static yX2_in, .code yX2_in cX2_in 3 (some .boolean)] ++ wsX20)
def wsX2_share : List Cond := .code yX2_share cX2_share 3 (some .int) :: ([.fieldLink RX2 34 "SignalBoxModel" "at" "[I", .methodLink RX2 50 yX2_isPlace, .static yX2_isPlace, .initialized RX2, .code yX2_isPlace cX2_isPlace 1 (some .boolean), .methodLink RX2 46 yX2_in, .static yX2_in, .code yX2_in cX2_in 3 (some .boolean)] ++ wsX20)
def wsX2_remove : List Cond := .code yX2_remove cX2_remove 3 (some .int) :: ([.fieldLink RX2 34 "SignalBoxModel" "at" "[I", .methodLink RX2 50 yX2_isPlace, .static yX2_isPlace, .initialized RX2, .code yX2_isPlace cX2_isPlace 1 (some .boolean), .methodLink RX2 46 yX2_in, .static yX2_in, .code yX2_in cX2_in 3 (some .boolean)] ++ wsX20)
def wsX2_same : List Cond := .code yX2_same cX2_same 3 (some .int) :: ([.fieldLink RX2 34 "SignalBoxModel" "at" "[I", .methodLink RX2 50 yX2_isPlace, .static yX2_isPlace, .initialized RX2, .code yX2_isPlace cX2_isPlace 1 (some .boolean), .methodLink RX2 46 yX2_in, .static yX2_in, .code yX2_in cX2_in 3 (some .boolean)] ++ wsX20)
def wsX2_lead : List Cond := .code yX2_lead cX2_lead 3 (some .int) :: ([.fieldLink RX2 40 "SignalBoxModel" "lengths" "[I", .fieldLink RX2 37 "SignalBoxModel" "routes" "[I", .methodLink RX2 59 yX2_isRoute, .static yX2_isRoute, .initialized RX2, .code yX2_isRoute cX2_isRoute 1 (some .boolean), .methodLink RX2 46 yX2_in, .static yX2_in, .code yX2_in cX2_in 3 (some .boolean), .methodLink RX2 50 yX2_isPlace, .static yX2_isPlace, .code yX2_isPlace cX2_isPlace 1 (some .boolean)] ++ wsX20)
def wsX2_unlead : List Cond := .code yX2_unlead cX2_unlead 3 (some .int) :: ([.fieldLink RX2 40 "SignalBoxModel" "lengths" "[I", .methodLink RX2 59 yX2_isRoute, .static yX2_isRoute, .initialized RX2, .code yX2_isRoute cX2_isRoute 1 (some .boolean), .methodLink RX2 46 yX2_in, .static yX2_in, .code yX2_in cX2_in 3 (some .boolean)] ++ wsX20)
def wsX2_leave : List Cond := .code yX2_leave cX2_leave 2 none :: ([.fieldLink RX2 62 "SignalBoxModel" "traced" "I", .fieldLink RX2 43 "SignalBoxModel" "trace" "[I"] ++ wsX20)
def wsX2_claim : List Cond := .code yX2_claim cX2_claim 2 none :: ([.fieldLink RX2 28 "SignalBoxModel" "held" "[I", .fieldLink RX2 25 "SignalBoxModel" "claims" "[I", .fieldLink RX2 31 "SignalBoxModel" "most" "[I", .methodLink RX2 65 yX2_leave, .instanceMethod yX2_leave, .selects RX2 yX2_leave yX2_leave, .initialized RX2, .code yX2_leave cX2_leave 2 none, .fieldLink RX2 62 "SignalBoxModel" "traced" "I", .fieldLink RX2 43 "SignalBoxModel" "trace" "[I"] ++ wsX20)
def wsX2_let : List Cond := .code yX2_let cX2_let 2 none :: ([.fieldLink RX2 28 "SignalBoxModel" "held" "[I", .methodLink RX2 65 yX2_leave, .instanceMethod yX2_leave, .selects RX2 yX2_leave yX2_leave, .initialized RX2, .code yX2_leave cX2_leave 2 none, .fieldLink RX2 62 "SignalBoxModel" "traced" "I", .fieldLink RX2 43 "SignalBoxModel" "trace" "[I"] ++ wsX20)
def wsX2_passPlain : List Cond := .code yX2_passPlain cX2_passPlain 4 (some .int) :: ([.fieldLink RX2 19 "SignalBoxModel" "axles" "[I", .fieldLink RX2 13 "SignalBoxModel" "limits" "[I", .methodLink RX2 69 yX2_claim, .instanceMethod yX2_claim, .selects RX2 yX2_claim yX2_claim, .initialized RX2, .code yX2_claim cX2_claim 2 none, .fieldLink RX2 28 "SignalBoxModel" "held" "[I", .fieldLink RX2 25 "SignalBoxModel" "claims" "[I", .fieldLink RX2 31 "SignalBoxModel" "most" "[I", .methodLink RX2 65 yX2_leave, .instanceMethod yX2_leave, .selects RX2 yX2_leave yX2_leave, .code yX2_leave cX2_leave 2 none, .fieldLink RX2 62 "SignalBoxModel" "traced" "I", .fieldLink RX2 43 "SignalBoxModel" "trace" "[I", .methodLink RX2 72 yX2_let, .instanceMethod yX2_let, .selects RX2 yX2_let yX2_let, .code yX2_let cX2_let 2 none] ++ wsX20)
def wsX2_passPoints_r1 : List Cond := [Cond.fieldLink RX2 22 "SignalBoxModel" "legs" "[I", Cond.methodLink RX2 69 yX2_claim, Cond.instanceMethod yX2_claim, Cond.selects RX2 yX2_claim yX2_claim, Cond.initialized RX2, Cond.code yX2_claim cX2_claim 2 none, Cond.fieldLink RX2 28 "SignalBoxModel" "held" "[I", Cond.fieldLink RX2 25 "SignalBoxModel" "claims" "[I", Cond.fieldLink RX2 31 "SignalBoxModel" "most" "[I", Cond.methodLink RX2 65 yX2_leave, Cond.instanceMethod yX2_leave, Cond.selects RX2 yX2_leave yX2_leave, Cond.code yX2_leave cX2_leave 2 none, Cond.fieldLink RX2 62 "SignalBoxModel" "traced" "I", Cond.fieldLink RX2 43 "SignalBoxModel" "trace" "[I", Cond.methodLink RX2 75 yX2_passPlain, Cond.instanceMethod yX2_passPlain, Cond.selects RX2 yX2_passPlain yX2_passPlain, Cond.code yX2_passPlain cX2_passPlain 4 (some .int), Cond.fieldLink RX2 19 "SignalBoxModel" "axles" "[I", Cond.fieldLink RX2 13 "SignalBoxModel" "limits" "[I", Cond.methodLink RX2 72 yX2_let, Cond.instanceMethod yX2_let, Cond.selects RX2 yX2_let yX2_let]
def wsX2_passPoints_r2 : List Cond := [Cond.code yX2_let cX2_let 2 none]
def wsX2_passPoints : List Cond := .code yX2_passPoints cX2_passPoints 4 (some .int) :: ((wsX2_passPoints_r1 ++ wsX2_passPoints_r2) ++ wsX20)
def wsX2_passBridge_r1 : List Cond := [Cond.fieldLink RX2 16 "SignalBoxModel" "marks" "[I", Cond.methodLink RX2 69 yX2_claim, Cond.instanceMethod yX2_claim, Cond.selects RX2 yX2_claim yX2_claim, Cond.initialized RX2, Cond.code yX2_claim cX2_claim 2 none, Cond.fieldLink RX2 28 "SignalBoxModel" "held" "[I", Cond.fieldLink RX2 25 "SignalBoxModel" "claims" "[I", Cond.fieldLink RX2 31 "SignalBoxModel" "most" "[I", Cond.methodLink RX2 65 yX2_leave, Cond.instanceMethod yX2_leave, Cond.selects RX2 yX2_leave yX2_leave, Cond.code yX2_leave cX2_leave 2 none, Cond.fieldLink RX2 62 "SignalBoxModel" "traced" "I", Cond.fieldLink RX2 43 "SignalBoxModel" "trace" "[I", Cond.methodLink RX2 79 yX2_passPoints, Cond.instanceMethod yX2_passPoints, Cond.selects RX2 yX2_passPoints yX2_passPoints, Cond.code yX2_passPoints cX2_passPoints 4 (some .int), Cond.fieldLink RX2 22 "SignalBoxModel" "legs" "[I", Cond.methodLink RX2 75 yX2_passPlain, Cond.instanceMethod yX2_passPlain, Cond.selects RX2 yX2_passPlain yX2_passPlain, Cond.code yX2_passPlain cX2_passPlain 4 (some .int)]
def wsX2_passBridge_r2 : List Cond := [Cond.fieldLink RX2 19 "SignalBoxModel" "axles" "[I", Cond.fieldLink RX2 13 "SignalBoxModel" "limits" "[I", Cond.methodLink RX2 72 yX2_let, Cond.instanceMethod yX2_let, Cond.selects RX2 yX2_let yX2_let, Cond.code yX2_let cX2_let 2 none]
def wsX2_passBridge : List Cond := .code yX2_passBridge cX2_passBridge 4 (some .int) :: ((wsX2_passBridge_r1 ++ wsX2_passBridge_r2) ++ wsX20)
def wsX2_pass_r1 : List Cond := [Cond.fieldLink RX2 7 "SignalBoxModel" "kinds" "[I", Cond.fieldLink RX2 85 "SignalBoxModel" "passed" "I", Cond.methodLink RX2 75 yX2_passPlain, Cond.instanceMethod yX2_passPlain, Cond.selects RX2 yX2_passPlain yX2_passPlain, Cond.initialized RX2, Cond.code yX2_passPlain cX2_passPlain 4 (some .int), Cond.fieldLink RX2 19 "SignalBoxModel" "axles" "[I", Cond.fieldLink RX2 13 "SignalBoxModel" "limits" "[I", Cond.methodLink RX2 69 yX2_claim, Cond.instanceMethod yX2_claim, Cond.selects RX2 yX2_claim yX2_claim, Cond.code yX2_claim cX2_claim 2 none, Cond.fieldLink RX2 28 "SignalBoxModel" "held" "[I", Cond.fieldLink RX2 25 "SignalBoxModel" "claims" "[I", Cond.fieldLink RX2 31 "SignalBoxModel" "most" "[I", Cond.methodLink RX2 65 yX2_leave, Cond.instanceMethod yX2_leave, Cond.selects RX2 yX2_leave yX2_leave, Cond.code yX2_leave cX2_leave 2 none, Cond.fieldLink RX2 62 "SignalBoxModel" "traced" "I", Cond.fieldLink RX2 43 "SignalBoxModel" "trace" "[I", Cond.methodLink RX2 72 yX2_let, Cond.instanceMethod yX2_let]
def wsX2_pass_r2 : List Cond := [Cond.selects RX2 yX2_let yX2_let, Cond.code yX2_let cX2_let 2 none, Cond.methodLink RX2 79 yX2_passPoints, Cond.instanceMethod yX2_passPoints, Cond.selects RX2 yX2_passPoints yX2_passPoints, Cond.code yX2_passPoints cX2_passPoints 4 (some .int), Cond.fieldLink RX2 22 "SignalBoxModel" "legs" "[I", Cond.methodLink RX2 82 yX2_passBridge, Cond.instanceMethod yX2_passBridge, Cond.selects RX2 yX2_passBridge yX2_passBridge, Cond.code yX2_passBridge cX2_passBridge 4 (some .int), Cond.fieldLink RX2 16 "SignalBoxModel" "marks" "[I"]
def wsX2_pass : List Cond := .code yX2_pass cX2_pass 4 (some .int) :: ((wsX2_pass_r1 ++ wsX2_pass_r2) ++ wsX20)
def wsX2_sectionOf : List Cond := .code yX2_sectionOf cX2_sectionOf 3 (some .int) :: ([.fieldLink RX2 34 "SignalBoxModel" "at" "[I", .fieldLink RX2 37 "SignalBoxModel" "routes" "[I"] ++ wsX20)
def wsX2_ended : List Cond := .code yX2_ended cX2_ended 2 (some .int) :: ([])
def wsX2_alone_r1 : List Cond := [Cond.fieldLink RX2 40 "SignalBoxModel" "lengths" "[I", Cond.methodLink RX2 88 yX2_sectionOf, Cond.instanceMethod yX2_sectionOf, Cond.selects RX2 yX2_sectionOf yX2_sectionOf, Cond.initialized RX2, Cond.code yX2_sectionOf cX2_sectionOf 3 (some .int), Cond.fieldLink RX2 34 "SignalBoxModel" "at" "[I", Cond.fieldLink RX2 37 "SignalBoxModel" "routes" "[I", Cond.methodLink RX2 69 yX2_claim, Cond.instanceMethod yX2_claim, Cond.selects RX2 yX2_claim yX2_claim, Cond.code yX2_claim cX2_claim 2 none, Cond.fieldLink RX2 28 "SignalBoxModel" "held" "[I", Cond.fieldLink RX2 25 "SignalBoxModel" "claims" "[I", Cond.fieldLink RX2 31 "SignalBoxModel" "most" "[I", Cond.methodLink RX2 65 yX2_leave, Cond.instanceMethod yX2_leave, Cond.selects RX2 yX2_leave yX2_leave, Cond.code yX2_leave cX2_leave 2 none, Cond.fieldLink RX2 62 "SignalBoxModel" "traced" "I", Cond.fieldLink RX2 43 "SignalBoxModel" "trace" "[I", Cond.methodLink RX2 91 yX2_pass, Cond.instanceMethod yX2_pass, Cond.selects RX2 yX2_pass yX2_pass]
def wsX2_alone_r2 : List Cond := [Cond.code yX2_pass cX2_pass 4 (some .int), Cond.fieldLink RX2 7 "SignalBoxModel" "kinds" "[I", Cond.fieldLink RX2 85 "SignalBoxModel" "passed" "I", Cond.methodLink RX2 75 yX2_passPlain, Cond.instanceMethod yX2_passPlain, Cond.selects RX2 yX2_passPlain yX2_passPlain, Cond.code yX2_passPlain cX2_passPlain 4 (some .int), Cond.fieldLink RX2 19 "SignalBoxModel" "axles" "[I", Cond.fieldLink RX2 13 "SignalBoxModel" "limits" "[I", Cond.methodLink RX2 72 yX2_let, Cond.instanceMethod yX2_let, Cond.selects RX2 yX2_let yX2_let, Cond.code yX2_let cX2_let 2 none, Cond.methodLink RX2 79 yX2_passPoints, Cond.instanceMethod yX2_passPoints, Cond.selects RX2 yX2_passPoints yX2_passPoints, Cond.code yX2_passPoints cX2_passPoints 4 (some .int), Cond.fieldLink RX2 22 "SignalBoxModel" "legs" "[I", Cond.methodLink RX2 82 yX2_passBridge, Cond.instanceMethod yX2_passBridge, Cond.selects RX2 yX2_passBridge yX2_passBridge, Cond.code yX2_passBridge cX2_passBridge 4 (some .int), Cond.fieldLink RX2 16 "SignalBoxModel" "marks" "[I", Cond.methodLink RX2 94 yX2_ended]
def wsX2_alone_r3 : List Cond := [Cond.static yX2_ended, Cond.code yX2_ended cX2_ended 2 (some .int)]
def wsX2_alone : List Cond := .code yX2_alone cX2_alone 6 (some .int) :: ((wsX2_alone_r1 ++ (wsX2_alone_r2 ++ wsX2_alone_r3)) ++ wsX20)
def wsX2_twoByTwo_r1 : List Cond := [Cond.fieldLink RX2 40 "SignalBoxModel" "lengths" "[I", Cond.methodLink RX2 88 yX2_sectionOf, Cond.instanceMethod yX2_sectionOf, Cond.selects RX2 yX2_sectionOf yX2_sectionOf, Cond.initialized RX2, Cond.code yX2_sectionOf cX2_sectionOf 3 (some .int), Cond.fieldLink RX2 34 "SignalBoxModel" "at" "[I", Cond.fieldLink RX2 37 "SignalBoxModel" "routes" "[I", Cond.methodLink RX2 69 yX2_claim, Cond.instanceMethod yX2_claim, Cond.selects RX2 yX2_claim yX2_claim, Cond.code yX2_claim cX2_claim 2 none, Cond.fieldLink RX2 28 "SignalBoxModel" "held" "[I", Cond.fieldLink RX2 25 "SignalBoxModel" "claims" "[I", Cond.fieldLink RX2 31 "SignalBoxModel" "most" "[I", Cond.methodLink RX2 65 yX2_leave, Cond.instanceMethod yX2_leave, Cond.selects RX2 yX2_leave yX2_leave, Cond.code yX2_leave cX2_leave 2 none, Cond.fieldLink RX2 62 "SignalBoxModel" "traced" "I", Cond.fieldLink RX2 43 "SignalBoxModel" "trace" "[I", Cond.methodLink RX2 91 yX2_pass, Cond.instanceMethod yX2_pass, Cond.selects RX2 yX2_pass yX2_pass]
def wsX2_twoByTwo_r2 : List Cond := [Cond.code yX2_pass cX2_pass 4 (some .int), Cond.fieldLink RX2 7 "SignalBoxModel" "kinds" "[I", Cond.fieldLink RX2 85 "SignalBoxModel" "passed" "I", Cond.methodLink RX2 75 yX2_passPlain, Cond.instanceMethod yX2_passPlain, Cond.selects RX2 yX2_passPlain yX2_passPlain, Cond.code yX2_passPlain cX2_passPlain 4 (some .int), Cond.fieldLink RX2 19 "SignalBoxModel" "axles" "[I", Cond.fieldLink RX2 13 "SignalBoxModel" "limits" "[I", Cond.methodLink RX2 72 yX2_let, Cond.instanceMethod yX2_let, Cond.selects RX2 yX2_let yX2_let, Cond.code yX2_let cX2_let 2 none, Cond.methodLink RX2 79 yX2_passPoints, Cond.instanceMethod yX2_passPoints, Cond.selects RX2 yX2_passPoints yX2_passPoints, Cond.code yX2_passPoints cX2_passPoints 4 (some .int), Cond.fieldLink RX2 22 "SignalBoxModel" "legs" "[I", Cond.methodLink RX2 82 yX2_passBridge, Cond.instanceMethod yX2_passBridge, Cond.selects RX2 yX2_passBridge yX2_passBridge, Cond.code yX2_passBridge cX2_passBridge 4 (some .int), Cond.fieldLink RX2 16 "SignalBoxModel" "marks" "[I", Cond.methodLink RX2 94 yX2_ended]
def wsX2_twoByTwo_r3 : List Cond := [Cond.static yX2_ended, Cond.code yX2_ended cX2_ended 2 (some .int)]
def wsX2_twoByTwo : List Cond := .code yX2_twoByTwo cX2_twoByTwo 8 (some .int) :: ((wsX2_twoByTwo_r1 ++ (wsX2_twoByTwo_r2 ++ wsX2_twoByTwo_r3)) ++ wsX20)
def wsX2_all_r1 : List Cond := [Cond.fieldLink RX2 40 "SignalBoxModel" "lengths" "[I", Cond.methodLink RX2 88 yX2_sectionOf, Cond.instanceMethod yX2_sectionOf, Cond.selects RX2 yX2_sectionOf yX2_sectionOf, Cond.initialized RX2, Cond.code yX2_sectionOf cX2_sectionOf 3 (some .int), Cond.fieldLink RX2 34 "SignalBoxModel" "at" "[I", Cond.fieldLink RX2 37 "SignalBoxModel" "routes" "[I", Cond.methodLink RX2 69 yX2_claim, Cond.instanceMethod yX2_claim, Cond.selects RX2 yX2_claim yX2_claim, Cond.code yX2_claim cX2_claim 2 none, Cond.fieldLink RX2 28 "SignalBoxModel" "held" "[I", Cond.fieldLink RX2 25 "SignalBoxModel" "claims" "[I", Cond.fieldLink RX2 31 "SignalBoxModel" "most" "[I", Cond.methodLink RX2 65 yX2_leave, Cond.instanceMethod yX2_leave, Cond.selects RX2 yX2_leave yX2_leave, Cond.code yX2_leave cX2_leave 2 none, Cond.fieldLink RX2 62 "SignalBoxModel" "traced" "I", Cond.fieldLink RX2 43 "SignalBoxModel" "trace" "[I", Cond.methodLink RX2 91 yX2_pass, Cond.instanceMethod yX2_pass, Cond.selects RX2 yX2_pass yX2_pass]
def wsX2_all_r2 : List Cond := [Cond.code yX2_pass cX2_pass 4 (some .int), Cond.fieldLink RX2 7 "SignalBoxModel" "kinds" "[I", Cond.fieldLink RX2 85 "SignalBoxModel" "passed" "I", Cond.methodLink RX2 75 yX2_passPlain, Cond.instanceMethod yX2_passPlain, Cond.selects RX2 yX2_passPlain yX2_passPlain, Cond.code yX2_passPlain cX2_passPlain 4 (some .int), Cond.fieldLink RX2 19 "SignalBoxModel" "axles" "[I", Cond.fieldLink RX2 13 "SignalBoxModel" "limits" "[I", Cond.methodLink RX2 72 yX2_let, Cond.instanceMethod yX2_let, Cond.selects RX2 yX2_let yX2_let, Cond.code yX2_let cX2_let 2 none, Cond.methodLink RX2 79 yX2_passPoints, Cond.instanceMethod yX2_passPoints, Cond.selects RX2 yX2_passPoints yX2_passPoints, Cond.code yX2_passPoints cX2_passPoints 4 (some .int), Cond.fieldLink RX2 22 "SignalBoxModel" "legs" "[I", Cond.methodLink RX2 82 yX2_passBridge, Cond.instanceMethod yX2_passBridge, Cond.selects RX2 yX2_passBridge yX2_passBridge, Cond.code yX2_passBridge cX2_passBridge 4 (some .int), Cond.fieldLink RX2 16 "SignalBoxModel" "marks" "[I", Cond.methodLink RX2 94 yX2_ended]
def wsX2_all_r3 : List Cond := [Cond.static yX2_ended, Cond.code yX2_ended cX2_ended 2 (some .int)]
def wsX2_all : List Cond := .code yX2_all cX2_all 6 (some .int) :: ((wsX2_all_r1 ++ (wsX2_all_r2 ++ wsX2_all_r3)) ++ wsX20)
def wsX2_first_r1 : List Cond := [Cond.fieldLink RX2 40 "SignalBoxModel" "lengths" "[I", Cond.fieldLink RX2 19 "SignalBoxModel" "axles" "[I", Cond.fieldLink RX2 13 "SignalBoxModel" "limits" "[I", Cond.fieldLink RX2 22 "SignalBoxModel" "legs" "[I", Cond.methodLink RX2 88 yX2_sectionOf, Cond.instanceMethod yX2_sectionOf, Cond.selects RX2 yX2_sectionOf yX2_sectionOf, Cond.initialized RX2, Cond.code yX2_sectionOf cX2_sectionOf 3 (some .int), Cond.fieldLink RX2 34 "SignalBoxModel" "at" "[I", Cond.fieldLink RX2 37 "SignalBoxModel" "routes" "[I", Cond.methodLink RX2 69 yX2_claim, Cond.instanceMethod yX2_claim, Cond.selects RX2 yX2_claim yX2_claim, Cond.code yX2_claim cX2_claim 2 none, Cond.fieldLink RX2 28 "SignalBoxModel" "held" "[I", Cond.fieldLink RX2 25 "SignalBoxModel" "claims" "[I", Cond.fieldLink RX2 31 "SignalBoxModel" "most" "[I", Cond.methodLink RX2 65 yX2_leave, Cond.instanceMethod yX2_leave, Cond.selects RX2 yX2_leave yX2_leave, Cond.code yX2_leave cX2_leave 2 none, Cond.fieldLink RX2 62 "SignalBoxModel" "traced" "I", Cond.fieldLink RX2 43 "SignalBoxModel" "trace" "[I"]
def wsX2_first_r2 : List Cond := [Cond.methodLink RX2 91 yX2_pass, Cond.instanceMethod yX2_pass, Cond.selects RX2 yX2_pass yX2_pass, Cond.code yX2_pass cX2_pass 4 (some .int), Cond.fieldLink RX2 7 "SignalBoxModel" "kinds" "[I", Cond.fieldLink RX2 85 "SignalBoxModel" "passed" "I", Cond.methodLink RX2 75 yX2_passPlain, Cond.instanceMethod yX2_passPlain, Cond.selects RX2 yX2_passPlain yX2_passPlain, Cond.code yX2_passPlain cX2_passPlain 4 (some .int), Cond.methodLink RX2 72 yX2_let, Cond.instanceMethod yX2_let, Cond.selects RX2 yX2_let yX2_let, Cond.code yX2_let cX2_let 2 none, Cond.methodLink RX2 79 yX2_passPoints, Cond.instanceMethod yX2_passPoints, Cond.selects RX2 yX2_passPoints yX2_passPoints, Cond.code yX2_passPoints cX2_passPoints 4 (some .int), Cond.methodLink RX2 82 yX2_passBridge, Cond.instanceMethod yX2_passBridge, Cond.selects RX2 yX2_passBridge yX2_passBridge, Cond.code yX2_passBridge cX2_passBridge 4 (some .int), Cond.fieldLink RX2 16 "SignalBoxModel" "marks" "[I", Cond.methodLink RX2 94 yX2_ended]
def wsX2_first_r3 : List Cond := [Cond.static yX2_ended, Cond.code yX2_ended cX2_ended 2 (some .int)]
def wsX2_first : List Cond := .code yX2_first cX2_first 7 (some .int) :: ((wsX2_first_r1 ++ (wsX2_first_r2 ++ wsX2_first_r3)) ++ wsX20)
def wsX2_round_r1 : List Cond := [Cond.methodLink RX2 97 yX2_alone, Cond.instanceMethod yX2_alone, Cond.selects RX2 yX2_alone yX2_alone, Cond.initialized RX2, Cond.code yX2_alone cX2_alone 6 (some .int), Cond.fieldLink RX2 40 "SignalBoxModel" "lengths" "[I", Cond.methodLink RX2 88 yX2_sectionOf, Cond.instanceMethod yX2_sectionOf, Cond.selects RX2 yX2_sectionOf yX2_sectionOf, Cond.code yX2_sectionOf cX2_sectionOf 3 (some .int), Cond.fieldLink RX2 34 "SignalBoxModel" "at" "[I", Cond.fieldLink RX2 37 "SignalBoxModel" "routes" "[I", Cond.methodLink RX2 69 yX2_claim, Cond.instanceMethod yX2_claim, Cond.selects RX2 yX2_claim yX2_claim, Cond.code yX2_claim cX2_claim 2 none, Cond.fieldLink RX2 28 "SignalBoxModel" "held" "[I", Cond.fieldLink RX2 25 "SignalBoxModel" "claims" "[I", Cond.fieldLink RX2 31 "SignalBoxModel" "most" "[I", Cond.methodLink RX2 65 yX2_leave, Cond.instanceMethod yX2_leave, Cond.selects RX2 yX2_leave yX2_leave, Cond.code yX2_leave cX2_leave 2 none, Cond.fieldLink RX2 62 "SignalBoxModel" "traced" "I"]
def wsX2_round_r2 : List Cond := [Cond.fieldLink RX2 43 "SignalBoxModel" "trace" "[I", Cond.methodLink RX2 91 yX2_pass, Cond.instanceMethod yX2_pass, Cond.selects RX2 yX2_pass yX2_pass, Cond.code yX2_pass cX2_pass 4 (some .int), Cond.fieldLink RX2 7 "SignalBoxModel" "kinds" "[I", Cond.fieldLink RX2 85 "SignalBoxModel" "passed" "I", Cond.methodLink RX2 75 yX2_passPlain, Cond.instanceMethod yX2_passPlain, Cond.selects RX2 yX2_passPlain yX2_passPlain, Cond.code yX2_passPlain cX2_passPlain 4 (some .int), Cond.fieldLink RX2 19 "SignalBoxModel" "axles" "[I", Cond.fieldLink RX2 13 "SignalBoxModel" "limits" "[I", Cond.methodLink RX2 72 yX2_let, Cond.instanceMethod yX2_let, Cond.selects RX2 yX2_let yX2_let, Cond.code yX2_let cX2_let 2 none, Cond.methodLink RX2 79 yX2_passPoints, Cond.instanceMethod yX2_passPoints, Cond.selects RX2 yX2_passPoints yX2_passPoints, Cond.code yX2_passPoints cX2_passPoints 4 (some .int), Cond.fieldLink RX2 22 "SignalBoxModel" "legs" "[I", Cond.methodLink RX2 82 yX2_passBridge, Cond.instanceMethod yX2_passBridge]
def wsX2_round_r3 : List Cond := [Cond.selects RX2 yX2_passBridge yX2_passBridge, Cond.code yX2_passBridge cX2_passBridge 4 (some .int), Cond.fieldLink RX2 16 "SignalBoxModel" "marks" "[I", Cond.methodLink RX2 94 yX2_ended, Cond.static yX2_ended, Cond.code yX2_ended cX2_ended 2 (some .int)]
def wsX2_round : List Cond := .code yX2_round cX2_round 5 (some .int) :: ((wsX2_round_r1 ++ (wsX2_round_r2 ++ wsX2_round_r3)) ++ wsX20)
def wsX2_run_r1 : List Cond := [Cond.fieldLink RX2 100 "SignalBoxModel" "runs" "I", Cond.fieldLink RX2 62 "SignalBoxModel" "traced" "I", Cond.fieldLink RX2 85 "SignalBoxModel" "passed" "I", Cond.fieldLink RX2 115 "SignalBoxModel" "nulls" "I", Cond.fieldLink RX2 118 "SignalBoxModel" "fulls" "I", Cond.methodLink RX2 59 yX2_isRoute, Cond.static yX2_isRoute, Cond.initialized RX2, Cond.code yX2_isRoute cX2_isRoute 1 (some .boolean), Cond.methodLink RX2 46 yX2_in, Cond.static yX2_in, Cond.code yX2_in cX2_in 3 (some .boolean), Cond.methodLink RX2 97 yX2_alone, Cond.instanceMethod yX2_alone, Cond.selects RX2 yX2_alone yX2_alone, Cond.code yX2_alone cX2_alone 6 (some .int), Cond.fieldLink RX2 40 "SignalBoxModel" "lengths" "[I", Cond.methodLink RX2 88 yX2_sectionOf, Cond.instanceMethod yX2_sectionOf, Cond.selects RX2 yX2_sectionOf yX2_sectionOf, Cond.code yX2_sectionOf cX2_sectionOf 3 (some .int), Cond.fieldLink RX2 34 "SignalBoxModel" "at" "[I", Cond.fieldLink RX2 37 "SignalBoxModel" "routes" "[I", Cond.methodLink RX2 69 yX2_claim]
def wsX2_run_r2 : List Cond := [Cond.instanceMethod yX2_claim, Cond.selects RX2 yX2_claim yX2_claim, Cond.code yX2_claim cX2_claim 2 none, Cond.fieldLink RX2 28 "SignalBoxModel" "held" "[I", Cond.fieldLink RX2 25 "SignalBoxModel" "claims" "[I", Cond.fieldLink RX2 31 "SignalBoxModel" "most" "[I", Cond.methodLink RX2 65 yX2_leave, Cond.instanceMethod yX2_leave, Cond.selects RX2 yX2_leave yX2_leave, Cond.code yX2_leave cX2_leave 2 none, Cond.fieldLink RX2 43 "SignalBoxModel" "trace" "[I", Cond.methodLink RX2 91 yX2_pass, Cond.instanceMethod yX2_pass, Cond.selects RX2 yX2_pass yX2_pass, Cond.code yX2_pass cX2_pass 4 (some .int), Cond.fieldLink RX2 7 "SignalBoxModel" "kinds" "[I", Cond.methodLink RX2 75 yX2_passPlain, Cond.instanceMethod yX2_passPlain, Cond.selects RX2 yX2_passPlain yX2_passPlain, Cond.code yX2_passPlain cX2_passPlain 4 (some .int), Cond.fieldLink RX2 19 "SignalBoxModel" "axles" "[I", Cond.fieldLink RX2 13 "SignalBoxModel" "limits" "[I", Cond.methodLink RX2 72 yX2_let, Cond.instanceMethod yX2_let]
def wsX2_run_r3 : List Cond := [Cond.selects RX2 yX2_let yX2_let, Cond.code yX2_let cX2_let 2 none, Cond.methodLink RX2 79 yX2_passPoints, Cond.instanceMethod yX2_passPoints, Cond.selects RX2 yX2_passPoints yX2_passPoints, Cond.code yX2_passPoints cX2_passPoints 4 (some .int), Cond.fieldLink RX2 22 "SignalBoxModel" "legs" "[I", Cond.methodLink RX2 82 yX2_passBridge, Cond.instanceMethod yX2_passBridge, Cond.selects RX2 yX2_passBridge yX2_passBridge, Cond.code yX2_passBridge cX2_passBridge 4 (some .int), Cond.fieldLink RX2 16 "SignalBoxModel" "marks" "[I", Cond.methodLink RX2 94 yX2_ended, Cond.static yX2_ended, Cond.code yX2_ended cX2_ended 2 (some .int), Cond.methodLink RX2 103 yX2_twoByTwo, Cond.instanceMethod yX2_twoByTwo, Cond.selects RX2 yX2_twoByTwo yX2_twoByTwo, Cond.code yX2_twoByTwo cX2_twoByTwo 8 (some .int), Cond.methodLink RX2 106 yX2_all, Cond.instanceMethod yX2_all, Cond.selects RX2 yX2_all yX2_all, Cond.code yX2_all cX2_all 6 (some .int), Cond.methodLink RX2 109 yX2_first]
def wsX2_run_r4 : List Cond := [Cond.instanceMethod yX2_first, Cond.selects RX2 yX2_first yX2_first, Cond.code yX2_first cX2_first 7 (some .int), Cond.methodLink RX2 112 yX2_round, Cond.instanceMethod yX2_round, Cond.selects RX2 yX2_round yX2_round, Cond.code yX2_round cX2_round 5 (some .int)]
def wsX2_run : List Cond := .code yX2_run cX2_run 5 (some .int) :: ((wsX2_run_r1 ++ (wsX2_run_r2 ++ (wsX2_run_r3 ++ wsX2_run_r4))) ++ wsX20)
def wsX2_shunt_r1 : List Cond := [Cond.fieldLink RX2 62 "SignalBoxModel" "traced" "I", Cond.fieldLink RX2 34 "SignalBoxModel" "at" "[I", Cond.fieldLink RX2 19 "SignalBoxModel" "axles" "[I", Cond.fieldLink RX2 13 "SignalBoxModel" "limits" "[I", Cond.methodLink RX2 50 yX2_isPlace, Cond.static yX2_isPlace, Cond.initialized RX2, Cond.code yX2_isPlace cX2_isPlace 1 (some .boolean), Cond.methodLink RX2 46 yX2_in, Cond.static yX2_in, Cond.code yX2_in cX2_in 3 (some .boolean), Cond.methodLink RX2 69 yX2_claim, Cond.instanceMethod yX2_claim, Cond.selects RX2 yX2_claim yX2_claim, Cond.code yX2_claim cX2_claim 2 none, Cond.fieldLink RX2 28 "SignalBoxModel" "held" "[I", Cond.fieldLink RX2 25 "SignalBoxModel" "claims" "[I", Cond.fieldLink RX2 31 "SignalBoxModel" "most" "[I", Cond.methodLink RX2 65 yX2_leave, Cond.instanceMethod yX2_leave, Cond.selects RX2 yX2_leave yX2_leave, Cond.code yX2_leave cX2_leave 2 none, Cond.fieldLink RX2 43 "SignalBoxModel" "trace" "[I", Cond.methodLink RX2 72 yX2_let]
def wsX2_shunt_r2 : List Cond := [Cond.instanceMethod yX2_let, Cond.selects RX2 yX2_let yX2_let, Cond.code yX2_let cX2_let 2 none]
def wsX2_shunt : List Cond := .code yX2_shunt cX2_shunt 7 (some .int) :: ((wsX2_shunt_r1 ++ wsX2_shunt_r2) ++ wsX20)
def wsX2_passed : List Cond := .code yX2_passed cX2_passed 1 (some .int) :: ([.fieldLink RX2 85 "SignalBoxModel" "passed" "I"] ++ wsX20)
def wsX2_trace : List Cond := .code yX2_trace cX2_trace 2 (some .int) :: ([.fieldLink RX2 62 "SignalBoxModel" "traced" "I", .fieldLink RX2 43 "SignalBoxModel" "trace" "[I", .methodLink RX2 46 yX2_in, .static yX2_in, .initialized RX2, .code yX2_in cX2_in 3 (some .boolean)] ++ wsX20)
def wsX2_told : List Cond := .code yX2_told cX2_told 4 (some .int) :: ([.fieldLink RX2 34 "SignalBoxModel" "at" "[I", .fieldLink RX2 7 "SignalBoxModel" "kinds" "[I", .fieldLink RX2 13 "SignalBoxModel" "limits" "[I", .fieldLink RX2 16 "SignalBoxModel" "marks" "[I", .fieldLink RX2 19 "SignalBoxModel" "axles" "[I", .fieldLink RX2 22 "SignalBoxModel" "legs" "[I", .fieldLink RX2 25 "SignalBoxModel" "claims" "[I", .fieldLink RX2 28 "SignalBoxModel" "held" "[I", .fieldLink RX2 31 "SignalBoxModel" "most" "[I", .methodLink RX2 50 yX2_isPlace, .static yX2_isPlace, .initialized RX2, .code yX2_isPlace cX2_isPlace 1 (some .boolean), .methodLink RX2 46 yX2_in, .static yX2_in, .code yX2_in cX2_in 3 (some .boolean)] ++ wsX20)
def wsX2_count : List Cond := .code yX2_count cX2_count 4 (some .int) :: ([.fieldLink RX2 40 "SignalBoxModel" "lengths" "[I", .fieldLink RX2 34 "SignalBoxModel" "at" "[I", .fieldLink RX2 55 "SignalBoxModel" "made" "I", .fieldLink RX2 100 "SignalBoxModel" "runs" "I", .fieldLink RX2 115 "SignalBoxModel" "nulls" "I", .fieldLink RX2 118 "SignalBoxModel" "fulls" "I", .methodLink RX2 46 yX2_in, .static yX2_in, .initialized RX2, .code yX2_in cX2_in 3 (some .boolean)] ++ wsX20)
def wsL_law_r1 : List Cond := [Cond.classLink RL 7 RX1, Cond.instantiable RX1 10, Cond.initialized RX1, Cond.classLink RL 10 RX2, Cond.instantiable RX2 18, Cond.initialized RX2, Cond.methodLink RL 9 yX1_init, Cond.instanceMethod yX1_init, Cond.code yX1_init cX1_init 1 none, Cond.methodLink RX1 1 objectInit, Cond.instanceMethod objectInit, Cond.code objectInit ⟨#[0xb1]⟩ 1 none, Cond.classLink RX1 9 RX0, Cond.fieldLink RX1 11 "SignalBox" "standing" "[LSignalBox$Section;", Cond.arrayClass .int, Cond.fieldLink RX1 15 "SignalBox" "routePlaces" "[I", Cond.fieldLink RX1 19 "SignalBox" "routeLengths" "[I", Cond.fieldLink RX1 22 "SignalBox" "trace" "[I", Cond.methodLink RL 12 yX2_init, Cond.instanceMethod yX2_init, Cond.code yX2_init cX2_init 2 none, Cond.methodLink RX2 1 objectInit, Cond.fieldLink RX2 7 "SignalBoxModel" "kinds" "[I", Cond.fieldLink RX2 13 "SignalBoxModel" "limits" "[I"]
def wsL_law_r2 : List Cond := [Cond.fieldLink RX2 16 "SignalBoxModel" "marks" "[I", Cond.fieldLink RX2 19 "SignalBoxModel" "axles" "[I", Cond.fieldLink RX2 22 "SignalBoxModel" "legs" "[I", Cond.fieldLink RX2 25 "SignalBoxModel" "claims" "[I", Cond.fieldLink RX2 28 "SignalBoxModel" "held" "[I", Cond.fieldLink RX2 31 "SignalBoxModel" "most" "[I", Cond.fieldLink RX2 34 "SignalBoxModel" "at" "[I", Cond.fieldLink RX2 37 "SignalBoxModel" "routes" "[I", Cond.fieldLink RX2 40 "SignalBoxModel" "lengths" "[I", Cond.fieldLink RX2 43 "SignalBoxModel" "trace" "[I", Cond.methodLink RL 13 yX1_section, Cond.instanceMethod yX1_section, Cond.selects RX1 yX1_section yX1_section, Cond.code yX1_section cX1_section 6 (some .int), Cond.instantiable RX0 9, Cond.initialized RX0, Cond.fieldLink RX1 32 "SignalBox" "made" "I", Cond.methodLink RX1 25 yX1_isPlace, Cond.static yX1_isPlace, Cond.code yX1_isPlace cX1_isPlace 1 (some .boolean), Cond.methodLink RX1 29 yX1_isLimit, Cond.static yX1_isLimit, Cond.code yX1_isLimit cX1_isLimit 1 (some .boolean), Cond.constant RX1 120 (100000)]
def wsL_law_r3 : List Cond := [Cond.instanceMethod yX0_init, Cond.code yX0_init cX0_init 5 none, Cond.methodLink RX0 1 objectInit, Cond.fieldLink RX0 7 "SignalBox$Section" "number" "I", Cond.fieldLink RX0 13 "SignalBox$Section" "kind" "I", Cond.fieldLink RX0 16 "SignalBox$Section" "limit" "I", Cond.fieldLink RX0 19 "SignalBox$Section" "mark" "I", Cond.methodLink RL 17 yX2_section, Cond.instanceMethod yX2_section, Cond.selects RX2 yX2_section yX2_section, Cond.code yX2_section cX2_section 5 (some .int), Cond.constant RX2 54 (100000), Cond.fieldLink RX2 55 "SignalBoxModel" "made" "I", Cond.methodLink RX2 50 yX2_isPlace, Cond.static yX2_isPlace, Cond.code yX2_isPlace cX2_isPlace 1 (some .boolean), Cond.methodLink RX2 46 yX2_in, Cond.static yX2_in, Cond.code yX2_in cX2_in 3 (some .boolean), Cond.methodLink RL 18 yX1_share, Cond.instanceMethod yX1_share, Cond.selects RX1 yX1_share yX1_share, Cond.code yX1_share cX1_share 3 (some .int), Cond.methodLink RL 22 yX2_share]
def wsL_law_r4 : List Cond := [Cond.instanceMethod yX2_share, Cond.selects RX2 yX2_share yX2_share, Cond.code yX2_share cX2_share 3 (some .int), Cond.methodLink RL 23 yX1_remove, Cond.instanceMethod yX1_remove, Cond.selects RX1 yX1_remove yX1_remove, Cond.code yX1_remove cX1_remove 3 (some .int), Cond.methodLink RL 27 yX2_remove, Cond.instanceMethod yX2_remove, Cond.selects RX2 yX2_remove yX2_remove, Cond.code yX2_remove cX2_remove 3 (some .int), Cond.methodLink RL 28 yX1_same, Cond.instanceMethod yX1_same, Cond.selects RX1 yX1_same yX1_same, Cond.code yX1_same cX1_same 3 (some .int), Cond.methodLink RL 31 yX2_same, Cond.instanceMethod yX2_same, Cond.selects RX2 yX2_same yX2_same, Cond.code yX2_same cX2_same 3 (some .int), Cond.methodLink RL 32 yX1_lead, Cond.instanceMethod yX1_lead, Cond.selects RX1 yX1_lead yX1_lead, Cond.code yX1_lead cX1_lead 4 (some .int), Cond.methodLink RX1 42 yX1_isRoute]
def wsL_law_r5 : List Cond := [Cond.static yX1_isRoute, Cond.code yX1_isRoute cX1_isRoute 1 (some .boolean), Cond.methodLink RL 35 yX2_lead, Cond.instanceMethod yX2_lead, Cond.selects RX2 yX2_lead yX2_lead, Cond.code yX2_lead cX2_lead 3 (some .int), Cond.methodLink RX2 59 yX2_isRoute, Cond.static yX2_isRoute, Cond.code yX2_isRoute cX2_isRoute 1 (some .boolean), Cond.methodLink RL 36 yX1_unlead, Cond.instanceMethod yX1_unlead, Cond.selects RX1 yX1_unlead yX1_unlead, Cond.code yX1_unlead cX1_unlead 3 (some .int), Cond.methodLink RL 39 yX2_unlead, Cond.instanceMethod yX2_unlead, Cond.selects RX2 yX2_unlead yX2_unlead, Cond.code yX2_unlead cX2_unlead 3 (some .int), Cond.methodLink RL 40 yX1_run, Cond.instanceMethod yX1_run, Cond.selects RX1 yX1_run yX1_run, Cond.code yX1_run cX1_run 4 (some .int), Cond.fieldLink RX1 48 "SignalBox" "runs" "I", Cond.fieldLink RX1 51 "SignalBox" "passed" "I", Cond.fieldLink RX1 54 "SignalBox" "traceLength" "I"]
def wsL_law_r6 : List Cond := [Cond.methodLink RX1 45 yX1_isAxles, Cond.static yX1_isAxles, Cond.code yX1_isAxles cX1_isAxles 1 (some .boolean), Cond.methodLink RX1 57 yX1_goAlone, Cond.instanceMethod yX1_goAlone, Cond.selects RX1 yX1_goAlone yX1_goAlone, Cond.code yX1_goAlone cX1_goAlone 8 (some .int), Cond.methodLink RX1 121 yX1_sectionOn, Cond.instanceMethod yX1_sectionOn, Cond.selects RX1 yX1_sectionOn yX1_sectionOn, Cond.code yX1_sectionOn cX1_sectionOn 3 (some (.object "SignalBox$Section")), Cond.methodLink RX1 75 yX1_claim, Cond.instanceMethod yX1_claim, Cond.selects RX1 yX1_claim yX1_claim, Cond.code yX1_claim cX1_claim 2 none, Cond.methodLink RX1 125 yX1_pass, Cond.instanceMethod yX1_pass, Cond.selects RX1 yX1_pass yX1_pass, Cond.code yX1_pass cX1_pass 4 (some .int), Cond.methodLink RX1 142 yX1_passBridge, Cond.instanceMethod yX1_passBridge, Cond.selects RX1 yX1_passBridge yX1_passBridge, Cond.code yX1_passBridge cX1_passBridge 4 (some .int), Cond.methodLink RX1 145 yX1_passPoints]
def wsL_law_r7 : List Cond := [Cond.instanceMethod yX1_passPoints, Cond.selects RX1 yX1_passPoints yX1_passPoints, Cond.code yX1_passPoints cX1_passPoints 4 (some .int), Cond.methodLink RX1 148 yX1_passPlain, Cond.instanceMethod yX1_passPlain, Cond.selects RX1 yX1_passPlain yX1_passPlain, Cond.code yX1_passPlain cX1_passPlain 4 (some .int), Cond.instanceMethod yX0_hasRoomFor, Cond.selects RX0 yX0_hasRoomFor yX0_hasRoomFor, Cond.code yX0_hasRoomFor cX0_hasRoomFor 2 (some .boolean), Cond.fieldLink RX0 22 "SignalBox$Section" "axles" "I", Cond.methodLink RX1 83 yX1_let, Cond.instanceMethod yX1_let, Cond.selects RX1 yX1_let yX1_let, Cond.code yX1_let cX1_let 2 none, Cond.methodLink RX1 129 yX1_answerTo, Cond.instanceMethod yX1_answerTo, Cond.selects RX1 yX1_answerTo yX1_answerTo, Cond.code yX1_answerTo cX1_answerTo 3 (some .int), Cond.methodLink RX1 61 yX1_counted, Cond.instanceMethod yX1_counted, Cond.selects RX1 yX1_counted yX1_counted, Cond.code yX1_counted cX1_counted 2 (some .int), Cond.fieldLink RX1 114 "SignalBox" "nullFailures" "I"]
def wsL_law_r8 : List Cond := [Cond.fieldLink RX1 117 "SignalBox" "fullFailures" "I", Cond.methodLink RX1 65 yX1_goTwoByTwo, Cond.instanceMethod yX1_goTwoByTwo, Cond.selects RX1 yX1_goTwoByTwo yX1_goTwoByTwo, Cond.code yX1_goTwoByTwo cX1_goTwoByTwo 8 (some .int), Cond.methodLink RX1 69 yX1_goAll, Cond.instanceMethod yX1_goAll, Cond.selects RX1 yX1_goAll yX1_goAll, Cond.code yX1_goAll cX1_goAll 8 (some .int), Cond.methodLink RX1 132 yX1_claimAll, Cond.instanceMethod yX1_claimAll, Cond.selects RX1 yX1_claimAll yX1_claimAll, Cond.code yX1_claimAll cX1_claimAll 4 (some .int), Cond.methodLink RX1 135 yX1_letAll, Cond.instanceMethod yX1_letAll, Cond.selects RX1 yX1_letAll yX1_letAll, Cond.code yX1_letAll cX1_letAll 5 none, Cond.methodLink RX1 72 yX1_goFirst, Cond.instanceMethod yX1_goFirst, Cond.selects RX1 yX1_goFirst yX1_goFirst, Cond.code yX1_goFirst cX1_goFirst 7 (some .int), Cond.methodLink RL 44 yX2_run, Cond.instanceMethod yX2_run, Cond.selects RX2 yX2_run yX2_run]
def wsL_law_r9 : List Cond := [Cond.code yX2_run cX2_run 5 (some .int), Cond.fieldLink RX2 100 "SignalBoxModel" "runs" "I", Cond.fieldLink RX2 62 "SignalBoxModel" "traced" "I", Cond.fieldLink RX2 85 "SignalBoxModel" "passed" "I", Cond.fieldLink RX2 115 "SignalBoxModel" "nulls" "I", Cond.fieldLink RX2 118 "SignalBoxModel" "fulls" "I", Cond.methodLink RX2 97 yX2_alone, Cond.instanceMethod yX2_alone, Cond.selects RX2 yX2_alone yX2_alone, Cond.code yX2_alone cX2_alone 6 (some .int), Cond.methodLink RX2 88 yX2_sectionOf, Cond.instanceMethod yX2_sectionOf, Cond.selects RX2 yX2_sectionOf yX2_sectionOf, Cond.code yX2_sectionOf cX2_sectionOf 3 (some .int), Cond.methodLink RX2 69 yX2_claim, Cond.instanceMethod yX2_claim, Cond.selects RX2 yX2_claim yX2_claim, Cond.code yX2_claim cX2_claim 2 none, Cond.methodLink RX2 65 yX2_leave, Cond.instanceMethod yX2_leave, Cond.selects RX2 yX2_leave yX2_leave, Cond.code yX2_leave cX2_leave 2 none, Cond.methodLink RX2 91 yX2_pass, Cond.instanceMethod yX2_pass]
def wsL_law_r10 : List Cond := [Cond.selects RX2 yX2_pass yX2_pass, Cond.code yX2_pass cX2_pass 4 (some .int), Cond.methodLink RX2 75 yX2_passPlain, Cond.instanceMethod yX2_passPlain, Cond.selects RX2 yX2_passPlain yX2_passPlain, Cond.code yX2_passPlain cX2_passPlain 4 (some .int), Cond.methodLink RX2 72 yX2_let, Cond.instanceMethod yX2_let, Cond.selects RX2 yX2_let yX2_let, Cond.code yX2_let cX2_let 2 none, Cond.methodLink RX2 79 yX2_passPoints, Cond.instanceMethod yX2_passPoints, Cond.selects RX2 yX2_passPoints yX2_passPoints, Cond.code yX2_passPoints cX2_passPoints 4 (some .int), Cond.methodLink RX2 82 yX2_passBridge, Cond.instanceMethod yX2_passBridge, Cond.selects RX2 yX2_passBridge yX2_passBridge, Cond.code yX2_passBridge cX2_passBridge 4 (some .int), Cond.methodLink RX2 94 yX2_ended, Cond.static yX2_ended, Cond.code yX2_ended cX2_ended 2 (some .int), Cond.methodLink RX2 103 yX2_twoByTwo, Cond.instanceMethod yX2_twoByTwo, Cond.selects RX2 yX2_twoByTwo yX2_twoByTwo]
def wsL_law_r11 : List Cond := [Cond.code yX2_twoByTwo cX2_twoByTwo 8 (some .int), Cond.methodLink RX2 106 yX2_all, Cond.instanceMethod yX2_all, Cond.selects RX2 yX2_all yX2_all, Cond.code yX2_all cX2_all 6 (some .int), Cond.methodLink RX2 109 yX2_first, Cond.instanceMethod yX2_first, Cond.selects RX2 yX2_first yX2_first, Cond.code yX2_first cX2_first 7 (some .int), Cond.methodLink RX2 112 yX2_round, Cond.instanceMethod yX2_round, Cond.selects RX2 yX2_round yX2_round, Cond.code yX2_round cX2_round 5 (some .int), Cond.methodLink RL 45 yX1_shunt, Cond.instanceMethod yX1_shunt, Cond.selects RX1 yX1_shunt yX1_shunt, Cond.code yX1_shunt cX1_shunt 6 (some .int), Cond.methodLink RX1 79 yX1_shuntOnto, Cond.instanceMethod yX1_shuntOnto, Cond.selects RX1 yX1_shuntOnto yX1_shuntOnto, Cond.code yX1_shuntOnto cX1_shuntOnto 5 (some .int), Cond.methodLink RL 48 yX2_shunt, Cond.instanceMethod yX2_shunt, Cond.selects RX2 yX2_shunt yX2_shunt]
def wsL_law_r12 : List Cond := [Cond.code yX2_shunt cX2_shunt 7 (some .int), Cond.methodLink RL 49 yX1_passed, Cond.instanceMethod yX1_passed, Cond.selects RX1 yX1_passed yX1_passed, Cond.code yX1_passed cX1_passed 1 (some .int), Cond.methodLink RL 53 yX2_passed, Cond.instanceMethod yX2_passed, Cond.selects RX2 yX2_passed yX2_passed, Cond.code yX2_passed cX2_passed 1 (some .int), Cond.methodLink RL 54 yX1_trace, Cond.instanceMethod yX1_trace, Cond.selects RX1 yX1_trace yX1_trace, Cond.code yX1_trace cX1_trace 2 (some .int), Cond.methodLink RL 57 yX2_trace, Cond.instanceMethod yX2_trace, Cond.selects RX2 yX2_trace yX2_trace, Cond.code yX2_trace cX2_trace 2 (some .int), Cond.methodLink RL 58 yX1_told, Cond.instanceMethod yX1_told, Cond.selects RX1 yX1_told yX1_told, Cond.code yX1_told cX1_told 4 (some .int), Cond.methodLink RL 61 yX2_told, Cond.instanceMethod yX2_told, Cond.selects RX2 yX2_told yX2_told]
def wsL_law_r13 : List Cond := [Cond.code yX2_told cX2_told 4 (some .int), Cond.methodLink RL 62 yX1_count, Cond.instanceMethod yX1_count, Cond.selects RX1 yX1_count yX1_count, Cond.code yX1_count cX1_count 2 (some .int), Cond.methodLink RX1 110 yX1_countStanding, Cond.instanceMethod yX1_countStanding, Cond.selects RX1 yX1_countStanding yX1_countStanding, Cond.code yX1_countStanding cX1_countStanding 3 (some .int), Cond.methodLink RL 65 yX2_count, Cond.instanceMethod yX2_count, Cond.selects RX2 yX2_count yX2_count, Cond.code yX2_count cX2_count 4 (some .int)]
def wsL_law : List Cond := (wsL_law_r1 ++ (wsL_law_r2 ++ (wsL_law_r3 ++ (wsL_law_r4 ++ (wsL_law_r5 ++ (wsL_law_r6 ++ (wsL_law_r7 ++ (wsL_law_r8 ++ (wsL_law_r9 ++ (wsL_law_r10 ++ (wsL_law_r11 ++ (wsL_law_r12 ++ wsL_law_r13)))))))))))) ++ wsX10 ++ wsX20 ++ wsX00 ++ ([] : List Cond)
set_option maxRecDepth 20000 in
theorem wsL_law_in : ∀ w ∈ wsL_law, w ∈ lw_tbl := fun w h => (goodIn_p wsL_law [39, 42, 252, 80, 83, 86, 91, 312, 315, 318, 129, 323, 133, 327, 137, 331, 141, 144, 335, 338, 148, 342, 152, 155, 159, 163, 167, 171, 175, 179, 183, 187, 191, 195, 199, 203, 207, 211, 215, 219, 346, 350, 354, 358, 362, 366, 370, 374, 378, 382, 385, 389, 393, 397, 401, 223, 227, 405, 231, 409, 235, 413, 239, 417, 243, 247, 421] (by decide +kernel) (by decide +kernel) w h).1
theorem inlX0 : ∀ w ∈ wsX00, w ∈ wsL_law := fun _ h => List.mem_append_left _ (List.mem_append_right _ h)
theorem inX0 : ∀ w ∈ wsX00, w ∈ lw_tbl := fun w h => wsL_law_in w (inlX0 w h)
theorem inlX1 : ∀ w ∈ wsX10, w ∈ wsL_law := fun _ h => List.mem_append_left _ (List.mem_append_left _ (List.mem_append_left _ (List.mem_append_right _ h)))
theorem inX1 : ∀ w ∈ wsX10, w ∈ lw_tbl := fun w h => wsL_law_in w (inlX1 w h)
theorem inlX2 : ∀ w ∈ wsX20, w ∈ wsL_law := fun _ h => List.mem_append_left _ (List.mem_append_left _ (List.mem_append_right _ h))
theorem inX2 : ∀ w ∈ wsX20, w ∈ lw_tbl := fun w h => wsL_law_in w (inlX2 w h)
set_option maxRecDepth 20000 in
theorem ggX1_section_X1_isPlace : GoodIn wsX1_section wsX1_isPlace := goodIn_r _ [9] (by decide +kernel) (by decide +kernel)
set_option maxRecDepth 20000 in
theorem gX1_section_X1_isPlace : GoodIn wsX1_section (va_wsS RX1 25 yX1_isPlace wsX1_isPlace) := goodIn_app (goodIn_of _ (by decide +kernel)) ggX1_section_X1_isPlace
set_option maxRecDepth 20000 in
theorem ggX1_section_X1_isLimit : GoodIn wsX1_section wsX1_isLimit := goodIn_r _ [12, 13] (by decide +kernel) (by decide +kernel)
set_option maxRecDepth 20000 in
theorem gX1_section_X1_isLimit : GoodIn wsX1_section (va_wsS RX1 29 yX1_isLimit wsX1_isLimit) := goodIn_app (goodIn_of _ (by decide +kernel)) ggX1_section_X1_isLimit
set_option maxRecDepth 20000 in
theorem ggX1_section_X0_init : GoodIn wsX1_section wsX0_init := goodIn_r _ [15, 16, 17, 18, 19, 20, 21, 22, 23, 24, 25, 26, 27, 28, 29, 30, 31] (by decide +kernel) (by decide +kernel)
set_option maxRecDepth 20000 in
theorem gX1_section_X0_init_n36 : GoodIn wsX1_section (wsX0_init) := ggX1_section_X0_init
set_option maxRecDepth 20000 in
theorem ggX1_share_X1_isPlace : GoodIn wsX1_share wsX1_isPlace := goodIn_r _ [5] (by decide +kernel) (by decide +kernel)
set_option maxRecDepth 20000 in
theorem gX1_share_X1_isPlace : GoodIn wsX1_share (va_wsS RX1 25 yX1_isPlace wsX1_isPlace) := goodIn_app (goodIn_of _ (by decide +kernel)) ggX1_share_X1_isPlace
set_option maxRecDepth 20000 in
theorem ggX1_remove_X1_isPlace : GoodIn wsX1_remove wsX1_isPlace := goodIn_r _ [5] (by decide +kernel) (by decide +kernel)
set_option maxRecDepth 20000 in
theorem gX1_remove_X1_isPlace : GoodIn wsX1_remove (va_wsS RX1 25 yX1_isPlace wsX1_isPlace) := goodIn_app (goodIn_of _ (by decide +kernel)) ggX1_remove_X1_isPlace
set_option maxRecDepth 20000 in
theorem ggX1_same_X1_isPlace : GoodIn wsX1_same wsX1_isPlace := goodIn_r _ [5] (by decide +kernel) (by decide +kernel)
set_option maxRecDepth 20000 in
theorem gX1_same_X1_isPlace : GoodIn wsX1_same (va_wsS RX1 25 yX1_isPlace wsX1_isPlace) := goodIn_app (goodIn_of _ (by decide +kernel)) ggX1_same_X1_isPlace
set_option maxRecDepth 20000 in
theorem ggX1_lead_X1_isRoute : GoodIn wsX1_lead wsX1_isRoute := goodIn_r _ [6] (by decide +kernel) (by decide +kernel)
set_option maxRecDepth 20000 in
theorem gX1_lead_X1_isRoute : GoodIn wsX1_lead (va_wsS RX1 42 yX1_isRoute wsX1_isRoute) := goodIn_app (goodIn_of _ (by decide +kernel)) ggX1_lead_X1_isRoute
set_option maxRecDepth 20000 in
theorem ggX1_lead_X1_isPlace : GoodIn wsX1_lead wsX1_isPlace := goodIn_r _ [9] (by decide +kernel) (by decide +kernel)
set_option maxRecDepth 20000 in
theorem gX1_lead_X1_isPlace : GoodIn wsX1_lead (va_wsS RX1 25 yX1_isPlace wsX1_isPlace) := goodIn_app (goodIn_of _ (by decide +kernel)) ggX1_lead_X1_isPlace
set_option maxRecDepth 20000 in
theorem ggX1_unlead_X1_isRoute : GoodIn wsX1_unlead wsX1_isRoute := goodIn_r _ [5] (by decide +kernel) (by decide +kernel)
set_option maxRecDepth 20000 in
theorem gX1_unlead_X1_isRoute : GoodIn wsX1_unlead (va_wsS RX1 42 yX1_isRoute wsX1_isRoute) := goodIn_app (goodIn_of _ (by decide +kernel)) ggX1_unlead_X1_isRoute
set_option maxRecDepth 20000 in
theorem ggX1_run_X1_isRoute : GoodIn wsX1_run wsX1_isRoute := goodIn_r _ [7] (by decide +kernel) (by decide +kernel)
set_option maxRecDepth 20000 in
theorem gX1_run_X1_isRoute : GoodIn wsX1_run (va_wsS RX1 42 yX1_isRoute wsX1_isRoute) := goodIn_app (goodIn_of _ (by decide +kernel)) ggX1_run_X1_isRoute
set_option maxRecDepth 20000 in
theorem ggX1_run_X1_isAxles : GoodIn wsX1_run wsX1_isAxles := goodIn_r _ [10] (by decide +kernel) (by decide +kernel)
set_option maxRecDepth 20000 in
theorem gX1_run_X1_isAxles : GoodIn wsX1_run (va_wsS RX1 45 yX1_isAxles wsX1_isAxles) := goodIn_app (goodIn_of _ (by decide +kernel)) ggX1_run_X1_isAxles
set_option maxRecDepth 20000 in
theorem ggX1_run_X1_goAlone : GoodIn wsX1_run wsX1_goAlone := goodIn_r _ [14, 15, 2, 16, 17, 18, 6, 19, 20, 21, 22, 23, 24, 25, 3, 26, 27, 28, 29, 30, 31, 32, 33, 34, 35, 36, 37, 38, 39, 40, 41, 42, 43, 44, 45, 46, 47, 48, 49, 50, 51, 52, 53, 54, 55, 56, 83, 84, 85, 86, 87, 88, 89, 90, 91, 92, 93, 94, 95, 96, 97, 98, 99, 100, 101] (by decide +kernel) (by decide +kernel)
set_option maxRecDepth 20000 in
theorem gX1_run_X1_goAlone : GoodIn wsX1_run (wsV RX1 57 RX1 yX1_goAlone wsX1_goAlone) := goodIn_app (goodIn_of _ (by decide +kernel)) ggX1_run_X1_goAlone
set_option maxRecDepth 20000 in
theorem ggX1_run_X1_counted : GoodIn wsX1_run wsX1_counted := goodIn_r _ [60, 61, 62, 83, 84, 85, 86, 87, 88, 89, 90, 91, 92] (by decide +kernel) (by decide +kernel)
set_option maxRecDepth 20000 in
theorem gX1_run_X1_counted : GoodIn wsX1_run (wsV RX1 61 RX1 yX1_counted wsX1_counted) := goodIn_app (goodIn_of _ (by decide +kernel)) ggX1_run_X1_counted
set_option maxRecDepth 20000 in
theorem ggX1_run_X1_goTwoByTwo : GoodIn wsX1_run wsX1_goTwoByTwo := goodIn_r _ [66, 15, 2, 16, 17, 18, 6, 19, 20, 21, 22, 23, 24, 25, 3, 26, 27, 28, 29, 30, 31, 32, 33, 34, 35, 36, 37, 38, 39, 40, 41, 42, 43, 44, 45, 46, 47, 48, 49, 50, 51, 52, 53, 54, 55, 56, 83, 84, 85, 86, 87, 88, 89, 90, 91, 92, 93, 94, 95, 96, 97, 98, 99, 100, 101] (by decide +kernel) (by decide +kernel)
set_option maxRecDepth 20000 in
theorem gX1_run_X1_goTwoByTwo : GoodIn wsX1_run (wsV RX1 65 RX1 yX1_goTwoByTwo wsX1_goTwoByTwo) := goodIn_app (goodIn_of _ (by decide +kernel)) ggX1_run_X1_goTwoByTwo
set_option maxRecDepth 20000 in
theorem ggX1_run_X1_goAll : GoodIn wsX1_run wsX1_goAll := goodIn_r _ [70, 15, 71, 72, 73, 6, 74, 16, 17, 18, 19, 20, 21, 22, 23, 24, 25, 3, 26, 53, 54, 55, 56, 2, 27, 28, 29, 30, 31, 32, 33, 34, 35, 36, 37, 38, 39, 40, 41, 42, 43, 44, 45, 46, 47, 48, 49, 50, 51, 52, 75, 76, 77, 78, 83, 84, 85, 86, 87, 88, 89, 90, 91, 92, 93, 94, 95, 96, 97, 98, 99, 100, 101] (by decide +kernel) (by decide +kernel)
set_option maxRecDepth 20000 in
theorem gX1_run_X1_goAll : GoodIn wsX1_run (wsV RX1 69 RX1 yX1_goAll wsX1_goAll) := goodIn_app (goodIn_of _ (by decide +kernel)) ggX1_run_X1_goAll
set_option maxRecDepth 20000 in
theorem ggX1_run_X1_goFirst : GoodIn wsX1_run wsX1_goFirst := goodIn_r _ [82, 15, 2, 16, 17, 18, 6, 19, 20, 21, 22, 23, 24, 25, 3, 26, 43, 44, 45, 46, 47, 48, 27, 28, 29, 30, 31, 32, 33, 34, 35, 36, 37, 38, 39, 40, 41, 42, 49, 50, 51, 52, 53, 54, 55, 56, 83, 84, 85, 86, 87, 88, 89, 90, 91, 92, 93, 94, 95, 96, 97, 98, 99, 100, 101] (by decide +kernel) (by decide +kernel)
set_option maxRecDepth 20000 in
theorem gX1_run_X1_goFirst : GoodIn wsX1_run (wsV RX1 72 RX1 yX1_goFirst wsX1_goFirst) := goodIn_app (goodIn_of _ (by decide +kernel)) ggX1_run_X1_goFirst
set_option maxRecDepth 20000 in
theorem ggX1_shunt_X1_isPlace : GoodIn wsX1_shunt wsX1_isPlace := goodIn_r _ [6] (by decide +kernel) (by decide +kernel)
set_option maxRecDepth 20000 in
theorem gX1_shunt_X1_isPlace : GoodIn wsX1_shunt (va_wsS RX1 25 yX1_isPlace wsX1_isPlace) := goodIn_app (goodIn_of _ (by decide +kernel)) ggX1_shunt_X1_isPlace
set_option maxRecDepth 20000 in
theorem ggX1_shunt_X1_isAxles : GoodIn wsX1_shunt wsX1_isAxles := goodIn_r _ [9] (by decide +kernel) (by decide +kernel)
set_option maxRecDepth 20000 in
theorem gX1_shunt_X1_isAxles : GoodIn wsX1_shunt (va_wsS RX1 45 yX1_isAxles wsX1_isAxles) := goodIn_app (goodIn_of _ (by decide +kernel)) ggX1_shunt_X1_isAxles
set_option maxRecDepth 20000 in
theorem ggX1_shunt_X1_claim : GoodIn wsX1_shunt wsX1_claim := goodIn_r _ [13, 1, 14, 39, 40, 41, 42, 43, 44, 45, 46, 47, 29, 30, 31, 32, 33, 34, 35, 36, 37, 38] (by decide +kernel) (by decide +kernel)
set_option maxRecDepth 20000 in
theorem gX1_shunt_X1_claim : GoodIn wsX1_shunt (wsV RX1 75 RX1 yX1_claim wsX1_claim) := goodIn_app (goodIn_of _ (by decide +kernel)) ggX1_shunt_X1_claim
set_option maxRecDepth 20000 in
theorem ggX1_shunt_X1_shuntOnto : GoodIn wsX1_shunt wsX1_shuntOnto := goodIn_r _ [18, 10, 11, 12, 5, 13, 1, 14, 19, 20, 21, 22, 23, 24, 25, 26, 27, 28, 39, 40, 41, 42, 43, 44, 45, 46, 47, 29, 30, 31, 32, 33, 34, 35, 36, 37, 38] (by decide +kernel) (by decide +kernel)
set_option maxRecDepth 20000 in
theorem gX1_shunt_X1_shuntOnto : GoodIn wsX1_shunt (wsV RX1 79 RX1 yX1_shuntOnto wsX1_shuntOnto) := goodIn_app (goodIn_of _ (by decide +kernel)) ggX1_shunt_X1_shuntOnto
set_option maxRecDepth 20000 in
theorem ggX1_shunt_X1_let : GoodIn wsX1_shunt wsX1_let := goodIn_r _ [28, 1, 14, 39, 40, 41, 42, 43, 44, 45, 46, 47, 29, 30, 31, 32, 33, 34, 35, 36, 37, 38] (by decide +kernel) (by decide +kernel)
set_option maxRecDepth 20000 in
theorem gX1_shunt_X1_let : GoodIn wsX1_shunt (wsV RX1 83 RX1 yX1_let wsX1_let) := goodIn_app (goodIn_of _ (by decide +kernel)) ggX1_shunt_X1_let
set_option maxRecDepth 20000 in
theorem ggX1_told_X1_isPlace : GoodIn wsX1_told wsX1_isPlace := goodIn_r _ [5] (by decide +kernel) (by decide +kernel)
set_option maxRecDepth 20000 in
theorem gX1_told_X1_isPlace : GoodIn wsX1_told (va_wsS RX1 25 yX1_isPlace wsX1_isPlace) := goodIn_app (goodIn_of _ (by decide +kernel)) ggX1_told_X1_isPlace
set_option maxRecDepth 20000 in
theorem ggX1_count_X1_countStanding : GoodIn wsX1_count wsX1_countStanding := goodIn_r _ [10, 11, 15, 16, 17, 18, 19, 20, 21, 22, 23, 24] (by decide +kernel) (by decide +kernel)
set_option maxRecDepth 20000 in
theorem gX1_count_X1_countStanding : GoodIn wsX1_count (wsV RX1 110 RX1 yX1_countStanding wsX1_countStanding) := goodIn_app (goodIn_of _ (by decide +kernel)) ggX1_count_X1_countStanding
set_option maxRecDepth 20000 in
theorem ggX1_count_X1_isRoute : GoodIn wsX1_count wsX1_isRoute := goodIn_r _ [14] (by decide +kernel) (by decide +kernel)
set_option maxRecDepth 20000 in
theorem gX1_count_X1_isRoute : GoodIn wsX1_count (va_wsS RX1 42 yX1_isRoute wsX1_isRoute) := goodIn_app (goodIn_of _ (by decide +kernel)) ggX1_count_X1_isRoute
set_option maxRecDepth 20000 in
theorem ggX1_goAlone_X1_sectionOn : GoodIn wsX1_goAlone wsX1_sectionOn := goodIn_r _ [7, 8, 9, 46, 47, 48, 49, 50, 51, 52, 53, 54, 55] (by decide +kernel) (by decide +kernel)
set_option maxRecDepth 20000 in
theorem gX1_goAlone_X1_sectionOn : GoodIn wsX1_goAlone (wsV RX1 121 RX1 yX1_sectionOn wsX1_sectionOn) := goodIn_app (goodIn_of _ (by decide +kernel)) ggX1_goAlone_X1_sectionOn
set_option maxRecDepth 20000 in
theorem ggX1_goAlone_X1_claim : GoodIn wsX1_goAlone wsX1_claim := goodIn_r _ [13, 14, 15, 56, 57, 58, 59, 60, 61, 62, 63, 64, 46, 47, 48, 49, 50, 51, 52, 53, 54, 55] (by decide +kernel) (by decide +kernel)
set_option maxRecDepth 20000 in
theorem gX1_goAlone_X1_claim : GoodIn wsX1_goAlone (wsV RX1 75 RX1 yX1_claim wsX1_claim) := goodIn_app (goodIn_of _ (by decide +kernel)) ggX1_goAlone_X1_claim
set_option maxRecDepth 20000 in
theorem ggX1_goAlone_X1_pass : GoodIn wsX1_goAlone wsX1_pass := goodIn_r _ [19, 2, 20, 21, 22, 6, 23, 10, 11, 12, 13, 14, 15, 24, 25, 26, 27, 28, 29, 30, 31, 32, 33, 34, 35, 36, 37, 38, 39, 40, 41, 56, 57, 58, 59, 60, 61, 62, 63, 64, 46, 47, 48, 49, 50, 51, 52, 53, 54, 55] (by decide +kernel) (by decide +kernel)
set_option maxRecDepth 20000 in
theorem gX1_goAlone_X1_pass : GoodIn wsX1_goAlone (wsV RX1 125 RX1 yX1_pass wsX1_pass) := goodIn_app (goodIn_of _ (by decide +kernel)) ggX1_goAlone_X1_pass
set_option maxRecDepth 20000 in
theorem ggX1_goAlone_X1_let : GoodIn wsX1_goAlone wsX1_let := goodIn_r _ [41, 14, 15, 56, 57, 58, 59, 60, 61, 62, 63, 64, 46, 47, 48, 49, 50, 51, 52, 53, 54, 55] (by decide +kernel) (by decide +kernel)
set_option maxRecDepth 20000 in
theorem gX1_goAlone_X1_let : GoodIn wsX1_goAlone (wsV RX1 83 RX1 yX1_let wsX1_let) := goodIn_app (goodIn_of _ (by decide +kernel)) ggX1_goAlone_X1_let
set_option maxRecDepth 20000 in
theorem ggX1_goAlone_X1_answerTo : GoodIn wsX1_goAlone wsX1_answerTo := goodIn_r _ [45, 2, 46, 47, 48, 49, 50, 51, 52, 53, 54, 55] (by decide +kernel) (by decide +kernel)
set_option maxRecDepth 20000 in
theorem gX1_goAlone_X1_answerTo : GoodIn wsX1_goAlone (wsV RX1 129 RX1 yX1_answerTo wsX1_answerTo) := goodIn_app (goodIn_of _ (by decide +kernel)) ggX1_goAlone_X1_answerTo
set_option maxRecDepth 20000 in
theorem ggX1_goTwoByTwo_X1_sectionOn : GoodIn wsX1_goTwoByTwo wsX1_sectionOn := goodIn_r _ [7, 8, 9, 46, 47, 48, 49, 50, 51, 52, 53, 54, 55] (by decide +kernel) (by decide +kernel)
set_option maxRecDepth 20000 in
theorem gX1_goTwoByTwo_X1_sectionOn : GoodIn wsX1_goTwoByTwo (wsV RX1 121 RX1 yX1_sectionOn wsX1_sectionOn) := goodIn_app (goodIn_of _ (by decide +kernel)) ggX1_goTwoByTwo_X1_sectionOn
set_option maxRecDepth 20000 in
theorem ggX1_goTwoByTwo_X1_claim : GoodIn wsX1_goTwoByTwo wsX1_claim := goodIn_r _ [13, 14, 15, 56, 57, 58, 59, 60, 61, 62, 63, 64, 46, 47, 48, 49, 50, 51, 52, 53, 54, 55] (by decide +kernel) (by decide +kernel)
set_option maxRecDepth 20000 in
theorem gX1_goTwoByTwo_X1_claim : GoodIn wsX1_goTwoByTwo (wsV RX1 75 RX1 yX1_claim wsX1_claim) := goodIn_app (goodIn_of _ (by decide +kernel)) ggX1_goTwoByTwo_X1_claim
set_option maxRecDepth 20000 in
theorem ggX1_goTwoByTwo_X1_pass : GoodIn wsX1_goTwoByTwo wsX1_pass := goodIn_r _ [19, 2, 20, 21, 22, 6, 23, 10, 11, 12, 13, 14, 15, 24, 25, 26, 27, 28, 29, 30, 31, 32, 33, 34, 35, 36, 37, 38, 39, 40, 41, 56, 57, 58, 59, 60, 61, 62, 63, 64, 46, 47, 48, 49, 50, 51, 52, 53, 54, 55] (by decide +kernel) (by decide +kernel)
set_option maxRecDepth 20000 in
theorem gX1_goTwoByTwo_X1_pass : GoodIn wsX1_goTwoByTwo (wsV RX1 125 RX1 yX1_pass wsX1_pass) := goodIn_app (goodIn_of _ (by decide +kernel)) ggX1_goTwoByTwo_X1_pass
set_option maxRecDepth 20000 in
theorem ggX1_goTwoByTwo_X1_let : GoodIn wsX1_goTwoByTwo wsX1_let := goodIn_r _ [41, 14, 15, 56, 57, 58, 59, 60, 61, 62, 63, 64, 46, 47, 48, 49, 50, 51, 52, 53, 54, 55] (by decide +kernel) (by decide +kernel)
set_option maxRecDepth 20000 in
theorem gX1_goTwoByTwo_X1_let : GoodIn wsX1_goTwoByTwo (wsV RX1 83 RX1 yX1_let wsX1_let) := goodIn_app (goodIn_of _ (by decide +kernel)) ggX1_goTwoByTwo_X1_let
set_option maxRecDepth 20000 in
theorem ggX1_goTwoByTwo_X1_answerTo : GoodIn wsX1_goTwoByTwo wsX1_answerTo := goodIn_r _ [45, 2, 46, 47, 48, 49, 50, 51, 52, 53, 54, 55] (by decide +kernel) (by decide +kernel)
set_option maxRecDepth 20000 in
theorem gX1_goTwoByTwo_X1_answerTo : GoodIn wsX1_goTwoByTwo (wsV RX1 129 RX1 yX1_answerTo wsX1_answerTo) := goodIn_app (goodIn_of _ (by decide +kernel)) ggX1_goTwoByTwo_X1_answerTo
set_option maxRecDepth 20000 in
theorem ggX1_goAll_X1_claimAll : GoodIn wsX1_goAll wsX1_claimAll := goodIn_r _ [6, 1, 7, 8, 9, 5, 10, 11, 12, 13, 14, 15, 16, 17, 18, 54, 55, 56, 57, 58, 59, 60, 61, 62, 63, 64, 65, 66, 67, 68, 69, 70, 71, 72] (by decide +kernel) (by decide +kernel)
set_option maxRecDepth 20000 in
theorem gX1_goAll_X1_claimAll : GoodIn wsX1_goAll (wsV RX1 132 RX1 yX1_claimAll wsX1_claimAll) := goodIn_app (goodIn_of _ (by decide +kernel)) ggX1_goAll_X1_claimAll
set_option maxRecDepth 20000 in
theorem ggX1_goAll_X1_answerTo : GoodIn wsX1_goAll wsX1_answerTo := goodIn_r _ [22, 23, 54, 55, 56, 57, 58, 59, 60, 61, 62, 63] (by decide +kernel) (by decide +kernel)
set_option maxRecDepth 20000 in
theorem gX1_goAll_X1_answerTo : GoodIn wsX1_goAll (wsV RX1 129 RX1 yX1_answerTo wsX1_answerTo) := goodIn_app (goodIn_of _ (by decide +kernel)) ggX1_goAll_X1_answerTo
set_option maxRecDepth 20000 in
theorem ggX1_goAll_X1_sectionOn : GoodIn wsX1_goAll wsX1_sectionOn := goodIn_r _ [10, 11, 12, 54, 55, 56, 57, 58, 59, 60, 61, 62, 63] (by decide +kernel) (by decide +kernel)
set_option maxRecDepth 20000 in
theorem gX1_goAll_X1_sectionOn : GoodIn wsX1_goAll (wsV RX1 121 RX1 yX1_sectionOn wsX1_sectionOn) := goodIn_app (goodIn_of _ (by decide +kernel)) ggX1_goAll_X1_sectionOn
set_option maxRecDepth 20000 in
theorem ggX1_goAll_X1_pass : GoodIn wsX1_goAll wsX1_pass := goodIn_r _ [27, 23, 28, 29, 30, 5, 31, 13, 14, 15, 16, 17, 18, 32, 33, 34, 35, 36, 37, 38, 39, 40, 41, 42, 43, 44, 45, 46, 47, 48, 49, 64, 65, 66, 67, 68, 69, 70, 71, 72, 54, 55, 56, 57, 58, 59, 60, 61, 62, 63] (by decide +kernel) (by decide +kernel)
set_option maxRecDepth 20000 in
theorem gX1_goAll_X1_pass : GoodIn wsX1_goAll (wsV RX1 125 RX1 yX1_pass wsX1_pass) := goodIn_app (goodIn_of _ (by decide +kernel)) ggX1_goAll_X1_pass
set_option maxRecDepth 20000 in
theorem ggX1_goAll_X1_letAll : GoodIn wsX1_goAll wsX1_letAll := goodIn_r _ [53, 7, 8, 9, 5, 10, 11, 12, 46, 47, 48, 49, 17, 18, 54, 55, 56, 57, 58, 59, 60, 61, 62, 63, 64, 65, 66, 67, 68, 69, 70, 71, 72] (by decide +kernel) (by decide +kernel)
set_option maxRecDepth 20000 in
theorem gX1_goAll_X1_letAll : GoodIn wsX1_goAll (wsV RX1 135 RX1 yX1_letAll wsX1_letAll) := goodIn_app (goodIn_of _ (by decide +kernel)) ggX1_goAll_X1_letAll
set_option maxRecDepth 20000 in
theorem ggX1_claimAll_X1_sectionOn : GoodIn wsX1_claimAll wsX1_sectionOn := goodIn_r _ [6, 7, 8, 15, 16, 17, 18, 19, 20, 21, 22, 23, 24] (by decide +kernel) (by decide +kernel)
set_option maxRecDepth 20000 in
theorem gX1_claimAll_X1_sectionOn : GoodIn wsX1_claimAll (wsV RX1 121 RX1 yX1_sectionOn wsX1_sectionOn) := goodIn_app (goodIn_of _ (by decide +kernel)) ggX1_claimAll_X1_sectionOn
set_option maxRecDepth 20000 in
theorem ggX1_claimAll_X1_claim : GoodIn wsX1_claimAll wsX1_claim := goodIn_r _ [12, 13, 14, 25, 26, 27, 28, 29, 30, 31, 32, 33, 15, 16, 17, 18, 19, 20, 21, 22, 23, 24] (by decide +kernel) (by decide +kernel)
set_option maxRecDepth 20000 in
theorem gX1_claimAll_X1_claim : GoodIn wsX1_claimAll (wsV RX1 75 RX1 yX1_claim wsX1_claim) := goodIn_app (goodIn_of _ (by decide +kernel)) ggX1_claimAll_X1_claim
set_option maxRecDepth 20000 in
theorem ggX1_letAll_X1_sectionOn : GoodIn wsX1_letAll wsX1_sectionOn := goodIn_r _ [5, 6, 7, 14, 15, 16, 17, 18, 19, 20, 21, 22, 23] (by decide +kernel) (by decide +kernel)
set_option maxRecDepth 20000 in
theorem gX1_letAll_X1_sectionOn : GoodIn wsX1_letAll (wsV RX1 121 RX1 yX1_sectionOn wsX1_sectionOn) := goodIn_app (goodIn_of _ (by decide +kernel)) ggX1_letAll_X1_sectionOn
set_option maxRecDepth 20000 in
theorem ggX1_letAll_X1_let : GoodIn wsX1_letAll wsX1_let := goodIn_r _ [11, 12, 13, 24, 25, 26, 27, 28, 29, 30, 31, 32, 14, 15, 16, 17, 18, 19, 20, 21, 22, 23] (by decide +kernel) (by decide +kernel)
set_option maxRecDepth 20000 in
theorem gX1_letAll_X1_let : GoodIn wsX1_letAll (wsV RX1 83 RX1 yX1_let wsX1_let) := goodIn_app (goodIn_of _ (by decide +kernel)) ggX1_letAll_X1_let
set_option maxRecDepth 20000 in
theorem ggX1_goFirst_X1_sectionOn : GoodIn wsX1_goFirst wsX1_sectionOn := goodIn_r _ [7, 8, 9, 46, 47, 48, 49, 50, 51, 52, 53, 54, 55] (by decide +kernel) (by decide +kernel)
set_option maxRecDepth 20000 in
theorem gX1_goFirst_X1_sectionOn : GoodIn wsX1_goFirst (wsV RX1 121 RX1 yX1_sectionOn wsX1_sectionOn) := goodIn_app (goodIn_of _ (by decide +kernel)) ggX1_goFirst_X1_sectionOn
set_option maxRecDepth 20000 in
theorem ggX1_goFirst_X1_claim : GoodIn wsX1_goFirst wsX1_claim := goodIn_r _ [13, 14, 15, 56, 57, 58, 59, 60, 61, 62, 63, 64, 46, 47, 48, 49, 50, 51, 52, 53, 54, 55] (by decide +kernel) (by decide +kernel)
set_option maxRecDepth 20000 in
theorem gX1_goFirst_X1_claim : GoodIn wsX1_goFirst (wsV RX1 75 RX1 yX1_claim wsX1_claim) := goodIn_app (goodIn_of _ (by decide +kernel)) ggX1_goFirst_X1_claim
set_option maxRecDepth 20000 in
theorem ggX1_goFirst_X0_hasRoomFor : GoodIn wsX1_goFirst wsX0_hasRoomFor := goodIn_r _ [19, 20, 21, 56, 57, 58, 59, 60, 61, 62, 63, 64] (by decide +kernel) (by decide +kernel)
set_option maxRecDepth 20000 in
theorem gX1_goFirst_X0_hasRoomFor_n139 : GoodIn wsX1_goFirst (wsX0_hasRoomFor) := ggX1_goFirst_X0_hasRoomFor
set_option maxRecDepth 20000 in
theorem ggX1_goFirst_X1_pass : GoodIn wsX1_goFirst wsX1_pass := goodIn_r _ [25, 2, 26, 27, 28, 6, 29, 10, 11, 12, 13, 14, 15, 30, 31, 32, 33, 34, 35, 36, 37, 16, 17, 18, 19, 20, 21, 38, 39, 40, 41, 56, 57, 58, 59, 60, 61, 62, 63, 64, 46, 47, 48, 49, 50, 51, 52, 53, 54, 55] (by decide +kernel) (by decide +kernel)
set_option maxRecDepth 20000 in
theorem gX1_goFirst_X1_pass : GoodIn wsX1_goFirst (wsV RX1 125 RX1 yX1_pass wsX1_pass) := goodIn_app (goodIn_of _ (by decide +kernel)) ggX1_goFirst_X1_pass
set_option maxRecDepth 20000 in
theorem ggX1_goFirst_X1_let : GoodIn wsX1_goFirst wsX1_let := goodIn_r _ [41, 14, 15, 56, 57, 58, 59, 60, 61, 62, 63, 64, 46, 47, 48, 49, 50, 51, 52, 53, 54, 55] (by decide +kernel) (by decide +kernel)
set_option maxRecDepth 20000 in
theorem gX1_goFirst_X1_let : GoodIn wsX1_goFirst (wsV RX1 83 RX1 yX1_let wsX1_let) := goodIn_app (goodIn_of _ (by decide +kernel)) ggX1_goFirst_X1_let
set_option maxRecDepth 20000 in
theorem ggX1_goFirst_X1_answerTo : GoodIn wsX1_goFirst wsX1_answerTo := goodIn_r _ [45, 2, 46, 47, 48, 49, 50, 51, 52, 53, 54, 55] (by decide +kernel) (by decide +kernel)
set_option maxRecDepth 20000 in
theorem gX1_goFirst_X1_answerTo : GoodIn wsX1_goFirst (wsV RX1 129 RX1 yX1_answerTo wsX1_answerTo) := goodIn_app (goodIn_of _ (by decide +kernel)) ggX1_goFirst_X1_answerTo
set_option maxRecDepth 20000 in
theorem ggX1_pass_X1_passBridge : GoodIn wsX1_pass wsX1_passBridge := goodIn_r _ [6, 7, 8, 9, 5, 10, 11, 12, 13, 14, 15, 16, 17, 18, 19, 20, 21, 22, 23, 24, 25, 26, 27, 28, 29, 30, 31, 32, 33, 34, 35, 36, 37, 38, 39, 40, 41, 42, 43, 44, 45, 46, 47, 48, 49] (by decide +kernel) (by decide +kernel)
set_option maxRecDepth 20000 in
theorem gX1_pass_X1_passBridge : GoodIn wsX1_pass (wsV RX1 142 RX1 yX1_passBridge wsX1_passBridge) := goodIn_app (goodIn_of _ (by decide +kernel)) ggX1_pass_X1_passBridge
set_option maxRecDepth 20000 in
theorem ggX1_pass_X1_passPoints : GoodIn wsX1_pass wsX1_passPoints := goodIn_r _ [16, 7, 8, 9, 5, 10, 11, 12, 17, 18, 19, 20, 21, 22, 23, 24, 25, 26, 27, 28, 29, 30, 31, 32, 33, 34, 35, 36, 37, 38, 39, 40, 41, 42, 43, 44, 45, 46, 47, 48, 49] (by decide +kernel) (by decide +kernel)
set_option maxRecDepth 20000 in
theorem gX1_pass_X1_passPoints : GoodIn wsX1_pass (wsV RX1 145 RX1 yX1_passPoints wsX1_passPoints) := goodIn_app (goodIn_of _ (by decide +kernel)) ggX1_pass_X1_passPoints
set_option maxRecDepth 20000 in
theorem ggX1_pass_X1_passPlain : GoodIn wsX1_pass wsX1_passPlain := goodIn_r _ [20, 7, 8, 9, 5, 10, 11, 12, 21, 22, 23, 24, 25, 26, 27, 28, 29, 30, 31, 32, 33, 34, 35, 36, 37, 38, 39, 40, 41, 42, 43, 44, 45, 46, 47, 48, 49] (by decide +kernel) (by decide +kernel)
set_option maxRecDepth 20000 in
theorem gX1_pass_X1_passPlain : GoodIn wsX1_pass (wsV RX1 148 RX1 yX1_passPlain wsX1_passPlain) := goodIn_app (goodIn_of _ (by decide +kernel)) ggX1_pass_X1_passPlain
set_option maxRecDepth 20000 in
theorem ggX1_passBridge_X1_claim : GoodIn wsX1_passBridge wsX1_claim := goodIn_r _ [5, 6, 7, 26, 27, 28, 29, 30, 31, 32, 33, 34, 35, 36, 37, 38, 39, 40, 41, 42, 43, 44] (by decide +kernel) (by decide +kernel)
set_option maxRecDepth 20000 in
theorem gX1_passBridge_X1_claim : GoodIn wsX1_passBridge (wsV RX1 75 RX1 yX1_claim wsX1_claim) := goodIn_app (goodIn_of _ (by decide +kernel)) ggX1_passBridge_X1_claim
set_option maxRecDepth 20000 in
theorem ggX1_passBridge_X1_passPoints : GoodIn wsX1_passBridge wsX1_passPoints := goodIn_r _ [11, 1, 2, 3, 4, 5, 6, 7, 12, 13, 14, 15, 16, 17, 18, 19, 20, 21, 22, 23, 24, 25, 26, 27, 28, 29, 30, 31, 32, 33, 34, 35, 36, 37, 38, 39, 40, 41, 42, 43, 44] (by decide +kernel) (by decide +kernel)
set_option maxRecDepth 20000 in
theorem gX1_passBridge_X1_passPoints : GoodIn wsX1_passBridge (wsV RX1 145 RX1 yX1_passPoints wsX1_passPoints) := goodIn_app (goodIn_of _ (by decide +kernel)) ggX1_passBridge_X1_passPoints
set_option maxRecDepth 20000 in
theorem ggX1_passBridge_X1_let : GoodIn wsX1_passBridge wsX1_let := goodIn_r _ [25, 6, 7, 26, 27, 28, 29, 30, 31, 32, 33, 34, 35, 36, 37, 38, 39, 40, 41, 42, 43, 44] (by decide +kernel) (by decide +kernel)
set_option maxRecDepth 20000 in
theorem gX1_passBridge_X1_let : GoodIn wsX1_passBridge (wsV RX1 83 RX1 yX1_let wsX1_let) := goodIn_app (goodIn_of _ (by decide +kernel)) ggX1_passBridge_X1_let
set_option maxRecDepth 20000 in
theorem ggX1_passPoints_X1_claim : GoodIn wsX1_passPoints wsX1_claim := goodIn_r _ [5, 6, 7, 22, 23, 24, 25, 26, 27, 28, 29, 30, 31, 32, 33, 34, 35, 36, 37, 38, 39, 40] (by decide +kernel) (by decide +kernel)
set_option maxRecDepth 20000 in
theorem gX1_passPoints_X1_claim : GoodIn wsX1_passPoints (wsV RX1 75 RX1 yX1_claim wsX1_claim) := goodIn_app (goodIn_of _ (by decide +kernel)) ggX1_passPoints_X1_claim
set_option maxRecDepth 20000 in
theorem ggX1_passPoints_X1_passPlain : GoodIn wsX1_passPoints wsX1_passPlain := goodIn_r _ [11, 1, 2, 3, 4, 5, 6, 7, 12, 13, 14, 15, 16, 17, 18, 19, 20, 21, 22, 23, 24, 25, 26, 27, 28, 29, 30, 31, 32, 33, 34, 35, 36, 37, 38, 39, 40] (by decide +kernel) (by decide +kernel)
set_option maxRecDepth 20000 in
theorem gX1_passPoints_X1_passPlain : GoodIn wsX1_passPoints (wsV RX1 148 RX1 yX1_passPlain wsX1_passPlain) := goodIn_app (goodIn_of _ (by decide +kernel)) ggX1_passPoints_X1_passPlain
set_option maxRecDepth 20000 in
theorem ggX1_passPoints_X1_let : GoodIn wsX1_passPoints wsX1_let := goodIn_r _ [21, 6, 7, 22, 23, 24, 25, 26, 27, 28, 29, 30, 31, 32, 33, 34, 35, 36, 37, 38, 39, 40] (by decide +kernel) (by decide +kernel)
set_option maxRecDepth 20000 in
theorem gX1_passPoints_X1_let : GoodIn wsX1_passPoints (wsV RX1 83 RX1 yX1_let wsX1_let) := goodIn_app (goodIn_of _ (by decide +kernel)) ggX1_passPoints_X1_let
set_option maxRecDepth 20000 in
theorem ggX1_passPlain_X1_claim : GoodIn wsX1_passPlain wsX1_claim := goodIn_r _ [5, 6, 7, 18, 19, 20, 21, 22, 23, 24, 25, 26, 27, 28, 29, 30, 31, 32, 33, 34, 35, 36] (by decide +kernel) (by decide +kernel)
set_option maxRecDepth 20000 in
theorem gX1_passPlain_X1_claim : GoodIn wsX1_passPlain (wsV RX1 75 RX1 yX1_claim wsX1_claim) := goodIn_app (goodIn_of _ (by decide +kernel)) ggX1_passPlain_X1_claim
set_option maxRecDepth 20000 in
theorem ggX1_passPlain_X0_hasRoomFor : GoodIn wsX1_passPlain wsX0_hasRoomFor := goodIn_r _ [11, 12, 13, 18, 19, 20, 21, 22, 23, 24, 25, 26] (by decide +kernel) (by decide +kernel)
set_option maxRecDepth 20000 in
theorem gX1_passPlain_X0_hasRoomFor_n139 : GoodIn wsX1_passPlain (wsX0_hasRoomFor) := ggX1_passPlain_X0_hasRoomFor
set_option maxRecDepth 20000 in
theorem ggX1_passPlain_X1_let : GoodIn wsX1_passPlain wsX1_let := goodIn_r _ [17, 6, 7, 18, 19, 20, 21, 22, 23, 24, 25, 26, 27, 28, 29, 30, 31, 32, 33, 34, 35, 36] (by decide +kernel) (by decide +kernel)
set_option maxRecDepth 20000 in
theorem gX1_passPlain_X1_let : GoodIn wsX1_passPlain (wsV RX1 83 RX1 yX1_let wsX1_let) := goodIn_app (goodIn_of _ (by decide +kernel)) ggX1_passPlain_X1_let
set_option maxRecDepth 20000 in
theorem ggX1_shuntOnto_X1_claim : GoodIn wsX1_shuntOnto wsX1_claim := goodIn_r _ [5, 6, 7, 18, 19, 20, 21, 22, 23, 24, 25, 26, 27, 28, 29, 30, 31, 32, 33, 34, 35, 36] (by decide +kernel) (by decide +kernel)
set_option maxRecDepth 20000 in
theorem gX1_shuntOnto_X1_claim : GoodIn wsX1_shuntOnto (wsV RX1 75 RX1 yX1_claim wsX1_claim) := goodIn_app (goodIn_of _ (by decide +kernel)) ggX1_shuntOnto_X1_claim
set_option maxRecDepth 20000 in
theorem ggX1_shuntOnto_X0_hasRoomFor : GoodIn wsX1_shuntOnto wsX0_hasRoomFor := goodIn_r _ [11, 12, 13, 18, 19, 20, 21, 22, 23, 24, 25, 26] (by decide +kernel) (by decide +kernel)
set_option maxRecDepth 20000 in
theorem gX1_shuntOnto_X0_hasRoomFor_n139 : GoodIn wsX1_shuntOnto (wsX0_hasRoomFor) := ggX1_shuntOnto_X0_hasRoomFor
set_option maxRecDepth 20000 in
theorem ggX1_shuntOnto_X1_let : GoodIn wsX1_shuntOnto wsX1_let := goodIn_r _ [17, 6, 7, 18, 19, 20, 21, 22, 23, 24, 25, 26, 27, 28, 29, 30, 31, 32, 33, 34, 35, 36] (by decide +kernel) (by decide +kernel)
set_option maxRecDepth 20000 in
theorem gX1_shuntOnto_X1_let : GoodIn wsX1_shuntOnto (wsV RX1 83 RX1 yX1_let wsX1_let) := goodIn_app (goodIn_of _ (by decide +kernel)) ggX1_shuntOnto_X1_let
set_option maxRecDepth 20000 in
theorem ggX2_isPlace_X2_in : GoodIn wsX2_isPlace wsX2_in := goodIn_r _ [4] (by decide +kernel) (by decide +kernel)
set_option maxRecDepth 20000 in
theorem gX2_isPlace_X2_in : GoodIn wsX2_isPlace (va_wsS RX2 46 yX2_in wsX2_in) := goodIn_app (goodIn_of _ (by decide +kernel)) ggX2_isPlace_X2_in
set_option maxRecDepth 20000 in
theorem ggX2_isRoute_X2_in : GoodIn wsX2_isRoute wsX2_in := goodIn_r _ [4] (by decide +kernel) (by decide +kernel)
set_option maxRecDepth 20000 in
theorem gX2_isRoute_X2_in : GoodIn wsX2_isRoute (va_wsS RX2 46 yX2_in wsX2_in) := goodIn_app (goodIn_of _ (by decide +kernel)) ggX2_isRoute_X2_in
set_option maxRecDepth 20000 in
theorem ggX2_section_X2_isPlace : GoodIn wsX2_section wsX2_isPlace := goodIn_r _ [10, 11, 12, 9, 13] (by decide +kernel) (by decide +kernel)
set_option maxRecDepth 20000 in
theorem gX2_section_X2_isPlace : GoodIn wsX2_section (va_wsS RX2 50 yX2_isPlace wsX2_isPlace) := goodIn_app (goodIn_of _ (by decide +kernel)) ggX2_section_X2_isPlace
set_option maxRecDepth 20000 in
theorem ggX2_section_X2_in : GoodIn wsX2_section wsX2_in := goodIn_r _ [13] (by decide +kernel) (by decide +kernel)
set_option maxRecDepth 20000 in
theorem gX2_section_X2_in : GoodIn wsX2_section (va_wsS RX2 46 yX2_in wsX2_in) := goodIn_app (goodIn_of _ (by decide +kernel)) ggX2_section_X2_in
set_option maxRecDepth 20000 in
theorem ggX2_share_X2_isPlace : GoodIn wsX2_share wsX2_isPlace := goodIn_r _ [5, 6, 7, 4, 8] (by decide +kernel) (by decide +kernel)
set_option maxRecDepth 20000 in
theorem gX2_share_X2_isPlace : GoodIn wsX2_share (va_wsS RX2 50 yX2_isPlace wsX2_isPlace) := goodIn_app (goodIn_of _ (by decide +kernel)) ggX2_share_X2_isPlace
set_option maxRecDepth 20000 in
theorem ggX2_remove_X2_isPlace : GoodIn wsX2_remove wsX2_isPlace := goodIn_r _ [5, 6, 7, 4, 8] (by decide +kernel) (by decide +kernel)
set_option maxRecDepth 20000 in
theorem gX2_remove_X2_isPlace : GoodIn wsX2_remove (va_wsS RX2 50 yX2_isPlace wsX2_isPlace) := goodIn_app (goodIn_of _ (by decide +kernel)) ggX2_remove_X2_isPlace
set_option maxRecDepth 20000 in
theorem ggX2_same_X2_isPlace : GoodIn wsX2_same wsX2_isPlace := goodIn_r _ [5, 6, 7, 4, 8] (by decide +kernel) (by decide +kernel)
set_option maxRecDepth 20000 in
theorem gX2_same_X2_isPlace : GoodIn wsX2_same (va_wsS RX2 50 yX2_isPlace wsX2_isPlace) := goodIn_app (goodIn_of _ (by decide +kernel)) ggX2_same_X2_isPlace
set_option maxRecDepth 20000 in
theorem ggX2_lead_X2_isRoute : GoodIn wsX2_lead wsX2_isRoute := goodIn_r _ [6, 7, 8, 5, 9] (by decide +kernel) (by decide +kernel)
set_option maxRecDepth 20000 in
theorem gX2_lead_X2_isRoute : GoodIn wsX2_lead (va_wsS RX2 59 yX2_isRoute wsX2_isRoute) := goodIn_app (goodIn_of _ (by decide +kernel)) ggX2_lead_X2_isRoute
set_option maxRecDepth 20000 in
theorem ggX2_lead_X2_isPlace : GoodIn wsX2_lead wsX2_isPlace := goodIn_r _ [12, 7, 8, 5, 9] (by decide +kernel) (by decide +kernel)
set_option maxRecDepth 20000 in
theorem gX2_lead_X2_isPlace : GoodIn wsX2_lead (va_wsS RX2 50 yX2_isPlace wsX2_isPlace) := goodIn_app (goodIn_of _ (by decide +kernel)) ggX2_lead_X2_isPlace
set_option maxRecDepth 20000 in
theorem ggX2_unlead_X2_isRoute : GoodIn wsX2_unlead wsX2_isRoute := goodIn_r _ [5, 6, 7, 4, 8] (by decide +kernel) (by decide +kernel)
set_option maxRecDepth 20000 in
theorem gX2_unlead_X2_isRoute : GoodIn wsX2_unlead (va_wsS RX2 59 yX2_isRoute wsX2_isRoute) := goodIn_app (goodIn_of _ (by decide +kernel)) ggX2_unlead_X2_isRoute
set_option maxRecDepth 20000 in
theorem ggX2_claim_X2_leave : GoodIn wsX2_claim wsX2_leave := goodIn_r _ [8, 9, 10, 11, 12, 13, 14, 15, 16, 17, 18, 19, 20, 21, 22, 23, 24, 25, 26, 27, 28] (by decide +kernel) (by decide +kernel)
set_option maxRecDepth 20000 in
theorem gX2_claim_X2_leave : GoodIn wsX2_claim (wsV RX2 65 RX2 yX2_leave wsX2_leave) := goodIn_app (goodIn_of _ (by decide +kernel)) ggX2_claim_X2_leave
set_option maxRecDepth 20000 in
theorem ggX2_let_X2_leave : GoodIn wsX2_let wsX2_leave := goodIn_r _ [6, 7, 8, 9, 10, 11, 12, 13, 14, 15, 16, 17, 18, 19, 20, 21, 22, 23, 24, 25, 26] (by decide +kernel) (by decide +kernel)
set_option maxRecDepth 20000 in
theorem gX2_let_X2_leave : GoodIn wsX2_let (wsV RX2 65 RX2 yX2_leave wsX2_leave) := goodIn_app (goodIn_of _ (by decide +kernel)) ggX2_let_X2_leave
set_option maxRecDepth 20000 in
theorem ggX2_passPlain_X2_claim : GoodIn wsX2_passPlain wsX2_claim := goodIn_r _ [7, 8, 9, 10, 11, 12, 13, 6, 14, 15, 16, 21, 22, 23, 24, 25, 26, 27, 28, 29, 30, 31, 32, 33, 34, 35, 36, 37, 38] (by decide +kernel) (by decide +kernel)
set_option maxRecDepth 20000 in
theorem gX2_passPlain_X2_claim : GoodIn wsX2_passPlain (wsV RX2 69 RX2 yX2_claim wsX2_claim) := goodIn_app (goodIn_of _ (by decide +kernel)) ggX2_passPlain_X2_claim
set_option maxRecDepth 20000 in
theorem ggX2_passPlain_X2_let : GoodIn wsX2_passPlain wsX2_let := goodIn_r _ [20, 8, 11, 12, 13, 6, 14, 15, 16, 21, 22, 23, 24, 25, 26, 27, 28, 29, 30, 31, 32, 33, 34, 35, 36, 37, 38] (by decide +kernel) (by decide +kernel)
set_option maxRecDepth 20000 in
theorem gX2_passPlain_X2_let : GoodIn wsX2_passPlain (wsV RX2 72 RX2 yX2_let wsX2_let) := goodIn_app (goodIn_of _ (by decide +kernel)) ggX2_passPlain_X2_let
set_option maxRecDepth 20000 in
theorem ggX2_passPoints_X2_claim : GoodIn wsX2_passPoints wsX2_claim := goodIn_r _ [6, 7, 8, 9, 10, 11, 12, 5, 13, 14, 15, 26, 27, 28, 29, 30, 31, 32, 33, 34, 35, 36, 37, 38, 39, 40, 41, 42, 43] (by decide +kernel) (by decide +kernel)
set_option maxRecDepth 20000 in
theorem gX2_passPoints_X2_claim : GoodIn wsX2_passPoints (wsV RX2 69 RX2 yX2_claim wsX2_claim) := goodIn_app (goodIn_of _ (by decide +kernel)) ggX2_passPoints_X2_claim
set_option maxRecDepth 20000 in
theorem ggX2_passPoints_X2_passPlain : GoodIn wsX2_passPoints wsX2_passPlain := goodIn_r _ [19, 20, 21, 2, 3, 4, 5, 6, 7, 8, 9, 10, 11, 12, 13, 14, 15, 22, 23, 24, 25, 26, 27, 28, 29, 30, 31, 32, 33, 34, 35, 36, 37, 38, 39, 40, 41, 42, 43] (by decide +kernel) (by decide +kernel)
set_option maxRecDepth 20000 in
theorem gX2_passPoints_X2_passPlain : GoodIn wsX2_passPoints (wsV RX2 75 RX2 yX2_passPlain wsX2_passPlain) := goodIn_app (goodIn_of _ (by decide +kernel)) ggX2_passPoints_X2_passPlain
set_option maxRecDepth 20000 in
theorem ggX2_passPoints_X2_let : GoodIn wsX2_passPoints wsX2_let := goodIn_r _ [25, 7, 10, 11, 12, 5, 13, 14, 15, 26, 27, 28, 29, 30, 31, 32, 33, 34, 35, 36, 37, 38, 39, 40, 41, 42, 43] (by decide +kernel) (by decide +kernel)
set_option maxRecDepth 20000 in
theorem gX2_passPoints_X2_let : GoodIn wsX2_passPoints (wsV RX2 72 RX2 yX2_let wsX2_let) := goodIn_app (goodIn_of _ (by decide +kernel)) ggX2_passPoints_X2_let
set_option maxRecDepth 20000 in
theorem ggX2_passBridge_X2_claim : GoodIn wsX2_passBridge wsX2_claim := goodIn_r _ [6, 7, 8, 9, 10, 11, 12, 5, 13, 14, 15, 31, 32, 33, 34, 35, 36, 37, 38, 39, 40, 41, 42, 43, 44, 45, 46, 47, 48] (by decide +kernel) (by decide +kernel)
set_option maxRecDepth 20000 in
theorem gX2_passBridge_X2_claim : GoodIn wsX2_passBridge (wsV RX2 69 RX2 yX2_claim wsX2_claim) := goodIn_app (goodIn_of _ (by decide +kernel)) ggX2_passBridge_X2_claim
set_option maxRecDepth 20000 in
theorem ggX2_passBridge_X2_passPoints : GoodIn wsX2_passBridge wsX2_passPoints := goodIn_r _ [19, 20, 2, 3, 4, 5, 6, 7, 8, 9, 10, 11, 12, 13, 14, 15, 21, 22, 23, 24, 25, 26, 27, 28, 29, 30, 31, 32, 33, 34, 35, 36, 37, 38, 39, 40, 41, 42, 43, 44, 45, 46, 47, 48] (by decide +kernel) (by decide +kernel)
set_option maxRecDepth 20000 in
theorem gX2_passBridge_X2_passPoints : GoodIn wsX2_passBridge (wsV RX2 79 RX2 yX2_passPoints wsX2_passPoints) := goodIn_app (goodIn_of _ (by decide +kernel)) ggX2_passBridge_X2_passPoints
set_option maxRecDepth 20000 in
theorem ggX2_passBridge_X2_let : GoodIn wsX2_passBridge wsX2_let := goodIn_r _ [30, 7, 10, 11, 12, 5, 13, 14, 15, 31, 32, 33, 34, 35, 36, 37, 38, 39, 40, 41, 42, 43, 44, 45, 46, 47, 48] (by decide +kernel) (by decide +kernel)
set_option maxRecDepth 20000 in
theorem gX2_passBridge_X2_let : GoodIn wsX2_passBridge (wsV RX2 72 RX2 yX2_let wsX2_let) := goodIn_app (goodIn_of _ (by decide +kernel)) ggX2_passBridge_X2_let
set_option maxRecDepth 20000 in
theorem ggX2_pass_X2_passPlain : GoodIn wsX2_pass wsX2_passPlain := goodIn_r _ [7, 8, 9, 10, 11, 12, 6, 13, 14, 15, 16, 17, 18, 19, 20, 21, 22, 23, 24, 25, 26, 37, 38, 39, 40, 41, 42, 43, 44, 45, 46, 47, 48, 49, 50, 51, 52, 53, 54] (by decide +kernel) (by decide +kernel)
set_option maxRecDepth 20000 in
theorem gX2_pass_X2_passPlain : GoodIn wsX2_pass (wsV RX2 75 RX2 yX2_passPlain wsX2_passPlain) := goodIn_app (goodIn_of _ (by decide +kernel)) ggX2_pass_X2_passPlain
set_option maxRecDepth 20000 in
theorem ggX2_pass_X2_passPoints : GoodIn wsX2_pass wsX2_passPoints := goodIn_r _ [30, 31, 10, 11, 12, 6, 13, 14, 15, 16, 17, 18, 19, 20, 21, 22, 3, 4, 5, 7, 8, 9, 23, 24, 25, 26, 37, 38, 39, 40, 41, 42, 43, 44, 45, 46, 47, 48, 49, 50, 51, 52, 53, 54] (by decide +kernel) (by decide +kernel)
set_option maxRecDepth 20000 in
theorem gX2_pass_X2_passPoints : GoodIn wsX2_pass (wsV RX2 79 RX2 yX2_passPoints wsX2_passPoints) := goodIn_app (goodIn_of _ (by decide +kernel)) ggX2_pass_X2_passPoints
set_option maxRecDepth 20000 in
theorem ggX2_pass_X2_passBridge : GoodIn wsX2_pass wsX2_passBridge := goodIn_r _ [35, 36, 10, 11, 12, 6, 13, 14, 15, 16, 17, 18, 19, 20, 21, 22, 27, 28, 29, 30, 31, 3, 4, 5, 7, 8, 9, 23, 24, 25, 26, 37, 38, 39, 40, 41, 42, 43, 44, 45, 46, 47, 48, 49, 50, 51, 52, 53, 54] (by decide +kernel) (by decide +kernel)
set_option maxRecDepth 20000 in
theorem gX2_pass_X2_passBridge : GoodIn wsX2_pass (wsV RX2 82 RX2 yX2_passBridge wsX2_passBridge) := goodIn_app (goodIn_of _ (by decide +kernel)) ggX2_pass_X2_passBridge
set_option maxRecDepth 20000 in
theorem ggX2_alone_X2_sectionOf : GoodIn wsX2_alone wsX2_sectionOf := goodIn_r _ [6, 7, 8, 51, 52, 53, 54, 55, 56, 57, 58, 59, 60, 61, 62, 63, 64, 65, 66, 67, 68] (by decide +kernel) (by decide +kernel)
set_option maxRecDepth 20000 in
theorem gX2_alone_X2_sectionOf : GoodIn wsX2_alone (wsV RX2 88 RX2 yX2_sectionOf wsX2_sectionOf) := goodIn_app (goodIn_of _ (by decide +kernel)) ggX2_alone_X2_sectionOf
set_option maxRecDepth 20000 in
theorem ggX2_alone_X2_claim : GoodIn wsX2_alone wsX2_claim := goodIn_r _ [12, 13, 14, 15, 16, 17, 18, 5, 19, 20, 21, 51, 52, 53, 54, 55, 56, 57, 58, 59, 60, 61, 62, 63, 64, 65, 66, 67, 68] (by decide +kernel) (by decide +kernel)
set_option maxRecDepth 20000 in
theorem gX2_alone_X2_claim : GoodIn wsX2_alone (wsV RX2 69 RX2 yX2_claim wsX2_claim) := goodIn_app (goodIn_of _ (by decide +kernel)) ggX2_alone_X2_claim
set_option maxRecDepth 20000 in
theorem ggX2_alone_X2_pass : GoodIn wsX2_alone wsX2_pass := goodIn_r _ [25, 26, 27, 28, 29, 30, 5, 31, 32, 33, 9, 10, 11, 12, 13, 14, 15, 16, 17, 18, 19, 20, 21, 34, 35, 36, 37, 38, 39, 40, 41, 42, 43, 44, 45, 46, 47, 51, 52, 53, 54, 55, 56, 57, 58, 59, 60, 61, 62, 63, 64, 65, 66, 67, 68] (by decide +kernel) (by decide +kernel)
set_option maxRecDepth 20000 in
theorem gX2_alone_X2_pass : GoodIn wsX2_alone (wsV RX2 91 RX2 yX2_pass wsX2_pass) := goodIn_app (goodIn_of _ (by decide +kernel)) ggX2_alone_X2_pass
set_option maxRecDepth 20000 in
theorem ggX2_alone_X2_ended : GoodIn wsX2_alone wsX2_ended := goodIn_r _ [50] (by decide +kernel) (by decide +kernel)
set_option maxRecDepth 20000 in
theorem gX2_alone_X2_ended : GoodIn wsX2_alone (va_wsS RX2 94 yX2_ended wsX2_ended) := goodIn_app (goodIn_of _ (by decide +kernel)) ggX2_alone_X2_ended
set_option maxRecDepth 20000 in
theorem ggX2_alone_X2_let : GoodIn wsX2_alone wsX2_let := goodIn_r _ [37, 13, 16, 17, 18, 5, 19, 20, 21, 51, 52, 53, 54, 55, 56, 57, 58, 59, 60, 61, 62, 63, 64, 65, 66, 67, 68] (by decide +kernel) (by decide +kernel)
set_option maxRecDepth 20000 in
theorem gX2_alone_X2_let : GoodIn wsX2_alone (wsV RX2 72 RX2 yX2_let wsX2_let) := goodIn_app (goodIn_of _ (by decide +kernel)) ggX2_alone_X2_let
set_option maxRecDepth 20000 in
theorem ggX2_twoByTwo_X2_sectionOf : GoodIn wsX2_twoByTwo wsX2_sectionOf := goodIn_r _ [6, 7, 8, 51, 52, 53, 54, 55, 56, 57, 58, 59, 60, 61, 62, 63, 64, 65, 66, 67, 68] (by decide +kernel) (by decide +kernel)
set_option maxRecDepth 20000 in
theorem gX2_twoByTwo_X2_sectionOf : GoodIn wsX2_twoByTwo (wsV RX2 88 RX2 yX2_sectionOf wsX2_sectionOf) := goodIn_app (goodIn_of _ (by decide +kernel)) ggX2_twoByTwo_X2_sectionOf
set_option maxRecDepth 20000 in
theorem ggX2_twoByTwo_X2_claim : GoodIn wsX2_twoByTwo wsX2_claim := goodIn_r _ [12, 13, 14, 15, 16, 17, 18, 5, 19, 20, 21, 51, 52, 53, 54, 55, 56, 57, 58, 59, 60, 61, 62, 63, 64, 65, 66, 67, 68] (by decide +kernel) (by decide +kernel)
set_option maxRecDepth 20000 in
theorem gX2_twoByTwo_X2_claim : GoodIn wsX2_twoByTwo (wsV RX2 69 RX2 yX2_claim wsX2_claim) := goodIn_app (goodIn_of _ (by decide +kernel)) ggX2_twoByTwo_X2_claim
set_option maxRecDepth 20000 in
theorem ggX2_twoByTwo_X2_pass : GoodIn wsX2_twoByTwo wsX2_pass := goodIn_r _ [25, 26, 27, 28, 29, 30, 5, 31, 32, 33, 9, 10, 11, 12, 13, 14, 15, 16, 17, 18, 19, 20, 21, 34, 35, 36, 37, 38, 39, 40, 41, 42, 43, 44, 45, 46, 47, 51, 52, 53, 54, 55, 56, 57, 58, 59, 60, 61, 62, 63, 64, 65, 66, 67, 68] (by decide +kernel) (by decide +kernel)
set_option maxRecDepth 20000 in
theorem gX2_twoByTwo_X2_pass : GoodIn wsX2_twoByTwo (wsV RX2 91 RX2 yX2_pass wsX2_pass) := goodIn_app (goodIn_of _ (by decide +kernel)) ggX2_twoByTwo_X2_pass
set_option maxRecDepth 20000 in
theorem ggX2_twoByTwo_X2_ended : GoodIn wsX2_twoByTwo wsX2_ended := goodIn_r _ [50] (by decide +kernel) (by decide +kernel)
set_option maxRecDepth 20000 in
theorem gX2_twoByTwo_X2_ended : GoodIn wsX2_twoByTwo (va_wsS RX2 94 yX2_ended wsX2_ended) := goodIn_app (goodIn_of _ (by decide +kernel)) ggX2_twoByTwo_X2_ended
set_option maxRecDepth 20000 in
theorem ggX2_twoByTwo_X2_let : GoodIn wsX2_twoByTwo wsX2_let := goodIn_r _ [37, 13, 16, 17, 18, 5, 19, 20, 21, 51, 52, 53, 54, 55, 56, 57, 58, 59, 60, 61, 62, 63, 64, 65, 66, 67, 68] (by decide +kernel) (by decide +kernel)
set_option maxRecDepth 20000 in
theorem gX2_twoByTwo_X2_let : GoodIn wsX2_twoByTwo (wsV RX2 72 RX2 yX2_let wsX2_let) := goodIn_app (goodIn_of _ (by decide +kernel)) ggX2_twoByTwo_X2_let
set_option maxRecDepth 20000 in
theorem ggX2_all_X2_sectionOf : GoodIn wsX2_all wsX2_sectionOf := goodIn_r _ [6, 7, 8, 51, 52, 53, 54, 55, 56, 57, 58, 59, 60, 61, 62, 63, 64, 65, 66, 67, 68] (by decide +kernel) (by decide +kernel)
set_option maxRecDepth 20000 in
theorem gX2_all_X2_sectionOf : GoodIn wsX2_all (wsV RX2 88 RX2 yX2_sectionOf wsX2_sectionOf) := goodIn_app (goodIn_of _ (by decide +kernel)) ggX2_all_X2_sectionOf
set_option maxRecDepth 20000 in
theorem ggX2_all_X2_claim : GoodIn wsX2_all wsX2_claim := goodIn_r _ [12, 13, 14, 15, 16, 17, 18, 5, 19, 20, 21, 51, 52, 53, 54, 55, 56, 57, 58, 59, 60, 61, 62, 63, 64, 65, 66, 67, 68] (by decide +kernel) (by decide +kernel)
set_option maxRecDepth 20000 in
theorem gX2_all_X2_claim : GoodIn wsX2_all (wsV RX2 69 RX2 yX2_claim wsX2_claim) := goodIn_app (goodIn_of _ (by decide +kernel)) ggX2_all_X2_claim
set_option maxRecDepth 20000 in
theorem ggX2_all_X2_pass : GoodIn wsX2_all wsX2_pass := goodIn_r _ [25, 26, 27, 28, 29, 30, 5, 31, 32, 33, 9, 10, 11, 12, 13, 14, 15, 16, 17, 18, 19, 20, 21, 34, 35, 36, 37, 38, 39, 40, 41, 42, 43, 44, 45, 46, 47, 51, 52, 53, 54, 55, 56, 57, 58, 59, 60, 61, 62, 63, 64, 65, 66, 67, 68] (by decide +kernel) (by decide +kernel)
set_option maxRecDepth 20000 in
theorem gX2_all_X2_pass : GoodIn wsX2_all (wsV RX2 91 RX2 yX2_pass wsX2_pass) := goodIn_app (goodIn_of _ (by decide +kernel)) ggX2_all_X2_pass
set_option maxRecDepth 20000 in
theorem ggX2_all_X2_ended : GoodIn wsX2_all wsX2_ended := goodIn_r _ [50] (by decide +kernel) (by decide +kernel)
set_option maxRecDepth 20000 in
theorem gX2_all_X2_ended : GoodIn wsX2_all (va_wsS RX2 94 yX2_ended wsX2_ended) := goodIn_app (goodIn_of _ (by decide +kernel)) ggX2_all_X2_ended
set_option maxRecDepth 20000 in
theorem ggX2_all_X2_let : GoodIn wsX2_all wsX2_let := goodIn_r _ [37, 13, 16, 17, 18, 5, 19, 20, 21, 51, 52, 53, 54, 55, 56, 57, 58, 59, 60, 61, 62, 63, 64, 65, 66, 67, 68] (by decide +kernel) (by decide +kernel)
set_option maxRecDepth 20000 in
theorem gX2_all_X2_let : GoodIn wsX2_all (wsV RX2 72 RX2 yX2_let wsX2_let) := goodIn_app (goodIn_of _ (by decide +kernel)) ggX2_all_X2_let
set_option maxRecDepth 20000 in
theorem ggX2_first_X2_sectionOf : GoodIn wsX2_first wsX2_sectionOf := goodIn_r _ [9, 10, 11, 51, 52, 53, 54, 55, 56, 57, 58, 59, 60, 61, 62, 63, 64, 65, 66, 67, 68] (by decide +kernel) (by decide +kernel)
set_option maxRecDepth 20000 in
theorem gX2_first_X2_sectionOf : GoodIn wsX2_first (wsV RX2 88 RX2 yX2_sectionOf wsX2_sectionOf) := goodIn_app (goodIn_of _ (by decide +kernel)) ggX2_first_X2_sectionOf
set_option maxRecDepth 20000 in
theorem ggX2_first_X2_claim : GoodIn wsX2_first wsX2_claim := goodIn_r _ [15, 16, 17, 18, 19, 20, 21, 8, 22, 23, 24, 51, 52, 53, 54, 55, 56, 57, 58, 59, 60, 61, 62, 63, 64, 65, 66, 67, 68] (by decide +kernel) (by decide +kernel)
set_option maxRecDepth 20000 in
theorem gX2_first_X2_claim : GoodIn wsX2_first (wsV RX2 69 RX2 yX2_claim wsX2_claim) := goodIn_app (goodIn_of _ (by decide +kernel)) ggX2_first_X2_claim
set_option maxRecDepth 20000 in
theorem ggX2_first_X2_pass : GoodIn wsX2_first wsX2_pass := goodIn_r _ [28, 29, 30, 31, 32, 33, 8, 34, 2, 3, 12, 13, 14, 15, 16, 17, 18, 19, 20, 21, 22, 23, 24, 35, 36, 37, 38, 39, 40, 41, 42, 4, 43, 44, 45, 46, 47, 51, 52, 53, 54, 55, 56, 57, 58, 59, 60, 61, 62, 63, 64, 65, 66, 67, 68] (by decide +kernel) (by decide +kernel)
set_option maxRecDepth 20000 in
theorem gX2_first_X2_pass : GoodIn wsX2_first (wsV RX2 91 RX2 yX2_pass wsX2_pass) := goodIn_app (goodIn_of _ (by decide +kernel)) ggX2_first_X2_pass
set_option maxRecDepth 20000 in
theorem ggX2_first_X2_ended : GoodIn wsX2_first wsX2_ended := goodIn_r _ [50] (by decide +kernel) (by decide +kernel)
set_option maxRecDepth 20000 in
theorem gX2_first_X2_ended : GoodIn wsX2_first (va_wsS RX2 94 yX2_ended wsX2_ended) := goodIn_app (goodIn_of _ (by decide +kernel)) ggX2_first_X2_ended
set_option maxRecDepth 20000 in
theorem ggX2_first_X2_let : GoodIn wsX2_first wsX2_let := goodIn_r _ [38, 16, 19, 20, 21, 8, 22, 23, 24, 51, 52, 53, 54, 55, 56, 57, 58, 59, 60, 61, 62, 63, 64, 65, 66, 67, 68] (by decide +kernel) (by decide +kernel)
set_option maxRecDepth 20000 in
theorem gX2_first_X2_let : GoodIn wsX2_first (wsV RX2 72 RX2 yX2_let wsX2_let) := goodIn_app (goodIn_of _ (by decide +kernel)) ggX2_first_X2_let
set_option maxRecDepth 20000 in
theorem ggX2_round_X2_alone : GoodIn wsX2_round wsX2_alone := goodIn_r _ [5, 6, 7, 8, 9, 4, 10, 11, 12, 13, 14, 15, 16, 17, 18, 19, 20, 21, 22, 23, 24, 25, 26, 27, 28, 29, 30, 31, 32, 33, 34, 35, 36, 37, 38, 39, 40, 41, 42, 43, 44, 45, 46, 47, 48, 49, 50, 51, 52, 53, 54, 55, 56, 57, 58, 59, 60, 61, 62, 63, 64, 65, 66, 67, 68, 69, 70, 71, 72] (by decide +kernel) (by decide +kernel)
set_option maxRecDepth 20000 in
theorem gX2_round_X2_alone : GoodIn wsX2_round (wsV RX2 97 RX2 yX2_alone wsX2_alone) := goodIn_app (goodIn_of _ (by decide +kernel)) ggX2_round_X2_alone
set_option maxRecDepth 20000 in
theorem ggX2_run_X2_isRoute : GoodIn wsX2_run wsX2_isRoute := goodIn_r _ [9, 10, 11, 8, 12] (by decide +kernel) (by decide +kernel)
set_option maxRecDepth 20000 in
theorem gX2_run_X2_isRoute : GoodIn wsX2_run (va_wsS RX2 59 yX2_isRoute wsX2_isRoute) := goodIn_app (goodIn_of _ (by decide +kernel)) ggX2_run_X2_isRoute
set_option maxRecDepth 20000 in
theorem ggX2_run_X2_in : GoodIn wsX2_run wsX2_in := goodIn_r _ [12] (by decide +kernel) (by decide +kernel)
set_option maxRecDepth 20000 in
theorem gX2_run_X2_in : GoodIn wsX2_run (va_wsS RX2 46 yX2_in wsX2_in) := goodIn_app (goodIn_of _ (by decide +kernel)) ggX2_run_X2_in
set_option maxRecDepth 20000 in
theorem ggX2_run_X2_alone : GoodIn wsX2_run wsX2_alone := goodIn_r _ [16, 17, 18, 19, 20, 8, 21, 22, 23, 24, 25, 26, 27, 28, 29, 30, 31, 32, 33, 34, 2, 35, 36, 37, 38, 39, 40, 3, 41, 42, 43, 44, 45, 46, 47, 48, 49, 50, 51, 52, 53, 54, 55, 56, 57, 58, 59, 60, 61, 62, 63, 80, 81, 82, 83, 84, 85, 86, 87, 88, 89, 90, 91, 92, 93, 94, 95, 96, 97] (by decide +kernel) (by decide +kernel)
set_option maxRecDepth 20000 in
theorem gX2_run_X2_alone : GoodIn wsX2_run (wsV RX2 97 RX2 yX2_alone wsX2_alone) := goodIn_app (goodIn_of _ (by decide +kernel)) ggX2_run_X2_alone
set_option maxRecDepth 20000 in
theorem ggX2_run_X2_twoByTwo : GoodIn wsX2_run wsX2_twoByTwo := goodIn_r _ [67, 17, 18, 19, 20, 8, 21, 22, 23, 24, 25, 26, 27, 28, 29, 30, 31, 32, 33, 34, 2, 35, 36, 37, 38, 39, 40, 3, 41, 42, 43, 44, 45, 46, 47, 48, 49, 50, 51, 52, 53, 54, 55, 56, 57, 58, 59, 60, 61, 62, 63, 80, 81, 82, 83, 84, 85, 86, 87, 88, 89, 90, 91, 92, 93, 94, 95, 96, 97] (by decide +kernel) (by decide +kernel)
set_option maxRecDepth 20000 in
theorem gX2_run_X2_twoByTwo : GoodIn wsX2_run (wsV RX2 103 RX2 yX2_twoByTwo wsX2_twoByTwo) := goodIn_app (goodIn_of _ (by decide +kernel)) ggX2_run_X2_twoByTwo
set_option maxRecDepth 20000 in
theorem ggX2_run_X2_all : GoodIn wsX2_run wsX2_all := goodIn_r _ [71, 17, 18, 19, 20, 8, 21, 22, 23, 24, 25, 26, 27, 28, 29, 30, 31, 32, 33, 34, 2, 35, 36, 37, 38, 39, 40, 3, 41, 42, 43, 44, 45, 46, 47, 48, 49, 50, 51, 52, 53, 54, 55, 56, 57, 58, 59, 60, 61, 62, 63, 80, 81, 82, 83, 84, 85, 86, 87, 88, 89, 90, 91, 92, 93, 94, 95, 96, 97] (by decide +kernel) (by decide +kernel)
set_option maxRecDepth 20000 in
theorem gX2_run_X2_all : GoodIn wsX2_run (wsV RX2 106 RX2 yX2_all wsX2_all) := goodIn_app (goodIn_of _ (by decide +kernel)) ggX2_run_X2_all
set_option maxRecDepth 20000 in
theorem ggX2_run_X2_first : GoodIn wsX2_run wsX2_first := goodIn_r _ [75, 17, 45, 46, 55, 18, 19, 20, 8, 21, 22, 23, 24, 25, 26, 27, 28, 29, 30, 31, 32, 33, 34, 2, 35, 36, 37, 38, 39, 40, 3, 41, 42, 43, 44, 47, 48, 49, 50, 51, 52, 53, 54, 56, 57, 58, 59, 60, 61, 62, 63, 80, 81, 82, 83, 84, 85, 86, 87, 88, 89, 90, 91, 92, 93, 94, 95, 96, 97] (by decide +kernel) (by decide +kernel)
set_option maxRecDepth 20000 in
theorem gX2_run_X2_first : GoodIn wsX2_run (wsV RX2 109 RX2 yX2_first wsX2_first) := goodIn_app (goodIn_of _ (by decide +kernel)) ggX2_run_X2_first
set_option maxRecDepth 20000 in
theorem ggX2_run_X2_round : GoodIn wsX2_run wsX2_round := goodIn_r _ [79, 13, 14, 15, 8, 16, 17, 18, 19, 20, 21, 22, 23, 24, 25, 26, 27, 28, 29, 30, 31, 32, 33, 34, 2, 35, 36, 37, 38, 39, 40, 3, 41, 42, 43, 44, 45, 46, 47, 48, 49, 50, 51, 52, 53, 54, 55, 56, 57, 58, 59, 60, 61, 62, 63, 80, 81, 82, 83, 84, 85, 86, 87, 88, 89, 90, 91, 92, 93, 94, 95, 96, 97] (by decide +kernel) (by decide +kernel)
set_option maxRecDepth 20000 in
theorem gX2_run_X2_round : GoodIn wsX2_run (wsV RX2 112 RX2 yX2_round wsX2_round) := goodIn_app (goodIn_of _ (by decide +kernel)) ggX2_run_X2_round
set_option maxRecDepth 20000 in
theorem ggX2_shunt_X2_isPlace : GoodIn wsX2_shunt wsX2_isPlace := goodIn_r _ [8, 9, 10, 7, 11] (by decide +kernel) (by decide +kernel)
set_option maxRecDepth 20000 in
theorem gX2_shunt_X2_isPlace : GoodIn wsX2_shunt (va_wsS RX2 50 yX2_isPlace wsX2_isPlace) := goodIn_app (goodIn_of _ (by decide +kernel)) ggX2_shunt_X2_isPlace
set_option maxRecDepth 20000 in
theorem ggX2_shunt_X2_in : GoodIn wsX2_shunt wsX2_in := goodIn_r _ [11] (by decide +kernel) (by decide +kernel)
set_option maxRecDepth 20000 in
theorem gX2_shunt_X2_in : GoodIn wsX2_shunt (va_wsS RX2 46 yX2_in wsX2_in) := goodIn_app (goodIn_of _ (by decide +kernel)) ggX2_shunt_X2_in
set_option maxRecDepth 20000 in
theorem ggX2_shunt_X2_claim : GoodIn wsX2_shunt wsX2_claim := goodIn_r _ [15, 16, 17, 18, 19, 20, 21, 7, 22, 1, 23, 28, 29, 30, 31, 32, 33, 34, 35, 36, 37, 38, 39, 40, 41, 42, 43, 44, 45] (by decide +kernel) (by decide +kernel)
set_option maxRecDepth 20000 in
theorem gX2_shunt_X2_claim : GoodIn wsX2_shunt (wsV RX2 69 RX2 yX2_claim wsX2_claim) := goodIn_app (goodIn_of _ (by decide +kernel)) ggX2_shunt_X2_claim
set_option maxRecDepth 20000 in
theorem ggX2_shunt_X2_let : GoodIn wsX2_shunt wsX2_let := goodIn_r _ [27, 16, 19, 20, 21, 7, 22, 1, 23, 28, 29, 30, 31, 32, 33, 34, 35, 36, 37, 38, 39, 40, 41, 42, 43, 44, 45] (by decide +kernel) (by decide +kernel)
set_option maxRecDepth 20000 in
theorem gX2_shunt_X2_let : GoodIn wsX2_shunt (wsV RX2 72 RX2 yX2_let wsX2_let) := goodIn_app (goodIn_of _ (by decide +kernel)) ggX2_shunt_X2_let
set_option maxRecDepth 20000 in
theorem ggX2_trace_X2_in : GoodIn wsX2_trace wsX2_in := goodIn_r _ [6] (by decide +kernel) (by decide +kernel)
set_option maxRecDepth 20000 in
theorem gX2_trace_X2_in : GoodIn wsX2_trace (va_wsS RX2 46 yX2_in wsX2_in) := goodIn_app (goodIn_of _ (by decide +kernel)) ggX2_trace_X2_in
set_option maxRecDepth 20000 in
theorem ggX2_told_X2_isPlace : GoodIn wsX2_told wsX2_isPlace := goodIn_r _ [13, 14, 15, 12, 16] (by decide +kernel) (by decide +kernel)
set_option maxRecDepth 20000 in
theorem gX2_told_X2_isPlace : GoodIn wsX2_told (va_wsS RX2 50 yX2_isPlace wsX2_isPlace) := goodIn_app (goodIn_of _ (by decide +kernel)) ggX2_told_X2_isPlace
set_option maxRecDepth 20000 in
theorem ggX2_count_X2_in : GoodIn wsX2_count wsX2_in := goodIn_r _ [10] (by decide +kernel) (by decide +kernel)
set_option maxRecDepth 20000 in
theorem gX2_count_X2_in : GoodIn wsX2_count (va_wsS RX2 46 yX2_in wsX2_in) := goodIn_app (goodIn_of _ (by decide +kernel)) ggX2_count_X2_in
set_option maxRecDepth 20000 in
theorem ggL_law_X1_init : GoodIn wsL_law wsX1_init := goodIn_r _ [8, 9, 10, 11, 12, 13, 14, 15, 16, 17, 301, 302, 303, 304, 305, 306, 307, 308, 309, 310] (by decide +kernel) (by decide +kernel)
set_option maxRecDepth 20000 in
theorem gL_law_X1_init : GoodIn wsL_law (wsX1_init) := ggL_law_X1_init
set_option maxRecDepth 20000 in
theorem ggL_law_X2_init : GoodIn wsL_law wsX2_init := goodIn_r _ [20, 21, 10, 11, 14, 22, 23, 24, 25, 26, 27, 28, 29, 30, 31, 32, 33, 311, 312, 313, 314, 315, 316, 317, 318, 319, 320, 321, 322, 323, 324, 325, 326, 327, 328] (by decide +kernel) (by decide +kernel)
set_option maxRecDepth 20000 in
theorem gL_law_X2_init : GoodIn wsL_law (wsX2_init) := ggL_law_X2_init
set_option maxRecDepth 20000 in
theorem ggL_law_X1_section : GoodIn wsL_law wsX1_section := goodIn_r _ [37, 12, 38, 39, 40, 13, 41, 42, 2, 43, 44, 45, 46, 47, 48, 49, 50, 10, 11, 51, 52, 53, 54, 329, 330, 331, 332, 333, 334, 335, 336, 337, 301, 302, 303, 304, 305, 306, 307, 308, 309, 310] (by decide +kernel) (by decide +kernel)
set_option maxRecDepth 20000 in
theorem gL_law_X1_section : GoodIn wsL_law (wsV RL 13 RX1 yX1_section wsX1_section) := goodIn_app (goodIn_of _ (by decide +kernel)) ggL_law_X1_section
set_option maxRecDepth 20000 in
theorem ggL_law_X2_section : GoodIn wsL_law wsX2_section := goodIn_r _ [58, 59, 22, 60, 23, 24, 30, 61, 62, 5, 63, 64, 65, 66, 311, 312, 313, 314, 315, 316, 317, 318, 319, 320, 321, 322, 323, 324, 325, 326, 327, 328] (by decide +kernel) (by decide +kernel)
set_option maxRecDepth 20000 in
theorem gL_law_X2_section : GoodIn wsL_law (wsV RL 17 RX2 yX2_section wsX2_section) := goodIn_app (goodIn_of _ (by decide +kernel)) ggL_law_X2_section
set_option maxRecDepth 20000 in
theorem ggL_law_X1_share : GoodIn wsL_law wsX1_share := goodIn_r _ [70, 13, 41, 42, 2, 43, 301, 302, 303, 304, 305, 306, 307, 308, 309, 310] (by decide +kernel) (by decide +kernel)
set_option maxRecDepth 20000 in
theorem gL_law_X1_share : GoodIn wsL_law (wsV RL 18 RX1 yX1_share wsX1_share) := goodIn_app (goodIn_of _ (by decide +kernel)) ggL_law_X1_share
set_option maxRecDepth 20000 in
theorem ggL_law_X2_share : GoodIn wsL_law wsX2_share := goodIn_r _ [74, 30, 61, 62, 5, 63, 64, 65, 66, 311, 312, 313, 314, 315, 316, 317, 318, 319, 320, 321, 322, 323, 324, 325, 326, 327, 328] (by decide +kernel) (by decide +kernel)
set_option maxRecDepth 20000 in
theorem gL_law_X2_share : GoodIn wsL_law (wsV RL 22 RX2 yX2_share wsX2_share) := goodIn_app (goodIn_of _ (by decide +kernel)) ggL_law_X2_share
set_option maxRecDepth 20000 in
theorem ggL_law_X1_remove : GoodIn wsL_law wsX1_remove := goodIn_r _ [78, 13, 41, 42, 2, 43, 301, 302, 303, 304, 305, 306, 307, 308, 309, 310] (by decide +kernel) (by decide +kernel)
set_option maxRecDepth 20000 in
theorem gL_law_X1_remove : GoodIn wsL_law (wsV RL 23 RX1 yX1_remove wsX1_remove) := goodIn_app (goodIn_of _ (by decide +kernel)) ggL_law_X1_remove
set_option maxRecDepth 20000 in
theorem ggL_law_X2_remove : GoodIn wsL_law wsX2_remove := goodIn_r _ [82, 30, 61, 62, 5, 63, 64, 65, 66, 311, 312, 313, 314, 315, 316, 317, 318, 319, 320, 321, 322, 323, 324, 325, 326, 327, 328] (by decide +kernel) (by decide +kernel)
set_option maxRecDepth 20000 in
theorem gL_law_X2_remove : GoodIn wsL_law (wsV RL 27 RX2 yX2_remove wsX2_remove) := goodIn_app (goodIn_of _ (by decide +kernel)) ggL_law_X2_remove
set_option maxRecDepth 20000 in
theorem ggL_law_X1_same : GoodIn wsL_law wsX1_same := goodIn_r _ [86, 13, 41, 42, 2, 43, 301, 302, 303, 304, 305, 306, 307, 308, 309, 310] (by decide +kernel) (by decide +kernel)
set_option maxRecDepth 20000 in
theorem gL_law_X1_same : GoodIn wsL_law (wsV RL 28 RX1 yX1_same wsX1_same) := goodIn_app (goodIn_of _ (by decide +kernel)) ggL_law_X1_same
set_option maxRecDepth 20000 in
theorem ggL_law_X2_same : GoodIn wsL_law wsX2_same := goodIn_r _ [90, 30, 61, 62, 5, 63, 64, 65, 66, 311, 312, 313, 314, 315, 316, 317, 318, 319, 320, 321, 322, 323, 324, 325, 326, 327, 328] (by decide +kernel) (by decide +kernel)
set_option maxRecDepth 20000 in
theorem gL_law_X2_same : GoodIn wsL_law (wsV RL 31 RX2 yX2_same wsX2_same) := goodIn_app (goodIn_of _ (by decide +kernel)) ggL_law_X2_same
set_option maxRecDepth 20000 in
theorem ggL_law_X1_lead : GoodIn wsL_law wsX1_lead := goodIn_r _ [94, 16, 15, 95, 96, 2, 97, 41, 42, 43, 301, 302, 303, 304, 305, 306, 307, 308, 309, 310] (by decide +kernel) (by decide +kernel)
set_option maxRecDepth 20000 in
theorem gL_law_X1_lead : GoodIn wsL_law (wsV RL 32 RX1 yX1_lead wsX1_lead) := goodIn_app (goodIn_of _ (by decide +kernel)) ggL_law_X1_lead
set_option maxRecDepth 20000 in
theorem ggL_law_X2_lead : GoodIn wsL_law wsX2_lead := goodIn_r _ [101, 32, 31, 102, 103, 5, 104, 64, 65, 66, 61, 62, 63, 311, 312, 313, 314, 315, 316, 317, 318, 319, 320, 321, 322, 323, 324, 325, 326, 327, 328] (by decide +kernel) (by decide +kernel)
set_option maxRecDepth 20000 in
theorem gL_law_X2_lead : GoodIn wsL_law (wsV RL 35 RX2 yX2_lead wsX2_lead) := goodIn_app (goodIn_of _ (by decide +kernel)) ggL_law_X2_lead
set_option maxRecDepth 20000 in
theorem ggL_law_X1_unlead : GoodIn wsL_law wsX1_unlead := goodIn_r _ [108, 16, 95, 96, 2, 97, 301, 302, 303, 304, 305, 306, 307, 308, 309, 310] (by decide +kernel) (by decide +kernel)
set_option maxRecDepth 20000 in
theorem gL_law_X1_unlead : GoodIn wsL_law (wsV RL 36 RX1 yX1_unlead wsX1_unlead) := goodIn_app (goodIn_of _ (by decide +kernel)) ggL_law_X1_unlead
set_option maxRecDepth 20000 in
theorem ggL_law_X2_unlead : GoodIn wsL_law wsX2_unlead := goodIn_r _ [112, 32, 102, 103, 5, 104, 64, 65, 66, 311, 312, 313, 314, 315, 316, 317, 318, 319, 320, 321, 322, 323, 324, 325, 326, 327, 328] (by decide +kernel) (by decide +kernel)
set_option maxRecDepth 20000 in
theorem gL_law_X2_unlead : GoodIn wsL_law (wsV RL 39 RX2 yX2_unlead wsX2_unlead) := goodIn_app (goodIn_of _ (by decide +kernel)) ggL_law_X2_unlead
set_option maxRecDepth 20000 in
theorem ggL_law_X1_run : GoodIn wsL_law wsX1_run := goodIn_r _ [116, 117, 118, 119, 95, 96, 2, 97, 120, 121, 122, 123, 124, 125, 126, 16, 127, 128, 129, 130, 13, 15, 131, 132, 133, 134, 17, 135, 136, 137, 138, 139, 140, 141, 142, 143, 144, 145, 146, 147, 148, 149, 150, 151, 39, 152, 153, 154, 53, 155, 156, 157, 158, 159, 160, 161, 162, 163, 164, 165, 166, 167, 168, 169, 170, 171, 172, 173, 174, 175, 176, 177, 178, 179, 180, 181, 182, 183, 184, 185, 186, 187, 188, 301, 302, 303, 304, 305, 306, 307, 308, 309, 310, 329, 330, 331, 332, 333, 334, 335, 336, 337] (by decide +kernel) (by decide +kernel)
set_option maxRecDepth 20000 in
theorem gL_law_X1_run : GoodIn wsL_law (wsV RL 40 RX1 yX1_run wsX1_run) := goodIn_app (goodIn_of _ (by decide +kernel)) ggL_law_X1_run
set_option maxRecDepth 20000 in
theorem ggL_law_X2_run : GoodIn wsL_law wsX2_run := goodIn_r _ [192, 193, 194, 195, 196, 197, 102, 103, 5, 104, 64, 65, 66, 198, 199, 200, 201, 32, 202, 203, 204, 205, 30, 31, 206, 207, 208, 209, 28, 27, 29, 210, 211, 212, 213, 33, 214, 215, 216, 217, 22, 218, 219, 220, 221, 25, 23, 222, 223, 224, 225, 226, 227, 228, 229, 26, 230, 231, 232, 233, 24, 234, 235, 236, 237, 238, 239, 240, 241, 242, 243, 244, 245, 246, 247, 248, 249, 250, 251, 252, 311, 312, 313, 314, 315, 316, 317, 318, 319, 320, 321, 322, 323, 324, 325, 326, 327, 328] (by decide +kernel) (by decide +kernel)
set_option maxRecDepth 20000 in
theorem gL_law_X2_run : GoodIn wsL_law (wsV RL 44 RX2 yX2_run wsX2_run) := goodIn_app (goodIn_of _ (by decide +kernel)) ggL_law_X2_run
set_option maxRecDepth 20000 in
theorem ggL_law_X1_shunt : GoodIn wsL_law wsX1_shunt := goodIn_r _ [256, 119, 13, 41, 42, 2, 43, 120, 121, 122, 131, 132, 133, 134, 17, 257, 258, 259, 260, 151, 39, 152, 153, 154, 53, 155, 156, 157, 158, 301, 302, 303, 304, 305, 306, 307, 308, 309, 310, 329, 330, 331, 332, 333, 334, 335, 336, 337] (by decide +kernel) (by decide +kernel)
set_option maxRecDepth 20000 in
theorem gL_law_X1_shunt : GoodIn wsL_law (wsV RL 45 RX1 yX1_shunt wsX1_shunt) := goodIn_app (goodIn_of _ (by decide +kernel)) ggL_law_X1_shunt
set_option maxRecDepth 20000 in
theorem ggL_law_X2_shunt : GoodIn wsL_law wsX2_shunt := goodIn_r _ [264, 194, 30, 25, 23, 61, 62, 5, 63, 64, 65, 66, 206, 207, 208, 209, 28, 27, 29, 210, 211, 212, 213, 33, 222, 223, 224, 225, 311, 312, 313, 314, 315, 316, 317, 318, 319, 320, 321, 322, 323, 324, 325, 326, 327, 328] (by decide +kernel) (by decide +kernel)
set_option maxRecDepth 20000 in
theorem gL_law_X2_shunt : GoodIn wsL_law (wsV RL 48 RX2 yX2_shunt wsX2_shunt) := goodIn_app (goodIn_of _ (by decide +kernel)) ggL_law_X2_shunt
set_option maxRecDepth 20000 in
theorem ggL_law_X1_passed : GoodIn wsL_law wsX1_passed := goodIn_r _ [268, 118, 301, 302, 303, 304, 305, 306, 307, 308, 309, 310] (by decide +kernel) (by decide +kernel)
set_option maxRecDepth 20000 in
theorem gL_law_X1_passed : GoodIn wsL_law (wsV RL 49 RX1 yX1_passed wsX1_passed) := goodIn_app (goodIn_of _ (by decide +kernel)) ggL_law_X1_passed
set_option maxRecDepth 20000 in
theorem ggL_law_X2_passed : GoodIn wsL_law wsX2_passed := goodIn_r _ [272, 195, 311, 312, 313, 314, 315, 316, 317, 318, 319, 320, 321, 322, 323, 324, 325, 326, 327, 328] (by decide +kernel) (by decide +kernel)
set_option maxRecDepth 20000 in
theorem gL_law_X2_passed : GoodIn wsL_law (wsV RL 53 RX2 yX2_passed wsX2_passed) := goodIn_app (goodIn_of _ (by decide +kernel)) ggL_law_X2_passed
set_option maxRecDepth 20000 in
theorem ggL_law_X1_trace : GoodIn wsL_law wsX1_trace := goodIn_r _ [276, 119, 17, 301, 302, 303, 304, 305, 306, 307, 308, 309, 310] (by decide +kernel) (by decide +kernel)
set_option maxRecDepth 20000 in
theorem gL_law_X1_trace : GoodIn wsL_law (wsV RL 54 RX1 yX1_trace wsX1_trace) := goodIn_app (goodIn_of _ (by decide +kernel)) ggL_law_X1_trace
set_option maxRecDepth 20000 in
theorem ggL_law_X2_trace : GoodIn wsL_law wsX2_trace := goodIn_r _ [280, 194, 33, 64, 65, 5, 66, 311, 312, 313, 314, 315, 316, 317, 318, 319, 320, 321, 322, 323, 324, 325, 326, 327, 328] (by decide +kernel) (by decide +kernel)
set_option maxRecDepth 20000 in
theorem gL_law_X2_trace : GoodIn wsL_law (wsV RL 57 RX2 yX2_trace wsX2_trace) := goodIn_app (goodIn_of _ (by decide +kernel)) ggL_law_X2_trace
set_option maxRecDepth 20000 in
theorem ggL_law_X1_told : GoodIn wsL_law wsX1_told := goodIn_r _ [284, 13, 41, 42, 2, 43, 301, 302, 303, 304, 305, 306, 307, 308, 309, 310, 329, 330, 331, 332, 333, 334, 335, 336, 337] (by decide +kernel) (by decide +kernel)
set_option maxRecDepth 20000 in
theorem gL_law_X1_told : GoodIn wsL_law (wsV RL 58 RX1 yX1_told wsX1_told) := goodIn_app (goodIn_of _ (by decide +kernel)) ggL_law_X1_told
set_option maxRecDepth 20000 in
theorem ggL_law_X2_told : GoodIn wsL_law wsX2_told := goodIn_r _ [288, 30, 22, 23, 24, 25, 26, 27, 28, 29, 61, 62, 5, 63, 64, 65, 66, 311, 312, 313, 314, 315, 316, 317, 318, 319, 320, 321, 322, 323, 324, 325, 326, 327, 328] (by decide +kernel) (by decide +kernel)
set_option maxRecDepth 20000 in
theorem gL_law_X2_told : GoodIn wsL_law (wsV RL 61 RX2 yX2_told wsX2_told) := goodIn_app (goodIn_of _ (by decide +kernel)) ggL_law_X2_told
set_option maxRecDepth 20000 in
theorem ggL_law_X1_count : GoodIn wsL_law wsX1_count := goodIn_r _ [292, 40, 117, 167, 168, 16, 293, 294, 295, 2, 296, 13, 95, 96, 97, 301, 302, 303, 304, 305, 306, 307, 308, 309, 310] (by decide +kernel) (by decide +kernel)
set_option maxRecDepth 20000 in
theorem gL_law_X1_count : GoodIn wsL_law (wsV RL 62 RX1 yX1_count wsX1_count) := goodIn_app (goodIn_of _ (by decide +kernel)) ggL_law_X1_count
set_option maxRecDepth 20000 in
theorem ggL_law_X2_count : GoodIn wsL_law wsX2_count := goodIn_r _ [300, 32, 30, 60, 193, 196, 197, 64, 65, 5, 66, 311, 312, 313, 314, 315, 316, 317, 318, 319, 320, 321, 322, 323, 324, 325, 326, 327, 328] (by decide +kernel) (by decide +kernel)
set_option maxRecDepth 20000 in
theorem gL_law_X2_count : GoodIn wsL_law (wsV RL 65 RX2 yX2_count wsX2_count) := goodIn_app (goodIn_of _ (by decide +kernel)) ggL_law_X2_count
abbrev vwCl : List vw_C := [(RX0, TX0, 9), (RX1, TX1, 10), (RX2, TX2, 18)]
