section
-- ===== PART A: goes FIRST, ahead of the names: the tables' words, and 'selects' of the private methods out of them =====
/-- a private method of a class that the tables say can be made, by its rows of tables_1 -/
def lw_okq (q : MethodName × Nat) : Prop := (q.1.cls ≠ "java/lang/invoke/MethodHandle" ∧ q.1.cls ≠ "java/lang/invoke/VarHandle") ∧ Cond.instantiable q.1.cls q.2 ∈ tables_1 ∧ Cond.privateMethod q.1 ∈ tables_1 ∧ Cond.instanceMethod q.1 ∈ tables_1
theorem lw_p0 : lw_okq (⟨"SignalBox", "goAlone", "(III)I"⟩, 10) := ⟨⟨by decide +kernel, by decide +kernel⟩, List.mem_of_getElem? (i := 5) (by decide +kernel), List.mem_of_getElem? (i := 126) (by decide +kernel), List.mem_of_getElem? (i := 127) (by decide +kernel)⟩
theorem lw_p1 : lw_okq (⟨"SignalBox", "sectionOn", "(II)LSignalBox$Section;"⟩, 10) := ⟨⟨by decide +kernel, by decide +kernel⟩, List.mem_of_getElem? (i := 5) (by decide +kernel), List.mem_of_getElem? (i := 130) (by decide +kernel), List.mem_of_getElem? (i := 131) (by decide +kernel)⟩
theorem lw_p2 : lw_okq (⟨"SignalBox", "claim", "(LSignalBox$Section;)V"⟩, 10) := ⟨⟨by decide +kernel, by decide +kernel⟩, List.mem_of_getElem? (i := 5) (by decide +kernel), List.mem_of_getElem? (i := 134) (by decide +kernel), List.mem_of_getElem? (i := 135) (by decide +kernel)⟩
theorem lw_p3 : lw_okq (⟨"SignalBox", "pass", "(LSignalBox$Section;I)I"⟩, 10) := ⟨⟨by decide +kernel, by decide +kernel⟩, List.mem_of_getElem? (i := 5) (by decide +kernel), List.mem_of_getElem? (i := 138) (by decide +kernel), List.mem_of_getElem? (i := 139) (by decide +kernel)⟩
theorem lw_p4 : lw_okq (⟨"SignalBox", "passBridge", "(LSignalBox$Section;I)I"⟩, 10) := ⟨⟨by decide +kernel, by decide +kernel⟩, List.mem_of_getElem? (i := 5) (by decide +kernel), List.mem_of_getElem? (i := 142) (by decide +kernel), List.mem_of_getElem? (i := 143) (by decide +kernel)⟩
theorem lw_p5 : lw_okq (⟨"SignalBox", "passPoints", "(LSignalBox$Section;I)I"⟩, 10) := ⟨⟨by decide +kernel, by decide +kernel⟩, List.mem_of_getElem? (i := 5) (by decide +kernel), List.mem_of_getElem? (i := 146) (by decide +kernel), List.mem_of_getElem? (i := 147) (by decide +kernel)⟩
theorem lw_p6 : lw_okq (⟨"SignalBox", "passPlain", "(LSignalBox$Section;I)I"⟩, 10) := ⟨⟨by decide +kernel, by decide +kernel⟩, List.mem_of_getElem? (i := 5) (by decide +kernel), List.mem_of_getElem? (i := 150) (by decide +kernel), List.mem_of_getElem? (i := 151) (by decide +kernel)⟩
theorem lw_p7 : lw_okq (⟨"SignalBox$Section", "hasRoomFor", "(I)Z"⟩, 9) := ⟨⟨by decide +kernel, by decide +kernel⟩, List.mem_of_getElem? (i := 57) (by decide +kernel), List.mem_of_getElem? (i := 154) (by decide +kernel), List.mem_of_getElem? (i := 155) (by decide +kernel)⟩
theorem lw_p8 : lw_okq (⟨"SignalBox", "let", "(LSignalBox$Section;)V"⟩, 10) := ⟨⟨by decide +kernel, by decide +kernel⟩, List.mem_of_getElem? (i := 5) (by decide +kernel), List.mem_of_getElem? (i := 158) (by decide +kernel), List.mem_of_getElem? (i := 159) (by decide +kernel)⟩
theorem lw_p9 : lw_okq (⟨"SignalBox", "answerTo", "(II)I"⟩, 10) := ⟨⟨by decide +kernel, by decide +kernel⟩, List.mem_of_getElem? (i := 5) (by decide +kernel), List.mem_of_getElem? (i := 162) (by decide +kernel), List.mem_of_getElem? (i := 163) (by decide +kernel)⟩
theorem lw_p10 : lw_okq (⟨"SignalBox", "counted", "(I)I"⟩, 10) := ⟨⟨by decide +kernel, by decide +kernel⟩, List.mem_of_getElem? (i := 5) (by decide +kernel), List.mem_of_getElem? (i := 166) (by decide +kernel), List.mem_of_getElem? (i := 167) (by decide +kernel)⟩
theorem lw_p11 : lw_okq (⟨"SignalBox", "goTwoByTwo", "(II)I"⟩, 10) := ⟨⟨by decide +kernel, by decide +kernel⟩, List.mem_of_getElem? (i := 5) (by decide +kernel), List.mem_of_getElem? (i := 170) (by decide +kernel), List.mem_of_getElem? (i := 171) (by decide +kernel)⟩
theorem lw_p12 : lw_okq (⟨"SignalBox", "goAll", "(II)I"⟩, 10) := ⟨⟨by decide +kernel, by decide +kernel⟩, List.mem_of_getElem? (i := 5) (by decide +kernel), List.mem_of_getElem? (i := 174) (by decide +kernel), List.mem_of_getElem? (i := 175) (by decide +kernel)⟩
theorem lw_p13 : lw_okq (⟨"SignalBox", "claimAll", "(I)I"⟩, 10) := ⟨⟨by decide +kernel, by decide +kernel⟩, List.mem_of_getElem? (i := 5) (by decide +kernel), List.mem_of_getElem? (i := 178) (by decide +kernel), List.mem_of_getElem? (i := 179) (by decide +kernel)⟩
theorem lw_p14 : lw_okq (⟨"SignalBox", "letAll", "(II)V"⟩, 10) := ⟨⟨by decide +kernel, by decide +kernel⟩, List.mem_of_getElem? (i := 5) (by decide +kernel), List.mem_of_getElem? (i := 182) (by decide +kernel), List.mem_of_getElem? (i := 183) (by decide +kernel)⟩
theorem lw_p15 : lw_okq (⟨"SignalBox", "goFirst", "(II)I"⟩, 10) := ⟨⟨by decide +kernel, by decide +kernel⟩, List.mem_of_getElem? (i := 5) (by decide +kernel), List.mem_of_getElem? (i := 186) (by decide +kernel), List.mem_of_getElem? (i := 187) (by decide +kernel)⟩
def lw_privs_1 : List (MethodName × Nat) := [(⟨"SignalBox", "goAlone", "(III)I"⟩, 10), (⟨"SignalBox", "sectionOn", "(II)LSignalBox$Section;"⟩, 10), (⟨"SignalBox", "claim", "(LSignalBox$Section;)V"⟩, 10), (⟨"SignalBox", "pass", "(LSignalBox$Section;I)I"⟩, 10), (⟨"SignalBox", "passBridge", "(LSignalBox$Section;I)I"⟩, 10), (⟨"SignalBox", "passPoints", "(LSignalBox$Section;I)I"⟩, 10), (⟨"SignalBox", "passPlain", "(LSignalBox$Section;I)I"⟩, 10), (⟨"SignalBox$Section", "hasRoomFor", "(I)Z"⟩, 9), (⟨"SignalBox", "let", "(LSignalBox$Section;)V"⟩, 10), (⟨"SignalBox", "answerTo", "(II)I"⟩, 10), (⟨"SignalBox", "counted", "(I)I"⟩, 10), (⟨"SignalBox", "goTwoByTwo", "(II)I"⟩, 10), (⟨"SignalBox", "goAll", "(II)I"⟩, 10), (⟨"SignalBox", "claimAll", "(I)I"⟩, 10), (⟨"SignalBox", "letAll", "(II)V"⟩, 10), (⟨"SignalBox", "goFirst", "(II)I"⟩, 10)]
theorem lw_r1 : ∀ q ∈ lw_privs_1, lw_okq q := List.forall_mem_cons.mpr ⟨lw_p0, List.forall_mem_cons.mpr ⟨lw_p1, List.forall_mem_cons.mpr ⟨lw_p2, List.forall_mem_cons.mpr ⟨lw_p3, List.forall_mem_cons.mpr ⟨lw_p4, List.forall_mem_cons.mpr ⟨lw_p5, List.forall_mem_cons.mpr ⟨lw_p6, List.forall_mem_cons.mpr ⟨lw_p7, List.forall_mem_cons.mpr ⟨lw_p8, List.forall_mem_cons.mpr ⟨lw_p9, List.forall_mem_cons.mpr ⟨lw_p10, List.forall_mem_cons.mpr ⟨lw_p11, List.forall_mem_cons.mpr ⟨lw_p12, List.forall_mem_cons.mpr ⟨lw_p13, List.forall_mem_cons.mpr ⟨lw_p14, List.forall_mem_cons.mpr ⟨lw_p15, fun _ h => absurd h List.not_mem_nil⟩⟩⟩⟩⟩⟩⟩⟩⟩⟩⟩⟩⟩⟩⟩⟩
theorem lw_p16 : lw_okq (⟨"SignalBox", "shuntOnto", "(LSignalBox$Section;LSignalBox$Section;I)I"⟩, 10) := ⟨⟨by decide +kernel, by decide +kernel⟩, List.mem_of_getElem? (i := 5) (by decide +kernel), List.mem_of_getElem? (i := 194) (by decide +kernel), List.mem_of_getElem? (i := 195) (by decide +kernel)⟩
theorem lw_p17 : lw_okq (⟨"SignalBox", "countStanding", "()I"⟩, 10) := ⟨⟨by decide +kernel, by decide +kernel⟩, List.mem_of_getElem? (i := 5) (by decide +kernel), List.mem_of_getElem? (i := 214) (by decide +kernel), List.mem_of_getElem? (i := 215) (by decide +kernel)⟩
theorem lw_p18 : lw_okq (⟨"SignalBoxModel", "alone", "(II)I"⟩, 18) := ⟨⟨by decide +kernel, by decide +kernel⟩, List.mem_of_getElem? (i := 218) (by decide +kernel), List.mem_of_getElem? (i := 317) (by decide +kernel), List.mem_of_getElem? (i := 318) (by decide +kernel)⟩
theorem lw_p19 : lw_okq (⟨"SignalBoxModel", "sectionOf", "(II)I"⟩, 18) := ⟨⟨by decide +kernel, by decide +kernel⟩, List.mem_of_getElem? (i := 218) (by decide +kernel), List.mem_of_getElem? (i := 321) (by decide +kernel), List.mem_of_getElem? (i := 322) (by decide +kernel)⟩
theorem lw_p20 : lw_okq (⟨"SignalBoxModel", "claim", "(I)V"⟩, 18) := ⟨⟨by decide +kernel, by decide +kernel⟩, List.mem_of_getElem? (i := 218) (by decide +kernel), List.mem_of_getElem? (i := 325) (by decide +kernel), List.mem_of_getElem? (i := 326) (by decide +kernel)⟩
theorem lw_p21 : lw_okq (⟨"SignalBoxModel", "leave", "(I)V"⟩, 18) := ⟨⟨by decide +kernel, by decide +kernel⟩, List.mem_of_getElem? (i := 218) (by decide +kernel), List.mem_of_getElem? (i := 329) (by decide +kernel), List.mem_of_getElem? (i := 330) (by decide +kernel)⟩
theorem lw_p22 : lw_okq (⟨"SignalBoxModel", "pass", "(II)I"⟩, 18) := ⟨⟨by decide +kernel, by decide +kernel⟩, List.mem_of_getElem? (i := 218) (by decide +kernel), List.mem_of_getElem? (i := 333) (by decide +kernel), List.mem_of_getElem? (i := 334) (by decide +kernel)⟩
theorem lw_p23 : lw_okq (⟨"SignalBoxModel", "passPlain", "(II)I"⟩, 18) := ⟨⟨by decide +kernel, by decide +kernel⟩, List.mem_of_getElem? (i := 218) (by decide +kernel), List.mem_of_getElem? (i := 337) (by decide +kernel), List.mem_of_getElem? (i := 338) (by decide +kernel)⟩
theorem lw_p24 : lw_okq (⟨"SignalBoxModel", "let", "(I)V"⟩, 18) := ⟨⟨by decide +kernel, by decide +kernel⟩, List.mem_of_getElem? (i := 218) (by decide +kernel), List.mem_of_getElem? (i := 341) (by decide +kernel), List.mem_of_getElem? (i := 342) (by decide +kernel)⟩
theorem lw_p25 : lw_okq (⟨"SignalBoxModel", "passPoints", "(II)I"⟩, 18) := ⟨⟨by decide +kernel, by decide +kernel⟩, List.mem_of_getElem? (i := 218) (by decide +kernel), List.mem_of_getElem? (i := 345) (by decide +kernel), List.mem_of_getElem? (i := 346) (by decide +kernel)⟩
theorem lw_p26 : lw_okq (⟨"SignalBoxModel", "passBridge", "(II)I"⟩, 18) := ⟨⟨by decide +kernel, by decide +kernel⟩, List.mem_of_getElem? (i := 218) (by decide +kernel), List.mem_of_getElem? (i := 349) (by decide +kernel), List.mem_of_getElem? (i := 350) (by decide +kernel)⟩
theorem lw_p27 : lw_okq (⟨"SignalBoxModel", "twoByTwo", "(II)I"⟩, 18) := ⟨⟨by decide +kernel, by decide +kernel⟩, List.mem_of_getElem? (i := 218) (by decide +kernel), List.mem_of_getElem? (i := 356) (by decide +kernel), List.mem_of_getElem? (i := 357) (by decide +kernel)⟩
theorem lw_p28 : lw_okq (⟨"SignalBoxModel", "all", "(II)I"⟩, 18) := ⟨⟨by decide +kernel, by decide +kernel⟩, List.mem_of_getElem? (i := 218) (by decide +kernel), List.mem_of_getElem? (i := 360) (by decide +kernel), List.mem_of_getElem? (i := 361) (by decide +kernel)⟩
theorem lw_p29 : lw_okq (⟨"SignalBoxModel", "first", "(II)I"⟩, 18) := ⟨⟨by decide +kernel, by decide +kernel⟩, List.mem_of_getElem? (i := 218) (by decide +kernel), List.mem_of_getElem? (i := 364) (by decide +kernel), List.mem_of_getElem? (i := 365) (by decide +kernel)⟩
theorem lw_p30 : lw_okq (⟨"SignalBoxModel", "round", "(II)I"⟩, 18) := ⟨⟨by decide +kernel, by decide +kernel⟩, List.mem_of_getElem? (i := 218) (by decide +kernel), List.mem_of_getElem? (i := 368) (by decide +kernel), List.mem_of_getElem? (i := 369) (by decide +kernel)⟩
def lw_privs_2 : List (MethodName × Nat) := [(⟨"SignalBox", "shuntOnto", "(LSignalBox$Section;LSignalBox$Section;I)I"⟩, 10), (⟨"SignalBox", "countStanding", "()I"⟩, 10), (⟨"SignalBoxModel", "alone", "(II)I"⟩, 18), (⟨"SignalBoxModel", "sectionOf", "(II)I"⟩, 18), (⟨"SignalBoxModel", "claim", "(I)V"⟩, 18), (⟨"SignalBoxModel", "leave", "(I)V"⟩, 18), (⟨"SignalBoxModel", "pass", "(II)I"⟩, 18), (⟨"SignalBoxModel", "passPlain", "(II)I"⟩, 18), (⟨"SignalBoxModel", "let", "(I)V"⟩, 18), (⟨"SignalBoxModel", "passPoints", "(II)I"⟩, 18), (⟨"SignalBoxModel", "passBridge", "(II)I"⟩, 18), (⟨"SignalBoxModel", "twoByTwo", "(II)I"⟩, 18), (⟨"SignalBoxModel", "all", "(II)I"⟩, 18), (⟨"SignalBoxModel", "first", "(II)I"⟩, 18), (⟨"SignalBoxModel", "round", "(II)I"⟩, 18)]
theorem lw_r2 : ∀ q ∈ lw_privs_2, lw_okq q := List.forall_mem_cons.mpr ⟨lw_p16, List.forall_mem_cons.mpr ⟨lw_p17, List.forall_mem_cons.mpr ⟨lw_p18, List.forall_mem_cons.mpr ⟨lw_p19, List.forall_mem_cons.mpr ⟨lw_p20, List.forall_mem_cons.mpr ⟨lw_p21, List.forall_mem_cons.mpr ⟨lw_p22, List.forall_mem_cons.mpr ⟨lw_p23, List.forall_mem_cons.mpr ⟨lw_p24, List.forall_mem_cons.mpr ⟨lw_p25, List.forall_mem_cons.mpr ⟨lw_p26, List.forall_mem_cons.mpr ⟨lw_p27, List.forall_mem_cons.mpr ⟨lw_p28, List.forall_mem_cons.mpr ⟨lw_p29, List.forall_mem_cons.mpr ⟨lw_p30, fun _ h => absurd h List.not_mem_nil⟩⟩⟩⟩⟩⟩⟩⟩⟩⟩⟩⟩⟩⟩⟩
def lw_privs : List (MethodName × Nat) := lw_privs_1 ++ (lw_privs_2)
def lw_tbl : List Cond := k2_sels lw_privs ++ tables_1
theorem lw_privs_ok : ∀ q ∈ lw_privs, lw_okq q := by
  show ∀ q ∈ lw_privs_1 ++ (lw_privs_2), lw_okq q
  exact List.forall_mem_append.mpr ⟨lw_r1, lw_r2⟩
end
section
/-! ===== BEGIN words of one list among another's, by their places ===== -/
theorem goodIn_r {big : List Cond} (ws : List Cond) (ps : List Nat) (hp : ws = ps.filterMap (fun i => big[i]?)) (h : ws.all goodWord = true) : GoodIn big ws := by
  intro w hw
  have h1 := List.all_eq_true.mp h w hw
  rw [hp] at hw
  obtain ⟨i, -, hi⟩ := List.mem_filterMap.mp hw
  have hm : w ∈ big := by first | exact List.mem_of_getElem? hi | exact List.getElem?_mem hi
  exact ⟨hm, good_of_word h1⟩
theorem goodIn_app {big a b : List Cond} (ha : GoodIn big a) (hb : GoodIn big b) : GoodIn big (a ++ b) := fun w h => (List.mem_append.mp h).elim (ha w) (hb w)
theorem goodIn_ca {big a b : List Cond} {c : Cond} (ha : GoodIn big (c :: a)) (hb : GoodIn big b) : GoodIn big (c :: (a ++ b)) := fun w h => (List.mem_cons.mp h).elim (fun e => ha w (List.mem_cons.mpr (Or.inl e))) (fun h => (List.mem_append.mp h).elim (fun h => ha w (List.mem_cons.mpr (Or.inr h))) (hb w))
theorem goodIn_sub {big ws : List Cond} (hm : ∀ w ∈ ws, w ∈ big) (h : ws.all goodWord = true) : GoodIn big ws := fun w hw => ⟨hm w hw, good_of_word (List.all_eq_true.mp h w hw)⟩
/-! ===== END ===== -/

/-! ===== BEGIN printed: names, fields, word lists, decode rows ===== -/
def RX0 : String := "SignalBox$Section"
def TX0 : u_T := fun k => match k with
  | 0 => ("SignalBox$Section", "number", "I", true)
  | 1 => ("SignalBox$Section", "kind", "I", true)
  | 2 => ("SignalBox$Section", "limit", "I", true)
  | 3 => ("SignalBox$Section", "mark", "I", false)
  | 4 => ("SignalBox$Section", "axles", "I", false)
  | 5 => ("SignalBox$Section", "leg", "I", false)
  | 6 => ("SignalBox$Section", "claims", "I", false)
  | 7 => ("SignalBox$Section", "held", "I", false)
  | _ => ("SignalBox$Section", "most", "I", false)
def tyX0 : Nat → FieldType := fun k => match k with
  | 0 => .int
  | 1 => .int
  | 2 => .int
  | 3 => .int
  | 4 => .int
  | 5 => .int
  | 6 => .int
  | 7 => .int
  | _ => .int
abbrev wsX00 : List Cond := u_ws RX0 TX0 9
theorem nmX0 : ∀ a, a < 9 → ∀ b, b < 9 → a ≠ b → (TX0 a).2.1 ≠ (TX0 b).2.1 := by decide +kernel
theorem tyX0_ok : ∀ k, k < 9 → parseFieldDescriptor (TX0 k).2.2.1 = some (tyX0 k) := by decide +kernel
abbrev cX0_init : ByteArray := prog_2_method_1_code
def yX0_init : MethodName := ⟨RX0, "<init>", "(IIII)V"⟩
abbrev cX0_hasRoomFor : ByteArray := prog_2_method_2_code
def yX0_hasRoomFor : MethodName := ⟨RX0, "hasRoomFor", "(I)Z"⟩
def RX1 : String := "SignalBox"
def TX1 : u_T := fun k => match k with
  | 0 => ("SignalBox", "standing", "[LSignalBox$Section;", true)
  | 1 => ("SignalBox", "routePlaces", "[I", true)
  | 2 => ("SignalBox", "routeLengths", "[I", true)
  | 3 => ("SignalBox", "trace", "[I", true)
  | 4 => ("SignalBox", "traceLength", "I", false)
  | 5 => ("SignalBox", "made", "I", false)
  | 6 => ("SignalBox", "runs", "I", false)
  | 7 => ("SignalBox", "nullFailures", "I", false)
  | 8 => ("SignalBox", "fullFailures", "I", false)
  | _ => ("SignalBox", "passed", "I", false)
def tyX1 : Nat → FieldType := fun k => match k with
  | 0 => .array (.object "SignalBox$Section")
  | 1 => .array .int
  | 2 => .array .int
  | 3 => .array .int
  | 4 => .int
  | 5 => .int
  | 6 => .int
  | 7 => .int
  | 8 => .int
  | _ => .int
abbrev wsX10 : List Cond := u_ws RX1 TX1 10
theorem nmX1 : ∀ a, a < 10 → ∀ b, b < 10 → a ≠ b → (TX1 a).2.1 ≠ (TX1 b).2.1 := by decide +kernel
theorem tyX1_ok : ∀ k, k < 10 → parseFieldDescriptor (TX1 k).2.2.1 = some (tyX1 k) := by decide +kernel
abbrev cX1_init : ByteArray := prog_1_method_1_code
def yX1_init : MethodName := ⟨RX1, "<init>", "()V"⟩
abbrev cX1_section : ByteArray := prog_1_method_2_code
def yX1_section : MethodName := ⟨RX1, "section", "(IIII)I"⟩
abbrev cX1_share : ByteArray := prog_1_method_3_code
def yX1_share : MethodName := ⟨RX1, "share", "(II)I"⟩
abbrev cX1_remove : ByteArray := prog_1_method_4_code
def yX1_remove : MethodName := ⟨RX1, "remove", "(I)I"⟩
abbrev cX1_same : ByteArray := prog_1_method_5_code
def yX1_same : MethodName := ⟨RX1, "same", "(II)I"⟩
abbrev cX1_lead : ByteArray := prog_1_method_6_code
def yX1_lead : MethodName := ⟨RX1, "lead", "(II)I"⟩
abbrev cX1_unlead : ByteArray := prog_1_method_7_code
def yX1_unlead : MethodName := ⟨RX1, "unlead", "(I)I"⟩
abbrev cX1_run : ByteArray := prog_1_method_8_code
def yX1_run : MethodName := ⟨RX1, "run", "(III)I"⟩
abbrev cX1_shunt : ByteArray := prog_1_method_9_code
def yX1_shunt : MethodName := ⟨RX1, "shunt", "(III)I"⟩
abbrev cX1_passed : ByteArray := prog_1_method_10_code
def yX1_passed : MethodName := ⟨RX1, "passed", "()I"⟩
abbrev cX1_trace : ByteArray := prog_1_method_11_code
def yX1_trace : MethodName := ⟨RX1, "trace", "(I)I"⟩
abbrev cX1_told : ByteArray := prog_1_method_12_code
def yX1_told : MethodName := ⟨RX1, "told", "(II)I"⟩
abbrev cX1_count : ByteArray := prog_1_method_13_code
def yX1_count : MethodName := ⟨RX1, "count", "(I)I"⟩
abbrev cX1_isPlace : ByteArray := prog_1_method_14_code
def yX1_isPlace : MethodName := ⟨RX1, "isPlace", "(I)Z"⟩
abbrev cX1_isRoute : ByteArray := prog_1_method_15_code
def yX1_isRoute : MethodName := ⟨RX1, "isRoute", "(I)Z"⟩
abbrev cX1_isAxles : ByteArray := prog_1_method_16_code
def yX1_isAxles : MethodName := ⟨RX1, "isAxles", "(I)Z"⟩
abbrev cX1_isLimit : ByteArray := prog_1_method_17_code
def yX1_isLimit : MethodName := ⟨RX1, "isLimit", "(I)Z"⟩
abbrev cX1_countStanding : ByteArray := prog_1_method_18_code
def yX1_countStanding : MethodName := ⟨RX1, "countStanding", "()I"⟩
abbrev cX1_counted : ByteArray := prog_1_method_19_code
def yX1_counted : MethodName := ⟨RX1, "counted", "(I)I"⟩
abbrev cX1_goAlone : ByteArray := prog_1_method_20_code
def yX1_goAlone : MethodName := ⟨RX1, "goAlone", "(III)I"⟩
abbrev cX1_goTwoByTwo : ByteArray := prog_1_method_21_code
def yX1_goTwoByTwo : MethodName := ⟨RX1, "goTwoByTwo", "(II)I"⟩
abbrev cX1_goAll : ByteArray := prog_1_method_22_code
def yX1_goAll : MethodName := ⟨RX1, "goAll", "(II)I"⟩
abbrev cX1_claimAll : ByteArray := prog_1_method_23_code
def yX1_claimAll : MethodName := ⟨RX1, "claimAll", "(I)I"⟩
abbrev cX1_letAll : ByteArray := prog_1_method_24_code
def yX1_letAll : MethodName := ⟨RX1, "letAll", "(II)V"⟩
abbrev cX1_goFirst : ByteArray := prog_1_method_25_code
def yX1_goFirst : MethodName := ⟨RX1, "goFirst", "(II)I"⟩
abbrev cX1_sectionOn : ByteArray := prog_1_method_26_code
def yX1_sectionOn : MethodName := ⟨RX1, "sectionOn", "(II)LSignalBox$Section;"⟩
abbrev cX1_answerTo : ByteArray := prog_1_method_27_code
def yX1_answerTo : MethodName := ⟨RX1, "answerTo", "(II)I"⟩
abbrev cX1_pass : ByteArray := prog_1_method_28_code
def yX1_pass : MethodName := ⟨RX1, "pass", "(LSignalBox$Section;I)I"⟩
abbrev cX1_passBridge : ByteArray := prog_1_method_29_code
def yX1_passBridge : MethodName := ⟨RX1, "passBridge", "(LSignalBox$Section;I)I"⟩
abbrev cX1_passPoints : ByteArray := prog_1_method_30_code
def yX1_passPoints : MethodName := ⟨RX1, "passPoints", "(LSignalBox$Section;I)I"⟩
abbrev cX1_passPlain : ByteArray := prog_1_method_31_code
def yX1_passPlain : MethodName := ⟨RX1, "passPlain", "(LSignalBox$Section;I)I"⟩
abbrev cX1_shuntOnto : ByteArray := prog_1_method_32_code
def yX1_shuntOnto : MethodName := ⟨RX1, "shuntOnto", "(LSignalBox$Section;LSignalBox$Section;I)I"⟩
abbrev cX1_claim : ByteArray := prog_1_method_33_code
def yX1_claim : MethodName := ⟨RX1, "claim", "(LSignalBox$Section;)V"⟩
abbrev cX1_let : ByteArray := prog_1_method_34_code
def yX1_let : MethodName := ⟨RX1, "let", "(LSignalBox$Section;)V"⟩
def RX2 : String := "SignalBoxModel"
def TX2 : u_T := fun k => match k with
  | 0 => ("SignalBoxModel", "made", "I", false)
  | 1 => ("SignalBoxModel", "kinds", "[I", true)
  | 2 => ("SignalBoxModel", "limits", "[I", true)
  | 3 => ("SignalBoxModel", "marks", "[I", true)
  | 4 => ("SignalBoxModel", "axles", "[I", true)
  | 5 => ("SignalBoxModel", "legs", "[I", true)
  | 6 => ("SignalBoxModel", "claims", "[I", true)
  | 7 => ("SignalBoxModel", "held", "[I", true)
  | 8 => ("SignalBoxModel", "most", "[I", true)
  | 9 => ("SignalBoxModel", "at", "[I", true)
  | 10 => ("SignalBoxModel", "routes", "[I", true)
  | 11 => ("SignalBoxModel", "lengths", "[I", true)
  | 12 => ("SignalBoxModel", "trace", "[I", true)
  | 13 => ("SignalBoxModel", "traced", "I", false)
  | 14 => ("SignalBoxModel", "passed", "I", false)
  | 15 => ("SignalBoxModel", "runs", "I", false)
  | 16 => ("SignalBoxModel", "nulls", "I", false)
  | _ => ("SignalBoxModel", "fulls", "I", false)
def tyX2 : Nat → FieldType := fun k => match k with
  | 0 => .int
  | 1 => .array .int
  | 2 => .array .int
  | 3 => .array .int
  | 4 => .array .int
  | 5 => .array .int
  | 6 => .array .int
  | 7 => .array .int
  | 8 => .array .int
  | 9 => .array .int
  | 10 => .array .int
  | 11 => .array .int
  | 12 => .array .int
  | 13 => .int
  | 14 => .int
  | 15 => .int
  | 16 => .int
  | _ => .int
abbrev wsX20 : List Cond := u_ws RX2 TX2 18
theorem nmX2 : ∀ a, a < 18 → ∀ b, b < 18 → a ≠ b → (TX2 a).2.1 ≠ (TX2 b).2.1 := by decide +kernel
theorem tyX2_ok : ∀ k, k < 18 → parseFieldDescriptor (TX2 k).2.2.1 = some (tyX2 k) := by decide +kernel
abbrev cX2_init : ByteArray := prog_4_method_1_code
def yX2_init : MethodName := ⟨RX2, "<init>", "()V"⟩
abbrev cX2_in : ByteArray := prog_4_method_3_code
def yX2_in : MethodName := ⟨RX2, "in", "(III)Z"⟩
abbrev cX2_isPlace : ByteArray := prog_4_method_4_code
def yX2_isPlace : MethodName := ⟨RX2, "isPlace", "(I)Z"⟩
abbrev cX2_isRoute : ByteArray := prog_4_method_5_code
def yX2_isRoute : MethodName := ⟨RX2, "isRoute", "(I)Z"⟩
abbrev cX2_section : ByteArray := prog_4_method_6_code
def yX2_section : MethodName := ⟨RX2, "section", "(IIII)I"⟩
abbrev cX2_share : ByteArray := prog_4_method_7_code
def yX2_share : MethodName := ⟨RX2, "share", "(II)I"⟩
abbrev cX2_remove : ByteArray := prog_4_method_8_code
def yX2_remove : MethodName := ⟨RX2, "remove", "(I)I"⟩
abbrev cX2_same : ByteArray := prog_4_method_9_code
def yX2_same : MethodName := ⟨RX2, "same", "(II)I"⟩
abbrev cX2_lead : ByteArray := prog_4_method_10_code
def yX2_lead : MethodName := ⟨RX2, "lead", "(II)I"⟩
abbrev cX2_unlead : ByteArray := prog_4_method_11_code
def yX2_unlead : MethodName := ⟨RX2, "unlead", "(I)I"⟩
abbrev cX2_leave : ByteArray := prog_4_method_12_code
def yX2_leave : MethodName := ⟨RX2, "leave", "(I)V"⟩
abbrev cX2_claim : ByteArray := prog_4_method_13_code
def yX2_claim : MethodName := ⟨RX2, "claim", "(I)V"⟩
abbrev cX2_let : ByteArray := prog_4_method_14_code
def yX2_let : MethodName := ⟨RX2, "let", "(I)V"⟩
abbrev cX2_passPlain : ByteArray := prog_4_method_15_code
def yX2_passPlain : MethodName := ⟨RX2, "passPlain", "(II)I"⟩
abbrev cX2_passPoints : ByteArray := prog_4_method_16_code
def yX2_passPoints : MethodName := ⟨RX2, "passPoints", "(II)I"⟩
abbrev cX2_passBridge : ByteArray := prog_4_method_17_code
def yX2_passBridge : MethodName := ⟨RX2, "passBridge", "(II)I"⟩
abbrev cX2_pass : ByteArray := prog_4_method_18_code
def yX2_pass : MethodName := ⟨RX2, "pass", "(II)I"⟩
abbrev cX2_sectionOf : ByteArray := prog_4_method_19_code
def yX2_sectionOf : MethodName := ⟨RX2, "sectionOf", "(II)I"⟩
abbrev cX2_ended : ByteArray := prog_4_method_20_code
def yX2_ended : MethodName := ⟨RX2, "ended", "(II)I"⟩
abbrev cX2_alone : ByteArray := prog_4_method_21_code
def yX2_alone : MethodName := ⟨RX2, "alone", "(II)I"⟩
abbrev cX2_twoByTwo : ByteArray := prog_4_method_22_code
def yX2_twoByTwo : MethodName := ⟨RX2, "twoByTwo", "(II)I"⟩
abbrev cX2_all : ByteArray := prog_4_method_23_code
def yX2_all : MethodName := ⟨RX2, "all", "(II)I"⟩
abbrev cX2_first : ByteArray := prog_4_method_24_code
def yX2_first : MethodName := ⟨RX2, "first", "(II)I"⟩
abbrev cX2_round : ByteArray := prog_4_method_25_code
def yX2_round : MethodName := ⟨RX2, "round", "(II)I"⟩
abbrev cX2_run : ByteArray := prog_4_method_26_code
def yX2_run : MethodName := ⟨RX2, "run", "(III)I"⟩
abbrev cX2_shunt : ByteArray := prog_4_method_27_code
def yX2_shunt : MethodName := ⟨RX2, "shunt", "(III)I"⟩
abbrev cX2_passed : ByteArray := prog_4_method_28_code
def yX2_passed : MethodName := ⟨RX2, "passed", "()I"⟩
abbrev cX2_trace : ByteArray := prog_4_method_29_code
def yX2_trace : MethodName := ⟨RX2, "trace", "(I)I"⟩
abbrev cX2_told : ByteArray := prog_4_method_30_code
def yX2_told : MethodName := ⟨RX2, "told", "(II)I"⟩
abbrev cX2_count : ByteArray := prog_4_method_31_code
def yX2_count : MethodName := ⟨RX2, "count", "(I)I"⟩
def RL : String := "SignalBoxLaw"
abbrev cL_law : ByteArray := code
def yL_law : MethodName := ⟨RL, "law", "([I)Z"⟩
def wsX0_init : List Cond := .code yX0_init cX0_init 5 none :: ([.methodLink RX0 1 objectInit, .instanceMethod objectInit, .code objectInit ⟨#[0xb1]⟩ 1 none, .fieldLink RX0 7 "SignalBox$Section" "number" "I", .fieldLink RX0 13 "SignalBox$Section" "kind" "I", .fieldLink RX0 16 "SignalBox$Section" "limit" "I", .fieldLink RX0 19 "SignalBox$Section" "mark" "I"] ++ wsX00)
def wsX0_hasRoomFor : List Cond := .code yX0_hasRoomFor cX0_hasRoomFor 2 (some .boolean) :: ([.fieldLink RX0 22 "SignalBox$Section" "axles" "I", .fieldLink RX0 16 "SignalBox$Section" "limit" "I"] ++ wsX00)
def wsX1_init : List Cond := .code yX1_init cX1_init 1 none :: ([.methodLink RX1 1 objectInit, .instanceMethod objectInit, .code objectInit ⟨#[0xb1]⟩ 1 none, .classLink RX1 9 RX0, .fieldLink RX1 11 "SignalBox" "standing" "[LSignalBox$Section;", .arrayClass .int, .fieldLink RX1 15 "SignalBox" "routePlaces" "[I", .fieldLink RX1 19 "SignalBox" "routeLengths" "[I", .fieldLink RX1 22 "SignalBox" "trace" "[I"] ++ wsX10)
def wsX1_isPlace : List Cond := .code yX1_isPlace cX1_isPlace 1 (some .boolean) :: ([])
def wsX1_isLimit : List Cond := .code yX1_isLimit cX1_isLimit 1 (some .boolean) :: ([.constant RX1 120 (100000)])
def wsX1_section : List Cond := .code yX1_section cX1_section 6 (some .int) :: ([.classLink RX1 9 RX0, .instantiable RX0 9, .initialized RX0, .fieldLink RX1 32 "SignalBox" "made" "I", .fieldLink RX1 11 "SignalBox" "standing" "[LSignalBox$Section;", .methodLink RX1 25 yX1_isPlace, .static yX1_isPlace, .initialized RX1, .code yX1_isPlace cX1_isPlace 1 (some .boolean), .methodLink RX1 29 yX1_isLimit, .static yX1_isLimit, .code yX1_isLimit cX1_isLimit 1 (some .boolean), .constant RX1 120 (100000), .instanceMethod yX0_init, .code yX0_init cX0_init 5 none, .methodLink RX0 1 objectInit, .instanceMethod objectInit, .code objectInit ⟨#[0xb1]⟩ 1 none, .fieldLink RX0 7 "SignalBox$Section" "number" "I", .fieldLink RX0 13 "SignalBox$Section" "kind" "I", .fieldLink RX0 16 "SignalBox$Section" "limit" "I", .fieldLink RX0 19 "SignalBox$Section" "mark" "I"] ++ wsX00 ++ wsX10)
def wsX1_share : List Cond := .code yX1_share cX1_share 3 (some .int) :: ([.fieldLink RX1 11 "SignalBox" "standing" "[LSignalBox$Section;", .methodLink RX1 25 yX1_isPlace, .static yX1_isPlace, .initialized RX1, .code yX1_isPlace cX1_isPlace 1 (some .boolean)] ++ wsX10)
def wsX1_remove : List Cond := .code yX1_remove cX1_remove 3 (some .int) :: ([.fieldLink RX1 11 "SignalBox" "standing" "[LSignalBox$Section;", .methodLink RX1 25 yX1_isPlace, .static yX1_isPlace, .initialized RX1, .code yX1_isPlace cX1_isPlace 1 (some .boolean)] ++ wsX10)
def wsX1_same : List Cond := .code yX1_same cX1_same 3 (some .int) :: ([.fieldLink RX1 11 "SignalBox" "standing" "[LSignalBox$Section;", .methodLink RX1 25 yX1_isPlace, .static yX1_isPlace, .initialized RX1, .code yX1_isPlace cX1_isPlace 1 (some .boolean)] ++ wsX10)
def wsX1_isRoute : List Cond := .code yX1_isRoute cX1_isRoute 1 (some .boolean) :: ([])
def wsX1_lead : List Cond := .code yX1_lead cX1_lead 4 (some .int) :: ([.fieldLink RX1 19 "SignalBox" "routeLengths" "[I", .fieldLink RX1 15 "SignalBox" "routePlaces" "[I", .methodLink RX1 42 yX1_isRoute, .static yX1_isRoute, .initialized RX1, .code yX1_isRoute cX1_isRoute 1 (some .boolean), .methodLink RX1 25 yX1_isPlace, .static yX1_isPlace, .code yX1_isPlace cX1_isPlace 1 (some .boolean)] ++ wsX10)
def wsX1_unlead : List Cond := .code yX1_unlead cX1_unlead 3 (some .int) :: ([.fieldLink RX1 19 "SignalBox" "routeLengths" "[I", .methodLink RX1 42 yX1_isRoute, .static yX1_isRoute, .initialized RX1, .code yX1_isRoute cX1_isRoute 1 (some .boolean)] ++ wsX10)
def wsX1_isAxles : List Cond := .code yX1_isAxles cX1_isAxles 1 (some .boolean) :: ([])
def wsX1_sectionOn : List Cond := .code yX1_sectionOn cX1_sectionOn 3 (some (.object "SignalBox$Section")) :: ([.fieldLink RX1 11 "SignalBox" "standing" "[LSignalBox$Section;", .fieldLink RX1 15 "SignalBox" "routePlaces" "[I"] ++ wsX10)
def wsX1_claim : List Cond := .code yX1_claim cX1_claim 2 none :: ([.fieldLink RX1 54 "SignalBox" "traceLength" "I", .fieldLink RX1 22 "SignalBox" "trace" "[I"] ++ wsX00 ++ wsX10)
def wsX1_let : List Cond := .code yX1_let cX1_let 2 none :: ([.fieldLink RX1 54 "SignalBox" "traceLength" "I", .fieldLink RX1 22 "SignalBox" "trace" "[I"] ++ wsX00 ++ wsX10)
def wsX1_passPlain : List Cond := .code yX1_passPlain cX1_passPlain 4 (some .int) :: ([.methodLink RX1 75 yX1_claim, .instanceMethod yX1_claim, .selects RX1 yX1_claim yX1_claim, .initialized RX1, .code yX1_claim cX1_claim 2 none, .fieldLink RX1 54 "SignalBox" "traceLength" "I", .fieldLink RX1 22 "SignalBox" "trace" "[I", .instanceMethod yX0_hasRoomFor, .initialized RX0, .selects RX0 yX0_hasRoomFor yX0_hasRoomFor, .code yX0_hasRoomFor cX0_hasRoomFor 2 (some .boolean), .fieldLink RX0 22 "SignalBox$Section" "axles" "I", .fieldLink RX0 16 "SignalBox$Section" "limit" "I", .methodLink RX1 83 yX1_let, .instanceMethod yX1_let, .selects RX1 yX1_let yX1_let, .code yX1_let cX1_let 2 none] ++ wsX00 ++ wsX10)
def wsX1_passPoints : List Cond := .code yX1_passPoints cX1_passPoints 4 (some .int) :: ([.methodLink RX1 75 yX1_claim, .instanceMethod yX1_claim, .selects RX1 yX1_claim yX1_claim, .initialized RX1, .code yX1_claim cX1_claim 2 none, .fieldLink RX1 54 "SignalBox" "traceLength" "I", .fieldLink RX1 22 "SignalBox" "trace" "[I", .methodLink RX1 148 yX1_passPlain, .instanceMethod yX1_passPlain, .selects RX1 yX1_passPlain yX1_passPlain, .code yX1_passPlain cX1_passPlain 4 (some .int), .instanceMethod yX0_hasRoomFor, .initialized RX0, .selects RX0 yX0_hasRoomFor yX0_hasRoomFor, .code yX0_hasRoomFor cX0_hasRoomFor 2 (some .boolean), .fieldLink RX0 22 "SignalBox$Section" "axles" "I", .fieldLink RX0 16 "SignalBox$Section" "limit" "I", .methodLink RX1 83 yX1_let, .instanceMethod yX1_let, .selects RX1 yX1_let yX1_let, .code yX1_let cX1_let 2 none] ++ wsX00 ++ wsX10)
def wsX1_passBridge_r1 : List Cond := [Cond.methodLink RX1 75 yX1_claim, Cond.instanceMethod yX1_claim, Cond.selects RX1 yX1_claim yX1_claim, Cond.initialized RX1, Cond.code yX1_claim cX1_claim 2 none, Cond.fieldLink RX1 54 "SignalBox" "traceLength" "I", Cond.fieldLink RX1 22 "SignalBox" "trace" "[I", Cond.methodLink RX1 145 yX1_passPoints, Cond.instanceMethod yX1_passPoints, Cond.selects RX1 yX1_passPoints yX1_passPoints, Cond.code yX1_passPoints cX1_passPoints 4 (some .int), Cond.methodLink RX1 148 yX1_passPlain, Cond.instanceMethod yX1_passPlain, Cond.selects RX1 yX1_passPlain yX1_passPlain, Cond.code yX1_passPlain cX1_passPlain 4 (some .int), Cond.instanceMethod yX0_hasRoomFor, Cond.initialized RX0, Cond.selects RX0 yX0_hasRoomFor yX0_hasRoomFor, Cond.code yX0_hasRoomFor cX0_hasRoomFor 2 (some .boolean), Cond.fieldLink RX0 22 "SignalBox$Section" "axles" "I", Cond.fieldLink RX0 16 "SignalBox$Section" "limit" "I", Cond.methodLink RX1 83 yX1_let, Cond.instanceMethod yX1_let, Cond.selects RX1 yX1_let yX1_let]
def wsX1_passBridge_r2 : List Cond := [Cond.code yX1_let cX1_let 2 none]
def wsX1_passBridge : List Cond := .code yX1_passBridge cX1_passBridge 4 (some .int) :: ((wsX1_passBridge_r1 ++ wsX1_passBridge_r2) ++ wsX00 ++ wsX10)
def wsX1_pass_r1 : List Cond := [Cond.fieldLink RX1 51 "SignalBox" "passed" "I", Cond.methodLink RX1 142 yX1_passBridge, Cond.instanceMethod yX1_passBridge, Cond.selects RX1 yX1_passBridge yX1_passBridge, Cond.initialized RX1, Cond.code yX1_passBridge cX1_passBridge 4 (some .int), Cond.methodLink RX1 75 yX1_claim, Cond.instanceMethod yX1_claim, Cond.selects RX1 yX1_claim yX1_claim, Cond.code yX1_claim cX1_claim 2 none, Cond.fieldLink RX1 54 "SignalBox" "traceLength" "I", Cond.fieldLink RX1 22 "SignalBox" "trace" "[I", Cond.methodLink RX1 145 yX1_passPoints, Cond.instanceMethod yX1_passPoints, Cond.selects RX1 yX1_passPoints yX1_passPoints, Cond.code yX1_passPoints cX1_passPoints 4 (some .int), Cond.methodLink RX1 148 yX1_passPlain, Cond.instanceMethod yX1_passPlain, Cond.selects RX1 yX1_passPlain yX1_passPlain, Cond.code yX1_passPlain cX1_passPlain 4 (some .int), Cond.instanceMethod yX0_hasRoomFor, Cond.initialized RX0, Cond.selects RX0 yX0_hasRoomFor yX0_hasRoomFor, Cond.code yX0_hasRoomFor cX0_hasRoomFor 2 (some .boolean)]
def wsX1_pass_r2 : List Cond := [Cond.fieldLink RX0 22 "SignalBox$Section" "axles" "I", Cond.fieldLink RX0 16 "SignalBox$Section" "limit" "I", Cond.methodLink RX1 83 yX1_let, Cond.instanceMethod yX1_let, Cond.selects RX1 yX1_let yX1_let, Cond.code yX1_let cX1_let 2 none]
def wsX1_pass : List Cond := .code yX1_pass cX1_pass 4 (some .int) :: ((wsX1_pass_r1 ++ wsX1_pass_r2) ++ wsX00 ++ wsX10)
def wsX1_answerTo : List Cond := .code yX1_answerTo cX1_answerTo 3 (some .int) :: ([.fieldLink RX1 51 "SignalBox" "passed" "I"] ++ wsX10)
def wsX1_goAlone_r1 : List Cond := [Cond.fieldLink RX1 19 "SignalBox" "routeLengths" "[I", Cond.fieldLink RX1 51 "SignalBox" "passed" "I", Cond.methodLink RX1 121 yX1_sectionOn, Cond.instanceMethod yX1_sectionOn, Cond.selects RX1 yX1_sectionOn yX1_sectionOn, Cond.initialized RX1, Cond.code yX1_sectionOn cX1_sectionOn 3 (some (.object "SignalBox$Section")), Cond.fieldLink RX1 11 "SignalBox" "standing" "[LSignalBox$Section;", Cond.fieldLink RX1 15 "SignalBox" "routePlaces" "[I", Cond.methodLink RX1 75 yX1_claim, Cond.instanceMethod yX1_claim, Cond.selects RX1 yX1_claim yX1_claim, Cond.code yX1_claim cX1_claim 2 none, Cond.fieldLink RX1 54 "SignalBox" "traceLength" "I", Cond.fieldLink RX1 22 "SignalBox" "trace" "[I", Cond.methodLink RX1 125 yX1_pass, Cond.instanceMethod yX1_pass, Cond.selects RX1 yX1_pass yX1_pass, Cond.code yX1_pass cX1_pass 4 (some .int), Cond.methodLink RX1 142 yX1_passBridge, Cond.instanceMethod yX1_passBridge, Cond.selects RX1 yX1_passBridge yX1_passBridge, Cond.code yX1_passBridge cX1_passBridge 4 (some .int), Cond.methodLink RX1 145 yX1_passPoints]
def wsX1_goAlone_r2 : List Cond := [Cond.instanceMethod yX1_passPoints, Cond.selects RX1 yX1_passPoints yX1_passPoints, Cond.code yX1_passPoints cX1_passPoints 4 (some .int), Cond.methodLink RX1 148 yX1_passPlain, Cond.instanceMethod yX1_passPlain, Cond.selects RX1 yX1_passPlain yX1_passPlain, Cond.code yX1_passPlain cX1_passPlain 4 (some .int), Cond.instanceMethod yX0_hasRoomFor, Cond.initialized RX0, Cond.selects RX0 yX0_hasRoomFor yX0_hasRoomFor, Cond.code yX0_hasRoomFor cX0_hasRoomFor 2 (some .boolean), Cond.fieldLink RX0 22 "SignalBox$Section" "axles" "I", Cond.fieldLink RX0 16 "SignalBox$Section" "limit" "I", Cond.methodLink RX1 83 yX1_let, Cond.instanceMethod yX1_let, Cond.selects RX1 yX1_let yX1_let, Cond.code yX1_let cX1_let 2 none, Cond.methodLink RX1 129 yX1_answerTo, Cond.instanceMethod yX1_answerTo, Cond.selects RX1 yX1_answerTo yX1_answerTo, Cond.code yX1_answerTo cX1_answerTo 3 (some .int)]
def wsX1_goAlone : List Cond := .code yX1_goAlone cX1_goAlone 8 (some .int) :: ((wsX1_goAlone_r1 ++ wsX1_goAlone_r2) ++ wsX10 ++ wsX00)
def wsX1_counted : List Cond := .code yX1_counted cX1_counted 2 (some .int) :: ([.fieldLink RX1 114 "SignalBox" "nullFailures" "I", .fieldLink RX1 117 "SignalBox" "fullFailures" "I"] ++ wsX10)
def wsX1_goTwoByTwo_r1 : List Cond := [Cond.fieldLink RX1 19 "SignalBox" "routeLengths" "[I", Cond.fieldLink RX1 51 "SignalBox" "passed" "I", Cond.methodLink RX1 121 yX1_sectionOn, Cond.instanceMethod yX1_sectionOn, Cond.selects RX1 yX1_sectionOn yX1_sectionOn, Cond.initialized RX1, Cond.code yX1_sectionOn cX1_sectionOn 3 (some (.object "SignalBox$Section")), Cond.fieldLink RX1 11 "SignalBox" "standing" "[LSignalBox$Section;", Cond.fieldLink RX1 15 "SignalBox" "routePlaces" "[I", Cond.methodLink RX1 75 yX1_claim, Cond.instanceMethod yX1_claim, Cond.selects RX1 yX1_claim yX1_claim, Cond.code yX1_claim cX1_claim 2 none, Cond.fieldLink RX1 54 "SignalBox" "traceLength" "I", Cond.fieldLink RX1 22 "SignalBox" "trace" "[I", Cond.methodLink RX1 125 yX1_pass, Cond.instanceMethod yX1_pass, Cond.selects RX1 yX1_pass yX1_pass, Cond.code yX1_pass cX1_pass 4 (some .int), Cond.methodLink RX1 142 yX1_passBridge, Cond.instanceMethod yX1_passBridge, Cond.selects RX1 yX1_passBridge yX1_passBridge, Cond.code yX1_passBridge cX1_passBridge 4 (some .int), Cond.methodLink RX1 145 yX1_passPoints]
def wsX1_goTwoByTwo_r2 : List Cond := [Cond.instanceMethod yX1_passPoints, Cond.selects RX1 yX1_passPoints yX1_passPoints, Cond.code yX1_passPoints cX1_passPoints 4 (some .int), Cond.methodLink RX1 148 yX1_passPlain, Cond.instanceMethod yX1_passPlain, Cond.selects RX1 yX1_passPlain yX1_passPlain, Cond.code yX1_passPlain cX1_passPlain 4 (some .int), Cond.instanceMethod yX0_hasRoomFor, Cond.initialized RX0, Cond.selects RX0 yX0_hasRoomFor yX0_hasRoomFor, Cond.code yX0_hasRoomFor cX0_hasRoomFor 2 (some .boolean), Cond.fieldLink RX0 22 "SignalBox$Section" "axles" "I", Cond.fieldLink RX0 16 "SignalBox$Section" "limit" "I", Cond.methodLink RX1 83 yX1_let, Cond.instanceMethod yX1_let, Cond.selects RX1 yX1_let yX1_let, Cond.code yX1_let cX1_let 2 none, Cond.methodLink RX1 129 yX1_answerTo, Cond.instanceMethod yX1_answerTo, Cond.selects RX1 yX1_answerTo yX1_answerTo, Cond.code yX1_answerTo cX1_answerTo 3 (some .int)]
def wsX1_goTwoByTwo : List Cond := .code yX1_goTwoByTwo cX1_goTwoByTwo 8 (some .int) :: ((wsX1_goTwoByTwo_r1 ++ wsX1_goTwoByTwo_r2) ++ wsX10 ++ wsX00)
def wsX1_claimAll : List Cond := .code yX1_claimAll cX1_claimAll 4 (some .int) :: ([.fieldLink RX1 19 "SignalBox" "routeLengths" "[I", .methodLink RX1 121 yX1_sectionOn, .instanceMethod yX1_sectionOn, .selects RX1 yX1_sectionOn yX1_sectionOn, .initialized RX1, .code yX1_sectionOn cX1_sectionOn 3 (some (.object "SignalBox$Section")), .fieldLink RX1 11 "SignalBox" "standing" "[LSignalBox$Section;", .fieldLink RX1 15 "SignalBox" "routePlaces" "[I", .methodLink RX1 75 yX1_claim, .instanceMethod yX1_claim, .selects RX1 yX1_claim yX1_claim, .code yX1_claim cX1_claim 2 none, .fieldLink RX1 54 "SignalBox" "traceLength" "I", .fieldLink RX1 22 "SignalBox" "trace" "[I"] ++ wsX10 ++ wsX00)
def wsX1_letAll : List Cond := .code yX1_letAll cX1_letAll 5 none :: ([.methodLink RX1 121 yX1_sectionOn, .instanceMethod yX1_sectionOn, .selects RX1 yX1_sectionOn yX1_sectionOn, .initialized RX1, .code yX1_sectionOn cX1_sectionOn 3 (some (.object "SignalBox$Section")), .fieldLink RX1 11 "SignalBox" "standing" "[LSignalBox$Section;", .fieldLink RX1 15 "SignalBox" "routePlaces" "[I", .methodLink RX1 83 yX1_let, .instanceMethod yX1_let, .selects RX1 yX1_let yX1_let, .code yX1_let cX1_let 2 none, .fieldLink RX1 54 "SignalBox" "traceLength" "I", .fieldLink RX1 22 "SignalBox" "trace" "[I"] ++ wsX10 ++ wsX00)
def wsX1_goAll_r1 : List Cond := [Cond.fieldLink RX1 19 "SignalBox" "routeLengths" "[I", Cond.methodLink RX1 132 yX1_claimAll, Cond.instanceMethod yX1_claimAll, Cond.selects RX1 yX1_claimAll yX1_claimAll, Cond.initialized RX1, Cond.code yX1_claimAll cX1_claimAll 4 (some .int), Cond.methodLink RX1 121 yX1_sectionOn, Cond.instanceMethod yX1_sectionOn, Cond.selects RX1 yX1_sectionOn yX1_sectionOn, Cond.code yX1_sectionOn cX1_sectionOn 3 (some (.object "SignalBox$Section")), Cond.fieldLink RX1 11 "SignalBox" "standing" "[LSignalBox$Section;", Cond.fieldLink RX1 15 "SignalBox" "routePlaces" "[I", Cond.methodLink RX1 75 yX1_claim, Cond.instanceMethod yX1_claim, Cond.selects RX1 yX1_claim yX1_claim, Cond.code yX1_claim cX1_claim 2 none, Cond.fieldLink RX1 54 "SignalBox" "traceLength" "I", Cond.fieldLink RX1 22 "SignalBox" "trace" "[I", Cond.methodLink RX1 129 yX1_answerTo, Cond.instanceMethod yX1_answerTo, Cond.selects RX1 yX1_answerTo yX1_answerTo, Cond.code yX1_answerTo cX1_answerTo 3 (some .int), Cond.fieldLink RX1 51 "SignalBox" "passed" "I", Cond.methodLink RX1 125 yX1_pass]
def wsX1_goAll_r2 : List Cond := [Cond.instanceMethod yX1_pass, Cond.selects RX1 yX1_pass yX1_pass, Cond.code yX1_pass cX1_pass 4 (some .int), Cond.methodLink RX1 142 yX1_passBridge, Cond.instanceMethod yX1_passBridge, Cond.selects RX1 yX1_passBridge yX1_passBridge, Cond.code yX1_passBridge cX1_passBridge 4 (some .int), Cond.methodLink RX1 145 yX1_passPoints, Cond.instanceMethod yX1_passPoints, Cond.selects RX1 yX1_passPoints yX1_passPoints, Cond.code yX1_passPoints cX1_passPoints 4 (some .int), Cond.methodLink RX1 148 yX1_passPlain, Cond.instanceMethod yX1_passPlain, Cond.selects RX1 yX1_passPlain yX1_passPlain, Cond.code yX1_passPlain cX1_passPlain 4 (some .int), Cond.instanceMethod yX0_hasRoomFor, Cond.initialized RX0, Cond.selects RX0 yX0_hasRoomFor yX0_hasRoomFor, Cond.code yX0_hasRoomFor cX0_hasRoomFor 2 (some .boolean), Cond.fieldLink RX0 22 "SignalBox$Section" "axles" "I", Cond.fieldLink RX0 16 "SignalBox$Section" "limit" "I", Cond.methodLink RX1 83 yX1_let, Cond.instanceMethod yX1_let, Cond.selects RX1 yX1_let yX1_let]
def wsX1_goAll_r3 : List Cond := [Cond.code yX1_let cX1_let 2 none, Cond.methodLink RX1 135 yX1_letAll, Cond.instanceMethod yX1_letAll, Cond.selects RX1 yX1_letAll yX1_letAll, Cond.code yX1_letAll cX1_letAll 5 none]
def wsX1_goAll : List Cond := .code yX1_goAll cX1_goAll 8 (some .int) :: ((wsX1_goAll_r1 ++ (wsX1_goAll_r2 ++ wsX1_goAll_r3)) ++ wsX10 ++ wsX00)
def wsX1_goFirst_r1 : List Cond := [Cond.fieldLink RX1 19 "SignalBox" "routeLengths" "[I", Cond.fieldLink RX1 51 "SignalBox" "passed" "I", Cond.methodLink RX1 121 yX1_sectionOn, Cond.instanceMethod yX1_sectionOn, Cond.selects RX1 yX1_sectionOn yX1_sectionOn, Cond.initialized RX1, Cond.code yX1_sectionOn cX1_sectionOn 3 (some (.object "SignalBox$Section")), Cond.fieldLink RX1 11 "SignalBox" "standing" "[LSignalBox$Section;", Cond.fieldLink RX1 15 "SignalBox" "routePlaces" "[I", Cond.methodLink RX1 75 yX1_claim, Cond.instanceMethod yX1_claim, Cond.selects RX1 yX1_claim yX1_claim, Cond.code yX1_claim cX1_claim 2 none, Cond.fieldLink RX1 54 "SignalBox" "traceLength" "I", Cond.fieldLink RX1 22 "SignalBox" "trace" "[I", Cond.instanceMethod yX0_hasRoomFor, Cond.initialized RX0, Cond.selects RX0 yX0_hasRoomFor yX0_hasRoomFor, Cond.code yX0_hasRoomFor cX0_hasRoomFor 2 (some .boolean), Cond.fieldLink RX0 22 "SignalBox$Section" "axles" "I", Cond.fieldLink RX0 16 "SignalBox$Section" "limit" "I", Cond.methodLink RX1 125 yX1_pass, Cond.instanceMethod yX1_pass, Cond.selects RX1 yX1_pass yX1_pass]
def wsX1_goFirst_r2 : List Cond := [Cond.code yX1_pass cX1_pass 4 (some .int), Cond.methodLink RX1 142 yX1_passBridge, Cond.instanceMethod yX1_passBridge, Cond.selects RX1 yX1_passBridge yX1_passBridge, Cond.code yX1_passBridge cX1_passBridge 4 (some .int), Cond.methodLink RX1 145 yX1_passPoints, Cond.instanceMethod yX1_passPoints, Cond.selects RX1 yX1_passPoints yX1_passPoints, Cond.code yX1_passPoints cX1_passPoints 4 (some .int), Cond.methodLink RX1 148 yX1_passPlain, Cond.instanceMethod yX1_passPlain, Cond.selects RX1 yX1_passPlain yX1_passPlain, Cond.code yX1_passPlain cX1_passPlain 4 (some .int), Cond.methodLink RX1 83 yX1_let, Cond.instanceMethod yX1_let, Cond.selects RX1 yX1_let yX1_let, Cond.code yX1_let cX1_let 2 none, Cond.methodLink RX1 129 yX1_answerTo, Cond.instanceMethod yX1_answerTo, Cond.selects RX1 yX1_answerTo yX1_answerTo, Cond.code yX1_answerTo cX1_answerTo 3 (some .int)]
def wsX1_goFirst : List Cond := .code yX1_goFirst cX1_goFirst 7 (some .int) :: ((wsX1_goFirst_r1 ++ wsX1_goFirst_r2) ++ wsX10 ++ wsX00)
def wsX1_run_r1 : List Cond := [Cond.fieldLink RX1 48 "SignalBox" "runs" "I", Cond.fieldLink RX1 51 "SignalBox" "passed" "I", Cond.fieldLink RX1 54 "SignalBox" "traceLength" "I", Cond.methodLink RX1 42 yX1_isRoute, Cond.static yX1_isRoute, Cond.initialized RX1, Cond.code yX1_isRoute cX1_isRoute 1 (some .boolean), Cond.methodLink RX1 45 yX1_isAxles, Cond.static yX1_isAxles, Cond.code yX1_isAxles cX1_isAxles 1 (some .boolean), Cond.methodLink RX1 57 yX1_goAlone, Cond.instanceMethod yX1_goAlone, Cond.selects RX1 yX1_goAlone yX1_goAlone, Cond.code yX1_goAlone cX1_goAlone 8 (some .int), Cond.fieldLink RX1 19 "SignalBox" "routeLengths" "[I", Cond.methodLink RX1 121 yX1_sectionOn, Cond.instanceMethod yX1_sectionOn, Cond.selects RX1 yX1_sectionOn yX1_sectionOn, Cond.code yX1_sectionOn cX1_sectionOn 3 (some (.object "SignalBox$Section")), Cond.fieldLink RX1 11 "SignalBox" "standing" "[LSignalBox$Section;", Cond.fieldLink RX1 15 "SignalBox" "routePlaces" "[I", Cond.methodLink RX1 75 yX1_claim, Cond.instanceMethod yX1_claim, Cond.selects RX1 yX1_claim yX1_claim]
def wsX1_run_r2 : List Cond := [Cond.code yX1_claim cX1_claim 2 none, Cond.fieldLink RX1 22 "SignalBox" "trace" "[I", Cond.methodLink RX1 125 yX1_pass, Cond.instanceMethod yX1_pass, Cond.selects RX1 yX1_pass yX1_pass, Cond.code yX1_pass cX1_pass 4 (some .int), Cond.methodLink RX1 142 yX1_passBridge, Cond.instanceMethod yX1_passBridge, Cond.selects RX1 yX1_passBridge yX1_passBridge, Cond.code yX1_passBridge cX1_passBridge 4 (some .int), Cond.methodLink RX1 145 yX1_passPoints, Cond.instanceMethod yX1_passPoints, Cond.selects RX1 yX1_passPoints yX1_passPoints, Cond.code yX1_passPoints cX1_passPoints 4 (some .int), Cond.methodLink RX1 148 yX1_passPlain, Cond.instanceMethod yX1_passPlain, Cond.selects RX1 yX1_passPlain yX1_passPlain, Cond.code yX1_passPlain cX1_passPlain 4 (some .int), Cond.instanceMethod yX0_hasRoomFor, Cond.initialized RX0, Cond.selects RX0 yX0_hasRoomFor yX0_hasRoomFor, Cond.code yX0_hasRoomFor cX0_hasRoomFor 2 (some .boolean), Cond.fieldLink RX0 22 "SignalBox$Section" "axles" "I", Cond.fieldLink RX0 16 "SignalBox$Section" "limit" "I"]
def wsX1_run_r3 : List Cond := [Cond.methodLink RX1 83 yX1_let, Cond.instanceMethod yX1_let, Cond.selects RX1 yX1_let yX1_let, Cond.code yX1_let cX1_let 2 none, Cond.methodLink RX1 129 yX1_answerTo, Cond.instanceMethod yX1_answerTo, Cond.selects RX1 yX1_answerTo yX1_answerTo, Cond.code yX1_answerTo cX1_answerTo 3 (some .int), Cond.methodLink RX1 61 yX1_counted, Cond.instanceMethod yX1_counted, Cond.selects RX1 yX1_counted yX1_counted, Cond.code yX1_counted cX1_counted 2 (some .int), Cond.fieldLink RX1 114 "SignalBox" "nullFailures" "I", Cond.fieldLink RX1 117 "SignalBox" "fullFailures" "I", Cond.methodLink RX1 65 yX1_goTwoByTwo, Cond.instanceMethod yX1_goTwoByTwo, Cond.selects RX1 yX1_goTwoByTwo yX1_goTwoByTwo, Cond.code yX1_goTwoByTwo cX1_goTwoByTwo 8 (some .int), Cond.methodLink RX1 69 yX1_goAll, Cond.instanceMethod yX1_goAll, Cond.selects RX1 yX1_goAll yX1_goAll, Cond.code yX1_goAll cX1_goAll 8 (some .int), Cond.methodLink RX1 132 yX1_claimAll, Cond.instanceMethod yX1_claimAll]
def wsX1_run_r4 : List Cond := [Cond.selects RX1 yX1_claimAll yX1_claimAll, Cond.code yX1_claimAll cX1_claimAll 4 (some .int), Cond.methodLink RX1 135 yX1_letAll, Cond.instanceMethod yX1_letAll, Cond.selects RX1 yX1_letAll yX1_letAll, Cond.code yX1_letAll cX1_letAll 5 none, Cond.methodLink RX1 72 yX1_goFirst, Cond.instanceMethod yX1_goFirst, Cond.selects RX1 yX1_goFirst yX1_goFirst, Cond.code yX1_goFirst cX1_goFirst 7 (some .int)]
def wsX1_run : List Cond := .code yX1_run cX1_run 4 (some .int) :: ((wsX1_run_r1 ++ (wsX1_run_r2 ++ (wsX1_run_r3 ++ wsX1_run_r4))) ++ wsX10 ++ wsX00)
def wsX1_shuntOnto : List Cond := .code yX1_shuntOnto cX1_shuntOnto 5 (some .int) :: ([.methodLink RX1 75 yX1_claim, .instanceMethod yX1_claim, .selects RX1 yX1_claim yX1_claim, .initialized RX1, .code yX1_claim cX1_claim 2 none, .fieldLink RX1 54 "SignalBox" "traceLength" "I", .fieldLink RX1 22 "SignalBox" "trace" "[I", .instanceMethod yX0_hasRoomFor, .initialized RX0, .selects RX0 yX0_hasRoomFor yX0_hasRoomFor, .code yX0_hasRoomFor cX0_hasRoomFor 2 (some .boolean), .fieldLink RX0 22 "SignalBox$Section" "axles" "I", .fieldLink RX0 16 "SignalBox$Section" "limit" "I", .methodLink RX1 83 yX1_let, .instanceMethod yX1_let, .selects RX1 yX1_let yX1_let, .code yX1_let cX1_let 2 none] ++ wsX00 ++ wsX10)
def wsX1_shunt_r1 : List Cond := [Cond.fieldLink RX1 54 "SignalBox" "traceLength" "I", Cond.fieldLink RX1 11 "SignalBox" "standing" "[LSignalBox$Section;", Cond.methodLink RX1 25 yX1_isPlace, Cond.static yX1_isPlace, Cond.initialized RX1, Cond.code yX1_isPlace cX1_isPlace 1 (some .boolean), Cond.methodLink RX1 45 yX1_isAxles, Cond.static yX1_isAxles, Cond.code yX1_isAxles cX1_isAxles 1 (some .boolean), Cond.methodLink RX1 75 yX1_claim, Cond.instanceMethod yX1_claim, Cond.selects RX1 yX1_claim yX1_claim, Cond.code yX1_claim cX1_claim 2 none, Cond.fieldLink RX1 22 "SignalBox" "trace" "[I", Cond.methodLink RX1 79 yX1_shuntOnto, Cond.instanceMethod yX1_shuntOnto, Cond.selects RX1 yX1_shuntOnto yX1_shuntOnto, Cond.code yX1_shuntOnto cX1_shuntOnto 5 (some .int), Cond.instanceMethod yX0_hasRoomFor, Cond.initialized RX0, Cond.selects RX0 yX0_hasRoomFor yX0_hasRoomFor, Cond.code yX0_hasRoomFor cX0_hasRoomFor 2 (some .boolean), Cond.fieldLink RX0 22 "SignalBox$Section" "axles" "I", Cond.fieldLink RX0 16 "SignalBox$Section" "limit" "I"]
def wsX1_shunt_r2 : List Cond := [Cond.methodLink RX1 83 yX1_let, Cond.instanceMethod yX1_let, Cond.selects RX1 yX1_let yX1_let, Cond.code yX1_let cX1_let 2 none]
def wsX1_shunt : List Cond := .code yX1_shunt cX1_shunt 6 (some .int) :: ((wsX1_shunt_r1 ++ wsX1_shunt_r2) ++ wsX10 ++ wsX00)
def wsX1_passed : List Cond := .code yX1_passed cX1_passed 1 (some .int) :: ([.fieldLink RX1 51 "SignalBox" "passed" "I"] ++ wsX10)
def wsX1_trace : List Cond := .code yX1_trace cX1_trace 2 (some .int) :: ([.fieldLink RX1 54 "SignalBox" "traceLength" "I", .fieldLink RX1 22 "SignalBox" "trace" "[I"] ++ wsX10)
def wsX1_told : List Cond := .code yX1_told cX1_told 4 (some .int) :: ([.fieldLink RX1 11 "SignalBox" "standing" "[LSignalBox$Section;", .methodLink RX1 25 yX1_isPlace, .static yX1_isPlace, .initialized RX1, .code yX1_isPlace cX1_isPlace 1 (some .boolean)] ++ wsX10 ++ wsX00)
def wsX1_countStanding : List Cond := .code yX1_countStanding cX1_countStanding 3 (some .int) :: ([.fieldLink RX1 11 "SignalBox" "standing" "[LSignalBox$Section;"] ++ wsX10)
def wsX1_count : List Cond := .code yX1_count cX1_count 2 (some .int) :: ([.fieldLink RX1 32 "SignalBox" "made" "I", .fieldLink RX1 48 "SignalBox" "runs" "I", .fieldLink RX1 114 "SignalBox" "nullFailures" "I", .fieldLink RX1 117 "SignalBox" "fullFailures" "I", .fieldLink RX1 19 "SignalBox" "routeLengths" "[I", .methodLink RX1 110 yX1_countStanding, .instanceMethod yX1_countStanding, .selects RX1 yX1_countStanding yX1_countStanding, .initialized RX1, .code yX1_countStanding cX1_countStanding 3 (some .int), .fieldLink RX1 11 "SignalBox" "standing" "[LSignalBox$Section;", .methodLink RX1 42 yX1_isRoute, .static yX1_isRoute, .code yX1_isRoute cX1_isRoute 1 (some .boolean)] ++ wsX10)
def wsX2_init : List Cond := .code yX2_init cX2_init 2 none :: ([.methodLink RX2 1 objectInit, .instanceMethod objectInit, .code objectInit ⟨#[0xb1]⟩ 1 none, .arrayClass .int, .fieldLink RX2 7 "SignalBoxModel" "kinds" "[I", .fieldLink RX2 13 "SignalBoxModel" "limits" "[I", .fieldLink RX2 16 "SignalBoxModel" "marks" "[I", .fieldLink RX2 19 "SignalBoxModel" "axles" "[I", .fieldLink RX2 22 "SignalBoxModel" "legs" "[I", .fieldLink RX2 25 "SignalBoxModel" "claims" "[I", .fieldLink RX2 28 "SignalBoxModel" "held" "[I", .fieldLink RX2 31 "SignalBoxModel" "most" "[I", .fieldLink RX2 34 "SignalBoxModel" "at" "[I", .fieldLink RX2 37 "SignalBoxModel" "routes" "[I", .fieldLink RX2 40 "SignalBoxModel" "lengths" "[I", .fieldLink RX2 43 "SignalBoxModel" "trace" "[I"] ++ wsX20)
def wsX2_in : List Cond := .code yX2_in cX2_in 3 (some .boolean) :: ([])
def wsX2_isPlace : List Cond := .code yX2_isPlace cX2_isPlace 1 (some .boolean) :: ([.methodLink RX2 46 yX2_in, .static yX2_in, .initialized RX2, .code yX2_in cX2_in 3 (some .boolean)])
def wsX2_isRoute : List Cond := .code yX2_isRoute cX2_isRoute 1 (some .boolean) :: ([.methodLink RX2 46 yX2_in, .static yX2_in, .initialized RX2, .code yX2_in cX2_in 3 (some .boolean)])
def wsX2_section : List Cond := .code yX2_section cX2_section 5 (some .int) :: ([.constant RX2 54 (100000), .fieldLink RX2 7 "SignalBoxModel" "kinds" "[I", .fieldLink RX2 55 "SignalBoxModel" "made" "I", .fieldLink RX2 13 "SignalBoxModel" "limits" "[I", .fieldLink RX2 16 "SignalBoxModel" "marks" "[I", .fieldLink RX2 34 "SignalBoxModel" "at" "[I", .methodLink RX2 50 yX2_isPlace, .static yX2_isPlace, .initialized RX2, .code yX2_isPlace cX2_isPlace 1 (some .boolean), .methodLink RX2 46 yX2_in, .static yX2_in, .code yX2_in cX2_in 3 (some .boolean)] ++ wsX20)
def wsX2_share : List Cond := .code yX2_share cX2_share 3 (some .int) :: ([.fieldLink RX2 34 "SignalBoxModel" "at" "[I", .methodLink RX2 50 yX2_isPlace, .static yX2_isPlace, .initialized RX2, .code yX2_isPlace cX2_isPlace 1 (some .boolean), .methodLink RX2 46 yX2_in, .static yX2_in, .code yX2_in cX2_in 3 (some .boolean)] ++ wsX20)
def wsX2_remove : List Cond := .code yX2_remove cX2_remove 3 (some .int) :: ([.fieldLink RX2 34 "SignalBoxModel" "at" "[I", .methodLink RX2 50 yX2_isPlace, .static yX2_isPlace, .initialized RX2, .code yX2_isPlace cX2_isPlace 1 (some .boolean), .methodLink RX2 46 yX2_in, .static yX2_in, .code yX2_in cX2_in 3 (some .boolean)] ++ wsX20)
def wsX2_same : List Cond := .code yX2_same cX2_same 3 (some .int) :: ([.fieldLink RX2 34 "SignalBoxModel" "at" "[I", .methodLink RX2 50 yX2_isPlace, .static yX2_isPlace, .initialized RX2, .code yX2_isPlace cX2_isPlace 1 (some .boolean), .methodLink RX2 46 yX2_in, .static yX2_in, .code yX2_in cX2_in 3 (some .boolean)] ++ wsX20)
def wsX2_lead : List Cond := .code yX2_lead cX2_lead 3 (some .int) :: ([.fieldLink RX2 40 "SignalBoxModel" "lengths" "[I", .fieldLink RX2 37 "SignalBoxModel" "routes" "[I", .methodLink RX2 59 yX2_isRoute, .static yX2_isRoute, .initialized RX2, .code yX2_isRoute cX2_isRoute 1 (some .boolean), .methodLink RX2 46 yX2_in, .static yX2_in, .code yX2_in cX2_in 3 (some .boolean), .methodLink RX2 50 yX2_isPlace, .static yX2_isPlace, .code yX2_isPlace cX2_isPlace 1 (some .boolean)] ++ wsX20)
def wsX2_unlead : List Cond := .code yX2_unlead cX2_unlead 3 (some .int) :: ([.fieldLink RX2 40 "SignalBoxModel" "lengths" "[I", .methodLink RX2 59 yX2_isRoute, .static yX2_isRoute, .initialized RX2, .code yX2_isRoute cX2_isRoute 1 (some .boolean), .methodLink RX2 46 yX2_in, .static yX2_in, .code yX2_in cX2_in 3 (some .boolean)] ++ wsX20)
def wsX2_leave : List Cond := .code yX2_leave cX2_leave 2 none :: ([.fieldLink RX2 62 "SignalBoxModel" "traced" "I", .fieldLink RX2 43 "SignalBoxModel" "trace" "[I"] ++ wsX20)
def wsX2_claim : List Cond := .code yX2_claim cX2_claim 2 none :: ([.fieldLink RX2 28 "SignalBoxModel" "held" "[I", .fieldLink RX2 25 "SignalBoxModel" "claims" "[I", .fieldLink RX2 31 "SignalBoxModel" "most" "[I", .methodLink RX2 65 yX2_leave, .instanceMethod yX2_leave, .selects RX2 yX2_leave yX2_leave, .initialized RX2, .code yX2_leave cX2_leave 2 none, .fieldLink RX2 62 "SignalBoxModel" "traced" "I", .fieldLink RX2 43 "SignalBoxModel" "trace" "[I"] ++ wsX20)
def wsX2_let : List Cond := .code yX2_let cX2_let 2 none :: ([.fieldLink RX2 28 "SignalBoxModel" "held" "[I", .methodLink RX2 65 yX2_leave, .instanceMethod yX2_leave, .selects RX2 yX2_leave yX2_leave, .initialized RX2, .code yX2_leave cX2_leave 2 none, .fieldLink RX2 62 "SignalBoxModel" "traced" "I", .fieldLink RX2 43 "SignalBoxModel" "trace" "[I"] ++ wsX20)
def wsX2_passPlain : List Cond := .code yX2_passPlain cX2_passPlain 4 (some .int) :: ([.fieldLink RX2 19 "SignalBoxModel" "axles" "[I", .fieldLink RX2 13 "SignalBoxModel" "limits" "[I", .methodLink RX2 69 yX2_claim, .instanceMethod yX2_claim, .selects RX2 yX2_claim yX2_claim, .initialized RX2, .code yX2_claim cX2_claim 2 none, .fieldLink RX2 28 "SignalBoxModel" "held" "[I", .fieldLink RX2 25 "SignalBoxModel" "claims" "[I", .fieldLink RX2 31 "SignalBoxModel" "most" "[I", .methodLink RX2 65 yX2_leave, .instanceMethod yX2_leave, .selects RX2 yX2_leave yX2_leave, .code yX2_leave cX2_leave 2 none, .fieldLink RX2 62 "SignalBoxModel" "traced" "I", .fieldLink RX2 43 "SignalBoxModel" "trace" "[I", .methodLink RX2 72 yX2_let, .instanceMethod yX2_let, .selects RX2 yX2_let yX2_let, .code yX2_let cX2_let 2 none] ++ wsX20)
def wsX2_passPoints_r1 : List Cond := [Cond.fieldLink RX2 22 "SignalBoxModel" "legs" "[I", Cond.methodLink RX2 69 yX2_claim, Cond.instanceMethod yX2_claim, Cond.selects RX2 yX2_claim yX2_claim, Cond.initialized RX2, Cond.code yX2_claim cX2_claim 2 none, Cond.fieldLink RX2 28 "SignalBoxModel" "held" "[I", Cond.fieldLink RX2 25 "SignalBoxModel" "claims" "[I", Cond.fieldLink RX2 31 "SignalBoxModel" "most" "[I", Cond.methodLink RX2 65 yX2_leave, Cond.instanceMethod yX2_leave, Cond.selects RX2 yX2_leave yX2_leave, Cond.code yX2_leave cX2_leave 2 none, Cond.fieldLink RX2 62 "SignalBoxModel" "traced" "I", Cond.fieldLink RX2 43 "SignalBoxModel" "trace" "[I", Cond.methodLink RX2 75 yX2_passPlain, Cond.instanceMethod yX2_passPlain, Cond.selects RX2 yX2_passPlain yX2_passPlain, Cond.code yX2_passPlain cX2_passPlain 4 (some .int), Cond.fieldLink RX2 19 "SignalBoxModel" "axles" "[I", Cond.fieldLink RX2 13 "SignalBoxModel" "limits" "[I", Cond.methodLink RX2 72 yX2_let, Cond.instanceMethod yX2_let, Cond.selects RX2 yX2_let yX2_let]
def wsX2_passPoints_r2 : List Cond := [Cond.code yX2_let cX2_let 2 none]
def wsX2_passPoints : List Cond := .code yX2_passPoints cX2_passPoints 4 (some .int) :: ((wsX2_passPoints_r1 ++ wsX2_passPoints_r2) ++ wsX20)
def wsX2_passBridge_r1 : List Cond := [Cond.fieldLink RX2 16 "SignalBoxModel" "marks" "[I", Cond.methodLink RX2 69 yX2_claim, Cond.instanceMethod yX2_claim, Cond.selects RX2 yX2_claim yX2_claim, Cond.initialized RX2, Cond.code yX2_claim cX2_claim 2 none, Cond.fieldLink RX2 28 "SignalBoxModel" "held" "[I", Cond.fieldLink RX2 25 "SignalBoxModel" "claims" "[I", Cond.fieldLink RX2 31 "SignalBoxModel" "most" "[I", Cond.methodLink RX2 65 yX2_leave, Cond.instanceMethod yX2_leave, Cond.selects RX2 yX2_leave yX2_leave, Cond.code yX2_leave cX2_leave 2 none, Cond.fieldLink RX2 62 "SignalBoxModel" "traced" "I", Cond.fieldLink RX2 43 "SignalBoxModel" "trace" "[I", Cond.methodLink RX2 79 yX2_passPoints, Cond.instanceMethod yX2_passPoints, Cond.selects RX2 yX2_passPoints yX2_passPoints, Cond.code yX2_passPoints cX2_passPoints 4 (some .int), Cond.fieldLink RX2 22 "SignalBoxModel" "legs" "[I", Cond.methodLink RX2 75 yX2_passPlain, Cond.instanceMethod yX2_passPlain, Cond.selects RX2 yX2_passPlain yX2_passPlain, Cond.code yX2_passPlain cX2_passPlain 4 (some .int)]
def wsX2_passBridge_r2 : List Cond := [Cond.fieldLink RX2 19 "SignalBoxModel" "axles" "[I", Cond.fieldLink RX2 13 "SignalBoxModel" "limits" "[I", Cond.methodLink RX2 72 yX2_let, Cond.instanceMethod yX2_let, Cond.selects RX2 yX2_let yX2_let, Cond.code yX2_let cX2_let 2 none]
def wsX2_passBridge : List Cond := .code yX2_passBridge cX2_passBridge 4 (some .int) :: ((wsX2_passBridge_r1 ++ wsX2_passBridge_r2) ++ wsX20)
def wsX2_pass_r1 : List Cond := [Cond.fieldLink RX2 7 "SignalBoxModel" "kinds" "[I", Cond.fieldLink RX2 85 "SignalBoxModel" "passed" "I", Cond.methodLink RX2 75 yX2_passPlain, Cond.instanceMethod yX2_passPlain, Cond.selects RX2 yX2_passPlain yX2_passPlain, Cond.initialized RX2, Cond.code yX2_passPlain cX2_passPlain 4 (some .int), Cond.fieldLink RX2 19 "SignalBoxModel" "axles" "[I", Cond.fieldLink RX2 13 "SignalBoxModel" "limits" "[I", Cond.methodLink RX2 69 yX2_claim, Cond.instanceMethod yX2_claim, Cond.selects RX2 yX2_claim yX2_claim, Cond.code yX2_claim cX2_claim 2 none, Cond.fieldLink RX2 28 "SignalBoxModel" "held" "[I", Cond.fieldLink RX2 25 "SignalBoxModel" "claims" "[I", Cond.fieldLink RX2 31 "SignalBoxModel" "most" "[I", Cond.methodLink RX2 65 yX2_leave, Cond.instanceMethod yX2_leave, Cond.selects RX2 yX2_leave yX2_leave, Cond.code yX2_leave cX2_leave 2 none, Cond.fieldLink RX2 62 "SignalBoxModel" "traced" "I", Cond.fieldLink RX2 43 "SignalBoxModel" "trace" "[I", Cond.methodLink RX2 72 yX2_let, Cond.instanceMethod yX2_let]
def wsX2_pass_r2 : List Cond := [Cond.selects RX2 yX2_let yX2_let, Cond.code yX2_let cX2_let 2 none, Cond.methodLink RX2 79 yX2_passPoints, Cond.instanceMethod yX2_passPoints, Cond.selects RX2 yX2_passPoints yX2_passPoints, Cond.code yX2_passPoints cX2_passPoints 4 (some .int), Cond.fieldLink RX2 22 "SignalBoxModel" "legs" "[I", Cond.methodLink RX2 82 yX2_passBridge, Cond.instanceMethod yX2_passBridge, Cond.selects RX2 yX2_passBridge yX2_passBridge, Cond.code yX2_passBridge cX2_passBridge 4 (some .int), Cond.fieldLink RX2 16 "SignalBoxModel" "marks" "[I"]
def wsX2_pass : List Cond := .code yX2_pass cX2_pass 4 (some .int) :: ((wsX2_pass_r1 ++ wsX2_pass_r2) ++ wsX20)
def wsX2_sectionOf : List Cond := .code yX2_sectionOf cX2_sectionOf 3 (some .int) :: ([.fieldLink RX2 34 "SignalBoxModel" "at" "[I", .fieldLink RX2 37 "SignalBoxModel" "routes" "[I"] ++ wsX20)
def wsX2_ended : List Cond := .code yX2_ended cX2_ended 2 (some .int) :: ([])
def wsX2_alone_r1 : List Cond := [Cond.fieldLink RX2 40 "SignalBoxModel" "lengths" "[I", Cond.methodLink RX2 88 yX2_sectionOf, Cond.instanceMethod yX2_sectionOf, Cond.selects RX2 yX2_sectionOf yX2_sectionOf, Cond.initialized RX2, Cond.code yX2_sectionOf cX2_sectionOf 3 (some .int), Cond.fieldLink RX2 34 "SignalBoxModel" "at" "[I", Cond.fieldLink RX2 37 "SignalBoxModel" "routes" "[I", Cond.methodLink RX2 69 yX2_claim, Cond.instanceMethod yX2_claim, Cond.selects RX2 yX2_claim yX2_claim, Cond.code yX2_claim cX2_claim 2 none, Cond.fieldLink RX2 28 "SignalBoxModel" "held" "[I", Cond.fieldLink RX2 25 "SignalBoxModel" "claims" "[I", Cond.fieldLink RX2 31 "SignalBoxModel" "most" "[I", Cond.methodLink RX2 65 yX2_leave, Cond.instanceMethod yX2_leave, Cond.selects RX2 yX2_leave yX2_leave, Cond.code yX2_leave cX2_leave 2 none, Cond.fieldLink RX2 62 "SignalBoxModel" "traced" "I", Cond.fieldLink RX2 43 "SignalBoxModel" "trace" "[I", Cond.methodLink RX2 91 yX2_pass, Cond.instanceMethod yX2_pass, Cond.selects RX2 yX2_pass yX2_pass]
def wsX2_alone_r2 : List Cond := [Cond.code yX2_pass cX2_pass 4 (some .int), Cond.fieldLink RX2 7 "SignalBoxModel" "kinds" "[I", Cond.fieldLink RX2 85 "SignalBoxModel" "passed" "I", Cond.methodLink RX2 75 yX2_passPlain, Cond.instanceMethod yX2_passPlain, Cond.selects RX2 yX2_passPlain yX2_passPlain, Cond.code yX2_passPlain cX2_passPlain 4 (some .int), Cond.fieldLink RX2 19 "SignalBoxModel" "axles" "[I", Cond.fieldLink RX2 13 "SignalBoxModel" "limits" "[I", Cond.methodLink RX2 72 yX2_let, Cond.instanceMethod yX2_let, Cond.selects RX2 yX2_let yX2_let, Cond.code yX2_let cX2_let 2 none, Cond.methodLink RX2 79 yX2_passPoints, Cond.instanceMethod yX2_passPoints, Cond.selects RX2 yX2_passPoints yX2_passPoints, Cond.code yX2_passPoints cX2_passPoints 4 (some .int), Cond.fieldLink RX2 22 "SignalBoxModel" "legs" "[I", Cond.methodLink RX2 82 yX2_passBridge, Cond.instanceMethod yX2_passBridge, Cond.selects RX2 yX2_passBridge yX2_passBridge, Cond.code yX2_passBridge cX2_passBridge 4 (some .int), Cond.fieldLink RX2 16 "SignalBoxModel" "marks" "[I", Cond.methodLink RX2 94 yX2_ended]
def wsX2_alone_r3 : List Cond := [Cond.static yX2_ended, Cond.code yX2_ended cX2_ended 2 (some .int)]
def wsX2_alone : List Cond := .code yX2_alone cX2_alone 6 (some .int) :: ((wsX2_alone_r1 ++ (wsX2_alone_r2 ++ wsX2_alone_r3)) ++ wsX20)
def wsX2_twoByTwo_r1 : List Cond := [Cond.fieldLink RX2 40 "SignalBoxModel" "lengths" "[I", Cond.methodLink RX2 88 yX2_sectionOf, Cond.instanceMethod yX2_sectionOf, Cond.selects RX2 yX2_sectionOf yX2_sectionOf, Cond.initialized RX2, Cond.code yX2_sectionOf cX2_sectionOf 3 (some .int), Cond.fieldLink RX2 34 "SignalBoxModel" "at" "[I", Cond.fieldLink RX2 37 "SignalBoxModel" "routes" "[I", Cond.methodLink RX2 69 yX2_claim, Cond.instanceMethod yX2_claim, Cond.selects RX2 yX2_claim yX2_claim, Cond.code yX2_claim cX2_claim 2 none, Cond.fieldLink RX2 28 "SignalBoxModel" "held" "[I", Cond.fieldLink RX2 25 "SignalBoxModel" "claims" "[I", Cond.fieldLink RX2 31 "SignalBoxModel" "most" "[I", Cond.methodLink RX2 65 yX2_leave, Cond.instanceMethod yX2_leave, Cond.selects RX2 yX2_leave yX2_leave, Cond.code yX2_leave cX2_leave 2 none, Cond.fieldLink RX2 62 "SignalBoxModel" "traced" "I", Cond.fieldLink RX2 43 "SignalBoxModel" "trace" "[I", Cond.methodLink RX2 91 yX2_pass, Cond.instanceMethod yX2_pass, Cond.selects RX2 yX2_pass yX2_pass]
def wsX2_twoByTwo_r2 : List Cond := [Cond.code yX2_pass cX2_pass 4 (some .int), Cond.fieldLink RX2 7 "SignalBoxModel" "kinds" "[I", Cond.fieldLink RX2 85 "SignalBoxModel" "passed" "I", Cond.methodLink RX2 75 yX2_passPlain, Cond.instanceMethod yX2_passPlain, Cond.selects RX2 yX2_passPlain yX2_passPlain, Cond.code yX2_passPlain cX2_passPlain 4 (some .int), Cond.fieldLink RX2 19 "SignalBoxModel" "axles" "[I", Cond.fieldLink RX2 13 "SignalBoxModel" "limits" "[I", Cond.methodLink RX2 72 yX2_let, Cond.instanceMethod yX2_let, Cond.selects RX2 yX2_let yX2_let, Cond.code yX2_let cX2_let 2 none, Cond.methodLink RX2 79 yX2_passPoints, Cond.instanceMethod yX2_passPoints, Cond.selects RX2 yX2_passPoints yX2_passPoints, Cond.code yX2_passPoints cX2_passPoints 4 (some .int), Cond.fieldLink RX2 22 "SignalBoxModel" "legs" "[I", Cond.methodLink RX2 82 yX2_passBridge, Cond.instanceMethod yX2_passBridge, Cond.selects RX2 yX2_passBridge yX2_passBridge, Cond.code yX2_passBridge cX2_passBridge 4 (some .int), Cond.fieldLink RX2 16 "SignalBoxModel" "marks" "[I", Cond.methodLink RX2 94 yX2_ended]
def wsX2_twoByTwo_r3 : List Cond := [Cond.static yX2_ended, Cond.code yX2_ended cX2_ended 2 (some .int)]
def wsX2_twoByTwo : List Cond := .code yX2_twoByTwo cX2_twoByTwo 8 (some .int) :: ((wsX2_twoByTwo_r1 ++ (wsX2_twoByTwo_r2 ++ wsX2_twoByTwo_r3)) ++ wsX20)
def wsX2_all_r1 : List Cond := [Cond.fieldLink RX2 40 "SignalBoxModel" "lengths" "[I", Cond.methodLink RX2 88 yX2_sectionOf, Cond.instanceMethod yX2_sectionOf, Cond.selects RX2 yX2_sectionOf yX2_sectionOf, Cond.initialized RX2, Cond.code yX2_sectionOf cX2_sectionOf 3 (some .int), Cond.fieldLink RX2 34 "SignalBoxModel" "at" "[I", Cond.fieldLink RX2 37 "SignalBoxModel" "routes" "[I", Cond.methodLink RX2 69 yX2_claim, Cond.instanceMethod yX2_claim, Cond.selects RX2 yX2_claim yX2_claim, Cond.code yX2_claim cX2_claim 2 none, Cond.fieldLink RX2 28 "SignalBoxModel" "held" "[I", Cond.fieldLink RX2 25 "SignalBoxModel" "claims" "[I", Cond.fieldLink RX2 31 "SignalBoxModel" "most" "[I", Cond.methodLink RX2 65 yX2_leave, Cond.instanceMethod yX2_leave, Cond.selects RX2 yX2_leave yX2_leave, Cond.code yX2_leave cX2_leave 2 none, Cond.fieldLink RX2 62 "SignalBoxModel" "traced" "I", Cond.fieldLink RX2 43 "SignalBoxModel" "trace" "[I", Cond.methodLink RX2 91 yX2_pass, Cond.instanceMethod yX2_pass, Cond.selects RX2 yX2_pass yX2_pass]
def wsX2_all_r2 : List Cond := [Cond.code yX2_pass cX2_pass 4 (some .int), Cond.fieldLink RX2 7 "SignalBoxModel" "kinds" "[I", Cond.fieldLink RX2 85 "SignalBoxModel" "passed" "I", Cond.methodLink RX2 75 yX2_passPlain, Cond.instanceMethod yX2_passPlain, Cond.selects RX2 yX2_passPlain yX2_passPlain, Cond.code yX2_passPlain cX2_passPlain 4 (some .int), Cond.fieldLink RX2 19 "SignalBoxModel" "axles" "[I", Cond.fieldLink RX2 13 "SignalBoxModel" "limits" "[I", Cond.methodLink RX2 72 yX2_let, Cond.instanceMethod yX2_let, Cond.selects RX2 yX2_let yX2_let, Cond.code yX2_let cX2_let 2 none, Cond.methodLink RX2 79 yX2_passPoints, Cond.instanceMethod yX2_passPoints, Cond.selects RX2 yX2_passPoints yX2_passPoints, Cond.code yX2_passPoints cX2_passPoints 4 (some .int), Cond.fieldLink RX2 22 "SignalBoxModel" "legs" "[I", Cond.methodLink RX2 82 yX2_passBridge, Cond.instanceMethod yX2_passBridge, Cond.selects RX2 yX2_passBridge yX2_passBridge, Cond.code yX2_passBridge cX2_passBridge 4 (some .int), Cond.fieldLink RX2 16 "SignalBoxModel" "marks" "[I", Cond.methodLink RX2 94 yX2_ended]
def wsX2_all_r3 : List Cond := [Cond.static yX2_ended, Cond.code yX2_ended cX2_ended 2 (some .int)]
def wsX2_all : List Cond := .code yX2_all cX2_all 6 (some .int) :: ((wsX2_all_r1 ++ (wsX2_all_r2 ++ wsX2_all_r3)) ++ wsX20)
def wsX2_first_r1 : List Cond := [Cond.fieldLink RX2 40 "SignalBoxModel" "lengths" "[I", Cond.fieldLink RX2 19 "SignalBoxModel" "axles" "[I", Cond.fieldLink RX2 13 "SignalBoxModel" "limits" "[I", Cond.fieldLink RX2 22 "SignalBoxModel" "legs" "[I", Cond.methodLink RX2 88 yX2_sectionOf, Cond.instanceMethod yX2_sectionOf, Cond.selects RX2 yX2_sectionOf yX2_sectionOf, Cond.initialized RX2, Cond.code yX2_sectionOf cX2_sectionOf 3 (some .int), Cond.fieldLink RX2 34 "SignalBoxModel" "at" "[I", Cond.fieldLink RX2 37 "SignalBoxModel" "routes" "[I", Cond.methodLink RX2 69 yX2_claim, Cond.instanceMethod yX2_claim, Cond.selects RX2 yX2_claim yX2_claim, Cond.code yX2_claim cX2_claim 2 none, Cond.fieldLink RX2 28 "SignalBoxModel" "held" "[I", Cond.fieldLink RX2 25 "SignalBoxModel" "claims" "[I", Cond.fieldLink RX2 31 "SignalBoxModel" "most" "[I", Cond.methodLink RX2 65 yX2_leave, Cond.instanceMethod yX2_leave, Cond.selects RX2 yX2_leave yX2_leave, Cond.code yX2_leave cX2_leave 2 none, Cond.fieldLink RX2 62 "SignalBoxModel" "traced" "I", Cond.fieldLink RX2 43 "SignalBoxModel" "trace" "[I"]
def wsX2_first_r2 : List Cond := [Cond.methodLink RX2 91 yX2_pass, Cond.instanceMethod yX2_pass, Cond.selects RX2 yX2_pass yX2_pass, Cond.code yX2_pass cX2_pass 4 (some .int), Cond.fieldLink RX2 7 "SignalBoxModel" "kinds" "[I", Cond.fieldLink RX2 85 "SignalBoxModel" "passed" "I", Cond.methodLink RX2 75 yX2_passPlain, Cond.instanceMethod yX2_passPlain, Cond.selects RX2 yX2_passPlain yX2_passPlain, Cond.code yX2_passPlain cX2_passPlain 4 (some .int), Cond.methodLink RX2 72 yX2_let, Cond.instanceMethod yX2_let, Cond.selects RX2 yX2_let yX2_let, Cond.code yX2_let cX2_let 2 none, Cond.methodLink RX2 79 yX2_passPoints, Cond.instanceMethod yX2_passPoints, Cond.selects RX2 yX2_passPoints yX2_passPoints, Cond.code yX2_passPoints cX2_passPoints 4 (some .int), Cond.methodLink RX2 82 yX2_passBridge, Cond.instanceMethod yX2_passBridge, Cond.selects RX2 yX2_passBridge yX2_passBridge, Cond.code yX2_passBridge cX2_passBridge 4 (some .int), Cond.fieldLink RX2 16 "SignalBoxModel" "marks" "[I", Cond.methodLink RX2 94 yX2_ended]
def wsX2_first_r3 : List Cond := [Cond.static yX2_ended, Cond.code yX2_ended cX2_ended 2 (some .int)]
def wsX2_first : List Cond := .code yX2_first cX2_first 7 (some .int) :: ((wsX2_first_r1 ++ (wsX2_first_r2 ++ wsX2_first_r3)) ++ wsX20)
def wsX2_round_r1 : List Cond := [Cond.methodLink RX2 97 yX2_alone, Cond.instanceMethod yX2_alone, Cond.selects RX2 yX2_alone yX2_alone, Cond.initialized RX2, Cond.code yX2_alone cX2_alone 6 (some .int), Cond.fieldLink RX2 40 "SignalBoxModel" "lengths" "[I", Cond.methodLink RX2 88 yX2_sectionOf, Cond.instanceMethod yX2_sectionOf, Cond.selects RX2 yX2_sectionOf yX2_sectionOf, Cond.code yX2_sectionOf cX2_sectionOf 3 (some .int), Cond.fieldLink RX2 34 "SignalBoxModel" "at" "[I", Cond.fieldLink RX2 37 "SignalBoxModel" "routes" "[I", Cond.methodLink RX2 69 yX2_claim, Cond.instanceMethod yX2_claim, Cond.selects RX2 yX2_claim yX2_claim, Cond.code yX2_claim cX2_claim 2 none, Cond.fieldLink RX2 28 "SignalBoxModel" "held" "[I", Cond.fieldLink RX2 25 "SignalBoxModel" "claims" "[I", Cond.fieldLink RX2 31 "SignalBoxModel" "most" "[I", Cond.methodLink RX2 65 yX2_leave, Cond.instanceMethod yX2_leave, Cond.selects RX2 yX2_leave yX2_leave, Cond.code yX2_leave cX2_leave 2 none, Cond.fieldLink RX2 62 "SignalBoxModel" "traced" "I"]
def wsX2_round_r2 : List Cond := [Cond.fieldLink RX2 43 "SignalBoxModel" "trace" "[I", Cond.methodLink RX2 91 yX2_pass, Cond.instanceMethod yX2_pass, Cond.selects RX2 yX2_pass yX2_pass, Cond.code yX2_pass cX2_pass 4 (some .int), Cond.fieldLink RX2 7 "SignalBoxModel" "kinds" "[I", Cond.fieldLink RX2 85 "SignalBoxModel" "passed" "I", Cond.methodLink RX2 75 yX2_passPlain, Cond.instanceMethod yX2_passPlain, Cond.selects RX2 yX2_passPlain yX2_passPlain, Cond.code yX2_passPlain cX2_passPlain 4 (some .int), Cond.fieldLink RX2 19 "SignalBoxModel" "axles" "[I", Cond.fieldLink RX2 13 "SignalBoxModel" "limits" "[I", Cond.methodLink RX2 72 yX2_let, Cond.instanceMethod yX2_let, Cond.selects RX2 yX2_let yX2_let, Cond.code yX2_let cX2_let 2 none, Cond.methodLink RX2 79 yX2_passPoints, Cond.instanceMethod yX2_passPoints, Cond.selects RX2 yX2_passPoints yX2_passPoints, Cond.code yX2_passPoints cX2_passPoints 4 (some .int), Cond.fieldLink RX2 22 "SignalBoxModel" "legs" "[I", Cond.methodLink RX2 82 yX2_passBridge, Cond.instanceMethod yX2_passBridge]
def wsX2_round_r3 : List Cond := [Cond.selects RX2 yX2_passBridge yX2_passBridge, Cond.code yX2_passBridge cX2_passBridge 4 (some .int), Cond.fieldLink RX2 16 "SignalBoxModel" "marks" "[I", Cond.methodLink RX2 94 yX2_ended, Cond.static yX2_ended, Cond.code yX2_ended cX2_ended 2 (some .int)]
def wsX2_round : List Cond := .code yX2_round cX2_round 5 (some .int) :: ((wsX2_round_r1 ++ (wsX2_round_r2 ++ wsX2_round_r3)) ++ wsX20)
def wsX2_run_r1 : List Cond := [Cond.fieldLink RX2 100 "SignalBoxModel" "runs" "I", Cond.fieldLink RX2 62 "SignalBoxModel" "traced" "I", Cond.fieldLink RX2 85 "SignalBoxModel" "passed" "I", Cond.fieldLink RX2 115 "SignalBoxModel" "nulls" "I", Cond.fieldLink RX2 118 "SignalBoxModel" "fulls" "I", Cond.methodLink RX2 59 yX2_isRoute, Cond.static yX2_isRoute, Cond.initialized RX2, Cond.code yX2_isRoute cX2_isRoute 1 (some .boolean), Cond.methodLink RX2 46 yX2_in, Cond.static yX2_in, Cond.code yX2_in cX2_in 3 (some .boolean), Cond.methodLink RX2 97 yX2_alone, Cond.instanceMethod yX2_alone, Cond.selects RX2 yX2_alone yX2_alone, Cond.code yX2_alone cX2_alone 6 (some .int), Cond.fieldLink RX2 40 "SignalBoxModel" "lengths" "[I", Cond.methodLink RX2 88 yX2_sectionOf, Cond.instanceMethod yX2_sectionOf, Cond.selects RX2 yX2_sectionOf yX2_sectionOf, Cond.code yX2_sectionOf cX2_sectionOf 3 (some .int), Cond.fieldLink RX2 34 "SignalBoxModel" "at" "[I", Cond.fieldLink RX2 37 "SignalBoxModel" "routes" "[I", Cond.methodLink RX2 69 yX2_claim]
def wsX2_run_r2 : List Cond := [Cond.instanceMethod yX2_claim, Cond.selects RX2 yX2_claim yX2_claim, Cond.code yX2_claim cX2_claim 2 none, Cond.fieldLink RX2 28 "SignalBoxModel" "held" "[I", Cond.fieldLink RX2 25 "SignalBoxModel" "claims" "[I", Cond.fieldLink RX2 31 "SignalBoxModel" "most" "[I", Cond.methodLink RX2 65 yX2_leave, Cond.instanceMethod yX2_leave, Cond.selects RX2 yX2_leave yX2_leave, Cond.code yX2_leave cX2_leave 2 none, Cond.fieldLink RX2 43 "SignalBoxModel" "trace" "[I", Cond.methodLink RX2 91 yX2_pass, Cond.instanceMethod yX2_pass, Cond.selects RX2 yX2_pass yX2_pass, Cond.code yX2_pass cX2_pass 4 (some .int), Cond.fieldLink RX2 7 "SignalBoxModel" "kinds" "[I", Cond.methodLink RX2 75 yX2_passPlain, Cond.instanceMethod yX2_passPlain, Cond.selects RX2 yX2_passPlain yX2_passPlain, Cond.code yX2_passPlain cX2_passPlain 4 (some .int), Cond.fieldLink RX2 19 "SignalBoxModel" "axles" "[I", Cond.fieldLink RX2 13 "SignalBoxModel" "limits" "[I", Cond.methodLink RX2 72 yX2_let, Cond.instanceMethod yX2_let]
def wsX2_run_r3 : List Cond := [Cond.selects RX2 yX2_let yX2_let, Cond.code yX2_let cX2_let 2 none, Cond.methodLink RX2 79 yX2_passPoints, Cond.instanceMethod yX2_passPoints, Cond.selects RX2 yX2_passPoints yX2_passPoints, Cond.code yX2_passPoints cX2_passPoints 4 (some .int), Cond.fieldLink RX2 22 "SignalBoxModel" "legs" "[I", Cond.methodLink RX2 82 yX2_passBridge, Cond.instanceMethod yX2_passBridge, Cond.selects RX2 yX2_passBridge yX2_passBridge, Cond.code yX2_passBridge cX2_passBridge 4 (some .int), Cond.fieldLink RX2 16 "SignalBoxModel" "marks" "[I", Cond.methodLink RX2 94 yX2_ended, Cond.static yX2_ended, Cond.code yX2_ended cX2_ended 2 (some .int), Cond.methodLink RX2 103 yX2_twoByTwo, Cond.instanceMethod yX2_twoByTwo, Cond.selects RX2 yX2_twoByTwo yX2_twoByTwo, Cond.code yX2_twoByTwo cX2_twoByTwo 8 (some .int), Cond.methodLink RX2 106 yX2_all, Cond.instanceMethod yX2_all, Cond.selects RX2 yX2_all yX2_all, Cond.code yX2_all cX2_all 6 (some .int), Cond.methodLink RX2 109 yX2_first]
def wsX2_run_r4 : List Cond := [Cond.instanceMethod yX2_first, Cond.selects RX2 yX2_first yX2_first, Cond.code yX2_first cX2_first 7 (some .int), Cond.methodLink RX2 112 yX2_round, Cond.instanceMethod yX2_round, Cond.selects RX2 yX2_round yX2_round, Cond.code yX2_round cX2_round 5 (some .int)]
def wsX2_run : List Cond := .code yX2_run cX2_run 5 (some .int) :: ((wsX2_run_r1 ++ (wsX2_run_r2 ++ (wsX2_run_r3 ++ wsX2_run_r4))) ++ wsX20)
def wsX2_shunt_r1 : List Cond := [Cond.fieldLink RX2 62 "SignalBoxModel" "traced" "I", Cond.fieldLink RX2 34 "SignalBoxModel" "at" "[I", Cond.fieldLink RX2 19 "SignalBoxModel" "axles" "[I", Cond.fieldLink RX2 13 "SignalBoxModel" "limits" "[I", Cond.methodLink RX2 50 yX2_isPlace, Cond.static yX2_isPlace, Cond.initialized RX2, Cond.code yX2_isPlace cX2_isPlace 1 (some .boolean), Cond.methodLink RX2 46 yX2_in, Cond.static yX2_in, Cond.code yX2_in cX2_in 3 (some .boolean), Cond.methodLink RX2 69 yX2_claim, Cond.instanceMethod yX2_claim, Cond.selects RX2 yX2_claim yX2_claim, Cond.code yX2_claim cX2_claim 2 none, Cond.fieldLink RX2 28 "SignalBoxModel" "held" "[I", Cond.fieldLink RX2 25 "SignalBoxModel" "claims" "[I", Cond.fieldLink RX2 31 "SignalBoxModel" "most" "[I", Cond.methodLink RX2 65 yX2_leave, Cond.instanceMethod yX2_leave, Cond.selects RX2 yX2_leave yX2_leave, Cond.code yX2_leave cX2_leave 2 none, Cond.fieldLink RX2 43 "SignalBoxModel" "trace" "[I", Cond.methodLink RX2 72 yX2_let]
def wsX2_shunt_r2 : List Cond := [Cond.instanceMethod yX2_let, Cond.selects RX2 yX2_let yX2_let, Cond.code yX2_let cX2_let 2 none]
def wsX2_shunt : List Cond := .code yX2_shunt cX2_shunt 7 (some .int) :: ((wsX2_shunt_r1 ++ wsX2_shunt_r2) ++ wsX20)
def wsX2_passed : List Cond := .code yX2_passed cX2_passed 1 (some .int) :: ([.fieldLink RX2 85 "SignalBoxModel" "passed" "I"] ++ wsX20)
def wsX2_trace : List Cond := .code yX2_trace cX2_trace 2 (some .int) :: ([.fieldLink RX2 62 "SignalBoxModel" "traced" "I", .fieldLink RX2 43 "SignalBoxModel" "trace" "[I", .methodLink RX2 46 yX2_in, .static yX2_in, .initialized RX2, .code yX2_in cX2_in 3 (some .boolean)] ++ wsX20)
def wsX2_told : List Cond := .code yX2_told cX2_told 4 (some .int) :: ([.fieldLink RX2 34 "SignalBoxModel" "at" "[I", .fieldLink RX2 7 "SignalBoxModel" "kinds" "[I", .fieldLink RX2 13 "SignalBoxModel" "limits" "[I", .fieldLink RX2 16 "SignalBoxModel" "marks" "[I", .fieldLink RX2 19 "SignalBoxModel" "axles" "[I", .fieldLink RX2 22 "SignalBoxModel" "legs" "[I", .fieldLink RX2 25 "SignalBoxModel" "claims" "[I", .fieldLink RX2 28 "SignalBoxModel" "held" "[I", .fieldLink RX2 31 "SignalBoxModel" "most" "[I", .methodLink RX2 50 yX2_isPlace, .static yX2_isPlace, .initialized RX2, .code yX2_isPlace cX2_isPlace 1 (some .boolean), .methodLink RX2 46 yX2_in, .static yX2_in, .code yX2_in cX2_in 3 (some .boolean)] ++ wsX20)
def wsX2_count : List Cond := .code yX2_count cX2_count 4 (some .int) :: ([.fieldLink RX2 40 "SignalBoxModel" "lengths" "[I", .fieldLink RX2 34 "SignalBoxModel" "at" "[I", .fieldLink RX2 55 "SignalBoxModel" "made" "I", .fieldLink RX2 100 "SignalBoxModel" "runs" "I", .fieldLink RX2 115 "SignalBoxModel" "nulls" "I", .fieldLink RX2 118 "SignalBoxModel" "fulls" "I", .methodLink RX2 46 yX2_in, .static yX2_in, .initialized RX2, .code yX2_in cX2_in 3 (some .boolean)] ++ wsX20)
def wsL_law_r1 : List Cond := [Cond.classLink RL 7 RX1, Cond.instantiable RX1 10, Cond.initialized RX1, Cond.classLink RL 10 RX2, Cond.instantiable RX2 18, Cond.initialized RX2, Cond.methodLink RL 9 yX1_init, Cond.instanceMethod yX1_init, Cond.code yX1_init cX1_init 1 none, Cond.methodLink RX1 1 objectInit, Cond.instanceMethod objectInit, Cond.code objectInit ⟨#[0xb1]⟩ 1 none, Cond.classLink RX1 9 RX0, Cond.fieldLink RX1 11 "SignalBox" "standing" "[LSignalBox$Section;", Cond.arrayClass .int, Cond.fieldLink RX1 15 "SignalBox" "routePlaces" "[I", Cond.fieldLink RX1 19 "SignalBox" "routeLengths" "[I", Cond.fieldLink RX1 22 "SignalBox" "trace" "[I", Cond.methodLink RL 12 yX2_init, Cond.instanceMethod yX2_init, Cond.code yX2_init cX2_init 2 none, Cond.methodLink RX2 1 objectInit, Cond.fieldLink RX2 7 "SignalBoxModel" "kinds" "[I", Cond.fieldLink RX2 13 "SignalBoxModel" "limits" "[I"]
def wsL_law_r2 : List Cond := [Cond.fieldLink RX2 16 "SignalBoxModel" "marks" "[I", Cond.fieldLink RX2 19 "SignalBoxModel" "axles" "[I", Cond.fieldLink RX2 22 "SignalBoxModel" "legs" "[I", Cond.fieldLink RX2 25 "SignalBoxModel" "claims" "[I", Cond.fieldLink RX2 28 "SignalBoxModel" "held" "[I", Cond.fieldLink RX2 31 "SignalBoxModel" "most" "[I", Cond.fieldLink RX2 34 "SignalBoxModel" "at" "[I", Cond.fieldLink RX2 37 "SignalBoxModel" "routes" "[I", Cond.fieldLink RX2 40 "SignalBoxModel" "lengths" "[I", Cond.fieldLink RX2 43 "SignalBoxModel" "trace" "[I", Cond.methodLink RL 13 yX1_section, Cond.instanceMethod yX1_section, Cond.selects RX1 yX1_section yX1_section, Cond.code yX1_section cX1_section 6 (some .int), Cond.instantiable RX0 9, Cond.initialized RX0, Cond.fieldLink RX1 32 "SignalBox" "made" "I", Cond.methodLink RX1 25 yX1_isPlace, Cond.static yX1_isPlace, Cond.code yX1_isPlace cX1_isPlace 1 (some .boolean), Cond.methodLink RX1 29 yX1_isLimit, Cond.static yX1_isLimit, Cond.code yX1_isLimit cX1_isLimit 1 (some .boolean), Cond.constant RX1 120 (100000)]
def wsL_law_r3 : List Cond := [Cond.instanceMethod yX0_init, Cond.code yX0_init cX0_init 5 none, Cond.methodLink RX0 1 objectInit, Cond.fieldLink RX0 7 "SignalBox$Section" "number" "I", Cond.fieldLink RX0 13 "SignalBox$Section" "kind" "I", Cond.fieldLink RX0 16 "SignalBox$Section" "limit" "I", Cond.fieldLink RX0 19 "SignalBox$Section" "mark" "I", Cond.methodLink RL 17 yX2_section, Cond.instanceMethod yX2_section, Cond.selects RX2 yX2_section yX2_section, Cond.code yX2_section cX2_section 5 (some .int), Cond.constant RX2 54 (100000), Cond.fieldLink RX2 55 "SignalBoxModel" "made" "I", Cond.methodLink RX2 50 yX2_isPlace, Cond.static yX2_isPlace, Cond.code yX2_isPlace cX2_isPlace 1 (some .boolean), Cond.methodLink RX2 46 yX2_in, Cond.static yX2_in, Cond.code yX2_in cX2_in 3 (some .boolean), Cond.methodLink RL 18 yX1_share, Cond.instanceMethod yX1_share, Cond.selects RX1 yX1_share yX1_share, Cond.code yX1_share cX1_share 3 (some .int), Cond.methodLink RL 22 yX2_share]
def wsL_law_r4 : List Cond := [Cond.instanceMethod yX2_share, Cond.selects RX2 yX2_share yX2_share, Cond.code yX2_share cX2_share 3 (some .int), Cond.methodLink RL 23 yX1_remove, Cond.instanceMethod yX1_remove, Cond.selects RX1 yX1_remove yX1_remove, Cond.code yX1_remove cX1_remove 3 (some .int), Cond.methodLink RL 27 yX2_remove, Cond.instanceMethod yX2_remove, Cond.selects RX2 yX2_remove yX2_remove, Cond.code yX2_remove cX2_remove 3 (some .int), Cond.methodLink RL 28 yX1_same, Cond.instanceMethod yX1_same, Cond.selects RX1 yX1_same yX1_same, Cond.code yX1_same cX1_same 3 (some .int), Cond.methodLink RL 31 yX2_same, Cond.instanceMethod yX2_same, Cond.selects RX2 yX2_same yX2_same, Cond.code yX2_same cX2_same 3 (some .int), Cond.methodLink RL 32 yX1_lead, Cond.instanceMethod yX1_lead, Cond.selects RX1 yX1_lead yX1_lead, Cond.code yX1_lead cX1_lead 4 (some .int), Cond.methodLink RX1 42 yX1_isRoute]
def wsL_law_r5 : List Cond := [Cond.static yX1_isRoute, Cond.code yX1_isRoute cX1_isRoute 1 (some .boolean), Cond.methodLink RL 35 yX2_lead, Cond.instanceMethod yX2_lead, Cond.selects RX2 yX2_lead yX2_lead, Cond.code yX2_lead cX2_lead 3 (some .int), Cond.methodLink RX2 59 yX2_isRoute, Cond.static yX2_isRoute, Cond.code yX2_isRoute cX2_isRoute 1 (some .boolean), Cond.methodLink RL 36 yX1_unlead, Cond.instanceMethod yX1_unlead, Cond.selects RX1 yX1_unlead yX1_unlead, Cond.code yX1_unlead cX1_unlead 3 (some .int), Cond.methodLink RL 39 yX2_unlead, Cond.instanceMethod yX2_unlead, Cond.selects RX2 yX2_unlead yX2_unlead, Cond.code yX2_unlead cX2_unlead 3 (some .int), Cond.methodLink RL 40 yX1_run, Cond.instanceMethod yX1_run, Cond.selects RX1 yX1_run yX1_run, Cond.code yX1_run cX1_run 4 (some .int), Cond.fieldLink RX1 48 "SignalBox" "runs" "I", Cond.fieldLink RX1 51 "SignalBox" "passed" "I", Cond.fieldLink RX1 54 "SignalBox" "traceLength" "I"]
def wsL_law_r6 : List Cond := [Cond.methodLink RX1 45 yX1_isAxles, Cond.static yX1_isAxles, Cond.code yX1_isAxles cX1_isAxles 1 (some .boolean), Cond.methodLink RX1 57 yX1_goAlone, Cond.instanceMethod yX1_goAlone, Cond.selects RX1 yX1_goAlone yX1_goAlone, Cond.code yX1_goAlone cX1_goAlone 8 (some .int), Cond.methodLink RX1 121 yX1_sectionOn, Cond.instanceMethod yX1_sectionOn, Cond.selects RX1 yX1_sectionOn yX1_sectionOn, Cond.code yX1_sectionOn cX1_sectionOn 3 (some (.object "SignalBox$Section")), Cond.methodLink RX1 75 yX1_claim, Cond.instanceMethod yX1_claim, Cond.selects RX1 yX1_claim yX1_claim, Cond.code yX1_claim cX1_claim 2 none, Cond.methodLink RX1 125 yX1_pass, Cond.instanceMethod yX1_pass, Cond.selects RX1 yX1_pass yX1_pass, Cond.code yX1_pass cX1_pass 4 (some .int), Cond.methodLink RX1 142 yX1_passBridge, Cond.instanceMethod yX1_passBridge, Cond.selects RX1 yX1_passBridge yX1_passBridge, Cond.code yX1_passBridge cX1_passBridge 4 (some .int), Cond.methodLink RX1 145 yX1_passPoints]
def wsL_law_r7 : List Cond := [Cond.instanceMethod yX1_passPoints, Cond.selects RX1 yX1_passPoints yX1_passPoints, Cond.code yX1_passPoints cX1_passPoints 4 (some .int), Cond.methodLink RX1 148 yX1_passPlain, Cond.instanceMethod yX1_passPlain, Cond.selects RX1 yX1_passPlain yX1_passPlain, Cond.code yX1_passPlain cX1_passPlain 4 (some .int), Cond.instanceMethod yX0_hasRoomFor, Cond.selects RX0 yX0_hasRoomFor yX0_hasRoomFor, Cond.code yX0_hasRoomFor cX0_hasRoomFor 2 (some .boolean), Cond.fieldLink RX0 22 "SignalBox$Section" "axles" "I", Cond.methodLink RX1 83 yX1_let, Cond.instanceMethod yX1_let, Cond.selects RX1 yX1_let yX1_let, Cond.code yX1_let cX1_let 2 none, Cond.methodLink RX1 129 yX1_answerTo, Cond.instanceMethod yX1_answerTo, Cond.selects RX1 yX1_answerTo yX1_answerTo, Cond.code yX1_answerTo cX1_answerTo 3 (some .int), Cond.methodLink RX1 61 yX1_counted, Cond.instanceMethod yX1_counted, Cond.selects RX1 yX1_counted yX1_counted, Cond.code yX1_counted cX1_counted 2 (some .int), Cond.fieldLink RX1 114 "SignalBox" "nullFailures" "I"]
def wsL_law_r8 : List Cond := [Cond.fieldLink RX1 117 "SignalBox" "fullFailures" "I", Cond.methodLink RX1 65 yX1_goTwoByTwo, Cond.instanceMethod yX1_goTwoByTwo, Cond.selects RX1 yX1_goTwoByTwo yX1_goTwoByTwo, Cond.code yX1_goTwoByTwo cX1_goTwoByTwo 8 (some .int), Cond.methodLink RX1 69 yX1_goAll, Cond.instanceMethod yX1_goAll, Cond.selects RX1 yX1_goAll yX1_goAll, Cond.code yX1_goAll cX1_goAll 8 (some .int), Cond.methodLink RX1 132 yX1_claimAll, Cond.instanceMethod yX1_claimAll, Cond.selects RX1 yX1_claimAll yX1_claimAll, Cond.code yX1_claimAll cX1_claimAll 4 (some .int), Cond.methodLink RX1 135 yX1_letAll, Cond.instanceMethod yX1_letAll, Cond.selects RX1 yX1_letAll yX1_letAll, Cond.code yX1_letAll cX1_letAll 5 none, Cond.methodLink RX1 72 yX1_goFirst, Cond.instanceMethod yX1_goFirst, Cond.selects RX1 yX1_goFirst yX1_goFirst, Cond.code yX1_goFirst cX1_goFirst 7 (some .int), Cond.methodLink RL 44 yX2_run, Cond.instanceMethod yX2_run, Cond.selects RX2 yX2_run yX2_run]
def wsL_law_r9 : List Cond := [Cond.code yX2_run cX2_run 5 (some .int), Cond.fieldLink RX2 100 "SignalBoxModel" "runs" "I", Cond.fieldLink RX2 62 "SignalBoxModel" "traced" "I", Cond.fieldLink RX2 85 "SignalBoxModel" "passed" "I", Cond.fieldLink RX2 115 "SignalBoxModel" "nulls" "I", Cond.fieldLink RX2 118 "SignalBoxModel" "fulls" "I", Cond.methodLink RX2 97 yX2_alone, Cond.instanceMethod yX2_alone, Cond.selects RX2 yX2_alone yX2_alone, Cond.code yX2_alone cX2_alone 6 (some .int), Cond.methodLink RX2 88 yX2_sectionOf, Cond.instanceMethod yX2_sectionOf, Cond.selects RX2 yX2_sectionOf yX2_sectionOf, Cond.code yX2_sectionOf cX2_sectionOf 3 (some .int), Cond.methodLink RX2 69 yX2_claim, Cond.instanceMethod yX2_claim, Cond.selects RX2 yX2_claim yX2_claim, Cond.code yX2_claim cX2_claim 2 none, Cond.methodLink RX2 65 yX2_leave, Cond.instanceMethod yX2_leave, Cond.selects RX2 yX2_leave yX2_leave, Cond.code yX2_leave cX2_leave 2 none, Cond.methodLink RX2 91 yX2_pass, Cond.instanceMethod yX2_pass]
def wsL_law_r10 : List Cond := [Cond.selects RX2 yX2_pass yX2_pass, Cond.code yX2_pass cX2_pass 4 (some .int), Cond.methodLink RX2 75 yX2_passPlain, Cond.instanceMethod yX2_passPlain, Cond.selects RX2 yX2_passPlain yX2_passPlain, Cond.code yX2_passPlain cX2_passPlain 4 (some .int), Cond.methodLink RX2 72 yX2_let, Cond.instanceMethod yX2_let, Cond.selects RX2 yX2_let yX2_let, Cond.code yX2_let cX2_let 2 none, Cond.methodLink RX2 79 yX2_passPoints, Cond.instanceMethod yX2_passPoints, Cond.selects RX2 yX2_passPoints yX2_passPoints, Cond.code yX2_passPoints cX2_passPoints 4 (some .int), Cond.methodLink RX2 82 yX2_passBridge, Cond.instanceMethod yX2_passBridge, Cond.selects RX2 yX2_passBridge yX2_passBridge, Cond.code yX2_passBridge cX2_passBridge 4 (some .int), Cond.methodLink RX2 94 yX2_ended, Cond.static yX2_ended, Cond.code yX2_ended cX2_ended 2 (some .int), Cond.methodLink RX2 103 yX2_twoByTwo, Cond.instanceMethod yX2_twoByTwo, Cond.selects RX2 yX2_twoByTwo yX2_twoByTwo]
def wsL_law_r11 : List Cond := [Cond.code yX2_twoByTwo cX2_twoByTwo 8 (some .int), Cond.methodLink RX2 106 yX2_all, Cond.instanceMethod yX2_all, Cond.selects RX2 yX2_all yX2_all, Cond.code yX2_all cX2_all 6 (some .int), Cond.methodLink RX2 109 yX2_first, Cond.instanceMethod yX2_first, Cond.selects RX2 yX2_first yX2_first, Cond.code yX2_first cX2_first 7 (some .int), Cond.methodLink RX2 112 yX2_round, Cond.instanceMethod yX2_round, Cond.selects RX2 yX2_round yX2_round, Cond.code yX2_round cX2_round 5 (some .int), Cond.methodLink RL 45 yX1_shunt, Cond.instanceMethod yX1_shunt, Cond.selects RX1 yX1_shunt yX1_shunt, Cond.code yX1_shunt cX1_shunt 6 (some .int), Cond.methodLink RX1 79 yX1_shuntOnto, Cond.instanceMethod yX1_shuntOnto, Cond.selects RX1 yX1_shuntOnto yX1_shuntOnto, Cond.code yX1_shuntOnto cX1_shuntOnto 5 (some .int), Cond.methodLink RL 48 yX2_shunt, Cond.instanceMethod yX2_shunt, Cond.selects RX2 yX2_shunt yX2_shunt]
def wsL_law_r12 : List Cond := [Cond.code yX2_shunt cX2_shunt 7 (some .int), Cond.methodLink RL 49 yX1_passed, Cond.instanceMethod yX1_passed, Cond.selects RX1 yX1_passed yX1_passed, Cond.code yX1_passed cX1_passed 1 (some .int), Cond.methodLink RL 53 yX2_passed, Cond.instanceMethod yX2_passed, Cond.selects RX2 yX2_passed yX2_passed, Cond.code yX2_passed cX2_passed 1 (some .int), Cond.methodLink RL 54 yX1_trace, Cond.instanceMethod yX1_trace, Cond.selects RX1 yX1_trace yX1_trace, Cond.code yX1_trace cX1_trace 2 (some .int), Cond.methodLink RL 57 yX2_trace, Cond.instanceMethod yX2_trace, Cond.selects RX2 yX2_trace yX2_trace, Cond.code yX2_trace cX2_trace 2 (some .int), Cond.methodLink RL 58 yX1_told, Cond.instanceMethod yX1_told, Cond.selects RX1 yX1_told yX1_told, Cond.code yX1_told cX1_told 4 (some .int), Cond.methodLink RL 61 yX2_told, Cond.instanceMethod yX2_told, Cond.selects RX2 yX2_told yX2_told]
def wsL_law_r13 : List Cond := [Cond.code yX2_told cX2_told 4 (some .int), Cond.methodLink RL 62 yX1_count, Cond.instanceMethod yX1_count, Cond.selects RX1 yX1_count yX1_count, Cond.code yX1_count cX1_count 2 (some .int), Cond.methodLink RX1 110 yX1_countStanding, Cond.instanceMethod yX1_countStanding, Cond.selects RX1 yX1_countStanding yX1_countStanding, Cond.code yX1_countStanding cX1_countStanding 3 (some .int), Cond.methodLink RL 65 yX2_count, Cond.instanceMethod yX2_count, Cond.selects RX2 yX2_count yX2_count, Cond.code yX2_count cX2_count 4 (some .int)]
def wsL_law : List Cond := (wsL_law_r1 ++ (wsL_law_r2 ++ (wsL_law_r3 ++ (wsL_law_r4 ++ (wsL_law_r5 ++ (wsL_law_r6 ++ (wsL_law_r7 ++ (wsL_law_r8 ++ (wsL_law_r9 ++ (wsL_law_r10 ++ (wsL_law_r11 ++ (wsL_law_r12 ++ wsL_law_r13)))))))))))) ++ wsX10 ++ wsX20 ++ wsX00 ++ ([] : List Cond)
set_option maxRecDepth 20000 in
theorem wsL_law_in : ∀ w ∈ wsL_law, w ∈ lw_tbl := fun w h => (goodIn_p wsL_law [39, 42, 252, 80, 83, 86, 91, 312, 315, 318, 129, 323, 133, 327, 137, 331, 141, 144, 335, 338, 148, 342, 152, 155, 159, 163, 167, 171, 175, 179, 183, 187, 191, 195, 199, 203, 207, 211, 215, 219, 346, 350, 354, 358, 362, 366, 370, 374, 378, 382, 385, 389, 393, 397, 401, 223, 227, 405, 231, 409, 235, 413, 239, 417, 243, 247, 421] (by decide +kernel) (by decide +kernel) w h).1
theorem inlX0 : ∀ w ∈ wsX00, w ∈ wsL_law := fun _ h => List.mem_append_left _ (List.mem_append_right _ h)
theorem inX0 : ∀ w ∈ wsX00, w ∈ lw_tbl := fun w h => wsL_law_in w (inlX0 w h)
theorem inlX1 : ∀ w ∈ wsX10, w ∈ wsL_law := fun _ h => List.mem_append_left _ (List.mem_append_left _ (List.mem_append_left _ (List.mem_append_right _ h)))
theorem inX1 : ∀ w ∈ wsX10, w ∈ lw_tbl := fun w h => wsL_law_in w (inlX1 w h)
theorem inlX2 : ∀ w ∈ wsX20, w ∈ wsL_law := fun _ h => List.mem_append_left _ (List.mem_append_left _ (List.mem_append_right _ h))
theorem inX2 : ∀ w ∈ wsX20, w ∈ lw_tbl := fun w h => wsL_law_in w (inlX2 w h)
set_option maxRecDepth 20000 in
theorem ggX1_section_X1_isPlace : GoodIn wsX1_section wsX1_isPlace := goodIn_r _ [9] (by decide +kernel) (by decide +kernel)
set_option maxRecDepth 20000 in
theorem gX1_section_X1_isPlace : GoodIn wsX1_section (va_wsS RX1 25 yX1_isPlace wsX1_isPlace) := goodIn_app (goodIn_of _ (by decide +kernel)) ggX1_section_X1_isPlace
set_option maxRecDepth 20000 in
theorem ggX1_section_X1_isLimit : GoodIn wsX1_section wsX1_isLimit := goodIn_r _ [12, 13] (by decide +kernel) (by decide +kernel)
set_option maxRecDepth 20000 in
theorem gX1_section_X1_isLimit : GoodIn wsX1_section (va_wsS RX1 29 yX1_isLimit wsX1_isLimit) := goodIn_app (goodIn_of _ (by decide +kernel)) ggX1_section_X1_isLimit
set_option maxRecDepth 20000 in
theorem ggX1_section_X0_init : GoodIn wsX1_section wsX0_init := goodIn_r _ [15, 16, 17, 18, 19, 20, 21, 22, 23, 24, 25, 26, 27, 28, 29, 30, 31] (by decide +kernel) (by decide +kernel)
set_option maxRecDepth 20000 in
theorem gX1_section_X0_init_n36 : GoodIn wsX1_section (wsX0_init) := ggX1_section_X0_init
set_option maxRecDepth 20000 in
theorem ggX1_share_X1_isPlace : GoodIn wsX1_share wsX1_isPlace := goodIn_r _ [5] (by decide +kernel) (by decide +kernel)
set_option maxRecDepth 20000 in
theorem gX1_share_X1_isPlace : GoodIn wsX1_share (va_wsS RX1 25 yX1_isPlace wsX1_isPlace) := goodIn_app (goodIn_of _ (by decide +kernel)) ggX1_share_X1_isPlace
set_option maxRecDepth 20000 in
theorem ggX1_remove_X1_isPlace : GoodIn wsX1_remove wsX1_isPlace := goodIn_r _ [5] (by decide +kernel) (by decide +kernel)
set_option maxRecDepth 20000 in
theorem gX1_remove_X1_isPlace : GoodIn wsX1_remove (va_wsS RX1 25 yX1_isPlace wsX1_isPlace) := goodIn_app (goodIn_of _ (by decide +kernel)) ggX1_remove_X1_isPlace
set_option maxRecDepth 20000 in
theorem ggX1_same_X1_isPlace : GoodIn wsX1_same wsX1_isPlace := goodIn_r _ [5] (by decide +kernel) (by decide +kernel)
set_option maxRecDepth 20000 in
theorem gX1_same_X1_isPlace : GoodIn wsX1_same (va_wsS RX1 25 yX1_isPlace wsX1_isPlace) := goodIn_app (goodIn_of _ (by decide +kernel)) ggX1_same_X1_isPlace
set_option maxRecDepth 20000 in
theorem ggX1_lead_X1_isRoute : GoodIn wsX1_lead wsX1_isRoute := goodIn_r _ [6] (by decide +kernel) (by decide +kernel)
set_option maxRecDepth 20000 in
theorem gX1_lead_X1_isRoute : GoodIn wsX1_lead (va_wsS RX1 42 yX1_isRoute wsX1_isRoute) := goodIn_app (goodIn_of _ (by decide +kernel)) ggX1_lead_X1_isRoute
set_option maxRecDepth 20000 in
theorem ggX1_lead_X1_isPlace : GoodIn wsX1_lead wsX1_isPlace := goodIn_r _ [9] (by decide +kernel) (by decide +kernel)
set_option maxRecDepth 20000 in
theorem gX1_lead_X1_isPlace : GoodIn wsX1_lead (va_wsS RX1 25 yX1_isPlace wsX1_isPlace) := goodIn_app (goodIn_of _ (by decide +kernel)) ggX1_lead_X1_isPlace
set_option maxRecDepth 20000 in
theorem ggX1_unlead_X1_isRoute : GoodIn wsX1_unlead wsX1_isRoute := goodIn_r _ [5] (by decide +kernel) (by decide +kernel)
set_option maxRecDepth 20000 in
theorem gX1_unlead_X1_isRoute : GoodIn wsX1_unlead (va_wsS RX1 42 yX1_isRoute wsX1_isRoute) := goodIn_app (goodIn_of _ (by decide +kernel)) ggX1_unlead_X1_isRoute
set_option maxRecDepth 20000 in
theorem ggX1_run_X1_isRoute : GoodIn wsX1_run wsX1_isRoute := goodIn_r _ [7] (by decide +kernel) (by decide +kernel)
set_option maxRecDepth 20000 in
theorem gX1_run_X1_isRoute : GoodIn wsX1_run (va_wsS RX1 42 yX1_isRoute wsX1_isRoute) := goodIn_app (goodIn_of _ (by decide +kernel)) ggX1_run_X1_isRoute
set_option maxRecDepth 20000 in
theorem ggX1_run_X1_isAxles : GoodIn wsX1_run wsX1_isAxles := goodIn_r _ [10] (by decide +kernel) (by decide +kernel)
set_option maxRecDepth 20000 in
theorem gX1_run_X1_isAxles : GoodIn wsX1_run (va_wsS RX1 45 yX1_isAxles wsX1_isAxles) := goodIn_app (goodIn_of _ (by decide +kernel)) ggX1_run_X1_isAxles
set_option maxRecDepth 20000 in
theorem ggX1_run_X1_goAlone : GoodIn wsX1_run wsX1_goAlone := goodIn_r _ [14, 15, 2, 16, 17, 18, 6, 19, 20, 21, 22, 23, 24, 25, 3, 26, 27, 28, 29, 30, 31, 32, 33, 34, 35, 36, 37, 38, 39, 40, 41, 42, 43, 44, 45, 46, 47, 48, 49, 50, 51, 52, 53, 54, 55, 56, 83, 84, 85, 86, 87, 88, 89, 90, 91, 92, 93, 94, 95, 96, 97, 98, 99, 100, 101] (by decide +kernel) (by decide +kernel)
set_option maxRecDepth 20000 in
theorem gX1_run_X1_goAlone : GoodIn wsX1_run (wsV RX1 57 RX1 yX1_goAlone wsX1_goAlone) := goodIn_app (goodIn_of _ (by decide +kernel)) ggX1_run_X1_goAlone
set_option maxRecDepth 20000 in
theorem ggX1_run_X1_counted : GoodIn wsX1_run wsX1_counted := goodIn_r _ [60, 61, 62, 83, 84, 85, 86, 87, 88, 89, 90, 91, 92] (by decide +kernel) (by decide +kernel)
set_option maxRecDepth 20000 in
theorem gX1_run_X1_counted : GoodIn wsX1_run (wsV RX1 61 RX1 yX1_counted wsX1_counted) := goodIn_app (goodIn_of _ (by decide +kernel)) ggX1_run_X1_counted
set_option maxRecDepth 20000 in
theorem ggX1_run_X1_goTwoByTwo : GoodIn wsX1_run wsX1_goTwoByTwo := goodIn_r _ [66, 15, 2, 16, 17, 18, 6, 19, 20, 21, 22, 23, 24, 25, 3, 26, 27, 28, 29, 30, 31, 32, 33, 34, 35, 36, 37, 38, 39, 40, 41, 42, 43, 44, 45, 46, 47, 48, 49, 50, 51, 52, 53, 54, 55, 56, 83, 84, 85, 86, 87, 88, 89, 90, 91, 92, 93, 94, 95, 96, 97, 98, 99, 100, 101] (by decide +kernel) (by decide +kernel)
set_option maxRecDepth 20000 in
theorem gX1_run_X1_goTwoByTwo : GoodIn wsX1_run (wsV RX1 65 RX1 yX1_goTwoByTwo wsX1_goTwoByTwo) := goodIn_app (goodIn_of _ (by decide +kernel)) ggX1_run_X1_goTwoByTwo
set_option maxRecDepth 20000 in
theorem ggX1_run_X1_goAll : GoodIn wsX1_run wsX1_goAll := goodIn_r _ [70, 15, 71, 72, 73, 6, 74, 16, 17, 18, 19, 20, 21, 22, 23, 24, 25, 3, 26, 53, 54, 55, 56, 2, 27, 28, 29, 30, 31, 32, 33, 34, 35, 36, 37, 38, 39, 40, 41, 42, 43, 44, 45, 46, 47, 48, 49, 50, 51, 52, 75, 76, 77, 78, 83, 84, 85, 86, 87, 88, 89, 90, 91, 92, 93, 94, 95, 96, 97, 98, 99, 100, 101] (by decide +kernel) (by decide +kernel)
set_option maxRecDepth 20000 in
theorem gX1_run_X1_goAll : GoodIn wsX1_run (wsV RX1 69 RX1 yX1_goAll wsX1_goAll) := goodIn_app (goodIn_of _ (by decide +kernel)) ggX1_run_X1_goAll
set_option maxRecDepth 20000 in
theorem ggX1_run_X1_goFirst : GoodIn wsX1_run wsX1_goFirst := goodIn_r _ [82, 15, 2, 16, 17, 18, 6, 19, 20, 21, 22, 23, 24, 25, 3, 26, 43, 44, 45, 46, 47, 48, 27, 28, 29, 30, 31, 32, 33, 34, 35, 36, 37, 38, 39, 40, 41, 42, 49, 50, 51, 52, 53, 54, 55, 56, 83, 84, 85, 86, 87, 88, 89, 90, 91, 92, 93, 94, 95, 96, 97, 98, 99, 100, 101] (by decide +kernel) (by decide +kernel)
set_option maxRecDepth 20000 in
theorem gX1_run_X1_goFirst : GoodIn wsX1_run (wsV RX1 72 RX1 yX1_goFirst wsX1_goFirst) := goodIn_app (goodIn_of _ (by decide +kernel)) ggX1_run_X1_goFirst
set_option maxRecDepth 20000 in
theorem ggX1_shunt_X1_isPlace : GoodIn wsX1_shunt wsX1_isPlace := goodIn_r _ [6] (by decide +kernel) (by decide +kernel)
set_option maxRecDepth 20000 in
theorem gX1_shunt_X1_isPlace : GoodIn wsX1_shunt (va_wsS RX1 25 yX1_isPlace wsX1_isPlace) := goodIn_app (goodIn_of _ (by decide +kernel)) ggX1_shunt_X1_isPlace
set_option maxRecDepth 20000 in
theorem ggX1_shunt_X1_isAxles : GoodIn wsX1_shunt wsX1_isAxles := goodIn_r _ [9] (by decide +kernel) (by decide +kernel)
set_option maxRecDepth 20000 in
theorem gX1_shunt_X1_isAxles : GoodIn wsX1_shunt (va_wsS RX1 45 yX1_isAxles wsX1_isAxles) := goodIn_app (goodIn_of _ (by decide +kernel)) ggX1_shunt_X1_isAxles
set_option maxRecDepth 20000 in
theorem ggX1_shunt_X1_claim : GoodIn wsX1_shunt wsX1_claim := goodIn_r _ [13, 1, 14, 39, 40, 41, 42, 43, 44, 45, 46, 47, 29, 30, 31, 32, 33, 34, 35, 36, 37, 38] (by decide +kernel) (by decide +kernel)
set_option maxRecDepth 20000 in
theorem gX1_shunt_X1_claim : GoodIn wsX1_shunt (wsV RX1 75 RX1 yX1_claim wsX1_claim) := goodIn_app (goodIn_of _ (by decide +kernel)) ggX1_shunt_X1_claim
set_option maxRecDepth 20000 in
theorem ggX1_shunt_X1_shuntOnto : GoodIn wsX1_shunt wsX1_shuntOnto := goodIn_r _ [18, 10, 11, 12, 5, 13, 1, 14, 19, 20, 21, 22, 23, 24, 25, 26, 27, 28, 39, 40, 41, 42, 43, 44, 45, 46, 47, 29, 30, 31, 32, 33, 34, 35, 36, 37, 38] (by decide +kernel) (by decide +kernel)
set_option maxRecDepth 20000 in
theorem gX1_shunt_X1_shuntOnto : GoodIn wsX1_shunt (wsV RX1 79 RX1 yX1_shuntOnto wsX1_shuntOnto) := goodIn_app (goodIn_of _ (by decide +kernel)) ggX1_shunt_X1_shuntOnto
set_option maxRecDepth 20000 in
theorem ggX1_shunt_X1_let : GoodIn wsX1_shunt wsX1_let := goodIn_r _ [28, 1, 14, 39, 40, 41, 42, 43, 44, 45, 46, 47, 29, 30, 31, 32, 33, 34, 35, 36, 37, 38] (by decide +kernel) (by decide +kernel)
set_option maxRecDepth 20000 in
theorem gX1_shunt_X1_let : GoodIn wsX1_shunt (wsV RX1 83 RX1 yX1_let wsX1_let) := goodIn_app (goodIn_of _ (by decide +kernel)) ggX1_shunt_X1_let
set_option maxRecDepth 20000 in
theorem ggX1_told_X1_isPlace : GoodIn wsX1_told wsX1_isPlace := goodIn_r _ [5] (by decide +kernel) (by decide +kernel)
set_option maxRecDepth 20000 in
theorem gX1_told_X1_isPlace : GoodIn wsX1_told (va_wsS RX1 25 yX1_isPlace wsX1_isPlace) := goodIn_app (goodIn_of _ (by decide +kernel)) ggX1_told_X1_isPlace
set_option maxRecDepth 20000 in
theorem ggX1_count_X1_countStanding : GoodIn wsX1_count wsX1_countStanding := goodIn_r _ [10, 11, 15, 16, 17, 18, 19, 20, 21, 22, 23, 24] (by decide +kernel) (by decide +kernel)
set_option maxRecDepth 20000 in
theorem gX1_count_X1_countStanding : GoodIn wsX1_count (wsV RX1 110 RX1 yX1_countStanding wsX1_countStanding) := goodIn_app (goodIn_of _ (by decide +kernel)) ggX1_count_X1_countStanding
set_option maxRecDepth 20000 in
theorem ggX1_count_X1_isRoute : GoodIn wsX1_count wsX1_isRoute := goodIn_r _ [14] (by decide +kernel) (by decide +kernel)
set_option maxRecDepth 20000 in
theorem gX1_count_X1_isRoute : GoodIn wsX1_count (va_wsS RX1 42 yX1_isRoute wsX1_isRoute) := goodIn_app (goodIn_of _ (by decide +kernel)) ggX1_count_X1_isRoute
set_option maxRecDepth 20000 in
theorem ggX1_goAlone_X1_sectionOn : GoodIn wsX1_goAlone wsX1_sectionOn := goodIn_r _ [7, 8, 9, 46, 47, 48, 49, 50, 51, 52, 53, 54, 55] (by decide +kernel) (by decide +kernel)
set_option maxRecDepth 20000 in
theorem gX1_goAlone_X1_sectionOn : GoodIn wsX1_goAlone (wsV RX1 121 RX1 yX1_sectionOn wsX1_sectionOn) := goodIn_app (goodIn_of _ (by decide +kernel)) ggX1_goAlone_X1_sectionOn
set_option maxRecDepth 20000 in
theorem ggX1_goAlone_X1_claim : GoodIn wsX1_goAlone wsX1_claim := goodIn_r _ [13, 14, 15, 56, 57, 58, 59, 60, 61, 62, 63, 64, 46, 47, 48, 49, 50, 51, 52, 53, 54, 55] (by decide +kernel) (by decide +kernel)
set_option maxRecDepth 20000 in
theorem gX1_goAlone_X1_claim : GoodIn wsX1_goAlone (wsV RX1 75 RX1 yX1_claim wsX1_claim) := goodIn_app (goodIn_of _ (by decide +kernel)) ggX1_goAlone_X1_claim
set_option maxRecDepth 20000 in
theorem ggX1_goAlone_X1_pass : GoodIn wsX1_goAlone wsX1_pass := goodIn_r _ [19, 2, 20, 21, 22, 6, 23, 10, 11, 12, 13, 14, 15, 24, 25, 26, 27, 28, 29, 30, 31, 32, 33, 34, 35, 36, 37, 38, 39, 40, 41, 56, 57, 58, 59, 60, 61, 62, 63, 64, 46, 47, 48, 49, 50, 51, 52, 53, 54, 55] (by decide +kernel) (by decide +kernel)
set_option maxRecDepth 20000 in
theorem gX1_goAlone_X1_pass : GoodIn wsX1_goAlone (wsV RX1 125 RX1 yX1_pass wsX1_pass) := goodIn_app (goodIn_of _ (by decide +kernel)) ggX1_goAlone_X1_pass
set_option maxRecDepth 20000 in
theorem ggX1_goAlone_X1_let : GoodIn wsX1_goAlone wsX1_let := goodIn_r _ [41, 14, 15, 56, 57, 58, 59, 60, 61, 62, 63, 64, 46, 47, 48, 49, 50, 51, 52, 53, 54, 55] (by decide +kernel) (by decide +kernel)
set_option maxRecDepth 20000 in
theorem gX1_goAlone_X1_let : GoodIn wsX1_goAlone (wsV RX1 83 RX1 yX1_let wsX1_let) := goodIn_app (goodIn_of _ (by decide +kernel)) ggX1_goAlone_X1_let
set_option maxRecDepth 20000 in
theorem ggX1_goAlone_X1_answerTo : GoodIn wsX1_goAlone wsX1_answerTo := goodIn_r _ [45, 2, 46, 47, 48, 49, 50, 51, 52, 53, 54, 55] (by decide +kernel) (by decide +kernel)
set_option maxRecDepth 20000 in
theorem gX1_goAlone_X1_answerTo : GoodIn wsX1_goAlone (wsV RX1 129 RX1 yX1_answerTo wsX1_answerTo) := goodIn_app (goodIn_of _ (by decide +kernel)) ggX1_goAlone_X1_answerTo
set_option maxRecDepth 20000 in
theorem ggX1_goTwoByTwo_X1_sectionOn : GoodIn wsX1_goTwoByTwo wsX1_sectionOn := goodIn_r _ [7, 8, 9, 46, 47, 48, 49, 50, 51, 52, 53, 54, 55] (by decide +kernel) (by decide +kernel)
set_option maxRecDepth 20000 in
theorem gX1_goTwoByTwo_X1_sectionOn : GoodIn wsX1_goTwoByTwo (wsV RX1 121 RX1 yX1_sectionOn wsX1_sectionOn) := goodIn_app (goodIn_of _ (by decide +kernel)) ggX1_goTwoByTwo_X1_sectionOn
set_option maxRecDepth 20000 in
theorem ggX1_goTwoByTwo_X1_claim : GoodIn wsX1_goTwoByTwo wsX1_claim := goodIn_r _ [13, 14, 15, 56, 57, 58, 59, 60, 61, 62, 63, 64, 46, 47, 48, 49, 50, 51, 52, 53, 54, 55] (by decide +kernel) (by decide +kernel)
set_option maxRecDepth 20000 in
theorem gX1_goTwoByTwo_X1_claim : GoodIn wsX1_goTwoByTwo (wsV RX1 75 RX1 yX1_claim wsX1_claim) := goodIn_app (goodIn_of _ (by decide +kernel)) ggX1_goTwoByTwo_X1_claim
set_option maxRecDepth 20000 in
theorem ggX1_goTwoByTwo_X1_pass : GoodIn wsX1_goTwoByTwo wsX1_pass := goodIn_r _ [19, 2, 20, 21, 22, 6, 23, 10, 11, 12, 13, 14, 15, 24, 25, 26, 27, 28, 29, 30, 31, 32, 33, 34, 35, 36, 37, 38, 39, 40, 41, 56, 57, 58, 59, 60, 61, 62, 63, 64, 46, 47, 48, 49, 50, 51, 52, 53, 54, 55] (by decide +kernel) (by decide +kernel)
set_option maxRecDepth 20000 in
theorem gX1_goTwoByTwo_X1_pass : GoodIn wsX1_goTwoByTwo (wsV RX1 125 RX1 yX1_pass wsX1_pass) := goodIn_app (goodIn_of _ (by decide +kernel)) ggX1_goTwoByTwo_X1_pass
set_option maxRecDepth 20000 in
theorem ggX1_goTwoByTwo_X1_let : GoodIn wsX1_goTwoByTwo wsX1_let := goodIn_r _ [41, 14, 15, 56, 57, 58, 59, 60, 61, 62, 63, 64, 46, 47, 48, 49, 50, 51, 52, 53, 54, 55] (by decide +kernel) (by decide +kernel)
set_option maxRecDepth 20000 in
theorem gX1_goTwoByTwo_X1_let : GoodIn wsX1_goTwoByTwo (wsV RX1 83 RX1 yX1_let wsX1_let) := goodIn_app (goodIn_of _ (by decide +kernel)) ggX1_goTwoByTwo_X1_let
set_option maxRecDepth 20000 in
theorem ggX1_goTwoByTwo_X1_answerTo : GoodIn wsX1_goTwoByTwo wsX1_answerTo := goodIn_r _ [45, 2, 46, 47, 48, 49, 50, 51, 52, 53, 54, 55] (by decide +kernel) (by decide +kernel)
set_option maxRecDepth 20000 in
theorem gX1_goTwoByTwo_X1_answerTo : GoodIn wsX1_goTwoByTwo (wsV RX1 129 RX1 yX1_answerTo wsX1_answerTo) := goodIn_app (goodIn_of _ (by decide +kernel)) ggX1_goTwoByTwo_X1_answerTo
set_option maxRecDepth 20000 in
theorem ggX1_goAll_X1_claimAll : GoodIn wsX1_goAll wsX1_claimAll := goodIn_r _ [6, 1, 7, 8, 9, 5, 10, 11, 12, 13, 14, 15, 16, 17, 18, 54, 55, 56, 57, 58, 59, 60, 61, 62, 63, 64, 65, 66, 67, 68, 69, 70, 71, 72] (by decide +kernel) (by decide +kernel)
set_option maxRecDepth 20000 in
theorem gX1_goAll_X1_claimAll : GoodIn wsX1_goAll (wsV RX1 132 RX1 yX1_claimAll wsX1_claimAll) := goodIn_app (goodIn_of _ (by decide +kernel)) ggX1_goAll_X1_claimAll
set_option maxRecDepth 20000 in
theorem ggX1_goAll_X1_answerTo : GoodIn wsX1_goAll wsX1_answerTo := goodIn_r _ [22, 23, 54, 55, 56, 57, 58, 59, 60, 61, 62, 63] (by decide +kernel) (by decide +kernel)
set_option maxRecDepth 20000 in
theorem gX1_goAll_X1_answerTo : GoodIn wsX1_goAll (wsV RX1 129 RX1 yX1_answerTo wsX1_answerTo) := goodIn_app (goodIn_of _ (by decide +kernel)) ggX1_goAll_X1_answerTo
set_option maxRecDepth 20000 in
theorem ggX1_goAll_X1_sectionOn : GoodIn wsX1_goAll wsX1_sectionOn := goodIn_r _ [10, 11, 12, 54, 55, 56, 57, 58, 59, 60, 61, 62, 63] (by decide +kernel) (by decide +kernel)
set_option maxRecDepth 20000 in
theorem gX1_goAll_X1_sectionOn : GoodIn wsX1_goAll (wsV RX1 121 RX1 yX1_sectionOn wsX1_sectionOn) := goodIn_app (goodIn_of _ (by decide +kernel)) ggX1_goAll_X1_sectionOn
set_option maxRecDepth 20000 in
theorem ggX1_goAll_X1_pass : GoodIn wsX1_goAll wsX1_pass := goodIn_r _ [27, 23, 28, 29, 30, 5, 31, 13, 14, 15, 16, 17, 18, 32, 33, 34, 35, 36, 37, 38, 39, 40, 41, 42, 43, 44, 45, 46, 47, 48, 49, 64, 65, 66, 67, 68, 69, 70, 71, 72, 54, 55, 56, 57, 58, 59, 60, 61, 62, 63] (by decide +kernel) (by decide +kernel)
set_option maxRecDepth 20000 in
theorem gX1_goAll_X1_pass : GoodIn wsX1_goAll (wsV RX1 125 RX1 yX1_pass wsX1_pass) := goodIn_app (goodIn_of _ (by decide +kernel)) ggX1_goAll_X1_pass
set_option maxRecDepth 20000 in
theorem ggX1_goAll_X1_letAll : GoodIn wsX1_goAll wsX1_letAll := goodIn_r _ [53, 7, 8, 9, 5, 10, 11, 12, 46, 47, 48, 49, 17, 18, 54, 55, 56, 57, 58, 59, 60, 61, 62, 63, 64, 65, 66, 67, 68, 69, 70, 71, 72] (by decide +kernel) (by decide +kernel)
set_option maxRecDepth 20000 in
theorem gX1_goAll_X1_letAll : GoodIn wsX1_goAll (wsV RX1 135 RX1 yX1_letAll wsX1_letAll) := goodIn_app (goodIn_of _ (by decide +kernel)) ggX1_goAll_X1_letAll
set_option maxRecDepth 20000 in
theorem ggX1_claimAll_X1_sectionOn : GoodIn wsX1_claimAll wsX1_sectionOn := goodIn_r _ [6, 7, 8, 15, 16, 17, 18, 19, 20, 21, 22, 23, 24] (by decide +kernel) (by decide +kernel)
set_option maxRecDepth 20000 in
theorem gX1_claimAll_X1_sectionOn : GoodIn wsX1_claimAll (wsV RX1 121 RX1 yX1_sectionOn wsX1_sectionOn) := goodIn_app (goodIn_of _ (by decide +kernel)) ggX1_claimAll_X1_sectionOn
set_option maxRecDepth 20000 in
theorem ggX1_claimAll_X1_claim : GoodIn wsX1_claimAll wsX1_claim := goodIn_r _ [12, 13, 14, 25, 26, 27, 28, 29, 30, 31, 32, 33, 15, 16, 17, 18, 19, 20, 21, 22, 23, 24] (by decide +kernel) (by decide +kernel)
set_option maxRecDepth 20000 in
theorem gX1_claimAll_X1_claim : GoodIn wsX1_claimAll (wsV RX1 75 RX1 yX1_claim wsX1_claim) := goodIn_app (goodIn_of _ (by decide +kernel)) ggX1_claimAll_X1_claim
set_option maxRecDepth 20000 in
theorem ggX1_letAll_X1_sectionOn : GoodIn wsX1_letAll wsX1_sectionOn := goodIn_r _ [5, 6, 7, 14, 15, 16, 17, 18, 19, 20, 21, 22, 23] (by decide +kernel) (by decide +kernel)
set_option maxRecDepth 20000 in
theorem gX1_letAll_X1_sectionOn : GoodIn wsX1_letAll (wsV RX1 121 RX1 yX1_sectionOn wsX1_sectionOn) := goodIn_app (goodIn_of _ (by decide +kernel)) ggX1_letAll_X1_sectionOn
set_option maxRecDepth 20000 in
theorem ggX1_letAll_X1_let : GoodIn wsX1_letAll wsX1_let := goodIn_r _ [11, 12, 13, 24, 25, 26, 27, 28, 29, 30, 31, 32, 14, 15, 16, 17, 18, 19, 20, 21, 22, 23] (by decide +kernel) (by decide +kernel)
set_option maxRecDepth 20000 in
theorem gX1_letAll_X1_let : GoodIn wsX1_letAll (wsV RX1 83 RX1 yX1_let wsX1_let) := goodIn_app (goodIn_of _ (by decide +kernel)) ggX1_letAll_X1_let
set_option maxRecDepth 20000 in
theorem ggX1_goFirst_X1_sectionOn : GoodIn wsX1_goFirst wsX1_sectionOn := goodIn_r _ [7, 8, 9, 46, 47, 48, 49, 50, 51, 52, 53, 54, 55] (by decide +kernel) (by decide +kernel)
set_option maxRecDepth 20000 in
theorem gX1_goFirst_X1_sectionOn : GoodIn wsX1_goFirst (wsV RX1 121 RX1 yX1_sectionOn wsX1_sectionOn) := goodIn_app (goodIn_of _ (by decide +kernel)) ggX1_goFirst_X1_sectionOn
set_option maxRecDepth 20000 in
theorem ggX1_goFirst_X1_claim : GoodIn wsX1_goFirst wsX1_claim := goodIn_r _ [13, 14, 15, 56, 57, 58, 59, 60, 61, 62, 63, 64, 46, 47, 48, 49, 50, 51, 52, 53, 54, 55] (by decide +kernel) (by decide +kernel)
set_option maxRecDepth 20000 in
theorem gX1_goFirst_X1_claim : GoodIn wsX1_goFirst (wsV RX1 75 RX1 yX1_claim wsX1_claim) := goodIn_app (goodIn_of _ (by decide +kernel)) ggX1_goFirst_X1_claim
set_option maxRecDepth 20000 in
theorem ggX1_goFirst_X0_hasRoomFor : GoodIn wsX1_goFirst wsX0_hasRoomFor := goodIn_r _ [19, 20, 21, 56, 57, 58, 59, 60, 61, 62, 63, 64] (by decide +kernel) (by decide +kernel)
set_option maxRecDepth 20000 in
theorem gX1_goFirst_X0_hasRoomFor_n139 : GoodIn wsX1_goFirst (wsX0_hasRoomFor) := ggX1_goFirst_X0_hasRoomFor
set_option maxRecDepth 20000 in
theorem ggX1_goFirst_X1_pass : GoodIn wsX1_goFirst wsX1_pass := goodIn_r _ [25, 2, 26, 27, 28, 6, 29, 10, 11, 12, 13, 14, 15, 30, 31, 32, 33, 34, 35, 36, 37, 16, 17, 18, 19, 20, 21, 38, 39, 40, 41, 56, 57, 58, 59, 60, 61, 62, 63, 64, 46, 47, 48, 49, 50, 51, 52, 53, 54, 55] (by decide +kernel) (by decide +kernel)
set_option maxRecDepth 20000 in
theorem gX1_goFirst_X1_pass : GoodIn wsX1_goFirst (wsV RX1 125 RX1 yX1_pass wsX1_pass) := goodIn_app (goodIn_of _ (by decide +kernel)) ggX1_goFirst_X1_pass
set_option maxRecDepth 20000 in
theorem ggX1_goFirst_X1_let : GoodIn wsX1_goFirst wsX1_let := goodIn_r _ [41, 14, 15, 56, 57, 58, 59, 60, 61, 62, 63, 64, 46, 47, 48, 49, 50, 51, 52, 53, 54, 55] (by decide +kernel) (by decide +kernel)
set_option maxRecDepth 20000 in
theorem gX1_goFirst_X1_let : GoodIn wsX1_goFirst (wsV RX1 83 RX1 yX1_let wsX1_let) := goodIn_app (goodIn_of _ (by decide +kernel)) ggX1_goFirst_X1_let
set_option maxRecDepth 20000 in
theorem ggX1_goFirst_X1_answerTo : GoodIn wsX1_goFirst wsX1_answerTo := goodIn_r _ [45, 2, 46, 47, 48, 49, 50, 51, 52, 53, 54, 55] (by decide +kernel) (by decide +kernel)
set_option maxRecDepth 20000 in
theorem gX1_goFirst_X1_answerTo : GoodIn wsX1_goFirst (wsV RX1 129 RX1 yX1_answerTo wsX1_answerTo) := goodIn_app (goodIn_of _ (by decide +kernel)) ggX1_goFirst_X1_answerTo
set_option maxRecDepth 20000 in
theorem ggX1_pass_X1_passBridge : GoodIn wsX1_pass wsX1_passBridge := goodIn_r _ [6, 7, 8, 9, 5, 10, 11, 12, 13, 14, 15, 16, 17, 18, 19, 20, 21, 22, 23, 24, 25, 26, 27, 28, 29, 30, 31, 32, 33, 34, 35, 36, 37, 38, 39, 40, 41, 42, 43, 44, 45, 46, 47, 48, 49] (by decide +kernel) (by decide +kernel)
set_option maxRecDepth 20000 in
theorem gX1_pass_X1_passBridge : GoodIn wsX1_pass (wsV RX1 142 RX1 yX1_passBridge wsX1_passBridge) := goodIn_app (goodIn_of _ (by decide +kernel)) ggX1_pass_X1_passBridge
set_option maxRecDepth 20000 in
theorem ggX1_pass_X1_passPoints : GoodIn wsX1_pass wsX1_passPoints := goodIn_r _ [16, 7, 8, 9, 5, 10, 11, 12, 17, 18, 19, 20, 21, 22, 23, 24, 25, 26, 27, 28, 29, 30, 31, 32, 33, 34, 35, 36, 37, 38, 39, 40, 41, 42, 43, 44, 45, 46, 47, 48, 49] (by decide +kernel) (by decide +kernel)
set_option maxRecDepth 20000 in
theorem gX1_pass_X1_passPoints : GoodIn wsX1_pass (wsV RX1 145 RX1 yX1_passPoints wsX1_passPoints) := goodIn_app (goodIn_of _ (by decide +kernel)) ggX1_pass_X1_passPoints
set_option maxRecDepth 20000 in
theorem ggX1_pass_X1_passPlain : GoodIn wsX1_pass wsX1_passPlain := goodIn_r _ [20, 7, 8, 9, 5, 10, 11, 12, 21, 22, 23, 24, 25, 26, 27, 28, 29, 30, 31, 32, 33, 34, 35, 36, 37, 38, 39, 40, 41, 42, 43, 44, 45, 46, 47, 48, 49] (by decide +kernel) (by decide +kernel)
set_option maxRecDepth 20000 in
theorem gX1_pass_X1_passPlain : GoodIn wsX1_pass (wsV RX1 148 RX1 yX1_passPlain wsX1_passPlain) := goodIn_app (goodIn_of _ (by decide +kernel)) ggX1_pass_X1_passPlain
set_option maxRecDepth 20000 in
theorem ggX1_passBridge_X1_claim : GoodIn wsX1_passBridge wsX1_claim := goodIn_r _ [5, 6, 7, 26, 27, 28, 29, 30, 31, 32, 33, 34, 35, 36, 37, 38, 39, 40, 41, 42, 43, 44] (by decide +kernel) (by decide +kernel)
set_option maxRecDepth 20000 in
theorem gX1_passBridge_X1_claim : GoodIn wsX1_passBridge (wsV RX1 75 RX1 yX1_claim wsX1_claim) := goodIn_app (goodIn_of _ (by decide +kernel)) ggX1_passBridge_X1_claim
set_option maxRecDepth 20000 in
theorem ggX1_passBridge_X1_passPoints : GoodIn wsX1_passBridge wsX1_passPoints := goodIn_r _ [11, 1, 2, 3, 4, 5, 6, 7, 12, 13, 14, 15, 16, 17, 18, 19, 20, 21, 22, 23, 24, 25, 26, 27, 28, 29, 30, 31, 32, 33, 34, 35, 36, 37, 38, 39, 40, 41, 42, 43, 44] (by decide +kernel) (by decide +kernel)
set_option maxRecDepth 20000 in
theorem gX1_passBridge_X1_passPoints : GoodIn wsX1_passBridge (wsV RX1 145 RX1 yX1_passPoints wsX1_passPoints) := goodIn_app (goodIn_of _ (by decide +kernel)) ggX1_passBridge_X1_passPoints
set_option maxRecDepth 20000 in
theorem ggX1_passBridge_X1_let : GoodIn wsX1_passBridge wsX1_let := goodIn_r _ [25, 6, 7, 26, 27, 28, 29, 30, 31, 32, 33, 34, 35, 36, 37, 38, 39, 40, 41, 42, 43, 44] (by decide +kernel) (by decide +kernel)
set_option maxRecDepth 20000 in
theorem gX1_passBridge_X1_let : GoodIn wsX1_passBridge (wsV RX1 83 RX1 yX1_let wsX1_let) := goodIn_app (goodIn_of _ (by decide +kernel)) ggX1_passBridge_X1_let
set_option maxRecDepth 20000 in
theorem ggX1_passPoints_X1_claim : GoodIn wsX1_passPoints wsX1_claim := goodIn_r _ [5, 6, 7, 22, 23, 24, 25, 26, 27, 28, 29, 30, 31, 32, 33, 34, 35, 36, 37, 38, 39, 40] (by decide +kernel) (by decide +kernel)
set_option maxRecDepth 20000 in
theorem gX1_passPoints_X1_claim : GoodIn wsX1_passPoints (wsV RX1 75 RX1 yX1_claim wsX1_claim) := goodIn_app (goodIn_of _ (by decide +kernel)) ggX1_passPoints_X1_claim
set_option maxRecDepth 20000 in
theorem ggX1_passPoints_X1_passPlain : GoodIn wsX1_passPoints wsX1_passPlain := goodIn_r _ [11, 1, 2, 3, 4, 5, 6, 7, 12, 13, 14, 15, 16, 17, 18, 19, 20, 21, 22, 23, 24, 25, 26, 27, 28, 29, 30, 31, 32, 33, 34, 35, 36, 37, 38, 39, 40] (by decide +kernel) (by decide +kernel)
set_option maxRecDepth 20000 in
theorem gX1_passPoints_X1_passPlain : GoodIn wsX1_passPoints (wsV RX1 148 RX1 yX1_passPlain wsX1_passPlain) := goodIn_app (goodIn_of _ (by decide +kernel)) ggX1_passPoints_X1_passPlain
set_option maxRecDepth 20000 in
theorem ggX1_passPoints_X1_let : GoodIn wsX1_passPoints wsX1_let := goodIn_r _ [21, 6, 7, 22, 23, 24, 25, 26, 27, 28, 29, 30, 31, 32, 33, 34, 35, 36, 37, 38, 39, 40] (by decide +kernel) (by decide +kernel)
set_option maxRecDepth 20000 in
theorem gX1_passPoints_X1_let : GoodIn wsX1_passPoints (wsV RX1 83 RX1 yX1_let wsX1_let) := goodIn_app (goodIn_of _ (by decide +kernel)) ggX1_passPoints_X1_let
set_option maxRecDepth 20000 in
theorem ggX1_passPlain_X1_claim : GoodIn wsX1_passPlain wsX1_claim := goodIn_r _ [5, 6, 7, 18, 19, 20, 21, 22, 23, 24, 25, 26, 27, 28, 29, 30, 31, 32, 33, 34, 35, 36] (by decide +kernel) (by decide +kernel)
set_option maxRecDepth 20000 in
theorem gX1_passPlain_X1_claim : GoodIn wsX1_passPlain (wsV RX1 75 RX1 yX1_claim wsX1_claim) := goodIn_app (goodIn_of _ (by decide +kernel)) ggX1_passPlain_X1_claim
set_option maxRecDepth 20000 in
theorem ggX1_passPlain_X0_hasRoomFor : GoodIn wsX1_passPlain wsX0_hasRoomFor := goodIn_r _ [11, 12, 13, 18, 19, 20, 21, 22, 23, 24, 25, 26] (by decide +kernel) (by decide +kernel)
set_option maxRecDepth 20000 in
theorem gX1_passPlain_X0_hasRoomFor_n139 : GoodIn wsX1_passPlain (wsX0_hasRoomFor) := ggX1_passPlain_X0_hasRoomFor
set_option maxRecDepth 20000 in
theorem ggX1_passPlain_X1_let : GoodIn wsX1_passPlain wsX1_let := goodIn_r _ [17, 6, 7, 18, 19, 20, 21, 22, 23, 24, 25, 26, 27, 28, 29, 30, 31, 32, 33, 34, 35, 36] (by decide +kernel) (by decide +kernel)
set_option maxRecDepth 20000 in
theorem gX1_passPlain_X1_let : GoodIn wsX1_passPlain (wsV RX1 83 RX1 yX1_let wsX1_let) := goodIn_app (goodIn_of _ (by decide +kernel)) ggX1_passPlain_X1_let
set_option maxRecDepth 20000 in
theorem ggX1_shuntOnto_X1_claim : GoodIn wsX1_shuntOnto wsX1_claim := goodIn_r _ [5, 6, 7, 18, 19, 20, 21, 22, 23, 24, 25, 26, 27, 28, 29, 30, 31, 32, 33, 34, 35, 36] (by decide +kernel) (by decide +kernel)
set_option maxRecDepth 20000 in
theorem gX1_shuntOnto_X1_claim : GoodIn wsX1_shuntOnto (wsV RX1 75 RX1 yX1_claim wsX1_claim) := goodIn_app (goodIn_of _ (by decide +kernel)) ggX1_shuntOnto_X1_claim
set_option maxRecDepth 20000 in
theorem ggX1_shuntOnto_X0_hasRoomFor : GoodIn wsX1_shuntOnto wsX0_hasRoomFor := goodIn_r _ [11, 12, 13, 18, 19, 20, 21, 22, 23, 24, 25, 26] (by decide +kernel) (by decide +kernel)
set_option maxRecDepth 20000 in
theorem gX1_shuntOnto_X0_hasRoomFor_n139 : GoodIn wsX1_shuntOnto (wsX0_hasRoomFor) := ggX1_shuntOnto_X0_hasRoomFor
set_option maxRecDepth 20000 in
theorem ggX1_shuntOnto_X1_let : GoodIn wsX1_shuntOnto wsX1_let := goodIn_r _ [17, 6, 7, 18, 19, 20, 21, 22, 23, 24, 25, 26, 27, 28, 29, 30, 31, 32, 33, 34, 35, 36] (by decide +kernel) (by decide +kernel)
set_option maxRecDepth 20000 in
theorem gX1_shuntOnto_X1_let : GoodIn wsX1_shuntOnto (wsV RX1 83 RX1 yX1_let wsX1_let) := goodIn_app (goodIn_of _ (by decide +kernel)) ggX1_shuntOnto_X1_let
set_option maxRecDepth 20000 in
theorem ggX2_isPlace_X2_in : GoodIn wsX2_isPlace wsX2_in := goodIn_r _ [4] (by decide +kernel) (by decide +kernel)
set_option maxRecDepth 20000 in
theorem gX2_isPlace_X2_in : GoodIn wsX2_isPlace (va_wsS RX2 46 yX2_in wsX2_in) := goodIn_app (goodIn_of _ (by decide +kernel)) ggX2_isPlace_X2_in
set_option maxRecDepth 20000 in
theorem ggX2_isRoute_X2_in : GoodIn wsX2_isRoute wsX2_in := goodIn_r _ [4] (by decide +kernel) (by decide +kernel)
set_option maxRecDepth 20000 in
theorem gX2_isRoute_X2_in : GoodIn wsX2_isRoute (va_wsS RX2 46 yX2_in wsX2_in) := goodIn_app (goodIn_of _ (by decide +kernel)) ggX2_isRoute_X2_in
set_option maxRecDepth 20000 in
theorem ggX2_section_X2_isPlace : GoodIn wsX2_section wsX2_isPlace := goodIn_r _ [10, 11, 12, 9, 13] (by decide +kernel) (by decide +kernel)
set_option maxRecDepth 20000 in
theorem gX2_section_X2_isPlace : GoodIn wsX2_section (va_wsS RX2 50 yX2_isPlace wsX2_isPlace) := goodIn_app (goodIn_of _ (by decide +kernel)) ggX2_section_X2_isPlace
set_option maxRecDepth 20000 in
theorem ggX2_section_X2_in : GoodIn wsX2_section wsX2_in := goodIn_r _ [13] (by decide +kernel) (by decide +kernel)
set_option maxRecDepth 20000 in
theorem gX2_section_X2_in : GoodIn wsX2_section (va_wsS RX2 46 yX2_in wsX2_in) := goodIn_app (goodIn_of _ (by decide +kernel)) ggX2_section_X2_in
set_option maxRecDepth 20000 in
theorem ggX2_share_X2_isPlace : GoodIn wsX2_share wsX2_isPlace := goodIn_r _ [5, 6, 7, 4, 8] (by decide +kernel) (by decide +kernel)
set_option maxRecDepth 20000 in
theorem gX2_share_X2_isPlace : GoodIn wsX2_share (va_wsS RX2 50 yX2_isPlace wsX2_isPlace) := goodIn_app (goodIn_of _ (by decide +kernel)) ggX2_share_X2_isPlace
set_option maxRecDepth 20000 in
theorem ggX2_remove_X2_isPlace : GoodIn wsX2_remove wsX2_isPlace := goodIn_r _ [5, 6, 7, 4, 8] (by decide +kernel) (by decide +kernel)
set_option maxRecDepth 20000 in
theorem gX2_remove_X2_isPlace : GoodIn wsX2_remove (va_wsS RX2 50 yX2_isPlace wsX2_isPlace) := goodIn_app (goodIn_of _ (by decide +kernel)) ggX2_remove_X2_isPlace
set_option maxRecDepth 20000 in
theorem ggX2_same_X2_isPlace : GoodIn wsX2_same wsX2_isPlace := goodIn_r _ [5, 6, 7, 4, 8] (by decide +kernel) (by decide +kernel)
set_option maxRecDepth 20000 in
theorem gX2_same_X2_isPlace : GoodIn wsX2_same (va_wsS RX2 50 yX2_isPlace wsX2_isPlace) := goodIn_app (goodIn_of _ (by decide +kernel)) ggX2_same_X2_isPlace
set_option maxRecDepth 20000 in
theorem ggX2_lead_X2_isRoute : GoodIn wsX2_lead wsX2_isRoute := goodIn_r _ [6, 7, 8, 5, 9] (by decide +kernel) (by decide +kernel)
set_option maxRecDepth 20000 in
theorem gX2_lead_X2_isRoute : GoodIn wsX2_lead (va_wsS RX2 59 yX2_isRoute wsX2_isRoute) := goodIn_app (goodIn_of _ (by decide +kernel)) ggX2_lead_X2_isRoute
set_option maxRecDepth 20000 in
theorem ggX2_lead_X2_isPlace : GoodIn wsX2_lead wsX2_isPlace := goodIn_r _ [12, 7, 8, 5, 9] (by decide +kernel) (by decide +kernel)
set_option maxRecDepth 20000 in
theorem gX2_lead_X2_isPlace : GoodIn wsX2_lead (va_wsS RX2 50 yX2_isPlace wsX2_isPlace) := goodIn_app (goodIn_of _ (by decide +kernel)) ggX2_lead_X2_isPlace
set_option maxRecDepth 20000 in
theorem ggX2_unlead_X2_isRoute : GoodIn wsX2_unlead wsX2_isRoute := goodIn_r _ [5, 6, 7, 4, 8] (by decide +kernel) (by decide +kernel)
set_option maxRecDepth 20000 in
theorem gX2_unlead_X2_isRoute : GoodIn wsX2_unlead (va_wsS RX2 59 yX2_isRoute wsX2_isRoute) := goodIn_app (goodIn_of _ (by decide +kernel)) ggX2_unlead_X2_isRoute
set_option maxRecDepth 20000 in
theorem ggX2_claim_X2_leave : GoodIn wsX2_claim wsX2_leave := goodIn_r _ [8, 9, 10, 11, 12, 13, 14, 15, 16, 17, 18, 19, 20, 21, 22, 23, 24, 25, 26, 27, 28] (by decide +kernel) (by decide +kernel)
set_option maxRecDepth 20000 in
theorem gX2_claim_X2_leave : GoodIn wsX2_claim (wsV RX2 65 RX2 yX2_leave wsX2_leave) := goodIn_app (goodIn_of _ (by decide +kernel)) ggX2_claim_X2_leave
set_option maxRecDepth 20000 in
theorem ggX2_let_X2_leave : GoodIn wsX2_let wsX2_leave := goodIn_r _ [6, 7, 8, 9, 10, 11, 12, 13, 14, 15, 16, 17, 18, 19, 20, 21, 22, 23, 24, 25, 26] (by decide +kernel) (by decide +kernel)
set_option maxRecDepth 20000 in
theorem gX2_let_X2_leave : GoodIn wsX2_let (wsV RX2 65 RX2 yX2_leave wsX2_leave) := goodIn_app (goodIn_of _ (by decide +kernel)) ggX2_let_X2_leave
set_option maxRecDepth 20000 in
theorem ggX2_passPlain_X2_claim : GoodIn wsX2_passPlain wsX2_claim := goodIn_r _ [7, 8, 9, 10, 11, 12, 13, 6, 14, 15, 16, 21, 22, 23, 24, 25, 26, 27, 28, 29, 30, 31, 32, 33, 34, 35, 36, 37, 38] (by decide +kernel) (by decide +kernel)
set_option maxRecDepth 20000 in
theorem gX2_passPlain_X2_claim : GoodIn wsX2_passPlain (wsV RX2 69 RX2 yX2_claim wsX2_claim) := goodIn_app (goodIn_of _ (by decide +kernel)) ggX2_passPlain_X2_claim
set_option maxRecDepth 20000 in
theorem ggX2_passPlain_X2_let : GoodIn wsX2_passPlain wsX2_let := goodIn_r _ [20, 8, 11, 12, 13, 6, 14, 15, 16, 21, 22, 23, 24, 25, 26, 27, 28, 29, 30, 31, 32, 33, 34, 35, 36, 37, 38] (by decide +kernel) (by decide +kernel)
set_option maxRecDepth 20000 in
theorem gX2_passPlain_X2_let : GoodIn wsX2_passPlain (wsV RX2 72 RX2 yX2_let wsX2_let) := goodIn_app (goodIn_of _ (by decide +kernel)) ggX2_passPlain_X2_let
set_option maxRecDepth 20000 in
theorem ggX2_passPoints_X2_claim : GoodIn wsX2_passPoints wsX2_claim := goodIn_r _ [6, 7, 8, 9, 10, 11, 12, 5, 13, 14, 15, 26, 27, 28, 29, 30, 31, 32, 33, 34, 35, 36, 37, 38, 39, 40, 41, 42, 43] (by decide +kernel) (by decide +kernel)
set_option maxRecDepth 20000 in
theorem gX2_passPoints_X2_claim : GoodIn wsX2_passPoints (wsV RX2 69 RX2 yX2_claim wsX2_claim) := goodIn_app (goodIn_of _ (by decide +kernel)) ggX2_passPoints_X2_claim
set_option maxRecDepth 20000 in
theorem ggX2_passPoints_X2_passPlain : GoodIn wsX2_passPoints wsX2_passPlain := goodIn_r _ [19, 20, 21, 2, 3, 4, 5, 6, 7, 8, 9, 10, 11, 12, 13, 14, 15, 22, 23, 24, 25, 26, 27, 28, 29, 30, 31, 32, 33, 34, 35, 36, 37, 38, 39, 40, 41, 42, 43] (by decide +kernel) (by decide +kernel)
set_option maxRecDepth 20000 in
theorem gX2_passPoints_X2_passPlain : GoodIn wsX2_passPoints (wsV RX2 75 RX2 yX2_passPlain wsX2_passPlain) := goodIn_app (goodIn_of _ (by decide +kernel)) ggX2_passPoints_X2_passPlain
set_option maxRecDepth 20000 in
theorem ggX2_passPoints_X2_let : GoodIn wsX2_passPoints wsX2_let := goodIn_r _ [25, 7, 10, 11, 12, 5, 13, 14, 15, 26, 27, 28, 29, 30, 31, 32, 33, 34, 35, 36, 37, 38, 39, 40, 41, 42, 43] (by decide +kernel) (by decide +kernel)
set_option maxRecDepth 20000 in
theorem gX2_passPoints_X2_let : GoodIn wsX2_passPoints (wsV RX2 72 RX2 yX2_let wsX2_let) := goodIn_app (goodIn_of _ (by decide +kernel)) ggX2_passPoints_X2_let
set_option maxRecDepth 20000 in
theorem ggX2_passBridge_X2_claim : GoodIn wsX2_passBridge wsX2_claim := goodIn_r _ [6, 7, 8, 9, 10, 11, 12, 5, 13, 14, 15, 31, 32, 33, 34, 35, 36, 37, 38, 39, 40, 41, 42, 43, 44, 45, 46, 47, 48] (by decide +kernel) (by decide +kernel)
set_option maxRecDepth 20000 in
theorem gX2_passBridge_X2_claim : GoodIn wsX2_passBridge (wsV RX2 69 RX2 yX2_claim wsX2_claim) := goodIn_app (goodIn_of _ (by decide +kernel)) ggX2_passBridge_X2_claim
set_option maxRecDepth 20000 in
theorem ggX2_passBridge_X2_passPoints : GoodIn wsX2_passBridge wsX2_passPoints := goodIn_r _ [19, 20, 2, 3, 4, 5, 6, 7, 8, 9, 10, 11, 12, 13, 14, 15, 21, 22, 23, 24, 25, 26, 27, 28, 29, 30, 31, 32, 33, 34, 35, 36, 37, 38, 39, 40, 41, 42, 43, 44, 45, 46, 47, 48] (by decide +kernel) (by decide +kernel)
set_option maxRecDepth 20000 in
theorem gX2_passBridge_X2_passPoints : GoodIn wsX2_passBridge (wsV RX2 79 RX2 yX2_passPoints wsX2_passPoints) := goodIn_app (goodIn_of _ (by decide +kernel)) ggX2_passBridge_X2_passPoints
set_option maxRecDepth 20000 in
theorem ggX2_passBridge_X2_let : GoodIn wsX2_passBridge wsX2_let := goodIn_r _ [30, 7, 10, 11, 12, 5, 13, 14, 15, 31, 32, 33, 34, 35, 36, 37, 38, 39, 40, 41, 42, 43, 44, 45, 46, 47, 48] (by decide +kernel) (by decide +kernel)
set_option maxRecDepth 20000 in
theorem gX2_passBridge_X2_let : GoodIn wsX2_passBridge (wsV RX2 72 RX2 yX2_let wsX2_let) := goodIn_app (goodIn_of _ (by decide +kernel)) ggX2_passBridge_X2_let
set_option maxRecDepth 20000 in
theorem ggX2_pass_X2_passPlain : GoodIn wsX2_pass wsX2_passPlain := goodIn_r _ [7, 8, 9, 10, 11, 12, 6, 13, 14, 15, 16, 17, 18, 19, 20, 21, 22, 23, 24, 25, 26, 37, 38, 39, 40, 41, 42, 43, 44, 45, 46, 47, 48, 49, 50, 51, 52, 53, 54] (by decide +kernel) (by decide +kernel)
set_option maxRecDepth 20000 in
theorem gX2_pass_X2_passPlain : GoodIn wsX2_pass (wsV RX2 75 RX2 yX2_passPlain wsX2_passPlain) := goodIn_app (goodIn_of _ (by decide +kernel)) ggX2_pass_X2_passPlain
set_option maxRecDepth 20000 in
theorem ggX2_pass_X2_passPoints : GoodIn wsX2_pass wsX2_passPoints := goodIn_r _ [30, 31, 10, 11, 12, 6, 13, 14, 15, 16, 17, 18, 19, 20, 21, 22, 3, 4, 5, 7, 8, 9, 23, 24, 25, 26, 37, 38, 39, 40, 41, 42, 43, 44, 45, 46, 47, 48, 49, 50, 51, 52, 53, 54] (by decide +kernel) (by decide +kernel)
set_option maxRecDepth 20000 in
theorem gX2_pass_X2_passPoints : GoodIn wsX2_pass (wsV RX2 79 RX2 yX2_passPoints wsX2_passPoints) := goodIn_app (goodIn_of _ (by decide +kernel)) ggX2_pass_X2_passPoints
set_option maxRecDepth 20000 in
theorem ggX2_pass_X2_passBridge : GoodIn wsX2_pass wsX2_passBridge := goodIn_r _ [35, 36, 10, 11, 12, 6, 13, 14, 15, 16, 17, 18, 19, 20, 21, 22, 27, 28, 29, 30, 31, 3, 4, 5, 7, 8, 9, 23, 24, 25, 26, 37, 38, 39, 40, 41, 42, 43, 44, 45, 46, 47, 48, 49, 50, 51, 52, 53, 54] (by decide +kernel) (by decide +kernel)
set_option maxRecDepth 20000 in
theorem gX2_pass_X2_passBridge : GoodIn wsX2_pass (wsV RX2 82 RX2 yX2_passBridge wsX2_passBridge) := goodIn_app (goodIn_of _ (by decide +kernel)) ggX2_pass_X2_passBridge
set_option maxRecDepth 20000 in
theorem ggX2_alone_X2_sectionOf : GoodIn wsX2_alone wsX2_sectionOf := goodIn_r _ [6, 7, 8, 51, 52, 53, 54, 55, 56, 57, 58, 59, 60, 61, 62, 63, 64, 65, 66, 67, 68] (by decide +kernel) (by decide +kernel)
set_option maxRecDepth 20000 in
theorem gX2_alone_X2_sectionOf : GoodIn wsX2_alone (wsV RX2 88 RX2 yX2_sectionOf wsX2_sectionOf) := goodIn_app (goodIn_of _ (by decide +kernel)) ggX2_alone_X2_sectionOf
set_option maxRecDepth 20000 in
theorem ggX2_alone_X2_claim : GoodIn wsX2_alone wsX2_claim := goodIn_r _ [12, 13, 14, 15, 16, 17, 18, 5, 19, 20, 21, 51, 52, 53, 54, 55, 56, 57, 58, 59, 60, 61, 62, 63, 64, 65, 66, 67, 68] (by decide +kernel) (by decide +kernel)
set_option maxRecDepth 20000 in
theorem gX2_alone_X2_claim : GoodIn wsX2_alone (wsV RX2 69 RX2 yX2_claim wsX2_claim) := goodIn_app (goodIn_of _ (by decide +kernel)) ggX2_alone_X2_claim
set_option maxRecDepth 20000 in
theorem ggX2_alone_X2_pass : GoodIn wsX2_alone wsX2_pass := goodIn_r _ [25, 26, 27, 28, 29, 30, 5, 31, 32, 33, 9, 10, 11, 12, 13, 14, 15, 16, 17, 18, 19, 20, 21, 34, 35, 36, 37, 38, 39, 40, 41, 42, 43, 44, 45, 46, 47, 51, 52, 53, 54, 55, 56, 57, 58, 59, 60, 61, 62, 63, 64, 65, 66, 67, 68] (by decide +kernel) (by decide +kernel)
set_option maxRecDepth 20000 in
theorem gX2_alone_X2_pass : GoodIn wsX2_alone (wsV RX2 91 RX2 yX2_pass wsX2_pass) := goodIn_app (goodIn_of _ (by decide +kernel)) ggX2_alone_X2_pass
set_option maxRecDepth 20000 in
theorem ggX2_alone_X2_ended : GoodIn wsX2_alone wsX2_ended := goodIn_r _ [50] (by decide +kernel) (by decide +kernel)
set_option maxRecDepth 20000 in
theorem gX2_alone_X2_ended : GoodIn wsX2_alone (va_wsS RX2 94 yX2_ended wsX2_ended) := goodIn_app (goodIn_of _ (by decide +kernel)) ggX2_alone_X2_ended
set_option maxRecDepth 20000 in
theorem ggX2_alone_X2_let : GoodIn wsX2_alone wsX2_let := goodIn_r _ [37, 13, 16, 17, 18, 5, 19, 20, 21, 51, 52, 53, 54, 55, 56, 57, 58, 59, 60, 61, 62, 63, 64, 65, 66, 67, 68] (by decide +kernel) (by decide +kernel)
set_option maxRecDepth 20000 in
theorem gX2_alone_X2_let : GoodIn wsX2_alone (wsV RX2 72 RX2 yX2_let wsX2_let) := goodIn_app (goodIn_of _ (by decide +kernel)) ggX2_alone_X2_let
set_option maxRecDepth 20000 in
theorem ggX2_twoByTwo_X2_sectionOf : GoodIn wsX2_twoByTwo wsX2_sectionOf := goodIn_r _ [6, 7, 8, 51, 52, 53, 54, 55, 56, 57, 58, 59, 60, 61, 62, 63, 64, 65, 66, 67, 68] (by decide +kernel) (by decide +kernel)
set_option maxRecDepth 20000 in
theorem gX2_twoByTwo_X2_sectionOf : GoodIn wsX2_twoByTwo (wsV RX2 88 RX2 yX2_sectionOf wsX2_sectionOf) := goodIn_app (goodIn_of _ (by decide +kernel)) ggX2_twoByTwo_X2_sectionOf
set_option maxRecDepth 20000 in
theorem ggX2_twoByTwo_X2_claim : GoodIn wsX2_twoByTwo wsX2_claim := goodIn_r _ [12, 13, 14, 15, 16, 17, 18, 5, 19, 20, 21, 51, 52, 53, 54, 55, 56, 57, 58, 59, 60, 61, 62, 63, 64, 65, 66, 67, 68] (by decide +kernel) (by decide +kernel)
set_option maxRecDepth 20000 in
theorem gX2_twoByTwo_X2_claim : GoodIn wsX2_twoByTwo (wsV RX2 69 RX2 yX2_claim wsX2_claim) := goodIn_app (goodIn_of _ (by decide +kernel)) ggX2_twoByTwo_X2_claim
set_option maxRecDepth 20000 in
theorem ggX2_twoByTwo_X2_pass : GoodIn wsX2_twoByTwo wsX2_pass := goodIn_r _ [25, 26, 27, 28, 29, 30, 5, 31, 32, 33, 9, 10, 11, 12, 13, 14, 15, 16, 17, 18, 19, 20, 21, 34, 35, 36, 37, 38, 39, 40, 41, 42, 43, 44, 45, 46, 47, 51, 52, 53, 54, 55, 56, 57, 58, 59, 60, 61, 62, 63, 64, 65, 66, 67, 68] (by decide +kernel) (by decide +kernel)
set_option maxRecDepth 20000 in
theorem gX2_twoByTwo_X2_pass : GoodIn wsX2_twoByTwo (wsV RX2 91 RX2 yX2_pass wsX2_pass) := goodIn_app (goodIn_of _ (by decide +kernel)) ggX2_twoByTwo_X2_pass
set_option maxRecDepth 20000 in
theorem ggX2_twoByTwo_X2_ended : GoodIn wsX2_twoByTwo wsX2_ended := goodIn_r _ [50] (by decide +kernel) (by decide +kernel)
set_option maxRecDepth 20000 in
theorem gX2_twoByTwo_X2_ended : GoodIn wsX2_twoByTwo (va_wsS RX2 94 yX2_ended wsX2_ended) := goodIn_app (goodIn_of _ (by decide +kernel)) ggX2_twoByTwo_X2_ended
set_option maxRecDepth 20000 in
theorem ggX2_twoByTwo_X2_let : GoodIn wsX2_twoByTwo wsX2_let := goodIn_r _ [37, 13, 16, 17, 18, 5, 19, 20, 21, 51, 52, 53, 54, 55, 56, 57, 58, 59, 60, 61, 62, 63, 64, 65, 66, 67, 68] (by decide +kernel) (by decide +kernel)
set_option maxRecDepth 20000 in
theorem gX2_twoByTwo_X2_let : GoodIn wsX2_twoByTwo (wsV RX2 72 RX2 yX2_let wsX2_let) := goodIn_app (goodIn_of _ (by decide +kernel)) ggX2_twoByTwo_X2_let
set_option maxRecDepth 20000 in
theorem ggX2_all_X2_sectionOf : GoodIn wsX2_all wsX2_sectionOf := goodIn_r _ [6, 7, 8, 51, 52, 53, 54, 55, 56, 57, 58, 59, 60, 61, 62, 63, 64, 65, 66, 67, 68] (by decide +kernel) (by decide +kernel)
set_option maxRecDepth 20000 in
theorem gX2_all_X2_sectionOf : GoodIn wsX2_all (wsV RX2 88 RX2 yX2_sectionOf wsX2_sectionOf) := goodIn_app (goodIn_of _ (by decide +kernel)) ggX2_all_X2_sectionOf
set_option maxRecDepth 20000 in
theorem ggX2_all_X2_claim : GoodIn wsX2_all wsX2_claim := goodIn_r _ [12, 13, 14, 15, 16, 17, 18, 5, 19, 20, 21, 51, 52, 53, 54, 55, 56, 57, 58, 59, 60, 61, 62, 63, 64, 65, 66, 67, 68] (by decide +kernel) (by decide +kernel)
set_option maxRecDepth 20000 in
theorem gX2_all_X2_claim : GoodIn wsX2_all (wsV RX2 69 RX2 yX2_claim wsX2_claim) := goodIn_app (goodIn_of _ (by decide +kernel)) ggX2_all_X2_claim
set_option maxRecDepth 20000 in
theorem ggX2_all_X2_pass : GoodIn wsX2_all wsX2_pass := goodIn_r _ [25, 26, 27, 28, 29, 30, 5, 31, 32, 33, 9, 10, 11, 12, 13, 14, 15, 16, 17, 18, 19, 20, 21, 34, 35, 36, 37, 38, 39, 40, 41, 42, 43, 44, 45, 46, 47, 51, 52, 53, 54, 55, 56, 57, 58, 59, 60, 61, 62, 63, 64, 65, 66, 67, 68] (by decide +kernel) (by decide +kernel)
set_option maxRecDepth 20000 in
theorem gX2_all_X2_pass : GoodIn wsX2_all (wsV RX2 91 RX2 yX2_pass wsX2_pass) := goodIn_app (goodIn_of _ (by decide +kernel)) ggX2_all_X2_pass
set_option maxRecDepth 20000 in
theorem ggX2_all_X2_ended : GoodIn wsX2_all wsX2_ended := goodIn_r _ [50] (by decide +kernel) (by decide +kernel)
set_option maxRecDepth 20000 in
theorem gX2_all_X2_ended : GoodIn wsX2_all (va_wsS RX2 94 yX2_ended wsX2_ended) := goodIn_app (goodIn_of _ (by decide +kernel)) ggX2_all_X2_ended
set_option maxRecDepth 20000 in
theorem ggX2_all_X2_let : GoodIn wsX2_all wsX2_let := goodIn_r _ [37, 13, 16, 17, 18, 5, 19, 20, 21, 51, 52, 53, 54, 55, 56, 57, 58, 59, 60, 61, 62, 63, 64, 65, 66, 67, 68] (by decide +kernel) (by decide +kernel)
set_option maxRecDepth 20000 in
theorem gX2_all_X2_let : GoodIn wsX2_all (wsV RX2 72 RX2 yX2_let wsX2_let) := goodIn_app (goodIn_of _ (by decide +kernel)) ggX2_all_X2_let
set_option maxRecDepth 20000 in
theorem ggX2_first_X2_sectionOf : GoodIn wsX2_first wsX2_sectionOf := goodIn_r _ [9, 10, 11, 51, 52, 53, 54, 55, 56, 57, 58, 59, 60, 61, 62, 63, 64, 65, 66, 67, 68] (by decide +kernel) (by decide +kernel)
set_option maxRecDepth 20000 in
theorem gX2_first_X2_sectionOf : GoodIn wsX2_first (wsV RX2 88 RX2 yX2_sectionOf wsX2_sectionOf) := goodIn_app (goodIn_of _ (by decide +kernel)) ggX2_first_X2_sectionOf
set_option maxRecDepth 20000 in
theorem ggX2_first_X2_claim : GoodIn wsX2_first wsX2_claim := goodIn_r _ [15, 16, 17, 18, 19, 20, 21, 8, 22, 23, 24, 51, 52, 53, 54, 55, 56, 57, 58, 59, 60, 61, 62, 63, 64, 65, 66, 67, 68] (by decide +kernel) (by decide +kernel)
set_option maxRecDepth 20000 in
theorem gX2_first_X2_claim : GoodIn wsX2_first (wsV RX2 69 RX2 yX2_claim wsX2_claim) := goodIn_app (goodIn_of _ (by decide +kernel)) ggX2_first_X2_claim
set_option maxRecDepth 20000 in
theorem ggX2_first_X2_pass : GoodIn wsX2_first wsX2_pass := goodIn_r _ [28, 29, 30, 31, 32, 33, 8, 34, 2, 3, 12, 13, 14, 15, 16, 17, 18, 19, 20, 21, 22, 23, 24, 35, 36, 37, 38, 39, 40, 41, 42, 4, 43, 44, 45, 46, 47, 51, 52, 53, 54, 55, 56, 57, 58, 59, 60, 61, 62, 63, 64, 65, 66, 67, 68] (by decide +kernel) (by decide +kernel)
set_option maxRecDepth 20000 in
theorem gX2_first_X2_pass : GoodIn wsX2_first (wsV RX2 91 RX2 yX2_pass wsX2_pass) := goodIn_app (goodIn_of _ (by decide +kernel)) ggX2_first_X2_pass
set_option maxRecDepth 20000 in
theorem ggX2_first_X2_ended : GoodIn wsX2_first wsX2_ended := goodIn_r _ [50] (by decide +kernel) (by decide +kernel)
set_option maxRecDepth 20000 in
theorem gX2_first_X2_ended : GoodIn wsX2_first (va_wsS RX2 94 yX2_ended wsX2_ended) := goodIn_app (goodIn_of _ (by decide +kernel)) ggX2_first_X2_ended
set_option maxRecDepth 20000 in
theorem ggX2_first_X2_let : GoodIn wsX2_first wsX2_let := goodIn_r _ [38, 16, 19, 20, 21, 8, 22, 23, 24, 51, 52, 53, 54, 55, 56, 57, 58, 59, 60, 61, 62, 63, 64, 65, 66, 67, 68] (by decide +kernel) (by decide +kernel)
set_option maxRecDepth 20000 in
theorem gX2_first_X2_let : GoodIn wsX2_first (wsV RX2 72 RX2 yX2_let wsX2_let) := goodIn_app (goodIn_of _ (by decide +kernel)) ggX2_first_X2_let
set_option maxRecDepth 20000 in
theorem ggX2_round_X2_alone : GoodIn wsX2_round wsX2_alone := goodIn_r _ [5, 6, 7, 8, 9, 4, 10, 11, 12, 13, 14, 15, 16, 17, 18, 19, 20, 21, 22, 23, 24, 25, 26, 27, 28, 29, 30, 31, 32, 33, 34, 35, 36, 37, 38, 39, 40, 41, 42, 43, 44, 45, 46, 47, 48, 49, 50, 51, 52, 53, 54, 55, 56, 57, 58, 59, 60, 61, 62, 63, 64, 65, 66, 67, 68, 69, 70, 71, 72] (by decide +kernel) (by decide +kernel)
set_option maxRecDepth 20000 in
theorem gX2_round_X2_alone : GoodIn wsX2_round (wsV RX2 97 RX2 yX2_alone wsX2_alone) := goodIn_app (goodIn_of _ (by decide +kernel)) ggX2_round_X2_alone
set_option maxRecDepth 20000 in
theorem ggX2_run_X2_isRoute : GoodIn wsX2_run wsX2_isRoute := goodIn_r _ [9, 10, 11, 8, 12] (by decide +kernel) (by decide +kernel)
set_option maxRecDepth 20000 in
theorem gX2_run_X2_isRoute : GoodIn wsX2_run (va_wsS RX2 59 yX2_isRoute wsX2_isRoute) := goodIn_app (goodIn_of _ (by decide +kernel)) ggX2_run_X2_isRoute
set_option maxRecDepth 20000 in
theorem ggX2_run_X2_in : GoodIn wsX2_run wsX2_in := goodIn_r _ [12] (by decide +kernel) (by decide +kernel)
set_option maxRecDepth 20000 in
theorem gX2_run_X2_in : GoodIn wsX2_run (va_wsS RX2 46 yX2_in wsX2_in) := goodIn_app (goodIn_of _ (by decide +kernel)) ggX2_run_X2_in
set_option maxRecDepth 20000 in
theorem ggX2_run_X2_alone : GoodIn wsX2_run wsX2_alone := goodIn_r _ [16, 17, 18, 19, 20, 8, 21, 22, 23, 24, 25, 26, 27, 28, 29, 30, 31, 32, 33, 34, 2, 35, 36, 37, 38, 39, 40, 3, 41, 42, 43, 44, 45, 46, 47, 48, 49, 50, 51, 52, 53, 54, 55, 56, 57, 58, 59, 60, 61, 62, 63, 80, 81, 82, 83, 84, 85, 86, 87, 88, 89, 90, 91, 92, 93, 94, 95, 96, 97] (by decide +kernel) (by decide +kernel)
set_option maxRecDepth 20000 in
theorem gX2_run_X2_alone : GoodIn wsX2_run (wsV RX2 97 RX2 yX2_alone wsX2_alone) := goodIn_app (goodIn_of _ (by decide +kernel)) ggX2_run_X2_alone
set_option maxRecDepth 20000 in
theorem ggX2_run_X2_twoByTwo : GoodIn wsX2_run wsX2_twoByTwo := goodIn_r _ [67, 17, 18, 19, 20, 8, 21, 22, 23, 24, 25, 26, 27, 28, 29, 30, 31, 32, 33, 34, 2, 35, 36, 37, 38, 39, 40, 3, 41, 42, 43, 44, 45, 46, 47, 48, 49, 50, 51, 52, 53, 54, 55, 56, 57, 58, 59, 60, 61, 62, 63, 80, 81, 82, 83, 84, 85, 86, 87, 88, 89, 90, 91, 92, 93, 94, 95, 96, 97] (by decide +kernel) (by decide +kernel)
set_option maxRecDepth 20000 in
theorem gX2_run_X2_twoByTwo : GoodIn wsX2_run (wsV RX2 103 RX2 yX2_twoByTwo wsX2_twoByTwo) := goodIn_app (goodIn_of _ (by decide +kernel)) ggX2_run_X2_twoByTwo
set_option maxRecDepth 20000 in
theorem ggX2_run_X2_all : GoodIn wsX2_run wsX2_all := goodIn_r _ [71, 17, 18, 19, 20, 8, 21, 22, 23, 24, 25, 26, 27, 28, 29, 30, 31, 32, 33, 34, 2, 35, 36, 37, 38, 39, 40, 3, 41, 42, 43, 44, 45, 46, 47, 48, 49, 50, 51, 52, 53, 54, 55, 56, 57, 58, 59, 60, 61, 62, 63, 80, 81, 82, 83, 84, 85, 86, 87, 88, 89, 90, 91, 92, 93, 94, 95, 96, 97] (by decide +kernel) (by decide +kernel)
set_option maxRecDepth 20000 in
theorem gX2_run_X2_all : GoodIn wsX2_run (wsV RX2 106 RX2 yX2_all wsX2_all) := goodIn_app (goodIn_of _ (by decide +kernel)) ggX2_run_X2_all
set_option maxRecDepth 20000 in
theorem ggX2_run_X2_first : GoodIn wsX2_run wsX2_first := goodIn_r _ [75, 17, 45, 46, 55, 18, 19, 20, 8, 21, 22, 23, 24, 25, 26, 27, 28, 29, 30, 31, 32, 33, 34, 2, 35, 36, 37, 38, 39, 40, 3, 41, 42, 43, 44, 47, 48, 49, 50, 51, 52, 53, 54, 56, 57, 58, 59, 60, 61, 62, 63, 80, 81, 82, 83, 84, 85, 86, 87, 88, 89, 90, 91, 92, 93, 94, 95, 96, 97] (by decide +kernel) (by decide +kernel)
set_option maxRecDepth 20000 in
theorem gX2_run_X2_first : GoodIn wsX2_run (wsV RX2 109 RX2 yX2_first wsX2_first) := goodIn_app (goodIn_of _ (by decide +kernel)) ggX2_run_X2_first
set_option maxRecDepth 20000 in
theorem ggX2_run_X2_round : GoodIn wsX2_run wsX2_round := goodIn_r _ [79, 13, 14, 15, 8, 16, 17, 18, 19, 20, 21, 22, 23, 24, 25, 26, 27, 28, 29, 30, 31, 32, 33, 34, 2, 35, 36, 37, 38, 39, 40, 3, 41, 42, 43, 44, 45, 46, 47, 48, 49, 50, 51, 52, 53, 54, 55, 56, 57, 58, 59, 60, 61, 62, 63, 80, 81, 82, 83, 84, 85, 86, 87, 88, 89, 90, 91, 92, 93, 94, 95, 96, 97] (by decide +kernel) (by decide +kernel)
set_option maxRecDepth 20000 in
theorem gX2_run_X2_round : GoodIn wsX2_run (wsV RX2 112 RX2 yX2_round wsX2_round) := goodIn_app (goodIn_of _ (by decide +kernel)) ggX2_run_X2_round
set_option maxRecDepth 20000 in
theorem ggX2_shunt_X2_isPlace : GoodIn wsX2_shunt wsX2_isPlace := goodIn_r _ [8, 9, 10, 7, 11] (by decide +kernel) (by decide +kernel)
set_option maxRecDepth 20000 in
theorem gX2_shunt_X2_isPlace : GoodIn wsX2_shunt (va_wsS RX2 50 yX2_isPlace wsX2_isPlace) := goodIn_app (goodIn_of _ (by decide +kernel)) ggX2_shunt_X2_isPlace
set_option maxRecDepth 20000 in
theorem ggX2_shunt_X2_in : GoodIn wsX2_shunt wsX2_in := goodIn_r _ [11] (by decide +kernel) (by decide +kernel)
set_option maxRecDepth 20000 in
theorem gX2_shunt_X2_in : GoodIn wsX2_shunt (va_wsS RX2 46 yX2_in wsX2_in) := goodIn_app (goodIn_of _ (by decide +kernel)) ggX2_shunt_X2_in
set_option maxRecDepth 20000 in
theorem ggX2_shunt_X2_claim : GoodIn wsX2_shunt wsX2_claim := goodIn_r _ [15, 16, 17, 18, 19, 20, 21, 7, 22, 1, 23, 28, 29, 30, 31, 32, 33, 34, 35, 36, 37, 38, 39, 40, 41, 42, 43, 44, 45] (by decide +kernel) (by decide +kernel)
set_option maxRecDepth 20000 in
theorem gX2_shunt_X2_claim : GoodIn wsX2_shunt (wsV RX2 69 RX2 yX2_claim wsX2_claim) := goodIn_app (goodIn_of _ (by decide +kernel)) ggX2_shunt_X2_claim
set_option maxRecDepth 20000 in
theorem ggX2_shunt_X2_let : GoodIn wsX2_shunt wsX2_let := goodIn_r _ [27, 16, 19, 20, 21, 7, 22, 1, 23, 28, 29, 30, 31, 32, 33, 34, 35, 36, 37, 38, 39, 40, 41, 42, 43, 44, 45] (by decide +kernel) (by decide +kernel)
set_option maxRecDepth 20000 in
theorem gX2_shunt_X2_let : GoodIn wsX2_shunt (wsV RX2 72 RX2 yX2_let wsX2_let) := goodIn_app (goodIn_of _ (by decide +kernel)) ggX2_shunt_X2_let
set_option maxRecDepth 20000 in
theorem ggX2_trace_X2_in : GoodIn wsX2_trace wsX2_in := goodIn_r _ [6] (by decide +kernel) (by decide +kernel)
set_option maxRecDepth 20000 in
theorem gX2_trace_X2_in : GoodIn wsX2_trace (va_wsS RX2 46 yX2_in wsX2_in) := goodIn_app (goodIn_of _ (by decide +kernel)) ggX2_trace_X2_in
set_option maxRecDepth 20000 in
theorem ggX2_told_X2_isPlace : GoodIn wsX2_told wsX2_isPlace := goodIn_r _ [13, 14, 15, 12, 16] (by decide +kernel) (by decide +kernel)
set_option maxRecDepth 20000 in
theorem gX2_told_X2_isPlace : GoodIn wsX2_told (va_wsS RX2 50 yX2_isPlace wsX2_isPlace) := goodIn_app (goodIn_of _ (by decide +kernel)) ggX2_told_X2_isPlace
set_option maxRecDepth 20000 in
theorem ggX2_count_X2_in : GoodIn wsX2_count wsX2_in := goodIn_r _ [10] (by decide +kernel) (by decide +kernel)
set_option maxRecDepth 20000 in
theorem gX2_count_X2_in : GoodIn wsX2_count (va_wsS RX2 46 yX2_in wsX2_in) := goodIn_app (goodIn_of _ (by decide +kernel)) ggX2_count_X2_in
set_option maxRecDepth 20000 in
theorem ggL_law_X1_init : GoodIn wsL_law wsX1_init := goodIn_r _ [8, 9, 10, 11, 12, 13, 14, 15, 16, 17, 301, 302, 303, 304, 305, 306, 307, 308, 309, 310] (by decide +kernel) (by decide +kernel)
set_option maxRecDepth 20000 in
theorem gL_law_X1_init : GoodIn wsL_law (wsX1_init) := ggL_law_X1_init
set_option maxRecDepth 20000 in
theorem ggL_law_X2_init : GoodIn wsL_law wsX2_init := goodIn_r _ [20, 21, 10, 11, 14, 22, 23, 24, 25, 26, 27, 28, 29, 30, 31, 32, 33, 311, 312, 313, 314, 315, 316, 317, 318, 319, 320, 321, 322, 323, 324, 325, 326, 327, 328] (by decide +kernel) (by decide +kernel)
set_option maxRecDepth 20000 in
theorem gL_law_X2_init : GoodIn wsL_law (wsX2_init) := ggL_law_X2_init
set_option maxRecDepth 20000 in
theorem ggL_law_X1_section : GoodIn wsL_law wsX1_section := goodIn_r _ [37, 12, 38, 39, 40, 13, 41, 42, 2, 43, 44, 45, 46, 47, 48, 49, 50, 10, 11, 51, 52, 53, 54, 329, 330, 331, 332, 333, 334, 335, 336, 337, 301, 302, 303, 304, 305, 306, 307, 308, 309, 310] (by decide +kernel) (by decide +kernel)
set_option maxRecDepth 20000 in
theorem gL_law_X1_section : GoodIn wsL_law (wsV RL 13 RX1 yX1_section wsX1_section) := goodIn_app (goodIn_of _ (by decide +kernel)) ggL_law_X1_section
set_option maxRecDepth 20000 in
theorem ggL_law_X2_section : GoodIn wsL_law wsX2_section := goodIn_r _ [58, 59, 22, 60, 23, 24, 30, 61, 62, 5, 63, 64, 65, 66, 311, 312, 313, 314, 315, 316, 317, 318, 319, 320, 321, 322, 323, 324, 325, 326, 327, 328] (by decide +kernel) (by decide +kernel)
set_option maxRecDepth 20000 in
theorem gL_law_X2_section : GoodIn wsL_law (wsV RL 17 RX2 yX2_section wsX2_section) := goodIn_app (goodIn_of _ (by decide +kernel)) ggL_law_X2_section
set_option maxRecDepth 20000 in
theorem ggL_law_X1_share : GoodIn wsL_law wsX1_share := goodIn_r _ [70, 13, 41, 42, 2, 43, 301, 302, 303, 304, 305, 306, 307, 308, 309, 310] (by decide +kernel) (by decide +kernel)
set_option maxRecDepth 20000 in
theorem gL_law_X1_share : GoodIn wsL_law (wsV RL 18 RX1 yX1_share wsX1_share) := goodIn_app (goodIn_of _ (by decide +kernel)) ggL_law_X1_share
set_option maxRecDepth 20000 in
theorem ggL_law_X2_share : GoodIn wsL_law wsX2_share := goodIn_r _ [74, 30, 61, 62, 5, 63, 64, 65, 66, 311, 312, 313, 314, 315, 316, 317, 318, 319, 320, 321, 322, 323, 324, 325, 326, 327, 328] (by decide +kernel) (by decide +kernel)
set_option maxRecDepth 20000 in
theorem gL_law_X2_share : GoodIn wsL_law (wsV RL 22 RX2 yX2_share wsX2_share) := goodIn_app (goodIn_of _ (by decide +kernel)) ggL_law_X2_share
set_option maxRecDepth 20000 in
theorem ggL_law_X1_remove : GoodIn wsL_law wsX1_remove := goodIn_r _ [78, 13, 41, 42, 2, 43, 301, 302, 303, 304, 305, 306, 307, 308, 309, 310] (by decide +kernel) (by decide +kernel)
set_option maxRecDepth 20000 in
theorem gL_law_X1_remove : GoodIn wsL_law (wsV RL 23 RX1 yX1_remove wsX1_remove) := goodIn_app (goodIn_of _ (by decide +kernel)) ggL_law_X1_remove
set_option maxRecDepth 20000 in
theorem ggL_law_X2_remove : GoodIn wsL_law wsX2_remove := goodIn_r _ [82, 30, 61, 62, 5, 63, 64, 65, 66, 311, 312, 313, 314, 315, 316, 317, 318, 319, 320, 321, 322, 323, 324, 325, 326, 327, 328] (by decide +kernel) (by decide +kernel)
set_option maxRecDepth 20000 in
theorem gL_law_X2_remove : GoodIn wsL_law (wsV RL 27 RX2 yX2_remove wsX2_remove) := goodIn_app (goodIn_of _ (by decide +kernel)) ggL_law_X2_remove
set_option maxRecDepth 20000 in
theorem ggL_law_X1_same : GoodIn wsL_law wsX1_same := goodIn_r _ [86, 13, 41, 42, 2, 43, 301, 302, 303, 304, 305, 306, 307, 308, 309, 310] (by decide +kernel) (by decide +kernel)
set_option maxRecDepth 20000 in
theorem gL_law_X1_same : GoodIn wsL_law (wsV RL 28 RX1 yX1_same wsX1_same) := goodIn_app (goodIn_of _ (by decide +kernel)) ggL_law_X1_same
set_option maxRecDepth 20000 in
theorem ggL_law_X2_same : GoodIn wsL_law wsX2_same := goodIn_r _ [90, 30, 61, 62, 5, 63, 64, 65, 66, 311, 312, 313, 314, 315, 316, 317, 318, 319, 320, 321, 322, 323, 324, 325, 326, 327, 328] (by decide +kernel) (by decide +kernel)
set_option maxRecDepth 20000 in
theorem gL_law_X2_same : GoodIn wsL_law (wsV RL 31 RX2 yX2_same wsX2_same) := goodIn_app (goodIn_of _ (by decide +kernel)) ggL_law_X2_same
set_option maxRecDepth 20000 in
theorem ggL_law_X1_lead : GoodIn wsL_law wsX1_lead := goodIn_r _ [94, 16, 15, 95, 96, 2, 97, 41, 42, 43, 301, 302, 303, 304, 305, 306, 307, 308, 309, 310] (by decide +kernel) (by decide +kernel)
set_option maxRecDepth 20000 in
theorem gL_law_X1_lead : GoodIn wsL_law (wsV RL 32 RX1 yX1_lead wsX1_lead) := goodIn_app (goodIn_of _ (by decide +kernel)) ggL_law_X1_lead
set_option maxRecDepth 20000 in
theorem ggL_law_X2_lead : GoodIn wsL_law wsX2_lead := goodIn_r _ [101, 32, 31, 102, 103, 5, 104, 64, 65, 66, 61, 62, 63, 311, 312, 313, 314, 315, 316, 317, 318, 319, 320, 321, 322, 323, 324, 325, 326, 327, 328] (by decide +kernel) (by decide +kernel)
set_option maxRecDepth 20000 in
theorem gL_law_X2_lead : GoodIn wsL_law (wsV RL 35 RX2 yX2_lead wsX2_lead) := goodIn_app (goodIn_of _ (by decide +kernel)) ggL_law_X2_lead
set_option maxRecDepth 20000 in
theorem ggL_law_X1_unlead : GoodIn wsL_law wsX1_unlead := goodIn_r _ [108, 16, 95, 96, 2, 97, 301, 302, 303, 304, 305, 306, 307, 308, 309, 310] (by decide +kernel) (by decide +kernel)
set_option maxRecDepth 20000 in
theorem gL_law_X1_unlead : GoodIn wsL_law (wsV RL 36 RX1 yX1_unlead wsX1_unlead) := goodIn_app (goodIn_of _ (by decide +kernel)) ggL_law_X1_unlead
set_option maxRecDepth 20000 in
theorem ggL_law_X2_unlead : GoodIn wsL_law wsX2_unlead := goodIn_r _ [112, 32, 102, 103, 5, 104, 64, 65, 66, 311, 312, 313, 314, 315, 316, 317, 318, 319, 320, 321, 322, 323, 324, 325, 326, 327, 328] (by decide +kernel) (by decide +kernel)
set_option maxRecDepth 20000 in
theorem gL_law_X2_unlead : GoodIn wsL_law (wsV RL 39 RX2 yX2_unlead wsX2_unlead) := goodIn_app (goodIn_of _ (by decide +kernel)) ggL_law_X2_unlead
set_option maxRecDepth 20000 in
theorem ggL_law_X1_run : GoodIn wsL_law wsX1_run := goodIn_r _ [116, 117, 118, 119, 95, 96, 2, 97, 120, 121, 122, 123, 124, 125, 126, 16, 127, 128, 129, 130, 13, 15, 131, 132, 133, 134, 17, 135, 136, 137, 138, 139, 140, 141, 142, 143, 144, 145, 146, 147, 148, 149, 150, 151, 39, 152, 153, 154, 53, 155, 156, 157, 158, 159, 160, 161, 162, 163, 164, 165, 166, 167, 168, 169, 170, 171, 172, 173, 174, 175, 176, 177, 178, 179, 180, 181, 182, 183, 184, 185, 186, 187, 188, 301, 302, 303, 304, 305, 306, 307, 308, 309, 310, 329, 330, 331, 332, 333, 334, 335, 336, 337] (by decide +kernel) (by decide +kernel)
set_option maxRecDepth 20000 in
theorem gL_law_X1_run : GoodIn wsL_law (wsV RL 40 RX1 yX1_run wsX1_run) := goodIn_app (goodIn_of _ (by decide +kernel)) ggL_law_X1_run
set_option maxRecDepth 20000 in
theorem ggL_law_X2_run : GoodIn wsL_law wsX2_run := goodIn_r _ [192, 193, 194, 195, 196, 197, 102, 103, 5, 104, 64, 65, 66, 198, 199, 200, 201, 32, 202, 203, 204, 205, 30, 31, 206, 207, 208, 209, 28, 27, 29, 210, 211, 212, 213, 33, 214, 215, 216, 217, 22, 218, 219, 220, 221, 25, 23, 222, 223, 224, 225, 226, 227, 228, 229, 26, 230, 231, 232, 233, 24, 234, 235, 236, 237, 238, 239, 240, 241, 242, 243, 244, 245, 246, 247, 248, 249, 250, 251, 252, 311, 312, 313, 314, 315, 316, 317, 318, 319, 320, 321, 322, 323, 324, 325, 326, 327, 328] (by decide +kernel) (by decide +kernel)
set_option maxRecDepth 20000 in
theorem gL_law_X2_run : GoodIn wsL_law (wsV RL 44 RX2 yX2_run wsX2_run) := goodIn_app (goodIn_of _ (by decide +kernel)) ggL_law_X2_run
set_option maxRecDepth 20000 in
theorem ggL_law_X1_shunt : GoodIn wsL_law wsX1_shunt := goodIn_r _ [256, 119, 13, 41, 42, 2, 43, 120, 121, 122, 131, 132, 133, 134, 17, 257, 258, 259, 260, 151, 39, 152, 153, 154, 53, 155, 156, 157, 158, 301, 302, 303, 304, 305, 306, 307, 308, 309, 310, 329, 330, 331, 332, 333, 334, 335, 336, 337] (by decide +kernel) (by decide +kernel)
set_option maxRecDepth 20000 in
theorem gL_law_X1_shunt : GoodIn wsL_law (wsV RL 45 RX1 yX1_shunt wsX1_shunt) := goodIn_app (goodIn_of _ (by decide +kernel)) ggL_law_X1_shunt
set_option maxRecDepth 20000 in
theorem ggL_law_X2_shunt : GoodIn wsL_law wsX2_shunt := goodIn_r _ [264, 194, 30, 25, 23, 61, 62, 5, 63, 64, 65, 66, 206, 207, 208, 209, 28, 27, 29, 210, 211, 212, 213, 33, 222, 223, 224, 225, 311, 312, 313, 314, 315, 316, 317, 318, 319, 320, 321, 322, 323, 324, 325, 326, 327, 328] (by decide +kernel) (by decide +kernel)
set_option maxRecDepth 20000 in
theorem gL_law_X2_shunt : GoodIn wsL_law (wsV RL 48 RX2 yX2_shunt wsX2_shunt) := goodIn_app (goodIn_of _ (by decide +kernel)) ggL_law_X2_shunt
set_option maxRecDepth 20000 in
theorem ggL_law_X1_passed : GoodIn wsL_law wsX1_passed := goodIn_r _ [268, 118, 301, 302, 303, 304, 305, 306, 307, 308, 309, 310] (by decide +kernel) (by decide +kernel)
set_option maxRecDepth 20000 in
theorem gL_law_X1_passed : GoodIn wsL_law (wsV RL 49 RX1 yX1_passed wsX1_passed) := goodIn_app (goodIn_of _ (by decide +kernel)) ggL_law_X1_passed
set_option maxRecDepth 20000 in
theorem ggL_law_X2_passed : GoodIn wsL_law wsX2_passed := goodIn_r _ [272, 195, 311, 312, 313, 314, 315, 316, 317, 318, 319, 320, 321, 322, 323, 324, 325, 326, 327, 328] (by decide +kernel) (by decide +kernel)
set_option maxRecDepth 20000 in
theorem gL_law_X2_passed : GoodIn wsL_law (wsV RL 53 RX2 yX2_passed wsX2_passed) := goodIn_app (goodIn_of _ (by decide +kernel)) ggL_law_X2_passed
set_option maxRecDepth 20000 in
theorem ggL_law_X1_trace : GoodIn wsL_law wsX1_trace := goodIn_r _ [276, 119, 17, 301, 302, 303, 304, 305, 306, 307, 308, 309, 310] (by decide +kernel) (by decide +kernel)
set_option maxRecDepth 20000 in
theorem gL_law_X1_trace : GoodIn wsL_law (wsV RL 54 RX1 yX1_trace wsX1_trace) := goodIn_app (goodIn_of _ (by decide +kernel)) ggL_law_X1_trace
set_option maxRecDepth 20000 in
theorem ggL_law_X2_trace : GoodIn wsL_law wsX2_trace := goodIn_r _ [280, 194, 33, 64, 65, 5, 66, 311, 312, 313, 314, 315, 316, 317, 318, 319, 320, 321, 322, 323, 324, 325, 326, 327, 328] (by decide +kernel) (by decide +kernel)
set_option maxRecDepth 20000 in
theorem gL_law_X2_trace : GoodIn wsL_law (wsV RL 57 RX2 yX2_trace wsX2_trace) := goodIn_app (goodIn_of _ (by decide +kernel)) ggL_law_X2_trace
set_option maxRecDepth 20000 in
theorem ggL_law_X1_told : GoodIn wsL_law wsX1_told := goodIn_r _ [284, 13, 41, 42, 2, 43, 301, 302, 303, 304, 305, 306, 307, 308, 309, 310, 329, 330, 331, 332, 333, 334, 335, 336, 337] (by decide +kernel) (by decide +kernel)
set_option maxRecDepth 20000 in
theorem gL_law_X1_told : GoodIn wsL_law (wsV RL 58 RX1 yX1_told wsX1_told) := goodIn_app (goodIn_of _ (by decide +kernel)) ggL_law_X1_told
set_option maxRecDepth 20000 in
theorem ggL_law_X2_told : GoodIn wsL_law wsX2_told := goodIn_r _ [288, 30, 22, 23, 24, 25, 26, 27, 28, 29, 61, 62, 5, 63, 64, 65, 66, 311, 312, 313, 314, 315, 316, 317, 318, 319, 320, 321, 322, 323, 324, 325, 326, 327, 328] (by decide +kernel) (by decide +kernel)
set_option maxRecDepth 20000 in
theorem gL_law_X2_told : GoodIn wsL_law (wsV RL 61 RX2 yX2_told wsX2_told) := goodIn_app (goodIn_of _ (by decide +kernel)) ggL_law_X2_told
set_option maxRecDepth 20000 in
theorem ggL_law_X1_count : GoodIn wsL_law wsX1_count := goodIn_r _ [292, 40, 117, 167, 168, 16, 293, 294, 295, 2, 296, 13, 95, 96, 97, 301, 302, 303, 304, 305, 306, 307, 308, 309, 310] (by decide +kernel) (by decide +kernel)
set_option maxRecDepth 20000 in
theorem gL_law_X1_count : GoodIn wsL_law (wsV RL 62 RX1 yX1_count wsX1_count) := goodIn_app (goodIn_of _ (by decide +kernel)) ggL_law_X1_count
set_option maxRecDepth 20000 in
theorem ggL_law_X2_count : GoodIn wsL_law wsX2_count := goodIn_r _ [300, 32, 30, 60, 193, 196, 197, 64, 65, 5, 66, 311, 312, 313, 314, 315, 316, 317, 318, 319, 320, 321, 322, 323, 324, 325, 326, 327, 328] (by decide +kernel) (by decide +kernel)
set_option maxRecDepth 20000 in
theorem gL_law_X2_count : GoodIn wsL_law (wsV RL 65 RX2 yX2_count wsX2_count) := goodIn_app (goodIn_of _ (by decide +kernel)) ggL_law_X2_count
abbrev vwCl : List vw_C := [(RX0, TX0, 9), (RX1, TX1, 10), (RX2, TX2, 18)]
end
section
theorem dX0_init_0 : decode cX0_init 0 = .ok (.aload_n 0, 1) := by decide +kernel
theorem dX0_init_1 : decode cX0_init 1 = .ok (.invokespecial 1, 3) := by decide +kernel
theorem dX0_init_4 : decode cX0_init 4 = .ok (.aload_n 0, 1) := by decide +kernel
theorem dX0_init_5 : decode cX0_init 5 = .ok (.iload_n 1, 1) := by decide +kernel
theorem dX0_init_6 : decode cX0_init 6 = .ok (.putfield 7, 3) := by decide +kernel
theorem dX0_init_9 : decode cX0_init 9 = .ok (.aload_n 0, 1) := by decide +kernel
theorem dX0_init_10 : decode cX0_init 10 = .ok (.iload_n 2, 1) := by decide +kernel
theorem dX0_init_11 : decode cX0_init 11 = .ok (.putfield 13, 3) := by decide +kernel
theorem dX0_init_14 : decode cX0_init 14 = .ok (.aload_n 0, 1) := by decide +kernel
theorem dX0_init_15 : decode cX0_init 15 = .ok (.iload_n 3, 1) := by decide +kernel
theorem dX0_init_16 : decode cX0_init 16 = .ok (.putfield 16, 3) := by decide +kernel
theorem dX0_init_19 : decode cX0_init 19 = .ok (.aload_n 0, 1) := by decide +kernel
theorem dX0_init_20 : decode cX0_init 20 = .ok (.iload 4, 2) := by decide +kernel
theorem dX0_init_22 : decode cX0_init 22 = .ok (.putfield 19, 3) := by decide +kernel
theorem dX0_init_25 : decode cX0_init 25 = .ok (.return_, 1) := by decide +kernel
theorem dX0_hasRoomFor_0 : decode cX0_hasRoomFor 0 = .ok (.aload_n 0, 1) := by decide +kernel
theorem dX0_hasRoomFor_1 : decode cX0_hasRoomFor 1 = .ok (.getfield 22, 3) := by decide +kernel
theorem dX0_hasRoomFor_4 : decode cX0_hasRoomFor 4 = .ok (.i2l, 1) := by decide +kernel
theorem dX0_hasRoomFor_5 : decode cX0_hasRoomFor 5 = .ok (.iload_n 1, 1) := by decide +kernel
theorem dX0_hasRoomFor_6 : decode cX0_hasRoomFor 6 = .ok (.i2l, 1) := by decide +kernel
theorem dX0_hasRoomFor_7 : decode cX0_hasRoomFor 7 = .ok (.ladd, 1) := by decide +kernel
theorem dX0_hasRoomFor_8 : decode cX0_hasRoomFor 8 = .ok (.aload_n 0, 1) := by decide +kernel
theorem dX0_hasRoomFor_9 : decode cX0_hasRoomFor 9 = .ok (.getfield 16, 3) := by decide +kernel
theorem dX0_hasRoomFor_12 : decode cX0_hasRoomFor 12 = .ok (.i2l, 1) := by decide +kernel
theorem dX0_hasRoomFor_13 : decode cX0_hasRoomFor 13 = .ok (.lcmp, 1) := by decide +kernel
theorem dX0_hasRoomFor_14 : decode cX0_hasRoomFor 14 = .ok (.ifCond .gt 7, 3) := by decide +kernel
theorem dX0_hasRoomFor_17 : decode cX0_hasRoomFor 17 = .ok (.iconst 1, 1) := by decide +kernel
theorem dX0_hasRoomFor_18 : decode cX0_hasRoomFor 18 = .ok (.goto 4, 3) := by decide +kernel
theorem dX0_hasRoomFor_21 : decode cX0_hasRoomFor 21 = .ok (.iconst 0, 1) := by decide +kernel
theorem dX0_hasRoomFor_22 : decode cX0_hasRoomFor 22 = .ok (.ireturn, 1) := by decide +kernel
theorem dX1_init_0 : decode cX1_init 0 = .ok (.aload_n 0, 1) := by decide +kernel
theorem dX1_init_1 : decode cX1_init 1 = .ok (.invokespecial 1, 3) := by decide +kernel
theorem dX1_init_4 : decode cX1_init 4 = .ok (.aload_n 0, 1) := by decide +kernel
theorem dX1_init_5 : decode cX1_init 5 = .ok (.bipush 12, 2) := by decide +kernel
theorem dX1_init_7 : decode cX1_init 7 = .ok (.anewarray 9, 3) := by decide +kernel
theorem dX1_init_10 : decode cX1_init 10 = .ok (.putfield 11, 3) := by decide +kernel
theorem dX1_init_13 : decode cX1_init 13 = .ok (.aload_n 0, 1) := by decide +kernel
theorem dX1_init_14 : decode cX1_init 14 = .ok (.bipush 48, 2) := by decide +kernel
theorem dX1_init_16 : decode cX1_init 16 = .ok (.newarray .int, 2) := by decide +kernel
theorem dX1_init_18 : decode cX1_init 18 = .ok (.putfield 15, 3) := by decide +kernel
theorem dX1_init_21 : decode cX1_init 21 = .ok (.aload_n 0, 1) := by decide +kernel
theorem dX1_init_22 : decode cX1_init 22 = .ok (.bipush 6, 2) := by decide +kernel
theorem dX1_init_24 : decode cX1_init 24 = .ok (.newarray .int, 2) := by decide +kernel
theorem dX1_init_26 : decode cX1_init 26 = .ok (.putfield 19, 3) := by decide +kernel
theorem dX1_init_29 : decode cX1_init 29 = .ok (.aload_n 0, 1) := by decide +kernel
theorem dX1_init_30 : decode cX1_init 30 = .ok (.sipush 150, 3) := by decide +kernel
theorem dX1_init_33 : decode cX1_init 33 = .ok (.newarray .int, 2) := by decide +kernel
theorem dX1_init_35 : decode cX1_init 35 = .ok (.putfield 22, 3) := by decide +kernel
theorem dX1_init_38 : decode cX1_init 38 = .ok (.return_, 1) := by decide +kernel
theorem dX1_section_0 : decode cX1_section 0 = .ok (.iload_n 1, 1) := by decide +kernel
theorem dX1_section_1 : decode cX1_section 1 = .ok (.invokestatic 25, 3) := by decide +kernel
theorem dX1_section_4 : decode cX1_section 4 = .ok (.ifCond .eq 27, 3) := by decide +kernel
theorem dX1_section_7 : decode cX1_section 7 = .ok (.iload_n 2, 1) := by decide +kernel
theorem dX1_section_8 : decode cX1_section 8 = .ok (.ifCond .lt 23, 3) := by decide +kernel
theorem dX1_section_11 : decode cX1_section 11 = .ok (.iload_n 2, 1) := by decide +kernel
theorem dX1_section_12 : decode cX1_section 12 = .ok (.iconst 2, 1) := by decide +kernel
theorem dX1_section_13 : decode cX1_section 13 = .ok (.if_icmp .gt 18, 3) := by decide +kernel
theorem dX1_section_16 : decode cX1_section 16 = .ok (.iload_n 3, 1) := by decide +kernel
theorem dX1_section_17 : decode cX1_section 17 = .ok (.invokestatic 29, 3) := by decide +kernel
theorem dX1_section_20 : decode cX1_section 20 = .ok (.ifCond .eq 11, 3) := by decide +kernel
theorem dX1_section_23 : decode cX1_section 23 = .ok (.iload 4, 2) := by decide +kernel
theorem dX1_section_25 : decode cX1_section 25 = .ok (.invokestatic 29, 3) := by decide +kernel
theorem dX1_section_28 : decode cX1_section 28 = .ok (.ifCond .ne 5, 3) := by decide +kernel
theorem dX1_section_31 : decode cX1_section 31 = .ok (.iconst (-1), 1) := by decide +kernel
theorem dX1_section_32 : decode cX1_section 32 = .ok (.ireturn, 1) := by decide +kernel
theorem dX1_section_33 : decode cX1_section 33 = .ok (.new 9, 3) := by decide +kernel
theorem dX1_section_36 : decode cX1_section 36 = .ok (.dup, 1) := by decide +kernel
theorem dX1_section_37 : decode cX1_section 37 = .ok (.aload_n 0, 1) := by decide +kernel
theorem dX1_section_38 : decode cX1_section 38 = .ok (.getfield 32, 3) := by decide +kernel
theorem dX1_section_41 : decode cX1_section 41 = .ok (.iload_n 2, 1) := by decide +kernel
theorem dX1_section_42 : decode cX1_section 42 = .ok (.iload_n 3, 1) := by decide +kernel
theorem dX1_section_43 : decode cX1_section 43 = .ok (.iload 4, 2) := by decide +kernel
theorem dX1_section_45 : decode cX1_section 45 = .ok (.invokespecial 36, 3) := by decide +kernel
theorem dX1_section_48 : decode cX1_section 48 = .ok (.astore 5, 2) := by decide +kernel
theorem dX1_section_50 : decode cX1_section 50 = .ok (.aload_n 0, 1) := by decide +kernel
theorem dX1_section_51 : decode cX1_section 51 = .ok (.getfield 11, 3) := by decide +kernel
theorem dX1_section_54 : decode cX1_section 54 = .ok (.iload_n 1, 1) := by decide +kernel
theorem dX1_section_55 : decode cX1_section 55 = .ok (.aload 5, 2) := by decide +kernel
theorem dX1_section_57 : decode cX1_section 57 = .ok (.aastore, 1) := by decide +kernel
theorem dX1_section_58 : decode cX1_section 58 = .ok (.aload_n 0, 1) := by decide +kernel
theorem dX1_section_59 : decode cX1_section 59 = .ok (.dup, 1) := by decide +kernel
theorem dX1_section_60 : decode cX1_section 60 = .ok (.getfield 32, 3) := by decide +kernel
theorem dX1_section_63 : decode cX1_section 63 = .ok (.iconst 1, 1) := by decide +kernel
theorem dX1_section_64 : decode cX1_section 64 = .ok (.iadd, 1) := by decide +kernel
theorem dX1_section_65 : decode cX1_section 65 = .ok (.putfield 32, 3) := by decide +kernel
theorem dX1_section_68 : decode cX1_section 68 = .ok (.aload 5, 2) := by decide +kernel
theorem dX1_section_70 : decode cX1_section 70 = .ok (.getfield 39, 3) := by decide +kernel
theorem dX1_section_73 : decode cX1_section 73 = .ok (.ireturn, 1) := by decide +kernel
theorem dX1_share_0 : decode cX1_share 0 = .ok (.iload_n 1, 1) := by decide +kernel
theorem dX1_share_1 : decode cX1_share 1 = .ok (.invokestatic 25, 3) := by decide +kernel
theorem dX1_share_4 : decode cX1_share 4 = .ok (.ifCond .eq 10, 3) := by decide +kernel
theorem dX1_share_7 : decode cX1_share 7 = .ok (.iload_n 2, 1) := by decide +kernel
theorem dX1_share_8 : decode cX1_share 8 = .ok (.invokestatic 25, 3) := by decide +kernel
theorem dX1_share_11 : decode cX1_share 11 = .ok (.ifCond .ne 5, 3) := by decide +kernel
theorem dX1_share_14 : decode cX1_share 14 = .ok (.iconst (-1), 1) := by decide +kernel
theorem dX1_share_15 : decode cX1_share 15 = .ok (.ireturn, 1) := by decide +kernel
theorem dX1_share_16 : decode cX1_share 16 = .ok (.aload_n 0, 1) := by decide +kernel
theorem dX1_share_17 : decode cX1_share 17 = .ok (.getfield 11, 3) := by decide +kernel
theorem dX1_share_20 : decode cX1_share 20 = .ok (.iload_n 2, 1) := by decide +kernel
theorem dX1_share_21 : decode cX1_share 21 = .ok (.aload_n 0, 1) := by decide +kernel
theorem dX1_share_22 : decode cX1_share 22 = .ok (.getfield 11, 3) := by decide +kernel
theorem dX1_share_25 : decode cX1_share 25 = .ok (.iload_n 1, 1) := by decide +kernel
theorem dX1_share_26 : decode cX1_share 26 = .ok (.aaload, 1) := by decide +kernel
theorem dX1_share_27 : decode cX1_share 27 = .ok (.aastore, 1) := by decide +kernel
theorem dX1_share_28 : decode cX1_share 28 = .ok (.aload_n 0, 1) := by decide +kernel
theorem dX1_share_29 : decode cX1_share 29 = .ok (.getfield 11, 3) := by decide +kernel
theorem dX1_share_32 : decode cX1_share 32 = .ok (.iload_n 2, 1) := by decide +kernel
theorem dX1_share_33 : decode cX1_share 33 = .ok (.aaload, 1) := by decide +kernel
theorem dX1_share_34 : decode cX1_share 34 = .ok (.ifnull 7, 3) := by decide +kernel
theorem dX1_share_37 : decode cX1_share 37 = .ok (.iconst 1, 1) := by decide +kernel
theorem dX1_share_38 : decode cX1_share 38 = .ok (.goto 4, 3) := by decide +kernel
theorem dX1_share_41 : decode cX1_share 41 = .ok (.iconst 0, 1) := by decide +kernel
theorem dX1_share_42 : decode cX1_share 42 = .ok (.ireturn, 1) := by decide +kernel
theorem dX1_remove_0 : decode cX1_remove 0 = .ok (.iload_n 1, 1) := by decide +kernel
theorem dX1_remove_1 : decode cX1_remove 1 = .ok (.invokestatic 25, 3) := by decide +kernel
theorem dX1_remove_4 : decode cX1_remove 4 = .ok (.ifCond .ne 5, 3) := by decide +kernel
theorem dX1_remove_7 : decode cX1_remove 7 = .ok (.iconst (-1), 1) := by decide +kernel
theorem dX1_remove_8 : decode cX1_remove 8 = .ok (.ireturn, 1) := by decide +kernel
theorem dX1_remove_9 : decode cX1_remove 9 = .ok (.aload_n 0, 1) := by decide +kernel
theorem dX1_remove_10 : decode cX1_remove 10 = .ok (.getfield 11, 3) := by decide +kernel
theorem dX1_remove_13 : decode cX1_remove 13 = .ok (.iload_n 1, 1) := by decide +kernel
theorem dX1_remove_14 : decode cX1_remove 14 = .ok (.aaload, 1) := by decide +kernel
theorem dX1_remove_15 : decode cX1_remove 15 = .ok (.ifnull 7, 3) := by decide +kernel
theorem dX1_remove_18 : decode cX1_remove 18 = .ok (.iconst 1, 1) := by decide +kernel
theorem dX1_remove_19 : decode cX1_remove 19 = .ok (.goto 4, 3) := by decide +kernel
theorem dX1_remove_22 : decode cX1_remove 22 = .ok (.iconst 0, 1) := by decide +kernel
theorem dX1_remove_23 : decode cX1_remove 23 = .ok (.istore_n 2, 1) := by decide +kernel
theorem dX1_remove_24 : decode cX1_remove 24 = .ok (.aload_n 0, 1) := by decide +kernel
theorem dX1_remove_25 : decode cX1_remove 25 = .ok (.getfield 11, 3) := by decide +kernel
theorem dX1_remove_28 : decode cX1_remove 28 = .ok (.iload_n 1, 1) := by decide +kernel
theorem dX1_remove_29 : decode cX1_remove 29 = .ok (.aconst_null, 1) := by decide +kernel
theorem dX1_remove_30 : decode cX1_remove 30 = .ok (.aastore, 1) := by decide +kernel
theorem dX1_remove_31 : decode cX1_remove 31 = .ok (.iload_n 2, 1) := by decide +kernel
theorem dX1_remove_32 : decode cX1_remove 32 = .ok (.ireturn, 1) := by decide +kernel
theorem dX1_same_0 : decode cX1_same 0 = .ok (.iload_n 1, 1) := by decide +kernel
theorem dX1_same_1 : decode cX1_same 1 = .ok (.invokestatic 25, 3) := by decide +kernel
theorem dX1_same_4 : decode cX1_same 4 = .ok (.ifCond .eq 10, 3) := by decide +kernel
theorem dX1_same_7 : decode cX1_same 7 = .ok (.iload_n 2, 1) := by decide +kernel
theorem dX1_same_8 : decode cX1_same 8 = .ok (.invokestatic 25, 3) := by decide +kernel
theorem dX1_same_11 : decode cX1_same 11 = .ok (.ifCond .ne 5, 3) := by decide +kernel
theorem dX1_same_14 : decode cX1_same 14 = .ok (.iconst (-1), 1) := by decide +kernel
theorem dX1_same_15 : decode cX1_same 15 = .ok (.ireturn, 1) := by decide +kernel
theorem dX1_same_16 : decode cX1_same 16 = .ok (.aload_n 0, 1) := by decide +kernel
theorem dX1_same_17 : decode cX1_same 17 = .ok (.getfield 11, 3) := by decide +kernel
theorem dX1_same_20 : decode cX1_same 20 = .ok (.iload_n 1, 1) := by decide +kernel
theorem dX1_same_21 : decode cX1_same 21 = .ok (.aaload, 1) := by decide +kernel
theorem dX1_same_22 : decode cX1_same 22 = .ok (.aload_n 0, 1) := by decide +kernel
theorem dX1_same_23 : decode cX1_same 23 = .ok (.getfield 11, 3) := by decide +kernel
theorem dX1_same_26 : decode cX1_same 26 = .ok (.iload_n 2, 1) := by decide +kernel
theorem dX1_same_27 : decode cX1_same 27 = .ok (.aaload, 1) := by decide +kernel
theorem dX1_same_28 : decode cX1_same 28 = .ok (.if_acmp .ne 7, 3) := by decide +kernel
theorem dX1_same_31 : decode cX1_same 31 = .ok (.iconst 1, 1) := by decide +kernel
theorem dX1_same_32 : decode cX1_same 32 = .ok (.goto 4, 3) := by decide +kernel
theorem dX1_same_35 : decode cX1_same 35 = .ok (.iconst 0, 1) := by decide +kernel
theorem dX1_same_36 : decode cX1_same 36 = .ok (.ireturn, 1) := by decide +kernel
theorem dX1_lead_0 : decode cX1_lead 0 = .ok (.iload_n 1, 1) := by decide +kernel
theorem dX1_lead_1 : decode cX1_lead 1 = .ok (.invokestatic 42, 3) := by decide +kernel
theorem dX1_lead_4 : decode cX1_lead 4 = .ok (.ifCond .eq 10, 3) := by decide +kernel
theorem dX1_lead_7 : decode cX1_lead 7 = .ok (.iload_n 2, 1) := by decide +kernel
theorem dX1_lead_8 : decode cX1_lead 8 = .ok (.invokestatic 25, 3) := by decide +kernel
theorem dX1_lead_11 : decode cX1_lead 11 = .ok (.ifCond .ne 5, 3) := by decide +kernel
theorem dX1_lead_14 : decode cX1_lead 14 = .ok (.iconst (-1), 1) := by decide +kernel
theorem dX1_lead_15 : decode cX1_lead 15 = .ok (.ireturn, 1) := by decide +kernel
theorem dX1_lead_16 : decode cX1_lead 16 = .ok (.aload_n 0, 1) := by decide +kernel
theorem dX1_lead_17 : decode cX1_lead 17 = .ok (.getfield 19, 3) := by decide +kernel
theorem dX1_lead_20 : decode cX1_lead 20 = .ok (.iload_n 1, 1) := by decide +kernel
theorem dX1_lead_21 : decode cX1_lead 21 = .ok (.iaload, 1) := by decide +kernel
theorem dX1_lead_22 : decode cX1_lead 22 = .ok (.istore_n 3, 1) := by decide +kernel
theorem dX1_lead_23 : decode cX1_lead 23 = .ok (.iload_n 3, 1) := by decide +kernel
theorem dX1_lead_24 : decode cX1_lead 24 = .ok (.bipush 8, 2) := by decide +kernel
theorem dX1_lead_26 : decode cX1_lead 26 = .ok (.if_icmp .lt 6, 3) := by decide +kernel
theorem dX1_lead_29 : decode cX1_lead 29 = .ok (.bipush (-2), 2) := by decide +kernel
theorem dX1_lead_31 : decode cX1_lead 31 = .ok (.ireturn, 1) := by decide +kernel
theorem dX1_lead_32 : decode cX1_lead 32 = .ok (.aload_n 0, 1) := by decide +kernel
theorem dX1_lead_33 : decode cX1_lead 33 = .ok (.getfield 15, 3) := by decide +kernel
theorem dX1_lead_36 : decode cX1_lead 36 = .ok (.iload_n 1, 1) := by decide +kernel
theorem dX1_lead_37 : decode cX1_lead 37 = .ok (.bipush 8, 2) := by decide +kernel
theorem dX1_lead_39 : decode cX1_lead 39 = .ok (.imul, 1) := by decide +kernel
theorem dX1_lead_40 : decode cX1_lead 40 = .ok (.iload_n 3, 1) := by decide +kernel
theorem dX1_lead_41 : decode cX1_lead 41 = .ok (.iadd, 1) := by decide +kernel
theorem dX1_lead_42 : decode cX1_lead 42 = .ok (.iload_n 2, 1) := by decide +kernel
theorem dX1_lead_43 : decode cX1_lead 43 = .ok (.iastore, 1) := by decide +kernel
theorem dX1_lead_44 : decode cX1_lead 44 = .ok (.aload_n 0, 1) := by decide +kernel
theorem dX1_lead_45 : decode cX1_lead 45 = .ok (.getfield 19, 3) := by decide +kernel
theorem dX1_lead_48 : decode cX1_lead 48 = .ok (.iload_n 1, 1) := by decide +kernel
theorem dX1_lead_49 : decode cX1_lead 49 = .ok (.iload_n 3, 1) := by decide +kernel
theorem dX1_lead_50 : decode cX1_lead 50 = .ok (.iconst 1, 1) := by decide +kernel
theorem dX1_lead_51 : decode cX1_lead 51 = .ok (.iadd, 1) := by decide +kernel
theorem dX1_lead_52 : decode cX1_lead 52 = .ok (.iastore, 1) := by decide +kernel
theorem dX1_lead_53 : decode cX1_lead 53 = .ok (.iload_n 3, 1) := by decide +kernel
theorem dX1_lead_54 : decode cX1_lead 54 = .ok (.iconst 1, 1) := by decide +kernel
theorem dX1_lead_55 : decode cX1_lead 55 = .ok (.iadd, 1) := by decide +kernel
theorem dX1_lead_56 : decode cX1_lead 56 = .ok (.ireturn, 1) := by decide +kernel
theorem dX1_unlead_0 : decode cX1_unlead 0 = .ok (.iload_n 1, 1) := by decide +kernel
theorem dX1_unlead_1 : decode cX1_unlead 1 = .ok (.invokestatic 42, 3) := by decide +kernel
theorem dX1_unlead_4 : decode cX1_unlead 4 = .ok (.ifCond .ne 5, 3) := by decide +kernel
theorem dX1_unlead_7 : decode cX1_unlead 7 = .ok (.iconst (-1), 1) := by decide +kernel
theorem dX1_unlead_8 : decode cX1_unlead 8 = .ok (.ireturn, 1) := by decide +kernel
theorem dX1_unlead_9 : decode cX1_unlead 9 = .ok (.aload_n 0, 1) := by decide +kernel
theorem dX1_unlead_10 : decode cX1_unlead 10 = .ok (.getfield 19, 3) := by decide +kernel
theorem dX1_unlead_13 : decode cX1_unlead 13 = .ok (.iload_n 1, 1) := by decide +kernel
theorem dX1_unlead_14 : decode cX1_unlead 14 = .ok (.iaload, 1) := by decide +kernel
theorem dX1_unlead_15 : decode cX1_unlead 15 = .ok (.istore_n 2, 1) := by decide +kernel
theorem dX1_unlead_16 : decode cX1_unlead 16 = .ok (.aload_n 0, 1) := by decide +kernel
theorem dX1_unlead_17 : decode cX1_unlead 17 = .ok (.getfield 19, 3) := by decide +kernel
theorem dX1_unlead_20 : decode cX1_unlead 20 = .ok (.iload_n 1, 1) := by decide +kernel
theorem dX1_unlead_21 : decode cX1_unlead 21 = .ok (.iconst 0, 1) := by decide +kernel
theorem dX1_unlead_22 : decode cX1_unlead 22 = .ok (.iastore, 1) := by decide +kernel
theorem dX1_unlead_23 : decode cX1_unlead 23 = .ok (.iload_n 2, 1) := by decide +kernel
theorem dX1_unlead_24 : decode cX1_unlead 24 = .ok (.ireturn, 1) := by decide +kernel
theorem dX1_run_0 : decode cX1_run 0 = .ok (.iload_n 1, 1) := by decide +kernel
theorem dX1_run_1 : decode cX1_run 1 = .ok (.invokestatic 42, 3) := by decide +kernel
theorem dX1_run_4 : decode cX1_run 4 = .ok (.ifCond .eq 19, 3) := by decide +kernel
theorem dX1_run_7 : decode cX1_run 7 = .ok (.iload_n 2, 1) := by decide +kernel
theorem dX1_run_8 : decode cX1_run 8 = .ok (.ifCond .lt 15, 3) := by decide +kernel
theorem dX1_run_11 : decode cX1_run 11 = .ok (.iload_n 2, 1) := by decide +kernel
theorem dX1_run_12 : decode cX1_run 12 = .ok (.iconst 4, 1) := by decide +kernel
theorem dX1_run_13 : decode cX1_run 13 = .ok (.if_icmp .gt 10, 3) := by decide +kernel
theorem dX1_run_16 : decode cX1_run 16 = .ok (.iload_n 3, 1) := by decide +kernel
theorem dX1_run_17 : decode cX1_run 17 = .ok (.invokestatic 45, 3) := by decide +kernel
theorem dX1_run_20 : decode cX1_run 20 = .ok (.ifCond .ne 5, 3) := by decide +kernel
theorem dX1_run_23 : decode cX1_run 23 = .ok (.iconst (-1), 1) := by decide +kernel
theorem dX1_run_24 : decode cX1_run 24 = .ok (.ireturn, 1) := by decide +kernel
theorem dX1_run_25 : decode cX1_run 25 = .ok (.aload_n 0, 1) := by decide +kernel
theorem dX1_run_26 : decode cX1_run 26 = .ok (.dup, 1) := by decide +kernel
theorem dX1_run_27 : decode cX1_run 27 = .ok (.getfield 48, 3) := by decide +kernel
theorem dX1_run_30 : decode cX1_run 30 = .ok (.iconst 1, 1) := by decide +kernel
theorem dX1_run_31 : decode cX1_run 31 = .ok (.iadd, 1) := by decide +kernel
theorem dX1_run_32 : decode cX1_run 32 = .ok (.putfield 48, 3) := by decide +kernel
theorem dX1_run_35 : decode cX1_run 35 = .ok (.aload_n 0, 1) := by decide +kernel
theorem dX1_run_36 : decode cX1_run 36 = .ok (.iconst 0, 1) := by decide +kernel
theorem dX1_run_37 : decode cX1_run 37 = .ok (.putfield 51, 3) := by decide +kernel
theorem dX1_run_40 : decode cX1_run 40 = .ok (.aload_n 0, 1) := by decide +kernel
theorem dX1_run_41 : decode cX1_run 41 = .ok (.iconst 0, 1) := by decide +kernel
theorem dX1_run_42 : decode cX1_run 42 = .ok (.putfield 54, 3) := by decide +kernel
theorem dX1_run_45 : decode cX1_run 45 = .ok (.iload_n 2, 1) := by decide +kernel
theorem dX1_run_46 : decode cX1_run 46 = .ok (.tableswitch 75 0 3 #[30, 42, 53, 64], 30) := by decide +kernel
theorem dX1_run_76 : decode cX1_run 76 = .ok (.aload_n 0, 1) := by decide +kernel
theorem dX1_run_77 : decode cX1_run 77 = .ok (.aload_n 0, 1) := by decide +kernel
theorem dX1_run_78 : decode cX1_run 78 = .ok (.iload_n 1, 1) := by decide +kernel
theorem dX1_run_79 : decode cX1_run 79 = .ok (.iload_n 3, 1) := by decide +kernel
theorem dX1_run_80 : decode cX1_run 80 = .ok (.iconst 1, 1) := by decide +kernel
theorem dX1_run_81 : decode cX1_run 81 = .ok (.invokevirtual 57, 3) := by decide +kernel
theorem dX1_run_84 : decode cX1_run 84 = .ok (.invokevirtual 61, 3) := by decide +kernel
theorem dX1_run_87 : decode cX1_run 87 = .ok (.ireturn, 1) := by decide +kernel
theorem dX1_run_88 : decode cX1_run 88 = .ok (.aload_n 0, 1) := by decide +kernel
theorem dX1_run_89 : decode cX1_run 89 = .ok (.aload_n 0, 1) := by decide +kernel
theorem dX1_run_90 : decode cX1_run 90 = .ok (.iload_n 1, 1) := by decide +kernel
theorem dX1_run_91 : decode cX1_run 91 = .ok (.iload_n 3, 1) := by decide +kernel
theorem dX1_run_92 : decode cX1_run 92 = .ok (.invokevirtual 65, 3) := by decide +kernel
theorem dX1_run_95 : decode cX1_run 95 = .ok (.invokevirtual 61, 3) := by decide +kernel
theorem dX1_run_98 : decode cX1_run 98 = .ok (.ireturn, 1) := by decide +kernel
theorem dX1_run_99 : decode cX1_run 99 = .ok (.aload_n 0, 1) := by decide +kernel
theorem dX1_run_100 : decode cX1_run 100 = .ok (.aload_n 0, 1) := by decide +kernel
theorem dX1_run_101 : decode cX1_run 101 = .ok (.iload_n 1, 1) := by decide +kernel
theorem dX1_run_102 : decode cX1_run 102 = .ok (.iload_n 3, 1) := by decide +kernel
theorem dX1_run_103 : decode cX1_run 103 = .ok (.invokevirtual 69, 3) := by decide +kernel
theorem dX1_run_106 : decode cX1_run 106 = .ok (.invokevirtual 61, 3) := by decide +kernel
theorem dX1_run_109 : decode cX1_run 109 = .ok (.ireturn, 1) := by decide +kernel
theorem dX1_run_110 : decode cX1_run 110 = .ok (.aload_n 0, 1) := by decide +kernel
theorem dX1_run_111 : decode cX1_run 111 = .ok (.aload_n 0, 1) := by decide +kernel
theorem dX1_run_112 : decode cX1_run 112 = .ok (.iload_n 1, 1) := by decide +kernel
theorem dX1_run_113 : decode cX1_run 113 = .ok (.iload_n 3, 1) := by decide +kernel
theorem dX1_run_114 : decode cX1_run 114 = .ok (.invokevirtual 72, 3) := by decide +kernel
theorem dX1_run_117 : decode cX1_run 117 = .ok (.invokevirtual 61, 3) := by decide +kernel
theorem dX1_run_120 : decode cX1_run 120 = .ok (.ireturn, 1) := by decide +kernel
theorem dX1_run_121 : decode cX1_run 121 = .ok (.aload_n 0, 1) := by decide +kernel
theorem dX1_run_122 : decode cX1_run 122 = .ok (.aload_n 0, 1) := by decide +kernel
theorem dX1_run_123 : decode cX1_run 123 = .ok (.iload_n 1, 1) := by decide +kernel
theorem dX1_run_124 : decode cX1_run 124 = .ok (.iload_n 3, 1) := by decide +kernel
theorem dX1_run_125 : decode cX1_run 125 = .ok (.bipush 10, 2) := by decide +kernel
theorem dX1_run_127 : decode cX1_run 127 = .ok (.invokevirtual 57, 3) := by decide +kernel
theorem dX1_run_130 : decode cX1_run 130 = .ok (.invokevirtual 61, 3) := by decide +kernel
theorem dX1_run_133 : decode cX1_run 133 = .ok (.ireturn, 1) := by decide +kernel
theorem dX1_shunt_0 : decode cX1_shunt 0 = .ok (.iload_n 1, 1) := by decide +kernel
theorem dX1_shunt_1 : decode cX1_shunt 1 = .ok (.invokestatic 25, 3) := by decide +kernel
theorem dX1_shunt_4 : decode cX1_shunt 4 = .ok (.ifCond .eq 17, 3) := by decide +kernel
theorem dX1_shunt_7 : decode cX1_shunt 7 = .ok (.iload_n 2, 1) := by decide +kernel
theorem dX1_shunt_8 : decode cX1_shunt 8 = .ok (.invokestatic 25, 3) := by decide +kernel
theorem dX1_shunt_11 : decode cX1_shunt 11 = .ok (.ifCond .eq 10, 3) := by decide +kernel
theorem dX1_shunt_14 : decode cX1_shunt 14 = .ok (.iload_n 3, 1) := by decide +kernel
theorem dX1_shunt_15 : decode cX1_shunt 15 = .ok (.invokestatic 45, 3) := by decide +kernel
theorem dX1_shunt_18 : decode cX1_shunt 18 = .ok (.ifCond .ne 5, 3) := by decide +kernel
theorem dX1_shunt_21 : decode cX1_shunt 21 = .ok (.iconst (-1), 1) := by decide +kernel
theorem dX1_shunt_22 : decode cX1_shunt 22 = .ok (.ireturn, 1) := by decide +kernel
theorem dX1_shunt_23 : decode cX1_shunt 23 = .ok (.aload_n 0, 1) := by decide +kernel
theorem dX1_shunt_24 : decode cX1_shunt 24 = .ok (.iconst 0, 1) := by decide +kernel
theorem dX1_shunt_25 : decode cX1_shunt 25 = .ok (.putfield 54, 3) := by decide +kernel
theorem dX1_shunt_28 : decode cX1_shunt 28 = .ok (.aload_n 0, 1) := by decide +kernel
theorem dX1_shunt_29 : decode cX1_shunt 29 = .ok (.getfield 11, 3) := by decide +kernel
theorem dX1_shunt_32 : decode cX1_shunt 32 = .ok (.iload_n 1, 1) := by decide +kernel
theorem dX1_shunt_33 : decode cX1_shunt 33 = .ok (.aaload, 1) := by decide +kernel
theorem dX1_shunt_34 : decode cX1_shunt 34 = .ok (.astore 4, 2) := by decide +kernel
theorem dX1_shunt_36 : decode cX1_shunt 36 = .ok (.aload 4, 2) := by decide +kernel
theorem dX1_shunt_38 : decode cX1_shunt 38 = .ok (.ifnonnull 6, 3) := by decide +kernel
theorem dX1_shunt_41 : decode cX1_shunt 41 = .ok (.bipush (-11), 2) := by decide +kernel
theorem dX1_shunt_43 : decode cX1_shunt 43 = .ok (.ireturn, 1) := by decide +kernel
theorem dX1_shunt_44 : decode cX1_shunt 44 = .ok (.aload_n 0, 1) := by decide +kernel
theorem dX1_shunt_45 : decode cX1_shunt 45 = .ok (.aload 4, 2) := by decide +kernel
theorem dX1_shunt_47 : decode cX1_shunt 47 = .ok (.invokevirtual 75, 3) := by decide +kernel
theorem dX1_shunt_50 : decode cX1_shunt 50 = .ok (.aload_n 0, 1) := by decide +kernel
theorem dX1_shunt_51 : decode cX1_shunt 51 = .ok (.aload 4, 2) := by decide +kernel
theorem dX1_shunt_53 : decode cX1_shunt 53 = .ok (.aload_n 0, 1) := by decide +kernel
theorem dX1_shunt_54 : decode cX1_shunt 54 = .ok (.getfield 11, 3) := by decide +kernel
theorem dX1_shunt_57 : decode cX1_shunt 57 = .ok (.iload_n 2, 1) := by decide +kernel
theorem dX1_shunt_58 : decode cX1_shunt 58 = .ok (.aaload, 1) := by decide +kernel
theorem dX1_shunt_59 : decode cX1_shunt 59 = .ok (.iload_n 3, 1) := by decide +kernel
theorem dX1_shunt_60 : decode cX1_shunt 60 = .ok (.invokevirtual 79, 3) := by decide +kernel
theorem dX1_shunt_63 : decode cX1_shunt 63 = .ok (.istore 5, 2) := by decide +kernel
theorem dX1_shunt_65 : decode cX1_shunt 65 = .ok (.aload_n 0, 1) := by decide +kernel
theorem dX1_shunt_66 : decode cX1_shunt 66 = .ok (.aload 4, 2) := by decide +kernel
theorem dX1_shunt_68 : decode cX1_shunt 68 = .ok (.invokevirtual 83, 3) := by decide +kernel
theorem dX1_shunt_71 : decode cX1_shunt 71 = .ok (.iload 5, 2) := by decide +kernel
theorem dX1_shunt_73 : decode cX1_shunt 73 = .ok (.ireturn, 1) := by decide +kernel
theorem dX1_passed_0 : decode cX1_passed 0 = .ok (.aload_n 0, 1) := by decide +kernel
theorem dX1_passed_1 : decode cX1_passed 1 = .ok (.getfield 51, 3) := by decide +kernel
theorem dX1_passed_4 : decode cX1_passed 4 = .ok (.ireturn, 1) := by decide +kernel
theorem dX1_trace_0 : decode cX1_trace 0 = .ok (.iload_n 1, 1) := by decide +kernel
theorem dX1_trace_1 : decode cX1_trace 1 = .ok (.iconst (-1), 1) := by decide +kernel
theorem dX1_trace_2 : decode cX1_trace 2 = .ok (.if_icmp .ne 8, 3) := by decide +kernel
theorem dX1_trace_5 : decode cX1_trace 5 = .ok (.aload_n 0, 1) := by decide +kernel
theorem dX1_trace_6 : decode cX1_trace 6 = .ok (.getfield 54, 3) := by decide +kernel
theorem dX1_trace_9 : decode cX1_trace 9 = .ok (.ireturn, 1) := by decide +kernel
theorem dX1_trace_10 : decode cX1_trace 10 = .ok (.iload_n 1, 1) := by decide +kernel
theorem dX1_trace_11 : decode cX1_trace 11 = .ok (.ifCond .lt 20, 3) := by decide +kernel
theorem dX1_trace_14 : decode cX1_trace 14 = .ok (.iload_n 1, 1) := by decide +kernel
theorem dX1_trace_15 : decode cX1_trace 15 = .ok (.aload_n 0, 1) := by decide +kernel
theorem dX1_trace_16 : decode cX1_trace 16 = .ok (.getfield 54, 3) := by decide +kernel
theorem dX1_trace_19 : decode cX1_trace 19 = .ok (.if_icmp .ge 12, 3) := by decide +kernel
theorem dX1_trace_22 : decode cX1_trace 22 = .ok (.aload_n 0, 1) := by decide +kernel
theorem dX1_trace_23 : decode cX1_trace 23 = .ok (.getfield 22, 3) := by decide +kernel
theorem dX1_trace_26 : decode cX1_trace 26 = .ok (.iload_n 1, 1) := by decide +kernel
theorem dX1_trace_27 : decode cX1_trace 27 = .ok (.iaload, 1) := by decide +kernel
theorem dX1_trace_28 : decode cX1_trace 28 = .ok (.goto 4, 3) := by decide +kernel
theorem dX1_trace_31 : decode cX1_trace 31 = .ok (.iconst (-1), 1) := by decide +kernel
theorem dX1_trace_32 : decode cX1_trace 32 = .ok (.ireturn, 1) := by decide +kernel
theorem dX1_told_0 : decode cX1_told 0 = .ok (.iload_n 1, 1) := by decide +kernel
theorem dX1_told_1 : decode cX1_told 1 = .ok (.invokestatic 25, 3) := by decide +kernel
theorem dX1_told_4 : decode cX1_told 4 = .ok (.ifCond .ne 5, 3) := by decide +kernel
theorem dX1_told_7 : decode cX1_told 7 = .ok (.iconst (-1), 1) := by decide +kernel
theorem dX1_told_8 : decode cX1_told 8 = .ok (.ireturn, 1) := by decide +kernel
theorem dX1_told_9 : decode cX1_told 9 = .ok (.aload_n 0, 1) := by decide +kernel
theorem dX1_told_10 : decode cX1_told 10 = .ok (.getfield 11, 3) := by decide +kernel
theorem dX1_told_13 : decode cX1_told 13 = .ok (.iload_n 1, 1) := by decide +kernel
theorem dX1_told_14 : decode cX1_told 14 = .ok (.aaload, 1) := by decide +kernel
theorem dX1_told_15 : decode cX1_told 15 = .ok (.astore_n 3, 1) := by decide +kernel
theorem dX1_told_16 : decode cX1_told 16 = .ok (.aload_n 3, 1) := by decide +kernel
theorem dX1_told_17 : decode cX1_told 17 = .ok (.ifnonnull 5, 3) := by decide +kernel
theorem dX1_told_20 : decode cX1_told 20 = .ok (.iconst (-1), 1) := by decide +kernel
theorem dX1_told_21 : decode cX1_told 21 = .ok (.ireturn, 1) := by decide +kernel
theorem dX1_told_22 : decode cX1_told 22 = .ok (.iload_n 2, 1) := by decide +kernel
theorem dX1_told_23 : decode cX1_told 23 = .ok (.tableswitch 94 0 8 #[49, 54, 59, 64, 69, 74, 79, 84, 89], 49) := by decide +kernel
theorem dX1_told_72 : decode cX1_told 72 = .ok (.aload_n 3, 1) := by decide +kernel
theorem dX1_told_73 : decode cX1_told 73 = .ok (.getfield 39, 3) := by decide +kernel
theorem dX1_told_76 : decode cX1_told 76 = .ok (.ireturn, 1) := by decide +kernel
theorem dX1_told_77 : decode cX1_told 77 = .ok (.aload_n 3, 1) := by decide +kernel
theorem dX1_told_78 : decode cX1_told 78 = .ok (.getfield 86, 3) := by decide +kernel
theorem dX1_told_81 : decode cX1_told 81 = .ok (.ireturn, 1) := by decide +kernel
theorem dX1_told_82 : decode cX1_told 82 = .ok (.aload_n 3, 1) := by decide +kernel
theorem dX1_told_83 : decode cX1_told 83 = .ok (.getfield 89, 3) := by decide +kernel
theorem dX1_told_86 : decode cX1_told 86 = .ok (.ireturn, 1) := by decide +kernel
theorem dX1_told_87 : decode cX1_told 87 = .ok (.aload_n 3, 1) := by decide +kernel
theorem dX1_told_88 : decode cX1_told 88 = .ok (.getfield 92, 3) := by decide +kernel
theorem dX1_told_91 : decode cX1_told 91 = .ok (.ireturn, 1) := by decide +kernel
theorem dX1_told_92 : decode cX1_told 92 = .ok (.aload_n 3, 1) := by decide +kernel
theorem dX1_told_93 : decode cX1_told 93 = .ok (.getfield 95, 3) := by decide +kernel
theorem dX1_told_96 : decode cX1_told 96 = .ok (.ireturn, 1) := by decide +kernel
theorem dX1_told_97 : decode cX1_told 97 = .ok (.aload_n 3, 1) := by decide +kernel
theorem dX1_told_98 : decode cX1_told 98 = .ok (.getfield 98, 3) := by decide +kernel
theorem dX1_told_101 : decode cX1_told 101 = .ok (.ireturn, 1) := by decide +kernel
theorem dX1_told_102 : decode cX1_told 102 = .ok (.aload_n 3, 1) := by decide +kernel
theorem dX1_told_103 : decode cX1_told 103 = .ok (.getfield 101, 3) := by decide +kernel
theorem dX1_told_106 : decode cX1_told 106 = .ok (.ireturn, 1) := by decide +kernel
theorem dX1_told_107 : decode cX1_told 107 = .ok (.aload_n 3, 1) := by decide +kernel
theorem dX1_told_108 : decode cX1_told 108 = .ok (.getfield 104, 3) := by decide +kernel
theorem dX1_told_111 : decode cX1_told 111 = .ok (.ireturn, 1) := by decide +kernel
theorem dX1_told_112 : decode cX1_told 112 = .ok (.aload_n 3, 1) := by decide +kernel
theorem dX1_told_113 : decode cX1_told 113 = .ok (.getfield 107, 3) := by decide +kernel
theorem dX1_told_116 : decode cX1_told 116 = .ok (.ireturn, 1) := by decide +kernel
theorem dX1_told_117 : decode cX1_told 117 = .ok (.iconst (-1), 1) := by decide +kernel
theorem dX1_told_118 : decode cX1_told 118 = .ok (.ireturn, 1) := by decide +kernel
theorem dX1_count_0 : decode cX1_count 0 = .ok (.iload_n 1, 1) := by decide +kernel
theorem dX1_count_1 : decode cX1_count 1 = .ok (.tableswitch 60 0 4 #[35, 40, 45, 50, 55], 35) := by decide +kernel
theorem dX1_count_36 : decode cX1_count 36 = .ok (.aload_n 0, 1) := by decide +kernel
theorem dX1_count_37 : decode cX1_count 37 = .ok (.getfield 32, 3) := by decide +kernel
theorem dX1_count_40 : decode cX1_count 40 = .ok (.ireturn, 1) := by decide +kernel
theorem dX1_count_41 : decode cX1_count 41 = .ok (.aload_n 0, 1) := by decide +kernel
theorem dX1_count_42 : decode cX1_count 42 = .ok (.invokevirtual 110, 3) := by decide +kernel
theorem dX1_count_45 : decode cX1_count 45 = .ok (.ireturn, 1) := by decide +kernel
theorem dX1_count_46 : decode cX1_count 46 = .ok (.aload_n 0, 1) := by decide +kernel
theorem dX1_count_47 : decode cX1_count 47 = .ok (.getfield 48, 3) := by decide +kernel
theorem dX1_count_50 : decode cX1_count 50 = .ok (.ireturn, 1) := by decide +kernel
theorem dX1_count_51 : decode cX1_count 51 = .ok (.aload_n 0, 1) := by decide +kernel
theorem dX1_count_52 : decode cX1_count 52 = .ok (.getfield 114, 3) := by decide +kernel
theorem dX1_count_55 : decode cX1_count 55 = .ok (.ireturn, 1) := by decide +kernel
theorem dX1_count_56 : decode cX1_count 56 = .ok (.aload_n 0, 1) := by decide +kernel
theorem dX1_count_57 : decode cX1_count 57 = .ok (.getfield 117, 3) := by decide +kernel
theorem dX1_count_60 : decode cX1_count 60 = .ok (.ireturn, 1) := by decide +kernel
theorem dX1_count_61 : decode cX1_count 61 = .ok (.iload_n 1, 1) := by decide +kernel
theorem dX1_count_62 : decode cX1_count 62 = .ok (.iconst 5, 1) := by decide +kernel
theorem dX1_count_63 : decode cX1_count 63 = .ok (.isub, 1) := by decide +kernel
theorem dX1_count_64 : decode cX1_count 64 = .ok (.invokestatic 42, 3) := by decide +kernel
theorem dX1_count_67 : decode cX1_count 67 = .ok (.ifCond .eq 14, 3) := by decide +kernel
theorem dX1_count_70 : decode cX1_count 70 = .ok (.aload_n 0, 1) := by decide +kernel
theorem dX1_count_71 : decode cX1_count 71 = .ok (.getfield 19, 3) := by decide +kernel
theorem dX1_count_74 : decode cX1_count 74 = .ok (.iload_n 1, 1) := by decide +kernel
theorem dX1_count_75 : decode cX1_count 75 = .ok (.iconst 5, 1) := by decide +kernel
theorem dX1_count_76 : decode cX1_count 76 = .ok (.isub, 1) := by decide +kernel
theorem dX1_count_77 : decode cX1_count 77 = .ok (.iaload, 1) := by decide +kernel
theorem dX1_count_78 : decode cX1_count 78 = .ok (.goto 4, 3) := by decide +kernel
theorem dX1_count_81 : decode cX1_count 81 = .ok (.iconst (-1), 1) := by decide +kernel
theorem dX1_count_82 : decode cX1_count 82 = .ok (.ireturn, 1) := by decide +kernel
theorem dX1_isPlace_0 : decode cX1_isPlace 0 = .ok (.iload_n 0, 1) := by decide +kernel
theorem dX1_isPlace_1 : decode cX1_isPlace 1 = .ok (.ifCond .lt 13, 3) := by decide +kernel
theorem dX1_isPlace_4 : decode cX1_isPlace 4 = .ok (.iload_n 0, 1) := by decide +kernel
theorem dX1_isPlace_5 : decode cX1_isPlace 5 = .ok (.bipush 12, 2) := by decide +kernel
theorem dX1_isPlace_7 : decode cX1_isPlace 7 = .ok (.if_icmp .ge 7, 3) := by decide +kernel
theorem dX1_isPlace_10 : decode cX1_isPlace 10 = .ok (.iconst 1, 1) := by decide +kernel
theorem dX1_isPlace_11 : decode cX1_isPlace 11 = .ok (.goto 4, 3) := by decide +kernel
theorem dX1_isPlace_14 : decode cX1_isPlace 14 = .ok (.iconst 0, 1) := by decide +kernel
theorem dX1_isPlace_15 : decode cX1_isPlace 15 = .ok (.ireturn, 1) := by decide +kernel
theorem dX1_isRoute_0 : decode cX1_isRoute 0 = .ok (.iload_n 0, 1) := by decide +kernel
theorem dX1_isRoute_1 : decode cX1_isRoute 1 = .ok (.ifCond .lt 13, 3) := by decide +kernel
theorem dX1_isRoute_4 : decode cX1_isRoute 4 = .ok (.iload_n 0, 1) := by decide +kernel
theorem dX1_isRoute_5 : decode cX1_isRoute 5 = .ok (.bipush 6, 2) := by decide +kernel
theorem dX1_isRoute_7 : decode cX1_isRoute 7 = .ok (.if_icmp .ge 7, 3) := by decide +kernel
theorem dX1_isRoute_10 : decode cX1_isRoute 10 = .ok (.iconst 1, 1) := by decide +kernel
theorem dX1_isRoute_11 : decode cX1_isRoute 11 = .ok (.goto 4, 3) := by decide +kernel
theorem dX1_isRoute_14 : decode cX1_isRoute 14 = .ok (.iconst 0, 1) := by decide +kernel
theorem dX1_isRoute_15 : decode cX1_isRoute 15 = .ok (.ireturn, 1) := by decide +kernel
theorem dX1_isAxles_0 : decode cX1_isAxles 0 = .ok (.iload_n 0, 1) := by decide +kernel
theorem dX1_isAxles_1 : decode cX1_isAxles 1 = .ok (.ifCond .lt 14, 3) := by decide +kernel
theorem dX1_isAxles_4 : decode cX1_isAxles 4 = .ok (.iload_n 0, 1) := by decide +kernel
theorem dX1_isAxles_5 : decode cX1_isAxles 5 = .ok (.sipush 1000, 3) := by decide +kernel
theorem dX1_isAxles_8 : decode cX1_isAxles 8 = .ok (.if_icmp .gt 7, 3) := by decide +kernel
theorem dX1_isAxles_11 : decode cX1_isAxles 11 = .ok (.iconst 1, 1) := by decide +kernel
theorem dX1_isAxles_12 : decode cX1_isAxles 12 = .ok (.goto 4, 3) := by decide +kernel
theorem dX1_isAxles_15 : decode cX1_isAxles 15 = .ok (.iconst 0, 1) := by decide +kernel
theorem dX1_isAxles_16 : decode cX1_isAxles 16 = .ok (.ireturn, 1) := by decide +kernel
theorem dX1_isLimit_0 : decode cX1_isLimit 0 = .ok (.iload_n 0, 1) := by decide +kernel
theorem dX1_isLimit_1 : decode cX1_isLimit 1 = .ok (.ifCond .lt 13, 3) := by decide +kernel
theorem dX1_isLimit_4 : decode cX1_isLimit 4 = .ok (.iload_n 0, 1) := by decide +kernel
theorem dX1_isLimit_5 : decode cX1_isLimit 5 = .ok (.ldc 120, 2) := by decide +kernel
theorem dX1_isLimit_7 : decode cX1_isLimit 7 = .ok (.if_icmp .gt 7, 3) := by decide +kernel
theorem dX1_isLimit_10 : decode cX1_isLimit 10 = .ok (.iconst 1, 1) := by decide +kernel
theorem dX1_isLimit_11 : decode cX1_isLimit 11 = .ok (.goto 4, 3) := by decide +kernel
theorem dX1_isLimit_14 : decode cX1_isLimit 14 = .ok (.iconst 0, 1) := by decide +kernel
theorem dX1_isLimit_15 : decode cX1_isLimit 15 = .ok (.ireturn, 1) := by decide +kernel
theorem dX1_countStanding_0 : decode cX1_countStanding 0 = .ok (.iconst 0, 1) := by decide +kernel
theorem dX1_countStanding_1 : decode cX1_countStanding 1 = .ok (.istore_n 1, 1) := by decide +kernel
theorem dX1_countStanding_2 : decode cX1_countStanding 2 = .ok (.iconst 0, 1) := by decide +kernel
theorem dX1_countStanding_3 : decode cX1_countStanding 3 = .ok (.istore_n 2, 1) := by decide +kernel
theorem dX1_countStanding_4 : decode cX1_countStanding 4 = .ok (.iload_n 2, 1) := by decide +kernel
theorem dX1_countStanding_5 : decode cX1_countStanding 5 = .ok (.bipush 12, 2) := by decide +kernel
theorem dX1_countStanding_7 : decode cX1_countStanding 7 = .ok (.if_icmp .ge 21, 3) := by decide +kernel
theorem dX1_countStanding_10 : decode cX1_countStanding 10 = .ok (.aload_n 0, 1) := by decide +kernel
theorem dX1_countStanding_11 : decode cX1_countStanding 11 = .ok (.getfield 11, 3) := by decide +kernel
theorem dX1_countStanding_14 : decode cX1_countStanding 14 = .ok (.iload_n 2, 1) := by decide +kernel
theorem dX1_countStanding_15 : decode cX1_countStanding 15 = .ok (.aaload, 1) := by decide +kernel
theorem dX1_countStanding_16 : decode cX1_countStanding 16 = .ok (.ifnull 6, 3) := by decide +kernel
theorem dX1_countStanding_19 : decode cX1_countStanding 19 = .ok (.iinc 1 1, 3) := by decide +kernel
theorem dX1_countStanding_22 : decode cX1_countStanding 22 = .ok (.iinc 2 1, 3) := by decide +kernel
theorem dX1_countStanding_25 : decode cX1_countStanding 25 = .ok (.goto (-21), 3) := by decide +kernel
theorem dX1_countStanding_28 : decode cX1_countStanding 28 = .ok (.iload_n 1, 1) := by decide +kernel
theorem dX1_countStanding_29 : decode cX1_countStanding 29 = .ok (.ireturn, 1) := by decide +kernel
theorem dX1_counted_0 : decode cX1_counted 0 = .ok (.iload_n 1, 1) := by decide +kernel
theorem dX1_counted_1 : decode cX1_counted 1 = .ok (.bipush (-11), 2) := by decide +kernel
theorem dX1_counted_3 : decode cX1_counted 3 = .ok (.if_icmp .ne 13, 3) := by decide +kernel
theorem dX1_counted_6 : decode cX1_counted 6 = .ok (.aload_n 0, 1) := by decide +kernel
theorem dX1_counted_7 : decode cX1_counted 7 = .ok (.dup, 1) := by decide +kernel
theorem dX1_counted_8 : decode cX1_counted 8 = .ok (.getfield 114, 3) := by decide +kernel
theorem dX1_counted_11 : decode cX1_counted 11 = .ok (.iconst 1, 1) := by decide +kernel
theorem dX1_counted_12 : decode cX1_counted 12 = .ok (.iadd, 1) := by decide +kernel
theorem dX1_counted_13 : decode cX1_counted 13 = .ok (.putfield 114, 3) := by decide +kernel
theorem dX1_counted_16 : decode cX1_counted 16 = .ok (.iload_n 1, 1) := by decide +kernel
theorem dX1_counted_17 : decode cX1_counted 17 = .ok (.bipush (-30), 2) := by decide +kernel
theorem dX1_counted_19 : decode cX1_counted 19 = .ok (.if_icmp .ne 13, 3) := by decide +kernel
theorem dX1_counted_22 : decode cX1_counted 22 = .ok (.aload_n 0, 1) := by decide +kernel
theorem dX1_counted_23 : decode cX1_counted 23 = .ok (.dup, 1) := by decide +kernel
theorem dX1_counted_24 : decode cX1_counted 24 = .ok (.getfield 117, 3) := by decide +kernel
theorem dX1_counted_27 : decode cX1_counted 27 = .ok (.iconst 1, 1) := by decide +kernel
theorem dX1_counted_28 : decode cX1_counted 28 = .ok (.iadd, 1) := by decide +kernel
theorem dX1_counted_29 : decode cX1_counted 29 = .ok (.putfield 117, 3) := by decide +kernel
theorem dX1_counted_32 : decode cX1_counted 32 = .ok (.iload_n 1, 1) := by decide +kernel
theorem dX1_counted_33 : decode cX1_counted 33 = .ok (.ireturn, 1) := by decide +kernel
theorem dX1_goAlone_0 : decode cX1_goAlone 0 = .ok (.iconst 0, 1) := by decide +kernel
theorem dX1_goAlone_1 : decode cX1_goAlone 1 = .ok (.istore 4, 2) := by decide +kernel
theorem dX1_goAlone_3 : decode cX1_goAlone 3 = .ok (.iload 4, 2) := by decide +kernel
theorem dX1_goAlone_5 : decode cX1_goAlone 5 = .ok (.iload_n 3, 1) := by decide +kernel
theorem dX1_goAlone_6 : decode cX1_goAlone 6 = .ok (.if_icmp .ge 81, 3) := by decide +kernel
theorem dX1_goAlone_9 : decode cX1_goAlone 9 = .ok (.iconst 0, 1) := by decide +kernel
theorem dX1_goAlone_10 : decode cX1_goAlone 10 = .ok (.istore 5, 2) := by decide +kernel
theorem dX1_goAlone_12 : decode cX1_goAlone 12 = .ok (.iload 5, 2) := by decide +kernel
theorem dX1_goAlone_14 : decode cX1_goAlone 14 = .ok (.aload_n 0, 1) := by decide +kernel
theorem dX1_goAlone_15 : decode cX1_goAlone 15 = .ok (.getfield 19, 3) := by decide +kernel
theorem dX1_goAlone_18 : decode cX1_goAlone 18 = .ok (.iload_n 1, 1) := by decide +kernel
theorem dX1_goAlone_19 : decode cX1_goAlone 19 = .ok (.iaload, 1) := by decide +kernel
theorem dX1_goAlone_20 : decode cX1_goAlone 20 = .ok (.if_icmp .ge 61, 3) := by decide +kernel
theorem dX1_goAlone_23 : decode cX1_goAlone 23 = .ok (.aload_n 0, 1) := by decide +kernel
theorem dX1_goAlone_24 : decode cX1_goAlone 24 = .ok (.iload_n 1, 1) := by decide +kernel
theorem dX1_goAlone_25 : decode cX1_goAlone 25 = .ok (.iload 5, 2) := by decide +kernel
theorem dX1_goAlone_27 : decode cX1_goAlone 27 = .ok (.invokevirtual 121, 3) := by decide +kernel
theorem dX1_goAlone_30 : decode cX1_goAlone 30 = .ok (.astore 6, 2) := by decide +kernel
theorem dX1_goAlone_32 : decode cX1_goAlone 32 = .ok (.aload 6, 2) := by decide +kernel
theorem dX1_goAlone_34 : decode cX1_goAlone 34 = .ok (.ifnonnull 6, 3) := by decide +kernel
theorem dX1_goAlone_37 : decode cX1_goAlone 37 = .ok (.bipush (-11), 2) := by decide +kernel
theorem dX1_goAlone_39 : decode cX1_goAlone 39 = .ok (.ireturn, 1) := by decide +kernel
theorem dX1_goAlone_40 : decode cX1_goAlone 40 = .ok (.aload_n 0, 1) := by decide +kernel
theorem dX1_goAlone_41 : decode cX1_goAlone 41 = .ok (.aload 6, 2) := by decide +kernel
theorem dX1_goAlone_43 : decode cX1_goAlone 43 = .ok (.invokevirtual 75, 3) := by decide +kernel
theorem dX1_goAlone_46 : decode cX1_goAlone 46 = .ok (.aload_n 0, 1) := by decide +kernel
theorem dX1_goAlone_47 : decode cX1_goAlone 47 = .ok (.aload 6, 2) := by decide +kernel
theorem dX1_goAlone_49 : decode cX1_goAlone 49 = .ok (.iload_n 2, 1) := by decide +kernel
theorem dX1_goAlone_50 : decode cX1_goAlone 50 = .ok (.invokevirtual 125, 3) := by decide +kernel
theorem dX1_goAlone_53 : decode cX1_goAlone 53 = .ok (.istore 7, 2) := by decide +kernel
theorem dX1_goAlone_55 : decode cX1_goAlone 55 = .ok (.aload_n 0, 1) := by decide +kernel
theorem dX1_goAlone_56 : decode cX1_goAlone 56 = .ok (.aload 6, 2) := by decide +kernel
theorem dX1_goAlone_58 : decode cX1_goAlone 58 = .ok (.invokevirtual 83, 3) := by decide +kernel
theorem dX1_goAlone_61 : decode cX1_goAlone 61 = .ok (.iload 7, 2) := by decide +kernel
theorem dX1_goAlone_63 : decode cX1_goAlone 63 = .ok (.ifCond .eq 12, 3) := by decide +kernel
theorem dX1_goAlone_66 : decode cX1_goAlone 66 = .ok (.aload_n 0, 1) := by decide +kernel
theorem dX1_goAlone_67 : decode cX1_goAlone 67 = .ok (.iload 7, 2) := by decide +kernel
theorem dX1_goAlone_69 : decode cX1_goAlone 69 = .ok (.iload 5, 2) := by decide +kernel
theorem dX1_goAlone_71 : decode cX1_goAlone 71 = .ok (.invokevirtual 129, 3) := by decide +kernel
theorem dX1_goAlone_74 : decode cX1_goAlone 74 = .ok (.ireturn, 1) := by decide +kernel
theorem dX1_goAlone_75 : decode cX1_goAlone 75 = .ok (.iinc 5 1, 3) := by decide +kernel
theorem dX1_goAlone_78 : decode cX1_goAlone 78 = .ok (.goto (-66), 3) := by decide +kernel
theorem dX1_goAlone_81 : decode cX1_goAlone 81 = .ok (.iinc 4 1, 3) := by decide +kernel
theorem dX1_goAlone_84 : decode cX1_goAlone 84 = .ok (.goto (-81), 3) := by decide +kernel
theorem dX1_goAlone_87 : decode cX1_goAlone 87 = .ok (.aload_n 0, 1) := by decide +kernel
theorem dX1_goAlone_88 : decode cX1_goAlone 88 = .ok (.getfield 51, 3) := by decide +kernel
theorem dX1_goAlone_91 : decode cX1_goAlone 91 = .ok (.ireturn, 1) := by decide +kernel
theorem dX1_goTwoByTwo_0 : decode cX1_goTwoByTwo 0 = .ok (.iconst 0, 1) := by decide +kernel
theorem dX1_goTwoByTwo_1 : decode cX1_goTwoByTwo 1 = .ok (.istore_n 3, 1) := by decide +kernel
theorem dX1_goTwoByTwo_2 : decode cX1_goTwoByTwo 2 = .ok (.iload_n 3, 1) := by decide +kernel
theorem dX1_goTwoByTwo_3 : decode cX1_goTwoByTwo 3 = .ok (.aload_n 0, 1) := by decide +kernel
theorem dX1_goTwoByTwo_4 : decode cX1_goTwoByTwo 4 = .ok (.getfield 19, 3) := by decide +kernel
theorem dX1_goTwoByTwo_7 : decode cX1_goTwoByTwo 7 = .ok (.iload_n 1, 1) := by decide +kernel
theorem dX1_goTwoByTwo_8 : decode cX1_goTwoByTwo 8 = .ok (.iaload, 1) := by decide +kernel
theorem dX1_goTwoByTwo_9 : decode cX1_goTwoByTwo 9 = .ok (.if_icmp .ge 135, 3) := by decide +kernel
theorem dX1_goTwoByTwo_12 : decode cX1_goTwoByTwo 12 = .ok (.aload_n 0, 1) := by decide +kernel
theorem dX1_goTwoByTwo_13 : decode cX1_goTwoByTwo 13 = .ok (.iload_n 1, 1) := by decide +kernel
theorem dX1_goTwoByTwo_14 : decode cX1_goTwoByTwo 14 = .ok (.iload_n 3, 1) := by decide +kernel
theorem dX1_goTwoByTwo_15 : decode cX1_goTwoByTwo 15 = .ok (.invokevirtual 121, 3) := by decide +kernel
theorem dX1_goTwoByTwo_18 : decode cX1_goTwoByTwo 18 = .ok (.astore 4, 2) := by decide +kernel
theorem dX1_goTwoByTwo_20 : decode cX1_goTwoByTwo 20 = .ok (.aload 4, 2) := by decide +kernel
theorem dX1_goTwoByTwo_22 : decode cX1_goTwoByTwo 22 = .ok (.ifnonnull 6, 3) := by decide +kernel
theorem dX1_goTwoByTwo_25 : decode cX1_goTwoByTwo 25 = .ok (.bipush (-11), 2) := by decide +kernel
theorem dX1_goTwoByTwo_27 : decode cX1_goTwoByTwo 27 = .ok (.ireturn, 1) := by decide +kernel
theorem dX1_goTwoByTwo_28 : decode cX1_goTwoByTwo 28 = .ok (.aload_n 0, 1) := by decide +kernel
theorem dX1_goTwoByTwo_29 : decode cX1_goTwoByTwo 29 = .ok (.aload 4, 2) := by decide +kernel
theorem dX1_goTwoByTwo_31 : decode cX1_goTwoByTwo 31 = .ok (.invokevirtual 75, 3) := by decide +kernel
theorem dX1_goTwoByTwo_34 : decode cX1_goTwoByTwo 34 = .ok (.iload_n 3, 1) := by decide +kernel
theorem dX1_goTwoByTwo_35 : decode cX1_goTwoByTwo 35 = .ok (.iconst 1, 1) := by decide +kernel
theorem dX1_goTwoByTwo_36 : decode cX1_goTwoByTwo 36 = .ok (.iadd, 1) := by decide +kernel
theorem dX1_goTwoByTwo_37 : decode cX1_goTwoByTwo 37 = .ok (.aload_n 0, 1) := by decide +kernel
theorem dX1_goTwoByTwo_38 : decode cX1_goTwoByTwo 38 = .ok (.getfield 19, 3) := by decide +kernel
theorem dX1_goTwoByTwo_41 : decode cX1_goTwoByTwo 41 = .ok (.iload_n 1, 1) := by decide +kernel
theorem dX1_goTwoByTwo_42 : decode cX1_goTwoByTwo 42 = .ok (.iaload, 1) := by decide +kernel
theorem dX1_goTwoByTwo_43 : decode cX1_goTwoByTwo 43 = .ok (.if_icmp .ne 7, 3) := by decide +kernel
theorem dX1_goTwoByTwo_46 : decode cX1_goTwoByTwo 46 = .ok (.iconst 1, 1) := by decide +kernel
theorem dX1_goTwoByTwo_47 : decode cX1_goTwoByTwo 47 = .ok (.goto 4, 3) := by decide +kernel
theorem dX1_goTwoByTwo_50 : decode cX1_goTwoByTwo 50 = .ok (.iconst 0, 1) := by decide +kernel
theorem dX1_goTwoByTwo_51 : decode cX1_goTwoByTwo 51 = .ok (.istore 5, 2) := by decide +kernel
theorem dX1_goTwoByTwo_53 : decode cX1_goTwoByTwo 53 = .ok (.iload 5, 2) := by decide +kernel
theorem dX1_goTwoByTwo_55 : decode cX1_goTwoByTwo 55 = .ok (.ifCond .eq 7, 3) := by decide +kernel
theorem dX1_goTwoByTwo_58 : decode cX1_goTwoByTwo 58 = .ok (.aconst_null, 1) := by decide +kernel
theorem dX1_goTwoByTwo_59 : decode cX1_goTwoByTwo 59 = .ok (.goto 11, 3) := by decide +kernel
theorem dX1_goTwoByTwo_62 : decode cX1_goTwoByTwo 62 = .ok (.aload_n 0, 1) := by decide +kernel
theorem dX1_goTwoByTwo_63 : decode cX1_goTwoByTwo 63 = .ok (.iload_n 1, 1) := by decide +kernel
theorem dX1_goTwoByTwo_64 : decode cX1_goTwoByTwo 64 = .ok (.iload_n 3, 1) := by decide +kernel
theorem dX1_goTwoByTwo_65 : decode cX1_goTwoByTwo 65 = .ok (.iconst 1, 1) := by decide +kernel
theorem dX1_goTwoByTwo_66 : decode cX1_goTwoByTwo 66 = .ok (.iadd, 1) := by decide +kernel
theorem dX1_goTwoByTwo_67 : decode cX1_goTwoByTwo 67 = .ok (.invokevirtual 121, 3) := by decide +kernel
theorem dX1_goTwoByTwo_70 : decode cX1_goTwoByTwo 70 = .ok (.astore 6, 2) := by decide +kernel
theorem dX1_goTwoByTwo_72 : decode cX1_goTwoByTwo 72 = .ok (.bipush (-11), 2) := by decide +kernel
theorem dX1_goTwoByTwo_74 : decode cX1_goTwoByTwo 74 = .ok (.istore 7, 2) := by decide +kernel
theorem dX1_goTwoByTwo_76 : decode cX1_goTwoByTwo 76 = .ok (.aload 6, 2) := by decide +kernel
theorem dX1_goTwoByTwo_78 : decode cX1_goTwoByTwo 78 = .ok (.ifnull 27, 3) := by decide +kernel
theorem dX1_goTwoByTwo_81 : decode cX1_goTwoByTwo 81 = .ok (.aload_n 0, 1) := by decide +kernel
theorem dX1_goTwoByTwo_82 : decode cX1_goTwoByTwo 82 = .ok (.aload 6, 2) := by decide +kernel
theorem dX1_goTwoByTwo_84 : decode cX1_goTwoByTwo 84 = .ok (.invokevirtual 75, 3) := by decide +kernel
theorem dX1_goTwoByTwo_87 : decode cX1_goTwoByTwo 87 = .ok (.aload_n 0, 1) := by decide +kernel
theorem dX1_goTwoByTwo_88 : decode cX1_goTwoByTwo 88 = .ok (.aload 4, 2) := by decide +kernel
theorem dX1_goTwoByTwo_90 : decode cX1_goTwoByTwo 90 = .ok (.iload_n 2, 1) := by decide +kernel
theorem dX1_goTwoByTwo_91 : decode cX1_goTwoByTwo 91 = .ok (.invokevirtual 125, 3) := by decide +kernel
theorem dX1_goTwoByTwo_94 : decode cX1_goTwoByTwo 94 = .ok (.istore 7, 2) := by decide +kernel
theorem dX1_goTwoByTwo_96 : decode cX1_goTwoByTwo 96 = .ok (.aload_n 0, 1) := by decide +kernel
theorem dX1_goTwoByTwo_97 : decode cX1_goTwoByTwo 97 = .ok (.aload 6, 2) := by decide +kernel
theorem dX1_goTwoByTwo_99 : decode cX1_goTwoByTwo 99 = .ok (.invokevirtual 83, 3) := by decide +kernel
theorem dX1_goTwoByTwo_102 : decode cX1_goTwoByTwo 102 = .ok (.goto 17, 3) := by decide +kernel
theorem dX1_goTwoByTwo_105 : decode cX1_goTwoByTwo 105 = .ok (.iload 5, 2) := by decide +kernel
theorem dX1_goTwoByTwo_107 : decode cX1_goTwoByTwo 107 = .ok (.ifCond .eq 12, 3) := by decide +kernel
theorem dX1_goTwoByTwo_110 : decode cX1_goTwoByTwo 110 = .ok (.aload_n 0, 1) := by decide +kernel
theorem dX1_goTwoByTwo_111 : decode cX1_goTwoByTwo 111 = .ok (.aload 4, 2) := by decide +kernel
theorem dX1_goTwoByTwo_113 : decode cX1_goTwoByTwo 113 = .ok (.iload_n 2, 1) := by decide +kernel
theorem dX1_goTwoByTwo_114 : decode cX1_goTwoByTwo 114 = .ok (.invokevirtual 125, 3) := by decide +kernel
theorem dX1_goTwoByTwo_117 : decode cX1_goTwoByTwo 117 = .ok (.istore 7, 2) := by decide +kernel
theorem dX1_goTwoByTwo_119 : decode cX1_goTwoByTwo 119 = .ok (.aload_n 0, 1) := by decide +kernel
theorem dX1_goTwoByTwo_120 : decode cX1_goTwoByTwo 120 = .ok (.aload 4, 2) := by decide +kernel
theorem dX1_goTwoByTwo_122 : decode cX1_goTwoByTwo 122 = .ok (.invokevirtual 83, 3) := by decide +kernel
theorem dX1_goTwoByTwo_125 : decode cX1_goTwoByTwo 125 = .ok (.iload 7, 2) := by decide +kernel
theorem dX1_goTwoByTwo_127 : decode cX1_goTwoByTwo 127 = .ok (.ifCond .eq 11, 3) := by decide +kernel
theorem dX1_goTwoByTwo_130 : decode cX1_goTwoByTwo 130 = .ok (.aload_n 0, 1) := by decide +kernel
theorem dX1_goTwoByTwo_131 : decode cX1_goTwoByTwo 131 = .ok (.iload 7, 2) := by decide +kernel
theorem dX1_goTwoByTwo_133 : decode cX1_goTwoByTwo 133 = .ok (.iload_n 3, 1) := by decide +kernel
theorem dX1_goTwoByTwo_134 : decode cX1_goTwoByTwo 134 = .ok (.invokevirtual 129, 3) := by decide +kernel
theorem dX1_goTwoByTwo_137 : decode cX1_goTwoByTwo 137 = .ok (.ireturn, 1) := by decide +kernel
theorem dX1_goTwoByTwo_138 : decode cX1_goTwoByTwo 138 = .ok (.iinc 3 1, 3) := by decide +kernel
theorem dX1_goTwoByTwo_141 : decode cX1_goTwoByTwo 141 = .ok (.goto (-139), 3) := by decide +kernel
theorem dX1_goTwoByTwo_144 : decode cX1_goTwoByTwo 144 = .ok (.aload_n 0, 1) := by decide +kernel
theorem dX1_goTwoByTwo_145 : decode cX1_goTwoByTwo 145 = .ok (.getfield 51, 3) := by decide +kernel
theorem dX1_goTwoByTwo_148 : decode cX1_goTwoByTwo 148 = .ok (.ireturn, 1) := by decide +kernel
theorem dX1_goAll_0 : decode cX1_goAll 0 = .ok (.aload_n 0, 1) := by decide +kernel
theorem dX1_goAll_1 : decode cX1_goAll 1 = .ok (.iload_n 1, 1) := by decide +kernel
theorem dX1_goAll_2 : decode cX1_goAll 2 = .ok (.invokevirtual 132, 3) := by decide +kernel
theorem dX1_goAll_5 : decode cX1_goAll 5 = .ok (.istore_n 3, 1) := by decide +kernel
theorem dX1_goAll_6 : decode cX1_goAll 6 = .ok (.iload_n 3, 1) := by decide +kernel
theorem dX1_goAll_7 : decode cX1_goAll 7 = .ok (.aload_n 0, 1) := by decide +kernel
theorem dX1_goAll_8 : decode cX1_goAll 8 = .ok (.getfield 19, 3) := by decide +kernel
theorem dX1_goAll_11 : decode cX1_goAll 11 = .ok (.iload_n 1, 1) := by decide +kernel
theorem dX1_goAll_12 : decode cX1_goAll 12 = .ok (.iaload, 1) := by decide +kernel
theorem dX1_goAll_13 : decode cX1_goAll 13 = .ok (.if_icmp .ge 8, 3) := by decide +kernel
theorem dX1_goAll_16 : decode cX1_goAll 16 = .ok (.bipush (-11), 2) := by decide +kernel
theorem dX1_goAll_18 : decode cX1_goAll 18 = .ok (.goto 4, 3) := by decide +kernel
theorem dX1_goAll_21 : decode cX1_goAll 21 = .ok (.iconst 0, 1) := by decide +kernel
theorem dX1_goAll_22 : decode cX1_goAll 22 = .ok (.istore 4, 2) := by decide +kernel
theorem dX1_goAll_24 : decode cX1_goAll 24 = .ok (.aload_n 0, 1) := by decide +kernel
theorem dX1_goAll_25 : decode cX1_goAll 25 = .ok (.iload 4, 2) := by decide +kernel
theorem dX1_goAll_27 : decode cX1_goAll 27 = .ok (.iconst 0, 1) := by decide +kernel
theorem dX1_goAll_28 : decode cX1_goAll 28 = .ok (.invokevirtual 129, 3) := by decide +kernel
theorem dX1_goAll_31 : decode cX1_goAll 31 = .ok (.istore 5, 2) := by decide +kernel
theorem dX1_goAll_33 : decode cX1_goAll 33 = .ok (.iconst 0, 1) := by decide +kernel
theorem dX1_goAll_34 : decode cX1_goAll 34 = .ok (.istore 6, 2) := by decide +kernel
theorem dX1_goAll_36 : decode cX1_goAll 36 = .ok (.iload 6, 2) := by decide +kernel
theorem dX1_goAll_38 : decode cX1_goAll 38 = .ok (.iload_n 3, 1) := by decide +kernel
theorem dX1_goAll_39 : decode cX1_goAll 39 = .ok (.if_icmp .ge 52, 3) := by decide +kernel
theorem dX1_goAll_42 : decode cX1_goAll 42 = .ok (.iload 4, 2) := by decide +kernel
theorem dX1_goAll_44 : decode cX1_goAll 44 = .ok (.ifCond .ne 47, 3) := by decide +kernel
theorem dX1_goAll_47 : decode cX1_goAll 47 = .ok (.aload_n 0, 1) := by decide +kernel
theorem dX1_goAll_48 : decode cX1_goAll 48 = .ok (.iload_n 1, 1) := by decide +kernel
theorem dX1_goAll_49 : decode cX1_goAll 49 = .ok (.iload 6, 2) := by decide +kernel
theorem dX1_goAll_51 : decode cX1_goAll 51 = .ok (.invokevirtual 121, 3) := by decide +kernel
theorem dX1_goAll_54 : decode cX1_goAll 54 = .ok (.astore 7, 2) := by decide +kernel
theorem dX1_goAll_56 : decode cX1_goAll 56 = .ok (.aload 7, 2) := by decide +kernel
theorem dX1_goAll_58 : decode cX1_goAll 58 = .ok (.ifnonnull 8, 3) := by decide +kernel
theorem dX1_goAll_61 : decode cX1_goAll 61 = .ok (.bipush (-11), 2) := by decide +kernel
theorem dX1_goAll_63 : decode cX1_goAll 63 = .ok (.goto 10, 3) := by decide +kernel
theorem dX1_goAll_66 : decode cX1_goAll 66 = .ok (.aload_n 0, 1) := by decide +kernel
theorem dX1_goAll_67 : decode cX1_goAll 67 = .ok (.aload 7, 2) := by decide +kernel
theorem dX1_goAll_69 : decode cX1_goAll 69 = .ok (.iload_n 2, 1) := by decide +kernel
theorem dX1_goAll_70 : decode cX1_goAll 70 = .ok (.invokevirtual 125, 3) := by decide +kernel
theorem dX1_goAll_73 : decode cX1_goAll 73 = .ok (.istore 4, 2) := by decide +kernel
theorem dX1_goAll_75 : decode cX1_goAll 75 = .ok (.aload_n 0, 1) := by decide +kernel
theorem dX1_goAll_76 : decode cX1_goAll 76 = .ok (.iload 4, 2) := by decide +kernel
theorem dX1_goAll_78 : decode cX1_goAll 78 = .ok (.iload 6, 2) := by decide +kernel
theorem dX1_goAll_80 : decode cX1_goAll 80 = .ok (.invokevirtual 129, 3) := by decide +kernel
theorem dX1_goAll_83 : decode cX1_goAll 83 = .ok (.istore 5, 2) := by decide +kernel
theorem dX1_goAll_85 : decode cX1_goAll 85 = .ok (.iinc 6 1, 3) := by decide +kernel
theorem dX1_goAll_88 : decode cX1_goAll 88 = .ok (.goto (-52), 3) := by decide +kernel
theorem dX1_goAll_91 : decode cX1_goAll 91 = .ok (.aload_n 0, 1) := by decide +kernel
theorem dX1_goAll_92 : decode cX1_goAll 92 = .ok (.iload_n 1, 1) := by decide +kernel
theorem dX1_goAll_93 : decode cX1_goAll 93 = .ok (.iload_n 3, 1) := by decide +kernel
theorem dX1_goAll_94 : decode cX1_goAll 94 = .ok (.invokevirtual 135, 3) := by decide +kernel
theorem dX1_goAll_97 : decode cX1_goAll 97 = .ok (.iload 5, 2) := by decide +kernel
theorem dX1_goAll_99 : decode cX1_goAll 99 = .ok (.ireturn, 1) := by decide +kernel
theorem dX1_claimAll_0 : decode cX1_claimAll 0 = .ok (.iconst 0, 1) := by decide +kernel
theorem dX1_claimAll_1 : decode cX1_claimAll 1 = .ok (.istore_n 2, 1) := by decide +kernel
theorem dX1_claimAll_2 : decode cX1_claimAll 2 = .ok (.iload_n 2, 1) := by decide +kernel
theorem dX1_claimAll_3 : decode cX1_claimAll 3 = .ok (.aload_n 0, 1) := by decide +kernel
theorem dX1_claimAll_4 : decode cX1_claimAll 4 = .ok (.getfield 19, 3) := by decide +kernel
theorem dX1_claimAll_7 : decode cX1_claimAll 7 = .ok (.iload_n 1, 1) := by decide +kernel
theorem dX1_claimAll_8 : decode cX1_claimAll 8 = .ok (.iaload, 1) := by decide +kernel
theorem dX1_claimAll_9 : decode cX1_claimAll 9 = .ok (.if_icmp .ge 27, 3) := by decide +kernel
theorem dX1_claimAll_12 : decode cX1_claimAll 12 = .ok (.aload_n 0, 1) := by decide +kernel
theorem dX1_claimAll_13 : decode cX1_claimAll 13 = .ok (.iload_n 1, 1) := by decide +kernel
theorem dX1_claimAll_14 : decode cX1_claimAll 14 = .ok (.iload_n 2, 1) := by decide +kernel
theorem dX1_claimAll_15 : decode cX1_claimAll 15 = .ok (.invokevirtual 121, 3) := by decide +kernel
theorem dX1_claimAll_18 : decode cX1_claimAll 18 = .ok (.astore_n 3, 1) := by decide +kernel
theorem dX1_claimAll_19 : decode cX1_claimAll 19 = .ok (.aload_n 3, 1) := by decide +kernel
theorem dX1_claimAll_20 : decode cX1_claimAll 20 = .ok (.ifnonnull 5, 3) := by decide +kernel
theorem dX1_claimAll_23 : decode cX1_claimAll 23 = .ok (.iload_n 2, 1) := by decide +kernel
theorem dX1_claimAll_24 : decode cX1_claimAll 24 = .ok (.ireturn, 1) := by decide +kernel
theorem dX1_claimAll_25 : decode cX1_claimAll 25 = .ok (.aload_n 0, 1) := by decide +kernel
theorem dX1_claimAll_26 : decode cX1_claimAll 26 = .ok (.aload_n 3, 1) := by decide +kernel
theorem dX1_claimAll_27 : decode cX1_claimAll 27 = .ok (.invokevirtual 75, 3) := by decide +kernel
theorem dX1_claimAll_30 : decode cX1_claimAll 30 = .ok (.iinc 2 1, 3) := by decide +kernel
theorem dX1_claimAll_33 : decode cX1_claimAll 33 = .ok (.goto (-31), 3) := by decide +kernel
theorem dX1_claimAll_36 : decode cX1_claimAll 36 = .ok (.aload_n 0, 1) := by decide +kernel
theorem dX1_claimAll_37 : decode cX1_claimAll 37 = .ok (.getfield 19, 3) := by decide +kernel
theorem dX1_claimAll_40 : decode cX1_claimAll 40 = .ok (.iload_n 1, 1) := by decide +kernel
theorem dX1_claimAll_41 : decode cX1_claimAll 41 = .ok (.iaload, 1) := by decide +kernel
theorem dX1_claimAll_42 : decode cX1_claimAll 42 = .ok (.ireturn, 1) := by decide +kernel
theorem dX1_letAll_0 : decode cX1_letAll 0 = .ok (.iload_n 2, 1) := by decide +kernel
theorem dX1_letAll_1 : decode cX1_letAll 1 = .ok (.iconst 1, 1) := by decide +kernel
theorem dX1_letAll_2 : decode cX1_letAll 2 = .ok (.isub, 1) := by decide +kernel
theorem dX1_letAll_3 : decode cX1_letAll 3 = .ok (.istore_n 3, 1) := by decide +kernel
theorem dX1_letAll_4 : decode cX1_letAll 4 = .ok (.iload_n 3, 1) := by decide +kernel
theorem dX1_letAll_5 : decode cX1_letAll 5 = .ok (.ifCond .lt 28, 3) := by decide +kernel
theorem dX1_letAll_8 : decode cX1_letAll 8 = .ok (.aload_n 0, 1) := by decide +kernel
theorem dX1_letAll_9 : decode cX1_letAll 9 = .ok (.iload_n 1, 1) := by decide +kernel
theorem dX1_letAll_10 : decode cX1_letAll 10 = .ok (.iload_n 3, 1) := by decide +kernel
theorem dX1_letAll_11 : decode cX1_letAll 11 = .ok (.invokevirtual 121, 3) := by decide +kernel
theorem dX1_letAll_14 : decode cX1_letAll 14 = .ok (.astore 4, 2) := by decide +kernel
theorem dX1_letAll_16 : decode cX1_letAll 16 = .ok (.aload 4, 2) := by decide +kernel
theorem dX1_letAll_18 : decode cX1_letAll 18 = .ok (.ifnull 9, 3) := by decide +kernel
theorem dX1_letAll_21 : decode cX1_letAll 21 = .ok (.aload_n 0, 1) := by decide +kernel
theorem dX1_letAll_22 : decode cX1_letAll 22 = .ok (.aload 4, 2) := by decide +kernel
theorem dX1_letAll_24 : decode cX1_letAll 24 = .ok (.invokevirtual 83, 3) := by decide +kernel
theorem dX1_letAll_27 : decode cX1_letAll 27 = .ok (.iinc 3 (-1), 3) := by decide +kernel
theorem dX1_letAll_30 : decode cX1_letAll 30 = .ok (.goto (-26), 3) := by decide +kernel
theorem dX1_letAll_33 : decode cX1_letAll 33 = .ok (.return_, 1) := by decide +kernel
theorem dX1_goFirst_0 : decode cX1_goFirst 0 = .ok (.iconst 0, 1) := by decide +kernel
theorem dX1_goFirst_1 : decode cX1_goFirst 1 = .ok (.istore_n 3, 1) := by decide +kernel
theorem dX1_goFirst_2 : decode cX1_goFirst 2 = .ok (.iload_n 3, 1) := by decide +kernel
theorem dX1_goFirst_3 : decode cX1_goFirst 3 = .ok (.aload_n 0, 1) := by decide +kernel
theorem dX1_goFirst_4 : decode cX1_goFirst 4 = .ok (.getfield 19, 3) := by decide +kernel
theorem dX1_goFirst_7 : decode cX1_goFirst 7 = .ok (.iload_n 1, 1) := by decide +kernel
theorem dX1_goFirst_8 : decode cX1_goFirst 8 = .ok (.iaload, 1) := by decide +kernel
theorem dX1_goFirst_9 : decode cX1_goFirst 9 = .ok (.if_icmp .ge 92, 3) := by decide +kernel
theorem dX1_goFirst_12 : decode cX1_goFirst 12 = .ok (.aload_n 0, 1) := by decide +kernel
theorem dX1_goFirst_13 : decode cX1_goFirst 13 = .ok (.iload_n 1, 1) := by decide +kernel
theorem dX1_goFirst_14 : decode cX1_goFirst 14 = .ok (.iload_n 3, 1) := by decide +kernel
theorem dX1_goFirst_15 : decode cX1_goFirst 15 = .ok (.invokevirtual 121, 3) := by decide +kernel
theorem dX1_goFirst_18 : decode cX1_goFirst 18 = .ok (.astore 4, 2) := by decide +kernel
theorem dX1_goFirst_20 : decode cX1_goFirst 20 = .ok (.aload 4, 2) := by decide +kernel
theorem dX1_goFirst_22 : decode cX1_goFirst 22 = .ok (.ifnonnull 6, 3) := by decide +kernel
theorem dX1_goFirst_25 : decode cX1_goFirst 25 = .ok (.goto 70, 3) := by decide +kernel
theorem dX1_goFirst_28 : decode cX1_goFirst 28 = .ok (.aload_n 0, 1) := by decide +kernel
theorem dX1_goFirst_29 : decode cX1_goFirst 29 = .ok (.aload 4, 2) := by decide +kernel
theorem dX1_goFirst_31 : decode cX1_goFirst 31 = .ok (.invokevirtual 75, 3) := by decide +kernel
theorem dX1_goFirst_34 : decode cX1_goFirst 34 = .ok (.aload 4, 2) := by decide +kernel
theorem dX1_goFirst_36 : decode cX1_goFirst 36 = .ok (.iload_n 2, 1) := by decide +kernel
theorem dX1_goFirst_37 : decode cX1_goFirst 37 = .ok (.invokevirtual 139, 3) := by decide +kernel
theorem dX1_goFirst_40 : decode cX1_goFirst 40 = .ok (.ifCond .eq 15, 3) := by decide +kernel
theorem dX1_goFirst_43 : decode cX1_goFirst 43 = .ok (.aload 4, 2) := by decide +kernel
theorem dX1_goFirst_45 : decode cX1_goFirst 45 = .ok (.getfield 98, 3) := by decide +kernel
theorem dX1_goFirst_48 : decode cX1_goFirst 48 = .ok (.ifCond .ne 7, 3) := by decide +kernel
theorem dX1_goFirst_51 : decode cX1_goFirst 51 = .ok (.iconst 1, 1) := by decide +kernel
theorem dX1_goFirst_52 : decode cX1_goFirst 52 = .ok (.goto 4, 3) := by decide +kernel
theorem dX1_goFirst_55 : decode cX1_goFirst 55 = .ok (.iconst 0, 1) := by decide +kernel
theorem dX1_goFirst_56 : decode cX1_goFirst 56 = .ok (.istore 5, 2) := by decide +kernel
theorem dX1_goFirst_58 : decode cX1_goFirst 58 = .ok (.iload 5, 2) := by decide +kernel
theorem dX1_goFirst_60 : decode cX1_goFirst 60 = .ok (.ifCond .eq 13, 3) := by decide +kernel
theorem dX1_goFirst_63 : decode cX1_goFirst 63 = .ok (.aload_n 0, 1) := by decide +kernel
theorem dX1_goFirst_64 : decode cX1_goFirst 64 = .ok (.aload 4, 2) := by decide +kernel
theorem dX1_goFirst_66 : decode cX1_goFirst 66 = .ok (.iload_n 2, 1) := by decide +kernel
theorem dX1_goFirst_67 : decode cX1_goFirst 67 = .ok (.invokevirtual 125, 3) := by decide +kernel
theorem dX1_goFirst_70 : decode cX1_goFirst 70 = .ok (.goto 4, 3) := by decide +kernel
theorem dX1_goFirst_73 : decode cX1_goFirst 73 = .ok (.iconst 1, 1) := by decide +kernel
theorem dX1_goFirst_74 : decode cX1_goFirst 74 = .ok (.istore 6, 2) := by decide +kernel
theorem dX1_goFirst_76 : decode cX1_goFirst 76 = .ok (.aload_n 0, 1) := by decide +kernel
theorem dX1_goFirst_77 : decode cX1_goFirst 77 = .ok (.aload 4, 2) := by decide +kernel
theorem dX1_goFirst_79 : decode cX1_goFirst 79 = .ok (.invokevirtual 83, 3) := by decide +kernel
theorem dX1_goFirst_82 : decode cX1_goFirst 82 = .ok (.iload 5, 2) := by decide +kernel
theorem dX1_goFirst_84 : decode cX1_goFirst 84 = .ok (.ifCond .eq 11, 3) := by decide +kernel
theorem dX1_goFirst_87 : decode cX1_goFirst 87 = .ok (.aload_n 0, 1) := by decide +kernel
theorem dX1_goFirst_88 : decode cX1_goFirst 88 = .ok (.iload 6, 2) := by decide +kernel
theorem dX1_goFirst_90 : decode cX1_goFirst 90 = .ok (.iload_n 3, 1) := by decide +kernel
theorem dX1_goFirst_91 : decode cX1_goFirst 91 = .ok (.invokevirtual 129, 3) := by decide +kernel
theorem dX1_goFirst_94 : decode cX1_goFirst 94 = .ok (.ireturn, 1) := by decide +kernel
theorem dX1_goFirst_95 : decode cX1_goFirst 95 = .ok (.iinc 3 1, 3) := by decide +kernel
theorem dX1_goFirst_98 : decode cX1_goFirst 98 = .ok (.goto (-96), 3) := by decide +kernel
theorem dX1_goFirst_101 : decode cX1_goFirst 101 = .ok (.aload_n 0, 1) := by decide +kernel
theorem dX1_goFirst_102 : decode cX1_goFirst 102 = .ok (.getfield 51, 3) := by decide +kernel
theorem dX1_goFirst_105 : decode cX1_goFirst 105 = .ok (.ireturn, 1) := by decide +kernel
theorem dX1_sectionOn_0 : decode cX1_sectionOn 0 = .ok (.aload_n 0, 1) := by decide +kernel
theorem dX1_sectionOn_1 : decode cX1_sectionOn 1 = .ok (.getfield 11, 3) := by decide +kernel
theorem dX1_sectionOn_4 : decode cX1_sectionOn 4 = .ok (.aload_n 0, 1) := by decide +kernel
theorem dX1_sectionOn_5 : decode cX1_sectionOn 5 = .ok (.getfield 15, 3) := by decide +kernel
theorem dX1_sectionOn_8 : decode cX1_sectionOn 8 = .ok (.iload_n 1, 1) := by decide +kernel
theorem dX1_sectionOn_9 : decode cX1_sectionOn 9 = .ok (.bipush 8, 2) := by decide +kernel
theorem dX1_sectionOn_11 : decode cX1_sectionOn 11 = .ok (.imul, 1) := by decide +kernel
theorem dX1_sectionOn_12 : decode cX1_sectionOn 12 = .ok (.iload_n 2, 1) := by decide +kernel
theorem dX1_sectionOn_13 : decode cX1_sectionOn 13 = .ok (.iadd, 1) := by decide +kernel
theorem dX1_sectionOn_14 : decode cX1_sectionOn 14 = .ok (.iaload, 1) := by decide +kernel
theorem dX1_sectionOn_15 : decode cX1_sectionOn 15 = .ok (.aaload, 1) := by decide +kernel
theorem dX1_sectionOn_16 : decode cX1_sectionOn 16 = .ok (.areturn, 1) := by decide +kernel
theorem dX1_answerTo_0 : decode cX1_answerTo 0 = .ok (.iload_n 1, 1) := by decide +kernel
theorem dX1_answerTo_1 : decode cX1_answerTo 1 = .ok (.ifCond .ge 5, 3) := by decide +kernel
theorem dX1_answerTo_4 : decode cX1_answerTo 4 = .ok (.iload_n 1, 1) := by decide +kernel
theorem dX1_answerTo_5 : decode cX1_answerTo 5 = .ok (.ireturn, 1) := by decide +kernel
theorem dX1_answerTo_6 : decode cX1_answerTo 6 = .ok (.iload_n 1, 1) := by decide +kernel
theorem dX1_answerTo_7 : decode cX1_answerTo 7 = .ok (.iconst 2, 1) := by decide +kernel
theorem dX1_answerTo_8 : decode cX1_answerTo 8 = .ok (.if_icmp .ne 10, 3) := by decide +kernel
theorem dX1_answerTo_11 : decode cX1_answerTo 11 = .ok (.bipush (-100), 2) := by decide +kernel
theorem dX1_answerTo_13 : decode cX1_answerTo 13 = .ok (.iload_n 2, 1) := by decide +kernel
theorem dX1_answerTo_14 : decode cX1_answerTo 14 = .ok (.isub, 1) := by decide +kernel
theorem dX1_answerTo_15 : decode cX1_answerTo 15 = .ok (.goto 7, 3) := by decide +kernel
theorem dX1_answerTo_18 : decode cX1_answerTo 18 = .ok (.aload_n 0, 1) := by decide +kernel
theorem dX1_answerTo_19 : decode cX1_answerTo 19 = .ok (.getfield 51, 3) := by decide +kernel
theorem dX1_answerTo_22 : decode cX1_answerTo 22 = .ok (.ireturn, 1) := by decide +kernel
theorem dX1_pass_0 : decode cX1_pass 0 = .ok (.aload_n 1, 1) := by decide +kernel
theorem dX1_pass_1 : decode cX1_pass 1 = .ok (.getfield 86, 3) := by decide +kernel
theorem dX1_pass_4 : decode cX1_pass 4 = .ok (.lookupswitch 48 #[(1, 38), (2, 28)], 28) := by decide +kernel
theorem dX1_pass_32 : decode cX1_pass 32 = .ok (.aload_n 0, 1) := by decide +kernel
theorem dX1_pass_33 : decode cX1_pass 33 = .ok (.aload_n 1, 1) := by decide +kernel
theorem dX1_pass_34 : decode cX1_pass 34 = .ok (.iload_n 2, 1) := by decide +kernel
theorem dX1_pass_35 : decode cX1_pass 35 = .ok (.invokevirtual 142, 3) := by decide +kernel
theorem dX1_pass_38 : decode cX1_pass 38 = .ok (.istore_n 3, 1) := by decide +kernel
theorem dX1_pass_39 : decode cX1_pass 39 = .ok (.goto 20, 3) := by decide +kernel
theorem dX1_pass_42 : decode cX1_pass 42 = .ok (.aload_n 0, 1) := by decide +kernel
theorem dX1_pass_43 : decode cX1_pass 43 = .ok (.aload_n 1, 1) := by decide +kernel
theorem dX1_pass_44 : decode cX1_pass 44 = .ok (.iload_n 2, 1) := by decide +kernel
theorem dX1_pass_45 : decode cX1_pass 45 = .ok (.invokevirtual 145, 3) := by decide +kernel
theorem dX1_pass_48 : decode cX1_pass 48 = .ok (.istore_n 3, 1) := by decide +kernel
theorem dX1_pass_49 : decode cX1_pass 49 = .ok (.goto 10, 3) := by decide +kernel
theorem dX1_pass_52 : decode cX1_pass 52 = .ok (.aload_n 0, 1) := by decide +kernel
theorem dX1_pass_53 : decode cX1_pass 53 = .ok (.aload_n 1, 1) := by decide +kernel
theorem dX1_pass_54 : decode cX1_pass 54 = .ok (.iload_n 2, 1) := by decide +kernel
theorem dX1_pass_55 : decode cX1_pass 55 = .ok (.invokevirtual 148, 3) := by decide +kernel
theorem dX1_pass_58 : decode cX1_pass 58 = .ok (.istore_n 3, 1) := by decide +kernel
theorem dX1_pass_59 : decode cX1_pass 59 = .ok (.iload_n 3, 1) := by decide +kernel
theorem dX1_pass_60 : decode cX1_pass 60 = .ok (.ifCond .ne 13, 3) := by decide +kernel
theorem dX1_pass_63 : decode cX1_pass 63 = .ok (.aload_n 0, 1) := by decide +kernel
theorem dX1_pass_64 : decode cX1_pass 64 = .ok (.dup, 1) := by decide +kernel
theorem dX1_pass_65 : decode cX1_pass 65 = .ok (.getfield 51, 3) := by decide +kernel
theorem dX1_pass_68 : decode cX1_pass 68 = .ok (.iconst 1, 1) := by decide +kernel
theorem dX1_pass_69 : decode cX1_pass 69 = .ok (.iadd, 1) := by decide +kernel
theorem dX1_pass_70 : decode cX1_pass 70 = .ok (.putfield 51, 3) := by decide +kernel
theorem dX1_pass_73 : decode cX1_pass 73 = .ok (.iload_n 3, 1) := by decide +kernel
theorem dX1_pass_74 : decode cX1_pass 74 = .ok (.ireturn, 1) := by decide +kernel
theorem dX1_passBridge_0 : decode cX1_passBridge 0 = .ok (.aload_n 0, 1) := by decide +kernel
theorem dX1_passBridge_1 : decode cX1_passBridge 1 = .ok (.aload_n 1, 1) := by decide +kernel
theorem dX1_passBridge_2 : decode cX1_passBridge 2 = .ok (.invokevirtual 75, 3) := by decide +kernel
theorem dX1_passBridge_5 : decode cX1_passBridge 5 = .ok (.iconst 2, 1) := by decide +kernel
theorem dX1_passBridge_6 : decode cX1_passBridge 6 = .ok (.istore_n 3, 1) := by decide +kernel
theorem dX1_passBridge_7 : decode cX1_passBridge 7 = .ok (.iload_n 2, 1) := by decide +kernel
theorem dX1_passBridge_8 : decode cX1_passBridge 8 = .ok (.aload_n 1, 1) := by decide +kernel
theorem dX1_passBridge_9 : decode cX1_passBridge 9 = .ok (.getfield 92, 3) := by decide +kernel
theorem dX1_passBridge_12 : decode cX1_passBridge 12 = .ok (.if_icmp .gt 24, 3) := by decide +kernel
theorem dX1_passBridge_15 : decode cX1_passBridge 15 = .ok (.aload_n 0, 1) := by decide +kernel
theorem dX1_passBridge_16 : decode cX1_passBridge 16 = .ok (.aload_n 1, 1) := by decide +kernel
theorem dX1_passBridge_17 : decode cX1_passBridge 17 = .ok (.iload_n 2, 1) := by decide +kernel
theorem dX1_passBridge_18 : decode cX1_passBridge 18 = .ok (.invokevirtual 145, 3) := by decide +kernel
theorem dX1_passBridge_21 : decode cX1_passBridge 21 = .ok (.istore_n 3, 1) := by decide +kernel
theorem dX1_passBridge_22 : decode cX1_passBridge 22 = .ok (.iload_n 3, 1) := by decide +kernel
theorem dX1_passBridge_23 : decode cX1_passBridge 23 = .ok (.ifCond .ne 13, 3) := by decide +kernel
theorem dX1_passBridge_26 : decode cX1_passBridge 26 = .ok (.aload_n 1, 1) := by decide +kernel
theorem dX1_passBridge_27 : decode cX1_passBridge 27 = .ok (.dup, 1) := by decide +kernel
theorem dX1_passBridge_28 : decode cX1_passBridge 28 = .ok (.getfield 92, 3) := by decide +kernel
theorem dX1_passBridge_31 : decode cX1_passBridge 31 = .ok (.iconst 1, 1) := by decide +kernel
theorem dX1_passBridge_32 : decode cX1_passBridge 32 = .ok (.isub, 1) := by decide +kernel
theorem dX1_passBridge_33 : decode cX1_passBridge 33 = .ok (.putfield 92, 3) := by decide +kernel
theorem dX1_passBridge_36 : decode cX1_passBridge 36 = .ok (.aload_n 0, 1) := by decide +kernel
theorem dX1_passBridge_37 : decode cX1_passBridge 37 = .ok (.aload_n 1, 1) := by decide +kernel
theorem dX1_passBridge_38 : decode cX1_passBridge 38 = .ok (.invokevirtual 83, 3) := by decide +kernel
theorem dX1_passBridge_41 : decode cX1_passBridge 41 = .ok (.iload_n 3, 1) := by decide +kernel
theorem dX1_passBridge_42 : decode cX1_passBridge 42 = .ok (.ireturn, 1) := by decide +kernel
theorem dX1_passPoints_0 : decode cX1_passPoints 0 = .ok (.aload_n 0, 1) := by decide +kernel
theorem dX1_passPoints_1 : decode cX1_passPoints 1 = .ok (.aload_n 1, 1) := by decide +kernel
theorem dX1_passPoints_2 : decode cX1_passPoints 2 = .ok (.invokevirtual 75, 3) := by decide +kernel
theorem dX1_passPoints_5 : decode cX1_passPoints 5 = .ok (.iconst 1, 1) := by decide +kernel
theorem dX1_passPoints_6 : decode cX1_passPoints 6 = .ok (.istore_n 3, 1) := by decide +kernel
theorem dX1_passPoints_7 : decode cX1_passPoints 7 = .ok (.aload_n 1, 1) := by decide +kernel
theorem dX1_passPoints_8 : decode cX1_passPoints 8 = .ok (.getfield 98, 3) := by decide +kernel
theorem dX1_passPoints_11 : decode cX1_passPoints 11 = .ok (.iconst 1, 1) := by decide +kernel
theorem dX1_passPoints_12 : decode cX1_passPoints 12 = .ok (.if_icmp .ne 11, 3) := by decide +kernel
theorem dX1_passPoints_15 : decode cX1_passPoints 15 = .ok (.aload_n 1, 1) := by decide +kernel
theorem dX1_passPoints_16 : decode cX1_passPoints 16 = .ok (.iconst 0, 1) := by decide +kernel
theorem dX1_passPoints_17 : decode cX1_passPoints 17 = .ok (.putfield 98, 3) := by decide +kernel
theorem dX1_passPoints_20 : decode cX1_passPoints 20 = .ok (.goto 15, 3) := by decide +kernel
theorem dX1_passPoints_23 : decode cX1_passPoints 23 = .ok (.aload_n 1, 1) := by decide +kernel
theorem dX1_passPoints_24 : decode cX1_passPoints 24 = .ok (.iconst 1, 1) := by decide +kernel
theorem dX1_passPoints_25 : decode cX1_passPoints 25 = .ok (.putfield 98, 3) := by decide +kernel
theorem dX1_passPoints_28 : decode cX1_passPoints 28 = .ok (.aload_n 0, 1) := by decide +kernel
theorem dX1_passPoints_29 : decode cX1_passPoints 29 = .ok (.aload_n 1, 1) := by decide +kernel
theorem dX1_passPoints_30 : decode cX1_passPoints 30 = .ok (.iload_n 2, 1) := by decide +kernel
theorem dX1_passPoints_31 : decode cX1_passPoints 31 = .ok (.invokevirtual 148, 3) := by decide +kernel
theorem dX1_passPoints_34 : decode cX1_passPoints 34 = .ok (.istore_n 3, 1) := by decide +kernel
theorem dX1_passPoints_35 : decode cX1_passPoints 35 = .ok (.aload_n 0, 1) := by decide +kernel
theorem dX1_passPoints_36 : decode cX1_passPoints 36 = .ok (.aload_n 1, 1) := by decide +kernel
theorem dX1_passPoints_37 : decode cX1_passPoints 37 = .ok (.invokevirtual 83, 3) := by decide +kernel
theorem dX1_passPoints_40 : decode cX1_passPoints 40 = .ok (.iload_n 3, 1) := by decide +kernel
theorem dX1_passPoints_41 : decode cX1_passPoints 41 = .ok (.ireturn, 1) := by decide +kernel
theorem dX1_passPlain_0 : decode cX1_passPlain 0 = .ok (.aload_n 0, 1) := by decide +kernel
theorem dX1_passPlain_1 : decode cX1_passPlain 1 = .ok (.aload_n 1, 1) := by decide +kernel
theorem dX1_passPlain_2 : decode cX1_passPlain 2 = .ok (.invokevirtual 75, 3) := by decide +kernel
theorem dX1_passPlain_5 : decode cX1_passPlain 5 = .ok (.bipush (-30), 2) := by decide +kernel
theorem dX1_passPlain_7 : decode cX1_passPlain 7 = .ok (.istore_n 3, 1) := by decide +kernel
theorem dX1_passPlain_8 : decode cX1_passPlain 8 = .ok (.aload_n 1, 1) := by decide +kernel
theorem dX1_passPlain_9 : decode cX1_passPlain 9 = .ok (.iload_n 2, 1) := by decide +kernel
theorem dX1_passPlain_10 : decode cX1_passPlain 10 = .ok (.invokevirtual 139, 3) := by decide +kernel
theorem dX1_passPlain_13 : decode cX1_passPlain 13 = .ok (.ifCond .eq 15, 3) := by decide +kernel
theorem dX1_passPlain_16 : decode cX1_passPlain 16 = .ok (.aload_n 1, 1) := by decide +kernel
theorem dX1_passPlain_17 : decode cX1_passPlain 17 = .ok (.dup, 1) := by decide +kernel
theorem dX1_passPlain_18 : decode cX1_passPlain 18 = .ok (.getfield 95, 3) := by decide +kernel
theorem dX1_passPlain_21 : decode cX1_passPlain 21 = .ok (.iload_n 2, 1) := by decide +kernel
theorem dX1_passPlain_22 : decode cX1_passPlain 22 = .ok (.iadd, 1) := by decide +kernel
theorem dX1_passPlain_23 : decode cX1_passPlain 23 = .ok (.putfield 95, 3) := by decide +kernel
theorem dX1_passPlain_26 : decode cX1_passPlain 26 = .ok (.iconst 0, 1) := by decide +kernel
theorem dX1_passPlain_27 : decode cX1_passPlain 27 = .ok (.istore_n 3, 1) := by decide +kernel
theorem dX1_passPlain_28 : decode cX1_passPlain 28 = .ok (.aload_n 0, 1) := by decide +kernel
theorem dX1_passPlain_29 : decode cX1_passPlain 29 = .ok (.aload_n 1, 1) := by decide +kernel
theorem dX1_passPlain_30 : decode cX1_passPlain 30 = .ok (.invokevirtual 83, 3) := by decide +kernel
theorem dX1_passPlain_33 : decode cX1_passPlain 33 = .ok (.iload_n 3, 1) := by decide +kernel
theorem dX1_passPlain_34 : decode cX1_passPlain 34 = .ok (.ireturn, 1) := by decide +kernel
theorem dX1_shuntOnto_0 : decode cX1_shuntOnto 0 = .ok (.aload_n 2, 1) := by decide +kernel
theorem dX1_shuntOnto_1 : decode cX1_shuntOnto 1 = .ok (.ifnonnull 6, 3) := by decide +kernel
theorem dX1_shuntOnto_4 : decode cX1_shuntOnto 4 = .ok (.bipush (-11), 2) := by decide +kernel
theorem dX1_shuntOnto_6 : decode cX1_shuntOnto 6 = .ok (.ireturn, 1) := by decide +kernel
theorem dX1_shuntOnto_7 : decode cX1_shuntOnto 7 = .ok (.aload_n 0, 1) := by decide +kernel
theorem dX1_shuntOnto_8 : decode cX1_shuntOnto 8 = .ok (.aload_n 2, 1) := by decide +kernel
theorem dX1_shuntOnto_9 : decode cX1_shuntOnto 9 = .ok (.invokevirtual 75, 3) := by decide +kernel
theorem dX1_shuntOnto_12 : decode cX1_shuntOnto 12 = .ok (.iconst 0, 1) := by decide +kernel
theorem dX1_shuntOnto_13 : decode cX1_shuntOnto 13 = .ok (.istore 4, 2) := by decide +kernel
theorem dX1_shuntOnto_15 : decode cX1_shuntOnto 15 = .ok (.aload_n 1, 1) := by decide +kernel
theorem dX1_shuntOnto_16 : decode cX1_shuntOnto 16 = .ok (.getfield 95, 3) := by decide +kernel
theorem dX1_shuntOnto_19 : decode cX1_shuntOnto 19 = .ok (.iload_n 3, 1) := by decide +kernel
theorem dX1_shuntOnto_20 : decode cX1_shuntOnto 20 = .ok (.if_icmp .lt 39, 3) := by decide +kernel
theorem dX1_shuntOnto_23 : decode cX1_shuntOnto 23 = .ok (.aload_n 1, 1) := by decide +kernel
theorem dX1_shuntOnto_24 : decode cX1_shuntOnto 24 = .ok (.aload_n 2, 1) := by decide +kernel
theorem dX1_shuntOnto_25 : decode cX1_shuntOnto 25 = .ok (.if_acmp .eq 11, 3) := by decide +kernel
theorem dX1_shuntOnto_28 : decode cX1_shuntOnto 28 = .ok (.aload_n 2, 1) := by decide +kernel
theorem dX1_shuntOnto_29 : decode cX1_shuntOnto 29 = .ok (.iload_n 3, 1) := by decide +kernel
theorem dX1_shuntOnto_30 : decode cX1_shuntOnto 30 = .ok (.invokevirtual 139, 3) := by decide +kernel
theorem dX1_shuntOnto_33 : decode cX1_shuntOnto 33 = .ok (.ifCond .eq 26, 3) := by decide +kernel
theorem dX1_shuntOnto_36 : decode cX1_shuntOnto 36 = .ok (.aload_n 1, 1) := by decide +kernel
theorem dX1_shuntOnto_37 : decode cX1_shuntOnto 37 = .ok (.dup, 1) := by decide +kernel
theorem dX1_shuntOnto_38 : decode cX1_shuntOnto 38 = .ok (.getfield 95, 3) := by decide +kernel
theorem dX1_shuntOnto_41 : decode cX1_shuntOnto 41 = .ok (.iload_n 3, 1) := by decide +kernel
theorem dX1_shuntOnto_42 : decode cX1_shuntOnto 42 = .ok (.isub, 1) := by decide +kernel
theorem dX1_shuntOnto_43 : decode cX1_shuntOnto 43 = .ok (.putfield 95, 3) := by decide +kernel
theorem dX1_shuntOnto_46 : decode cX1_shuntOnto 46 = .ok (.aload_n 2, 1) := by decide +kernel
theorem dX1_shuntOnto_47 : decode cX1_shuntOnto 47 = .ok (.dup, 1) := by decide +kernel
theorem dX1_shuntOnto_48 : decode cX1_shuntOnto 48 = .ok (.getfield 95, 3) := by decide +kernel
theorem dX1_shuntOnto_51 : decode cX1_shuntOnto 51 = .ok (.iload_n 3, 1) := by decide +kernel
theorem dX1_shuntOnto_52 : decode cX1_shuntOnto 52 = .ok (.iadd, 1) := by decide +kernel
theorem dX1_shuntOnto_53 : decode cX1_shuntOnto 53 = .ok (.putfield 95, 3) := by decide +kernel
theorem dX1_shuntOnto_56 : decode cX1_shuntOnto 56 = .ok (.iconst 1, 1) := by decide +kernel
theorem dX1_shuntOnto_57 : decode cX1_shuntOnto 57 = .ok (.istore 4, 2) := by decide +kernel
theorem dX1_shuntOnto_59 : decode cX1_shuntOnto 59 = .ok (.aload_n 0, 1) := by decide +kernel
theorem dX1_shuntOnto_60 : decode cX1_shuntOnto 60 = .ok (.aload_n 2, 1) := by decide +kernel
theorem dX1_shuntOnto_61 : decode cX1_shuntOnto 61 = .ok (.invokevirtual 83, 3) := by decide +kernel
theorem dX1_shuntOnto_64 : decode cX1_shuntOnto 64 = .ok (.iload 4, 2) := by decide +kernel
theorem dX1_shuntOnto_66 : decode cX1_shuntOnto 66 = .ok (.ireturn, 1) := by decide +kernel
theorem dX1_claim_0 : decode cX1_claim 0 = .ok (.aload_n 1, 1) := by decide +kernel
theorem dX1_claim_1 : decode cX1_claim 1 = .ok (.dup, 1) := by decide +kernel
theorem dX1_claim_2 : decode cX1_claim 2 = .ok (.getfield 104, 3) := by decide +kernel
theorem dX1_claim_5 : decode cX1_claim 5 = .ok (.iconst 1, 1) := by decide +kernel
theorem dX1_claim_6 : decode cX1_claim 6 = .ok (.iadd, 1) := by decide +kernel
theorem dX1_claim_7 : decode cX1_claim 7 = .ok (.putfield 104, 3) := by decide +kernel
theorem dX1_claim_10 : decode cX1_claim 10 = .ok (.aload_n 1, 1) := by decide +kernel
theorem dX1_claim_11 : decode cX1_claim 11 = .ok (.dup, 1) := by decide +kernel
theorem dX1_claim_12 : decode cX1_claim 12 = .ok (.getfield 101, 3) := by decide +kernel
theorem dX1_claim_15 : decode cX1_claim 15 = .ok (.iconst 1, 1) := by decide +kernel
theorem dX1_claim_16 : decode cX1_claim 16 = .ok (.iadd, 1) := by decide +kernel
theorem dX1_claim_17 : decode cX1_claim 17 = .ok (.putfield 101, 3) := by decide +kernel
theorem dX1_claim_20 : decode cX1_claim 20 = .ok (.aload_n 1, 1) := by decide +kernel
theorem dX1_claim_21 : decode cX1_claim 21 = .ok (.getfield 104, 3) := by decide +kernel
theorem dX1_claim_24 : decode cX1_claim 24 = .ok (.aload_n 1, 1) := by decide +kernel
theorem dX1_claim_25 : decode cX1_claim 25 = .ok (.getfield 107, 3) := by decide +kernel
theorem dX1_claim_28 : decode cX1_claim 28 = .ok (.if_icmp .le 11, 3) := by decide +kernel
theorem dX1_claim_31 : decode cX1_claim 31 = .ok (.aload_n 1, 1) := by decide +kernel
theorem dX1_claim_32 : decode cX1_claim 32 = .ok (.aload_n 1, 1) := by decide +kernel
theorem dX1_claim_33 : decode cX1_claim 33 = .ok (.getfield 104, 3) := by decide +kernel
theorem dX1_claim_36 : decode cX1_claim 36 = .ok (.putfield 107, 3) := by decide +kernel
theorem dX1_claim_39 : decode cX1_claim 39 = .ok (.aload_n 0, 1) := by decide +kernel
theorem dX1_claim_40 : decode cX1_claim 40 = .ok (.getfield 54, 3) := by decide +kernel
theorem dX1_claim_43 : decode cX1_claim 43 = .ok (.sipush 150, 3) := by decide +kernel
theorem dX1_claim_46 : decode cX1_claim 46 = .ok (.if_icmp .ge 27, 3) := by decide +kernel
theorem dX1_claim_49 : decode cX1_claim 49 = .ok (.aload_n 0, 1) := by decide +kernel
theorem dX1_claim_50 : decode cX1_claim 50 = .ok (.getfield 22, 3) := by decide +kernel
theorem dX1_claim_53 : decode cX1_claim 53 = .ok (.aload_n 0, 1) := by decide +kernel
theorem dX1_claim_54 : decode cX1_claim 54 = .ok (.dup, 1) := by decide +kernel
theorem dX1_claim_55 : decode cX1_claim 55 = .ok (.getfield 54, 3) := by decide +kernel
theorem dX1_claim_58 : decode cX1_claim 58 = .ok (.dup_x1, 1) := by decide +kernel
theorem dX1_claim_59 : decode cX1_claim 59 = .ok (.iconst 1, 1) := by decide +kernel
theorem dX1_claim_60 : decode cX1_claim 60 = .ok (.iadd, 1) := by decide +kernel
theorem dX1_claim_61 : decode cX1_claim 61 = .ok (.putfield 54, 3) := by decide +kernel
theorem dX1_claim_64 : decode cX1_claim 64 = .ok (.sipush 1000, 3) := by decide +kernel
theorem dX1_claim_67 : decode cX1_claim 67 = .ok (.aload_n 1, 1) := by decide +kernel
theorem dX1_claim_68 : decode cX1_claim 68 = .ok (.getfield 39, 3) := by decide +kernel
theorem dX1_claim_71 : decode cX1_claim 71 = .ok (.iadd, 1) := by decide +kernel
theorem dX1_claim_72 : decode cX1_claim 72 = .ok (.iastore, 1) := by decide +kernel
theorem dX1_claim_73 : decode cX1_claim 73 = .ok (.return_, 1) := by decide +kernel
theorem dX1_let_0 : decode cX1_let 0 = .ok (.aload_n 1, 1) := by decide +kernel
theorem dX1_let_1 : decode cX1_let 1 = .ok (.dup, 1) := by decide +kernel
theorem dX1_let_2 : decode cX1_let 2 = .ok (.getfield 104, 3) := by decide +kernel
theorem dX1_let_5 : decode cX1_let 5 = .ok (.iconst 1, 1) := by decide +kernel
theorem dX1_let_6 : decode cX1_let 6 = .ok (.isub, 1) := by decide +kernel
theorem dX1_let_7 : decode cX1_let 7 = .ok (.putfield 104, 3) := by decide +kernel
theorem dX1_let_10 : decode cX1_let 10 = .ok (.aload_n 0, 1) := by decide +kernel
theorem dX1_let_11 : decode cX1_let 11 = .ok (.getfield 54, 3) := by decide +kernel
theorem dX1_let_14 : decode cX1_let 14 = .ok (.sipush 150, 3) := by decide +kernel
theorem dX1_let_17 : decode cX1_let 17 = .ok (.if_icmp .ge 27, 3) := by decide +kernel
theorem dX1_let_20 : decode cX1_let 20 = .ok (.aload_n 0, 1) := by decide +kernel
theorem dX1_let_21 : decode cX1_let 21 = .ok (.getfield 22, 3) := by decide +kernel
theorem dX1_let_24 : decode cX1_let 24 = .ok (.aload_n 0, 1) := by decide +kernel
theorem dX1_let_25 : decode cX1_let 25 = .ok (.dup, 1) := by decide +kernel
theorem dX1_let_26 : decode cX1_let 26 = .ok (.getfield 54, 3) := by decide +kernel
theorem dX1_let_29 : decode cX1_let 29 = .ok (.dup_x1, 1) := by decide +kernel
theorem dX1_let_30 : decode cX1_let 30 = .ok (.iconst 1, 1) := by decide +kernel
theorem dX1_let_31 : decode cX1_let 31 = .ok (.iadd, 1) := by decide +kernel
theorem dX1_let_32 : decode cX1_let 32 = .ok (.putfield 54, 3) := by decide +kernel
theorem dX1_let_35 : decode cX1_let 35 = .ok (.sipush 2000, 3) := by decide +kernel
theorem dX1_let_38 : decode cX1_let 38 = .ok (.aload_n 1, 1) := by decide +kernel
theorem dX1_let_39 : decode cX1_let 39 = .ok (.getfield 39, 3) := by decide +kernel
theorem dX1_let_42 : decode cX1_let 42 = .ok (.iadd, 1) := by decide +kernel
theorem dX1_let_43 : decode cX1_let 43 = .ok (.iastore, 1) := by decide +kernel
theorem dX1_let_44 : decode cX1_let 44 = .ok (.return_, 1) := by decide +kernel
theorem dX2_init_0 : decode cX2_init 0 = .ok (.aload_n 0, 1) := by decide +kernel
theorem dX2_init_1 : decode cX2_init 1 = .ok (.invokespecial 1, 3) := by decide +kernel
theorem dX2_init_4 : decode cX2_init 4 = .ok (.aload_n 0, 1) := by decide +kernel
theorem dX2_init_5 : decode cX2_init 5 = .ok (.sipush 640, 3) := by decide +kernel
theorem dX2_init_8 : decode cX2_init 8 = .ok (.newarray .int, 2) := by decide +kernel
theorem dX2_init_10 : decode cX2_init 10 = .ok (.putfield 7, 3) := by decide +kernel
theorem dX2_init_13 : decode cX2_init 13 = .ok (.aload_n 0, 1) := by decide +kernel
theorem dX2_init_14 : decode cX2_init 14 = .ok (.sipush 640, 3) := by decide +kernel
theorem dX2_init_17 : decode cX2_init 17 = .ok (.newarray .int, 2) := by decide +kernel
theorem dX2_init_19 : decode cX2_init 19 = .ok (.putfield 13, 3) := by decide +kernel
theorem dX2_init_22 : decode cX2_init 22 = .ok (.aload_n 0, 1) := by decide +kernel
theorem dX2_init_23 : decode cX2_init 23 = .ok (.sipush 640, 3) := by decide +kernel
theorem dX2_init_26 : decode cX2_init 26 = .ok (.newarray .int, 2) := by decide +kernel
theorem dX2_init_28 : decode cX2_init 28 = .ok (.putfield 16, 3) := by decide +kernel
theorem dX2_init_31 : decode cX2_init 31 = .ok (.aload_n 0, 1) := by decide +kernel
theorem dX2_init_32 : decode cX2_init 32 = .ok (.sipush 640, 3) := by decide +kernel
theorem dX2_init_35 : decode cX2_init 35 = .ok (.newarray .int, 2) := by decide +kernel
theorem dX2_init_37 : decode cX2_init 37 = .ok (.putfield 19, 3) := by decide +kernel
theorem dX2_init_40 : decode cX2_init 40 = .ok (.aload_n 0, 1) := by decide +kernel
theorem dX2_init_41 : decode cX2_init 41 = .ok (.sipush 640, 3) := by decide +kernel
theorem dX2_init_44 : decode cX2_init 44 = .ok (.newarray .int, 2) := by decide +kernel
theorem dX2_init_46 : decode cX2_init 46 = .ok (.putfield 22, 3) := by decide +kernel
theorem dX2_init_49 : decode cX2_init 49 = .ok (.aload_n 0, 1) := by decide +kernel
theorem dX2_init_50 : decode cX2_init 50 = .ok (.sipush 640, 3) := by decide +kernel
theorem dX2_init_53 : decode cX2_init 53 = .ok (.newarray .int, 2) := by decide +kernel
theorem dX2_init_55 : decode cX2_init 55 = .ok (.putfield 25, 3) := by decide +kernel
theorem dX2_init_58 : decode cX2_init 58 = .ok (.aload_n 0, 1) := by decide +kernel
theorem dX2_init_59 : decode cX2_init 59 = .ok (.sipush 640, 3) := by decide +kernel
theorem dX2_init_62 : decode cX2_init 62 = .ok (.newarray .int, 2) := by decide +kernel
theorem dX2_init_64 : decode cX2_init 64 = .ok (.putfield 28, 3) := by decide +kernel
theorem dX2_init_67 : decode cX2_init 67 = .ok (.aload_n 0, 1) := by decide +kernel
theorem dX2_init_68 : decode cX2_init 68 = .ok (.sipush 640, 3) := by decide +kernel
theorem dX2_init_71 : decode cX2_init 71 = .ok (.newarray .int, 2) := by decide +kernel
theorem dX2_init_73 : decode cX2_init 73 = .ok (.putfield 31, 3) := by decide +kernel
theorem dX2_init_76 : decode cX2_init 76 = .ok (.aload_n 0, 1) := by decide +kernel
theorem dX2_init_77 : decode cX2_init 77 = .ok (.bipush 12, 2) := by decide +kernel
theorem dX2_init_79 : decode cX2_init 79 = .ok (.newarray .int, 2) := by decide +kernel
theorem dX2_init_81 : decode cX2_init 81 = .ok (.putfield 34, 3) := by decide +kernel
theorem dX2_init_84 : decode cX2_init 84 = .ok (.aload_n 0, 1) := by decide +kernel
theorem dX2_init_85 : decode cX2_init 85 = .ok (.bipush 48, 2) := by decide +kernel
theorem dX2_init_87 : decode cX2_init 87 = .ok (.newarray .int, 2) := by decide +kernel
theorem dX2_init_89 : decode cX2_init 89 = .ok (.putfield 37, 3) := by decide +kernel
theorem dX2_init_92 : decode cX2_init 92 = .ok (.aload_n 0, 1) := by decide +kernel
theorem dX2_init_93 : decode cX2_init 93 = .ok (.bipush 6, 2) := by decide +kernel
theorem dX2_init_95 : decode cX2_init 95 = .ok (.newarray .int, 2) := by decide +kernel
theorem dX2_init_97 : decode cX2_init 97 = .ok (.putfield 40, 3) := by decide +kernel
theorem dX2_init_100 : decode cX2_init 100 = .ok (.aload_n 0, 1) := by decide +kernel
theorem dX2_init_101 : decode cX2_init 101 = .ok (.sipush 150, 3) := by decide +kernel
theorem dX2_init_104 : decode cX2_init 104 = .ok (.newarray .int, 2) := by decide +kernel
theorem dX2_init_106 : decode cX2_init 106 = .ok (.putfield 43, 3) := by decide +kernel
theorem dX2_init_109 : decode cX2_init 109 = .ok (.iconst 0, 1) := by decide +kernel
theorem dX2_init_110 : decode cX2_init 110 = .ok (.istore_n 1, 1) := by decide +kernel
theorem dX2_init_111 : decode cX2_init 111 = .ok (.iload_n 1, 1) := by decide +kernel
theorem dX2_init_112 : decode cX2_init 112 = .ok (.bipush 12, 2) := by decide +kernel
theorem dX2_init_114 : decode cX2_init 114 = .ok (.if_icmp .ge 16, 3) := by decide +kernel
theorem dX2_init_117 : decode cX2_init 117 = .ok (.aload_n 0, 1) := by decide +kernel
theorem dX2_init_118 : decode cX2_init 118 = .ok (.getfield 34, 3) := by decide +kernel
theorem dX2_init_121 : decode cX2_init 121 = .ok (.iload_n 1, 1) := by decide +kernel
theorem dX2_init_122 : decode cX2_init 122 = .ok (.iconst (-1), 1) := by decide +kernel
theorem dX2_init_123 : decode cX2_init 123 = .ok (.iastore, 1) := by decide +kernel
theorem dX2_init_124 : decode cX2_init 124 = .ok (.iinc 1 1, 3) := by decide +kernel
theorem dX2_init_127 : decode cX2_init 127 = .ok (.goto (-16), 3) := by decide +kernel
theorem dX2_init_130 : decode cX2_init 130 = .ok (.return_, 1) := by decide +kernel
theorem dX2_in_0 : decode cX2_in 0 = .ok (.iload_n 0, 1) := by decide +kernel
theorem dX2_in_1 : decode cX2_in 1 = .ok (.iload_n 1, 1) := by decide +kernel
theorem dX2_in_2 : decode cX2_in 2 = .ok (.if_icmp .lt 12, 3) := by decide +kernel
theorem dX2_in_5 : decode cX2_in 5 = .ok (.iload_n 0, 1) := by decide +kernel
theorem dX2_in_6 : decode cX2_in 6 = .ok (.iload_n 2, 1) := by decide +kernel
theorem dX2_in_7 : decode cX2_in 7 = .ok (.if_icmp .gt 7, 3) := by decide +kernel
theorem dX2_in_10 : decode cX2_in 10 = .ok (.iconst 1, 1) := by decide +kernel
theorem dX2_in_11 : decode cX2_in 11 = .ok (.goto 4, 3) := by decide +kernel
theorem dX2_in_14 : decode cX2_in 14 = .ok (.iconst 0, 1) := by decide +kernel
theorem dX2_in_15 : decode cX2_in 15 = .ok (.ireturn, 1) := by decide +kernel
theorem dX2_isPlace_0 : decode cX2_isPlace 0 = .ok (.iload_n 0, 1) := by decide +kernel
theorem dX2_isPlace_1 : decode cX2_isPlace 1 = .ok (.iconst 0, 1) := by decide +kernel
theorem dX2_isPlace_2 : decode cX2_isPlace 2 = .ok (.bipush 11, 2) := by decide +kernel
theorem dX2_isPlace_4 : decode cX2_isPlace 4 = .ok (.invokestatic 46, 3) := by decide +kernel
theorem dX2_isPlace_7 : decode cX2_isPlace 7 = .ok (.ireturn, 1) := by decide +kernel
theorem dX2_isRoute_0 : decode cX2_isRoute 0 = .ok (.iload_n 0, 1) := by decide +kernel
theorem dX2_isRoute_1 : decode cX2_isRoute 1 = .ok (.iconst 0, 1) := by decide +kernel
theorem dX2_isRoute_2 : decode cX2_isRoute 2 = .ok (.iconst 5, 1) := by decide +kernel
theorem dX2_isRoute_3 : decode cX2_isRoute 3 = .ok (.invokestatic 46, 3) := by decide +kernel
theorem dX2_isRoute_6 : decode cX2_isRoute 6 = .ok (.ireturn, 1) := by decide +kernel
theorem dX2_section_0 : decode cX2_section 0 = .ok (.iload_n 1, 1) := by decide +kernel
theorem dX2_section_1 : decode cX2_section 1 = .ok (.invokestatic 50, 3) := by decide +kernel
theorem dX2_section_4 : decode cX2_section 4 = .ok (.ifCond .eq 33, 3) := by decide +kernel
theorem dX2_section_7 : decode cX2_section 7 = .ok (.iload_n 2, 1) := by decide +kernel
theorem dX2_section_8 : decode cX2_section 8 = .ok (.iconst 0, 1) := by decide +kernel
theorem dX2_section_9 : decode cX2_section 9 = .ok (.iconst 2, 1) := by decide +kernel
theorem dX2_section_10 : decode cX2_section 10 = .ok (.invokestatic 46, 3) := by decide +kernel
theorem dX2_section_13 : decode cX2_section 13 = .ok (.ifCond .eq 24, 3) := by decide +kernel
theorem dX2_section_16 : decode cX2_section 16 = .ok (.iload_n 3, 1) := by decide +kernel
theorem dX2_section_17 : decode cX2_section 17 = .ok (.iconst 0, 1) := by decide +kernel
theorem dX2_section_18 : decode cX2_section 18 = .ok (.ldc 54, 2) := by decide +kernel
theorem dX2_section_20 : decode cX2_section 20 = .ok (.invokestatic 46, 3) := by decide +kernel
theorem dX2_section_23 : decode cX2_section 23 = .ok (.ifCond .eq 14, 3) := by decide +kernel
theorem dX2_section_26 : decode cX2_section 26 = .ok (.iload 4, 2) := by decide +kernel
theorem dX2_section_28 : decode cX2_section 28 = .ok (.iconst 0, 1) := by decide +kernel
theorem dX2_section_29 : decode cX2_section 29 = .ok (.ldc 54, 2) := by decide +kernel
theorem dX2_section_31 : decode cX2_section 31 = .ok (.invokestatic 46, 3) := by decide +kernel
theorem dX2_section_34 : decode cX2_section 34 = .ok (.ifCond .ne 5, 3) := by decide +kernel
theorem dX2_section_37 : decode cX2_section 37 = .ok (.iconst (-1), 1) := by decide +kernel
theorem dX2_section_38 : decode cX2_section 38 = .ok (.ireturn, 1) := by decide +kernel
theorem dX2_section_39 : decode cX2_section 39 = .ok (.aload_n 0, 1) := by decide +kernel
theorem dX2_section_40 : decode cX2_section 40 = .ok (.getfield 7, 3) := by decide +kernel
theorem dX2_section_43 : decode cX2_section 43 = .ok (.aload_n 0, 1) := by decide +kernel
theorem dX2_section_44 : decode cX2_section 44 = .ok (.getfield 55, 3) := by decide +kernel
theorem dX2_section_47 : decode cX2_section 47 = .ok (.iload_n 2, 1) := by decide +kernel
theorem dX2_section_48 : decode cX2_section 48 = .ok (.iastore, 1) := by decide +kernel
theorem dX2_section_49 : decode cX2_section 49 = .ok (.aload_n 0, 1) := by decide +kernel
theorem dX2_section_50 : decode cX2_section 50 = .ok (.getfield 13, 3) := by decide +kernel
theorem dX2_section_53 : decode cX2_section 53 = .ok (.aload_n 0, 1) := by decide +kernel
theorem dX2_section_54 : decode cX2_section 54 = .ok (.getfield 55, 3) := by decide +kernel
theorem dX2_section_57 : decode cX2_section 57 = .ok (.iload_n 3, 1) := by decide +kernel
theorem dX2_section_58 : decode cX2_section 58 = .ok (.iastore, 1) := by decide +kernel
theorem dX2_section_59 : decode cX2_section 59 = .ok (.aload_n 0, 1) := by decide +kernel
theorem dX2_section_60 : decode cX2_section 60 = .ok (.getfield 16, 3) := by decide +kernel
theorem dX2_section_63 : decode cX2_section 63 = .ok (.aload_n 0, 1) := by decide +kernel
theorem dX2_section_64 : decode cX2_section 64 = .ok (.getfield 55, 3) := by decide +kernel
theorem dX2_section_67 : decode cX2_section 67 = .ok (.iload 4, 2) := by decide +kernel
theorem dX2_section_69 : decode cX2_section 69 = .ok (.iastore, 1) := by decide +kernel
theorem dX2_section_70 : decode cX2_section 70 = .ok (.aload_n 0, 1) := by decide +kernel
theorem dX2_section_71 : decode cX2_section 71 = .ok (.getfield 34, 3) := by decide +kernel
theorem dX2_section_74 : decode cX2_section 74 = .ok (.iload_n 1, 1) := by decide +kernel
theorem dX2_section_75 : decode cX2_section 75 = .ok (.aload_n 0, 1) := by decide +kernel
theorem dX2_section_76 : decode cX2_section 76 = .ok (.getfield 55, 3) := by decide +kernel
theorem dX2_section_79 : decode cX2_section 79 = .ok (.iastore, 1) := by decide +kernel
theorem dX2_section_80 : decode cX2_section 80 = .ok (.aload_n 0, 1) := by decide +kernel
theorem dX2_section_81 : decode cX2_section 81 = .ok (.dup, 1) := by decide +kernel
theorem dX2_section_82 : decode cX2_section 82 = .ok (.getfield 55, 3) := by decide +kernel
theorem dX2_section_85 : decode cX2_section 85 = .ok (.iconst 1, 1) := by decide +kernel
theorem dX2_section_86 : decode cX2_section 86 = .ok (.iadd, 1) := by decide +kernel
theorem dX2_section_87 : decode cX2_section 87 = .ok (.putfield 55, 3) := by decide +kernel
theorem dX2_section_90 : decode cX2_section 90 = .ok (.aload_n 0, 1) := by decide +kernel
theorem dX2_section_91 : decode cX2_section 91 = .ok (.getfield 55, 3) := by decide +kernel
theorem dX2_section_94 : decode cX2_section 94 = .ok (.iconst 1, 1) := by decide +kernel
theorem dX2_section_95 : decode cX2_section 95 = .ok (.isub, 1) := by decide +kernel
theorem dX2_section_96 : decode cX2_section 96 = .ok (.ireturn, 1) := by decide +kernel
theorem dX2_share_0 : decode cX2_share 0 = .ok (.iload_n 1, 1) := by decide +kernel
theorem dX2_share_1 : decode cX2_share 1 = .ok (.invokestatic 50, 3) := by decide +kernel
theorem dX2_share_4 : decode cX2_share 4 = .ok (.ifCond .eq 10, 3) := by decide +kernel
theorem dX2_share_7 : decode cX2_share 7 = .ok (.iload_n 2, 1) := by decide +kernel
theorem dX2_share_8 : decode cX2_share 8 = .ok (.invokestatic 50, 3) := by decide +kernel
theorem dX2_share_11 : decode cX2_share 11 = .ok (.ifCond .ne 5, 3) := by decide +kernel
theorem dX2_share_14 : decode cX2_share 14 = .ok (.iconst (-1), 1) := by decide +kernel
theorem dX2_share_15 : decode cX2_share 15 = .ok (.ireturn, 1) := by decide +kernel
theorem dX2_share_16 : decode cX2_share 16 = .ok (.aload_n 0, 1) := by decide +kernel
theorem dX2_share_17 : decode cX2_share 17 = .ok (.getfield 34, 3) := by decide +kernel
theorem dX2_share_20 : decode cX2_share 20 = .ok (.iload_n 2, 1) := by decide +kernel
theorem dX2_share_21 : decode cX2_share 21 = .ok (.aload_n 0, 1) := by decide +kernel
theorem dX2_share_22 : decode cX2_share 22 = .ok (.getfield 34, 3) := by decide +kernel
theorem dX2_share_25 : decode cX2_share 25 = .ok (.iload_n 1, 1) := by decide +kernel
theorem dX2_share_26 : decode cX2_share 26 = .ok (.iaload, 1) := by decide +kernel
theorem dX2_share_27 : decode cX2_share 27 = .ok (.iastore, 1) := by decide +kernel
theorem dX2_share_28 : decode cX2_share 28 = .ok (.aload_n 0, 1) := by decide +kernel
theorem dX2_share_29 : decode cX2_share 29 = .ok (.getfield 34, 3) := by decide +kernel
theorem dX2_share_32 : decode cX2_share 32 = .ok (.iload_n 2, 1) := by decide +kernel
theorem dX2_share_33 : decode cX2_share 33 = .ok (.iaload, 1) := by decide +kernel
theorem dX2_share_34 : decode cX2_share 34 = .ok (.ifCond .ge 7, 3) := by decide +kernel
theorem dX2_share_37 : decode cX2_share 37 = .ok (.iconst 0, 1) := by decide +kernel
theorem dX2_share_38 : decode cX2_share 38 = .ok (.goto 4, 3) := by decide +kernel
theorem dX2_share_41 : decode cX2_share 41 = .ok (.iconst 1, 1) := by decide +kernel
theorem dX2_share_42 : decode cX2_share 42 = .ok (.ireturn, 1) := by decide +kernel
theorem dX2_remove_0 : decode cX2_remove 0 = .ok (.iload_n 1, 1) := by decide +kernel
theorem dX2_remove_1 : decode cX2_remove 1 = .ok (.invokestatic 50, 3) := by decide +kernel
theorem dX2_remove_4 : decode cX2_remove 4 = .ok (.ifCond .ne 5, 3) := by decide +kernel
theorem dX2_remove_7 : decode cX2_remove 7 = .ok (.iconst (-1), 1) := by decide +kernel
theorem dX2_remove_8 : decode cX2_remove 8 = .ok (.ireturn, 1) := by decide +kernel
theorem dX2_remove_9 : decode cX2_remove 9 = .ok (.aload_n 0, 1) := by decide +kernel
theorem dX2_remove_10 : decode cX2_remove 10 = .ok (.getfield 34, 3) := by decide +kernel
theorem dX2_remove_13 : decode cX2_remove 13 = .ok (.iload_n 1, 1) := by decide +kernel
theorem dX2_remove_14 : decode cX2_remove 14 = .ok (.iaload, 1) := by decide +kernel
theorem dX2_remove_15 : decode cX2_remove 15 = .ok (.ifCond .ge 7, 3) := by decide +kernel
theorem dX2_remove_18 : decode cX2_remove 18 = .ok (.iconst 0, 1) := by decide +kernel
theorem dX2_remove_19 : decode cX2_remove 19 = .ok (.goto 4, 3) := by decide +kernel
theorem dX2_remove_22 : decode cX2_remove 22 = .ok (.iconst 1, 1) := by decide +kernel
theorem dX2_remove_23 : decode cX2_remove 23 = .ok (.istore_n 2, 1) := by decide +kernel
theorem dX2_remove_24 : decode cX2_remove 24 = .ok (.aload_n 0, 1) := by decide +kernel
theorem dX2_remove_25 : decode cX2_remove 25 = .ok (.getfield 34, 3) := by decide +kernel
theorem dX2_remove_28 : decode cX2_remove 28 = .ok (.iload_n 1, 1) := by decide +kernel
theorem dX2_remove_29 : decode cX2_remove 29 = .ok (.iconst (-1), 1) := by decide +kernel
theorem dX2_remove_30 : decode cX2_remove 30 = .ok (.iastore, 1) := by decide +kernel
theorem dX2_remove_31 : decode cX2_remove 31 = .ok (.iload_n 2, 1) := by decide +kernel
theorem dX2_remove_32 : decode cX2_remove 32 = .ok (.ireturn, 1) := by decide +kernel
theorem dX2_same_0 : decode cX2_same 0 = .ok (.iload_n 1, 1) := by decide +kernel
theorem dX2_same_1 : decode cX2_same 1 = .ok (.invokestatic 50, 3) := by decide +kernel
theorem dX2_same_4 : decode cX2_same 4 = .ok (.ifCond .eq 10, 3) := by decide +kernel
theorem dX2_same_7 : decode cX2_same 7 = .ok (.iload_n 2, 1) := by decide +kernel
theorem dX2_same_8 : decode cX2_same 8 = .ok (.invokestatic 50, 3) := by decide +kernel
theorem dX2_same_11 : decode cX2_same 11 = .ok (.ifCond .ne 7, 3) := by decide +kernel
theorem dX2_same_14 : decode cX2_same 14 = .ok (.iconst (-1), 1) := by decide +kernel
theorem dX2_same_15 : decode cX2_same 15 = .ok (.goto 23, 3) := by decide +kernel
theorem dX2_same_18 : decode cX2_same 18 = .ok (.aload_n 0, 1) := by decide +kernel
theorem dX2_same_19 : decode cX2_same 19 = .ok (.getfield 34, 3) := by decide +kernel
theorem dX2_same_22 : decode cX2_same 22 = .ok (.iload_n 1, 1) := by decide +kernel
theorem dX2_same_23 : decode cX2_same 23 = .ok (.iaload, 1) := by decide +kernel
theorem dX2_same_24 : decode cX2_same 24 = .ok (.aload_n 0, 1) := by decide +kernel
theorem dX2_same_25 : decode cX2_same 25 = .ok (.getfield 34, 3) := by decide +kernel
theorem dX2_same_28 : decode cX2_same 28 = .ok (.iload_n 2, 1) := by decide +kernel
theorem dX2_same_29 : decode cX2_same 29 = .ok (.iaload, 1) := by decide +kernel
theorem dX2_same_30 : decode cX2_same 30 = .ok (.if_icmp .ne 7, 3) := by decide +kernel
theorem dX2_same_33 : decode cX2_same 33 = .ok (.iconst 1, 1) := by decide +kernel
theorem dX2_same_34 : decode cX2_same 34 = .ok (.goto 4, 3) := by decide +kernel
theorem dX2_same_37 : decode cX2_same 37 = .ok (.iconst 0, 1) := by decide +kernel
theorem dX2_same_38 : decode cX2_same 38 = .ok (.ireturn, 1) := by decide +kernel
theorem dX2_lead_0 : decode cX2_lead 0 = .ok (.iload_n 1, 1) := by decide +kernel
theorem dX2_lead_1 : decode cX2_lead 1 = .ok (.invokestatic 59, 3) := by decide +kernel
theorem dX2_lead_4 : decode cX2_lead 4 = .ok (.ifCond .eq 10, 3) := by decide +kernel
theorem dX2_lead_7 : decode cX2_lead 7 = .ok (.iload_n 2, 1) := by decide +kernel
theorem dX2_lead_8 : decode cX2_lead 8 = .ok (.invokestatic 50, 3) := by decide +kernel
theorem dX2_lead_11 : decode cX2_lead 11 = .ok (.ifCond .ne 5, 3) := by decide +kernel
theorem dX2_lead_14 : decode cX2_lead 14 = .ok (.iconst (-1), 1) := by decide +kernel
theorem dX2_lead_15 : decode cX2_lead 15 = .ok (.ireturn, 1) := by decide +kernel
theorem dX2_lead_16 : decode cX2_lead 16 = .ok (.aload_n 0, 1) := by decide +kernel
theorem dX2_lead_17 : decode cX2_lead 17 = .ok (.getfield 40, 3) := by decide +kernel
theorem dX2_lead_20 : decode cX2_lead 20 = .ok (.iload_n 1, 1) := by decide +kernel
theorem dX2_lead_21 : decode cX2_lead 21 = .ok (.iaload, 1) := by decide +kernel
theorem dX2_lead_22 : decode cX2_lead 22 = .ok (.bipush 8, 2) := by decide +kernel
theorem dX2_lead_24 : decode cX2_lead 24 = .ok (.if_icmp .ne 6, 3) := by decide +kernel
theorem dX2_lead_27 : decode cX2_lead 27 = .ok (.bipush (-2), 2) := by decide +kernel
theorem dX2_lead_29 : decode cX2_lead 29 = .ok (.ireturn, 1) := by decide +kernel
theorem dX2_lead_30 : decode cX2_lead 30 = .ok (.aload_n 0, 1) := by decide +kernel
theorem dX2_lead_31 : decode cX2_lead 31 = .ok (.getfield 37, 3) := by decide +kernel
theorem dX2_lead_34 : decode cX2_lead 34 = .ok (.bipush 8, 2) := by decide +kernel
theorem dX2_lead_36 : decode cX2_lead 36 = .ok (.iload_n 1, 1) := by decide +kernel
theorem dX2_lead_37 : decode cX2_lead 37 = .ok (.imul, 1) := by decide +kernel
theorem dX2_lead_38 : decode cX2_lead 38 = .ok (.aload_n 0, 1) := by decide +kernel
theorem dX2_lead_39 : decode cX2_lead 39 = .ok (.getfield 40, 3) := by decide +kernel
theorem dX2_lead_42 : decode cX2_lead 42 = .ok (.iload_n 1, 1) := by decide +kernel
theorem dX2_lead_43 : decode cX2_lead 43 = .ok (.iaload, 1) := by decide +kernel
theorem dX2_lead_44 : decode cX2_lead 44 = .ok (.iadd, 1) := by decide +kernel
theorem dX2_lead_45 : decode cX2_lead 45 = .ok (.iload_n 2, 1) := by decide +kernel
theorem dX2_lead_46 : decode cX2_lead 46 = .ok (.iastore, 1) := by decide +kernel
theorem dX2_lead_47 : decode cX2_lead 47 = .ok (.aload_n 0, 1) := by decide +kernel
theorem dX2_lead_48 : decode cX2_lead 48 = .ok (.getfield 40, 3) := by decide +kernel
theorem dX2_lead_51 : decode cX2_lead 51 = .ok (.iload_n 1, 1) := by decide +kernel
theorem dX2_lead_52 : decode cX2_lead 52 = .ok (.dup2, 1) := by decide +kernel
theorem dX2_lead_53 : decode cX2_lead 53 = .ok (.iaload, 1) := by decide +kernel
theorem dX2_lead_54 : decode cX2_lead 54 = .ok (.iconst 1, 1) := by decide +kernel
theorem dX2_lead_55 : decode cX2_lead 55 = .ok (.iadd, 1) := by decide +kernel
theorem dX2_lead_56 : decode cX2_lead 56 = .ok (.iastore, 1) := by decide +kernel
theorem dX2_lead_57 : decode cX2_lead 57 = .ok (.aload_n 0, 1) := by decide +kernel
theorem dX2_lead_58 : decode cX2_lead 58 = .ok (.getfield 40, 3) := by decide +kernel
theorem dX2_lead_61 : decode cX2_lead 61 = .ok (.iload_n 1, 1) := by decide +kernel
theorem dX2_lead_62 : decode cX2_lead 62 = .ok (.iaload, 1) := by decide +kernel
theorem dX2_lead_63 : decode cX2_lead 63 = .ok (.ireturn, 1) := by decide +kernel
theorem dX2_unlead_0 : decode cX2_unlead 0 = .ok (.iload_n 1, 1) := by decide +kernel
theorem dX2_unlead_1 : decode cX2_unlead 1 = .ok (.invokestatic 59, 3) := by decide +kernel
theorem dX2_unlead_4 : decode cX2_unlead 4 = .ok (.ifCond .ne 5, 3) := by decide +kernel
theorem dX2_unlead_7 : decode cX2_unlead 7 = .ok (.iconst (-1), 1) := by decide +kernel
theorem dX2_unlead_8 : decode cX2_unlead 8 = .ok (.ireturn, 1) := by decide +kernel
theorem dX2_unlead_9 : decode cX2_unlead 9 = .ok (.aload_n 0, 1) := by decide +kernel
theorem dX2_unlead_10 : decode cX2_unlead 10 = .ok (.getfield 40, 3) := by decide +kernel
theorem dX2_unlead_13 : decode cX2_unlead 13 = .ok (.iload_n 1, 1) := by decide +kernel
theorem dX2_unlead_14 : decode cX2_unlead 14 = .ok (.iaload, 1) := by decide +kernel
theorem dX2_unlead_15 : decode cX2_unlead 15 = .ok (.istore_n 2, 1) := by decide +kernel
theorem dX2_unlead_16 : decode cX2_unlead 16 = .ok (.aload_n 0, 1) := by decide +kernel
theorem dX2_unlead_17 : decode cX2_unlead 17 = .ok (.getfield 40, 3) := by decide +kernel
theorem dX2_unlead_20 : decode cX2_unlead 20 = .ok (.iload_n 1, 1) := by decide +kernel
theorem dX2_unlead_21 : decode cX2_unlead 21 = .ok (.iconst 0, 1) := by decide +kernel
theorem dX2_unlead_22 : decode cX2_unlead 22 = .ok (.iastore, 1) := by decide +kernel
theorem dX2_unlead_23 : decode cX2_unlead 23 = .ok (.iload_n 2, 1) := by decide +kernel
theorem dX2_unlead_24 : decode cX2_unlead 24 = .ok (.ireturn, 1) := by decide +kernel
theorem dX2_leave_0 : decode cX2_leave 0 = .ok (.aload_n 0, 1) := by decide +kernel
theorem dX2_leave_1 : decode cX2_leave 1 = .ok (.getfield 62, 3) := by decide +kernel
theorem dX2_leave_4 : decode cX2_leave 4 = .ok (.sipush 150, 3) := by decide +kernel
theorem dX2_leave_7 : decode cX2_leave 7 = .ok (.if_icmp .ge 23, 3) := by decide +kernel
theorem dX2_leave_10 : decode cX2_leave 10 = .ok (.aload_n 0, 1) := by decide +kernel
theorem dX2_leave_11 : decode cX2_leave 11 = .ok (.getfield 43, 3) := by decide +kernel
theorem dX2_leave_14 : decode cX2_leave 14 = .ok (.aload_n 0, 1) := by decide +kernel
theorem dX2_leave_15 : decode cX2_leave 15 = .ok (.getfield 62, 3) := by decide +kernel
theorem dX2_leave_18 : decode cX2_leave 18 = .ok (.iload_n 1, 1) := by decide +kernel
theorem dX2_leave_19 : decode cX2_leave 19 = .ok (.iastore, 1) := by decide +kernel
theorem dX2_leave_20 : decode cX2_leave 20 = .ok (.aload_n 0, 1) := by decide +kernel
theorem dX2_leave_21 : decode cX2_leave 21 = .ok (.dup, 1) := by decide +kernel
theorem dX2_leave_22 : decode cX2_leave 22 = .ok (.getfield 62, 3) := by decide +kernel
theorem dX2_leave_25 : decode cX2_leave 25 = .ok (.iconst 1, 1) := by decide +kernel
theorem dX2_leave_26 : decode cX2_leave 26 = .ok (.iadd, 1) := by decide +kernel
theorem dX2_leave_27 : decode cX2_leave 27 = .ok (.putfield 62, 3) := by decide +kernel
theorem dX2_leave_30 : decode cX2_leave 30 = .ok (.return_, 1) := by decide +kernel
theorem dX2_claim_0 : decode cX2_claim 0 = .ok (.aload_n 0, 1) := by decide +kernel
theorem dX2_claim_1 : decode cX2_claim 1 = .ok (.getfield 28, 3) := by decide +kernel
theorem dX2_claim_4 : decode cX2_claim 4 = .ok (.iload_n 1, 1) := by decide +kernel
theorem dX2_claim_5 : decode cX2_claim 5 = .ok (.dup2, 1) := by decide +kernel
theorem dX2_claim_6 : decode cX2_claim 6 = .ok (.iaload, 1) := by decide +kernel
theorem dX2_claim_7 : decode cX2_claim 7 = .ok (.iconst 1, 1) := by decide +kernel
theorem dX2_claim_8 : decode cX2_claim 8 = .ok (.iadd, 1) := by decide +kernel
theorem dX2_claim_9 : decode cX2_claim 9 = .ok (.iastore, 1) := by decide +kernel
theorem dX2_claim_10 : decode cX2_claim 10 = .ok (.aload_n 0, 1) := by decide +kernel
theorem dX2_claim_11 : decode cX2_claim 11 = .ok (.getfield 25, 3) := by decide +kernel
theorem dX2_claim_14 : decode cX2_claim 14 = .ok (.iload_n 1, 1) := by decide +kernel
theorem dX2_claim_15 : decode cX2_claim 15 = .ok (.dup2, 1) := by decide +kernel
theorem dX2_claim_16 : decode cX2_claim 16 = .ok (.iaload, 1) := by decide +kernel
theorem dX2_claim_17 : decode cX2_claim 17 = .ok (.iconst 1, 1) := by decide +kernel
theorem dX2_claim_18 : decode cX2_claim 18 = .ok (.iadd, 1) := by decide +kernel
theorem dX2_claim_19 : decode cX2_claim 19 = .ok (.iastore, 1) := by decide +kernel
theorem dX2_claim_20 : decode cX2_claim 20 = .ok (.aload_n 0, 1) := by decide +kernel
theorem dX2_claim_21 : decode cX2_claim 21 = .ok (.getfield 31, 3) := by decide +kernel
theorem dX2_claim_24 : decode cX2_claim 24 = .ok (.iload_n 1, 1) := by decide +kernel
theorem dX2_claim_25 : decode cX2_claim 25 = .ok (.aload_n 0, 1) := by decide +kernel
theorem dX2_claim_26 : decode cX2_claim 26 = .ok (.getfield 28, 3) := by decide +kernel
theorem dX2_claim_29 : decode cX2_claim 29 = .ok (.iload_n 1, 1) := by decide +kernel
theorem dX2_claim_30 : decode cX2_claim 30 = .ok (.iaload, 1) := by decide +kernel
theorem dX2_claim_31 : decode cX2_claim 31 = .ok (.aload_n 0, 1) := by decide +kernel
theorem dX2_claim_32 : decode cX2_claim 32 = .ok (.getfield 31, 3) := by decide +kernel
theorem dX2_claim_35 : decode cX2_claim 35 = .ok (.iload_n 1, 1) := by decide +kernel
theorem dX2_claim_36 : decode cX2_claim 36 = .ok (.iaload, 1) := by decide +kernel
theorem dX2_claim_37 : decode cX2_claim 37 = .ok (.if_icmp .le 12, 3) := by decide +kernel
theorem dX2_claim_40 : decode cX2_claim 40 = .ok (.aload_n 0, 1) := by decide +kernel
theorem dX2_claim_41 : decode cX2_claim 41 = .ok (.getfield 28, 3) := by decide +kernel
theorem dX2_claim_44 : decode cX2_claim 44 = .ok (.iload_n 1, 1) := by decide +kernel
theorem dX2_claim_45 : decode cX2_claim 45 = .ok (.iaload, 1) := by decide +kernel
theorem dX2_claim_46 : decode cX2_claim 46 = .ok (.goto 9, 3) := by decide +kernel
theorem dX2_claim_49 : decode cX2_claim 49 = .ok (.aload_n 0, 1) := by decide +kernel
theorem dX2_claim_50 : decode cX2_claim 50 = .ok (.getfield 31, 3) := by decide +kernel
theorem dX2_claim_53 : decode cX2_claim 53 = .ok (.iload_n 1, 1) := by decide +kernel
theorem dX2_claim_54 : decode cX2_claim 54 = .ok (.iaload, 1) := by decide +kernel
theorem dX2_claim_55 : decode cX2_claim 55 = .ok (.iastore, 1) := by decide +kernel
theorem dX2_claim_56 : decode cX2_claim 56 = .ok (.aload_n 0, 1) := by decide +kernel
theorem dX2_claim_57 : decode cX2_claim 57 = .ok (.sipush 1000, 3) := by decide +kernel
theorem dX2_claim_60 : decode cX2_claim 60 = .ok (.iload_n 1, 1) := by decide +kernel
theorem dX2_claim_61 : decode cX2_claim 61 = .ok (.iadd, 1) := by decide +kernel
theorem dX2_claim_62 : decode cX2_claim 62 = .ok (.invokevirtual 65, 3) := by decide +kernel
theorem dX2_claim_65 : decode cX2_claim 65 = .ok (.return_, 1) := by decide +kernel
theorem dX2_let_0 : decode cX2_let 0 = .ok (.aload_n 0, 1) := by decide +kernel
theorem dX2_let_1 : decode cX2_let 1 = .ok (.getfield 28, 3) := by decide +kernel
theorem dX2_let_4 : decode cX2_let 4 = .ok (.iload_n 1, 1) := by decide +kernel
theorem dX2_let_5 : decode cX2_let 5 = .ok (.dup2, 1) := by decide +kernel
theorem dX2_let_6 : decode cX2_let 6 = .ok (.iaload, 1) := by decide +kernel
theorem dX2_let_7 : decode cX2_let 7 = .ok (.iconst 1, 1) := by decide +kernel
theorem dX2_let_8 : decode cX2_let 8 = .ok (.isub, 1) := by decide +kernel
theorem dX2_let_9 : decode cX2_let 9 = .ok (.iastore, 1) := by decide +kernel
theorem dX2_let_10 : decode cX2_let 10 = .ok (.aload_n 0, 1) := by decide +kernel
theorem dX2_let_11 : decode cX2_let 11 = .ok (.sipush 2000, 3) := by decide +kernel
theorem dX2_let_14 : decode cX2_let 14 = .ok (.iload_n 1, 1) := by decide +kernel
theorem dX2_let_15 : decode cX2_let 15 = .ok (.iadd, 1) := by decide +kernel
theorem dX2_let_16 : decode cX2_let 16 = .ok (.invokevirtual 65, 3) := by decide +kernel
theorem dX2_let_19 : decode cX2_let 19 = .ok (.return_, 1) := by decide +kernel
theorem dX2_passPlain_0 : decode cX2_passPlain 0 = .ok (.aload_n 0, 1) := by decide +kernel
theorem dX2_passPlain_1 : decode cX2_passPlain 1 = .ok (.iload_n 1, 1) := by decide +kernel
theorem dX2_passPlain_2 : decode cX2_passPlain 2 = .ok (.invokevirtual 69, 3) := by decide +kernel
theorem dX2_passPlain_5 : decode cX2_passPlain 5 = .ok (.aload_n 0, 1) := by decide +kernel
theorem dX2_passPlain_6 : decode cX2_passPlain 6 = .ok (.getfield 19, 3) := by decide +kernel
theorem dX2_passPlain_9 : decode cX2_passPlain 9 = .ok (.iload_n 1, 1) := by decide +kernel
theorem dX2_passPlain_10 : decode cX2_passPlain 10 = .ok (.iaload, 1) := by decide +kernel
theorem dX2_passPlain_11 : decode cX2_passPlain 11 = .ok (.i2l, 1) := by decide +kernel
theorem dX2_passPlain_12 : decode cX2_passPlain 12 = .ok (.iload_n 2, 1) := by decide +kernel
theorem dX2_passPlain_13 : decode cX2_passPlain 13 = .ok (.i2l, 1) := by decide +kernel
theorem dX2_passPlain_14 : decode cX2_passPlain 14 = .ok (.ladd, 1) := by decide +kernel
theorem dX2_passPlain_15 : decode cX2_passPlain 15 = .ok (.aload_n 0, 1) := by decide +kernel
theorem dX2_passPlain_16 : decode cX2_passPlain 16 = .ok (.getfield 13, 3) := by decide +kernel
theorem dX2_passPlain_19 : decode cX2_passPlain 19 = .ok (.iload_n 1, 1) := by decide +kernel
theorem dX2_passPlain_20 : decode cX2_passPlain 20 = .ok (.iaload, 1) := by decide +kernel
theorem dX2_passPlain_21 : decode cX2_passPlain 21 = .ok (.i2l, 1) := by decide +kernel
theorem dX2_passPlain_22 : decode cX2_passPlain 22 = .ok (.lcmp, 1) := by decide +kernel
theorem dX2_passPlain_23 : decode cX2_passPlain 23 = .ok (.ifCond .le 8, 3) := by decide +kernel
theorem dX2_passPlain_26 : decode cX2_passPlain 26 = .ok (.bipush (-30), 2) := by decide +kernel
theorem dX2_passPlain_28 : decode cX2_passPlain 28 = .ok (.goto 4, 3) := by decide +kernel
theorem dX2_passPlain_31 : decode cX2_passPlain 31 = .ok (.iconst 0, 1) := by decide +kernel
theorem dX2_passPlain_32 : decode cX2_passPlain 32 = .ok (.istore_n 3, 1) := by decide +kernel
theorem dX2_passPlain_33 : decode cX2_passPlain 33 = .ok (.aload_n 0, 1) := by decide +kernel
theorem dX2_passPlain_34 : decode cX2_passPlain 34 = .ok (.getfield 19, 3) := by decide +kernel
theorem dX2_passPlain_37 : decode cX2_passPlain 37 = .ok (.iload_n 1, 1) := by decide +kernel
theorem dX2_passPlain_38 : decode cX2_passPlain 38 = .ok (.dup2, 1) := by decide +kernel
theorem dX2_passPlain_39 : decode cX2_passPlain 39 = .ok (.iaload, 1) := by decide +kernel
theorem dX2_passPlain_40 : decode cX2_passPlain 40 = .ok (.iload_n 3, 1) := by decide +kernel
theorem dX2_passPlain_41 : decode cX2_passPlain 41 = .ok (.ifCond .ne 7, 3) := by decide +kernel
theorem dX2_passPlain_44 : decode cX2_passPlain 44 = .ok (.iload_n 2, 1) := by decide +kernel
theorem dX2_passPlain_45 : decode cX2_passPlain 45 = .ok (.goto 4, 3) := by decide +kernel
theorem dX2_passPlain_48 : decode cX2_passPlain 48 = .ok (.iconst 0, 1) := by decide +kernel
theorem dX2_passPlain_49 : decode cX2_passPlain 49 = .ok (.iadd, 1) := by decide +kernel
theorem dX2_passPlain_50 : decode cX2_passPlain 50 = .ok (.iastore, 1) := by decide +kernel
theorem dX2_passPlain_51 : decode cX2_passPlain 51 = .ok (.aload_n 0, 1) := by decide +kernel
theorem dX2_passPlain_52 : decode cX2_passPlain 52 = .ok (.iload_n 1, 1) := by decide +kernel
theorem dX2_passPlain_53 : decode cX2_passPlain 53 = .ok (.invokevirtual 72, 3) := by decide +kernel
theorem dX2_passPlain_56 : decode cX2_passPlain 56 = .ok (.iload_n 3, 1) := by decide +kernel
theorem dX2_passPlain_57 : decode cX2_passPlain 57 = .ok (.ireturn, 1) := by decide +kernel
theorem dX2_passPoints_0 : decode cX2_passPoints 0 = .ok (.aload_n 0, 1) := by decide +kernel
theorem dX2_passPoints_1 : decode cX2_passPoints 1 = .ok (.iload_n 1, 1) := by decide +kernel
theorem dX2_passPoints_2 : decode cX2_passPoints 2 = .ok (.invokevirtual 69, 3) := by decide +kernel
theorem dX2_passPoints_5 : decode cX2_passPoints 5 = .ok (.iconst 1, 1) := by decide +kernel
theorem dX2_passPoints_6 : decode cX2_passPoints 6 = .ok (.istore_n 3, 1) := by decide +kernel
theorem dX2_passPoints_7 : decode cX2_passPoints 7 = .ok (.aload_n 0, 1) := by decide +kernel
theorem dX2_passPoints_8 : decode cX2_passPoints 8 = .ok (.getfield 22, 3) := by decide +kernel
theorem dX2_passPoints_11 : decode cX2_passPoints 11 = .ok (.iload_n 1, 1) := by decide +kernel
theorem dX2_passPoints_12 : decode cX2_passPoints 12 = .ok (.iaload, 1) := by decide +kernel
theorem dX2_passPoints_13 : decode cX2_passPoints 13 = .ok (.iconst 1, 1) := by decide +kernel
theorem dX2_passPoints_14 : decode cX2_passPoints 14 = .ok (.if_icmp .ne 13, 3) := by decide +kernel
theorem dX2_passPoints_17 : decode cX2_passPoints 17 = .ok (.aload_n 0, 1) := by decide +kernel
theorem dX2_passPoints_18 : decode cX2_passPoints 18 = .ok (.getfield 22, 3) := by decide +kernel
theorem dX2_passPoints_21 : decode cX2_passPoints 21 = .ok (.iload_n 1, 1) := by decide +kernel
theorem dX2_passPoints_22 : decode cX2_passPoints 22 = .ok (.iconst 0, 1) := by decide +kernel
theorem dX2_passPoints_23 : decode cX2_passPoints 23 = .ok (.iastore, 1) := by decide +kernel
theorem dX2_passPoints_24 : decode cX2_passPoints 24 = .ok (.goto 17, 3) := by decide +kernel
theorem dX2_passPoints_27 : decode cX2_passPoints 27 = .ok (.aload_n 0, 1) := by decide +kernel
theorem dX2_passPoints_28 : decode cX2_passPoints 28 = .ok (.getfield 22, 3) := by decide +kernel
theorem dX2_passPoints_31 : decode cX2_passPoints 31 = .ok (.iload_n 1, 1) := by decide +kernel
theorem dX2_passPoints_32 : decode cX2_passPoints 32 = .ok (.iconst 1, 1) := by decide +kernel
theorem dX2_passPoints_33 : decode cX2_passPoints 33 = .ok (.iastore, 1) := by decide +kernel
theorem dX2_passPoints_34 : decode cX2_passPoints 34 = .ok (.aload_n 0, 1) := by decide +kernel
theorem dX2_passPoints_35 : decode cX2_passPoints 35 = .ok (.iload_n 1, 1) := by decide +kernel
theorem dX2_passPoints_36 : decode cX2_passPoints 36 = .ok (.iload_n 2, 1) := by decide +kernel
theorem dX2_passPoints_37 : decode cX2_passPoints 37 = .ok (.invokevirtual 75, 3) := by decide +kernel
theorem dX2_passPoints_40 : decode cX2_passPoints 40 = .ok (.istore_n 3, 1) := by decide +kernel
theorem dX2_passPoints_41 : decode cX2_passPoints 41 = .ok (.aload_n 0, 1) := by decide +kernel
theorem dX2_passPoints_42 : decode cX2_passPoints 42 = .ok (.iload_n 1, 1) := by decide +kernel
theorem dX2_passPoints_43 : decode cX2_passPoints 43 = .ok (.invokevirtual 72, 3) := by decide +kernel
theorem dX2_passPoints_46 : decode cX2_passPoints 46 = .ok (.iload_n 3, 1) := by decide +kernel
theorem dX2_passPoints_47 : decode cX2_passPoints 47 = .ok (.ireturn, 1) := by decide +kernel
theorem dX2_passBridge_0 : decode cX2_passBridge 0 = .ok (.aload_n 0, 1) := by decide +kernel
theorem dX2_passBridge_1 : decode cX2_passBridge 1 = .ok (.iload_n 1, 1) := by decide +kernel
theorem dX2_passBridge_2 : decode cX2_passBridge 2 = .ok (.invokevirtual 69, 3) := by decide +kernel
theorem dX2_passBridge_5 : decode cX2_passBridge 5 = .ok (.iconst 2, 1) := by decide +kernel
theorem dX2_passBridge_6 : decode cX2_passBridge 6 = .ok (.istore_n 3, 1) := by decide +kernel
theorem dX2_passBridge_7 : decode cX2_passBridge 7 = .ok (.iload_n 2, 1) := by decide +kernel
theorem dX2_passBridge_8 : decode cX2_passBridge 8 = .ok (.aload_n 0, 1) := by decide +kernel
theorem dX2_passBridge_9 : decode cX2_passBridge 9 = .ok (.getfield 16, 3) := by decide +kernel
theorem dX2_passBridge_12 : decode cX2_passBridge 12 = .ok (.iload_n 1, 1) := by decide +kernel
theorem dX2_passBridge_13 : decode cX2_passBridge 13 = .ok (.iaload, 1) := by decide +kernel
theorem dX2_passBridge_14 : decode cX2_passBridge 14 = .ok (.if_icmp .gt 28, 3) := by decide +kernel
theorem dX2_passBridge_17 : decode cX2_passBridge 17 = .ok (.aload_n 0, 1) := by decide +kernel
theorem dX2_passBridge_18 : decode cX2_passBridge 18 = .ok (.iload_n 1, 1) := by decide +kernel
theorem dX2_passBridge_19 : decode cX2_passBridge 19 = .ok (.iload_n 2, 1) := by decide +kernel
theorem dX2_passBridge_20 : decode cX2_passBridge 20 = .ok (.invokevirtual 79, 3) := by decide +kernel
theorem dX2_passBridge_23 : decode cX2_passBridge 23 = .ok (.istore_n 3, 1) := by decide +kernel
theorem dX2_passBridge_24 : decode cX2_passBridge 24 = .ok (.aload_n 0, 1) := by decide +kernel
theorem dX2_passBridge_25 : decode cX2_passBridge 25 = .ok (.getfield 16, 3) := by decide +kernel
theorem dX2_passBridge_28 : decode cX2_passBridge 28 = .ok (.iload_n 1, 1) := by decide +kernel
theorem dX2_passBridge_29 : decode cX2_passBridge 29 = .ok (.dup2, 1) := by decide +kernel
theorem dX2_passBridge_30 : decode cX2_passBridge 30 = .ok (.iaload, 1) := by decide +kernel
theorem dX2_passBridge_31 : decode cX2_passBridge 31 = .ok (.iload_n 3, 1) := by decide +kernel
theorem dX2_passBridge_32 : decode cX2_passBridge 32 = .ok (.ifCond .ne 7, 3) := by decide +kernel
theorem dX2_passBridge_35 : decode cX2_passBridge 35 = .ok (.iconst 1, 1) := by decide +kernel
theorem dX2_passBridge_36 : decode cX2_passBridge 36 = .ok (.goto 4, 3) := by decide +kernel
theorem dX2_passBridge_39 : decode cX2_passBridge 39 = .ok (.iconst 0, 1) := by decide +kernel
theorem dX2_passBridge_40 : decode cX2_passBridge 40 = .ok (.isub, 1) := by decide +kernel
theorem dX2_passBridge_41 : decode cX2_passBridge 41 = .ok (.iastore, 1) := by decide +kernel
theorem dX2_passBridge_42 : decode cX2_passBridge 42 = .ok (.aload_n 0, 1) := by decide +kernel
theorem dX2_passBridge_43 : decode cX2_passBridge 43 = .ok (.iload_n 1, 1) := by decide +kernel
theorem dX2_passBridge_44 : decode cX2_passBridge 44 = .ok (.invokevirtual 72, 3) := by decide +kernel
theorem dX2_passBridge_47 : decode cX2_passBridge 47 = .ok (.iload_n 3, 1) := by decide +kernel
theorem dX2_passBridge_48 : decode cX2_passBridge 48 = .ok (.ireturn, 1) := by decide +kernel
theorem dX2_pass_0 : decode cX2_pass 0 = .ok (.aload_n 0, 1) := by decide +kernel
theorem dX2_pass_1 : decode cX2_pass 1 = .ok (.getfield 7, 3) := by decide +kernel
theorem dX2_pass_4 : decode cX2_pass 4 = .ok (.iload_n 1, 1) := by decide +kernel
theorem dX2_pass_5 : decode cX2_pass 5 = .ok (.iaload, 1) := by decide +kernel
theorem dX2_pass_6 : decode cX2_pass 6 = .ok (.ifCond .ne 12, 3) := by decide +kernel
theorem dX2_pass_9 : decode cX2_pass 9 = .ok (.aload_n 0, 1) := by decide +kernel
theorem dX2_pass_10 : decode cX2_pass 10 = .ok (.iload_n 1, 1) := by decide +kernel
theorem dX2_pass_11 : decode cX2_pass 11 = .ok (.iload_n 2, 1) := by decide +kernel
theorem dX2_pass_12 : decode cX2_pass 12 = .ok (.invokevirtual 75, 3) := by decide +kernel
theorem dX2_pass_15 : decode cX2_pass 15 = .ok (.goto 28, 3) := by decide +kernel
theorem dX2_pass_18 : decode cX2_pass 18 = .ok (.aload_n 0, 1) := by decide +kernel
theorem dX2_pass_19 : decode cX2_pass 19 = .ok (.getfield 7, 3) := by decide +kernel
theorem dX2_pass_22 : decode cX2_pass 22 = .ok (.iload_n 1, 1) := by decide +kernel
theorem dX2_pass_23 : decode cX2_pass 23 = .ok (.iaload, 1) := by decide +kernel
theorem dX2_pass_24 : decode cX2_pass 24 = .ok (.iconst 1, 1) := by decide +kernel
theorem dX2_pass_25 : decode cX2_pass 25 = .ok (.if_icmp .ne 12, 3) := by decide +kernel
theorem dX2_pass_28 : decode cX2_pass 28 = .ok (.aload_n 0, 1) := by decide +kernel
theorem dX2_pass_29 : decode cX2_pass 29 = .ok (.iload_n 1, 1) := by decide +kernel
theorem dX2_pass_30 : decode cX2_pass 30 = .ok (.iload_n 2, 1) := by decide +kernel
theorem dX2_pass_31 : decode cX2_pass 31 = .ok (.invokevirtual 79, 3) := by decide +kernel
theorem dX2_pass_34 : decode cX2_pass 34 = .ok (.goto 9, 3) := by decide +kernel
theorem dX2_pass_37 : decode cX2_pass 37 = .ok (.aload_n 0, 1) := by decide +kernel
theorem dX2_pass_38 : decode cX2_pass 38 = .ok (.iload_n 1, 1) := by decide +kernel
theorem dX2_pass_39 : decode cX2_pass 39 = .ok (.iload_n 2, 1) := by decide +kernel
theorem dX2_pass_40 : decode cX2_pass 40 = .ok (.invokevirtual 82, 3) := by decide +kernel
theorem dX2_pass_43 : decode cX2_pass 43 = .ok (.istore_n 3, 1) := by decide +kernel
theorem dX2_pass_44 : decode cX2_pass 44 = .ok (.aload_n 0, 1) := by decide +kernel
theorem dX2_pass_45 : decode cX2_pass 45 = .ok (.dup, 1) := by decide +kernel
theorem dX2_pass_46 : decode cX2_pass 46 = .ok (.getfield 85, 3) := by decide +kernel
theorem dX2_pass_49 : decode cX2_pass 49 = .ok (.iload_n 3, 1) := by decide +kernel
theorem dX2_pass_50 : decode cX2_pass 50 = .ok (.ifCond .ne 7, 3) := by decide +kernel
theorem dX2_pass_53 : decode cX2_pass 53 = .ok (.iconst 1, 1) := by decide +kernel
theorem dX2_pass_54 : decode cX2_pass 54 = .ok (.goto 4, 3) := by decide +kernel
theorem dX2_pass_57 : decode cX2_pass 57 = .ok (.iconst 0, 1) := by decide +kernel
theorem dX2_pass_58 : decode cX2_pass 58 = .ok (.iadd, 1) := by decide +kernel
theorem dX2_pass_59 : decode cX2_pass 59 = .ok (.putfield 85, 3) := by decide +kernel
theorem dX2_pass_62 : decode cX2_pass 62 = .ok (.iload_n 3, 1) := by decide +kernel
theorem dX2_pass_63 : decode cX2_pass 63 = .ok (.ireturn, 1) := by decide +kernel
theorem dX2_sectionOf_0 : decode cX2_sectionOf 0 = .ok (.aload_n 0, 1) := by decide +kernel
theorem dX2_sectionOf_1 : decode cX2_sectionOf 1 = .ok (.getfield 34, 3) := by decide +kernel
theorem dX2_sectionOf_4 : decode cX2_sectionOf 4 = .ok (.aload_n 0, 1) := by decide +kernel
theorem dX2_sectionOf_5 : decode cX2_sectionOf 5 = .ok (.getfield 37, 3) := by decide +kernel
theorem dX2_sectionOf_8 : decode cX2_sectionOf 8 = .ok (.bipush 8, 2) := by decide +kernel
theorem dX2_sectionOf_10 : decode cX2_sectionOf 10 = .ok (.iload_n 1, 1) := by decide +kernel
theorem dX2_sectionOf_11 : decode cX2_sectionOf 11 = .ok (.imul, 1) := by decide +kernel
theorem dX2_sectionOf_12 : decode cX2_sectionOf 12 = .ok (.iload_n 2, 1) := by decide +kernel
theorem dX2_sectionOf_13 : decode cX2_sectionOf 13 = .ok (.iadd, 1) := by decide +kernel
theorem dX2_sectionOf_14 : decode cX2_sectionOf 14 = .ok (.iaload, 1) := by decide +kernel
theorem dX2_sectionOf_15 : decode cX2_sectionOf 15 = .ok (.iaload, 1) := by decide +kernel
theorem dX2_sectionOf_16 : decode cX2_sectionOf 16 = .ok (.ireturn, 1) := by decide +kernel
theorem dX2_ended_0 : decode cX2_ended 0 = .ok (.iload_n 0, 1) := by decide +kernel
theorem dX2_ended_1 : decode cX2_ended 1 = .ok (.iconst 2, 1) := by decide +kernel
theorem dX2_ended_2 : decode cX2_ended 2 = .ok (.if_icmp .ne 10, 3) := by decide +kernel
theorem dX2_ended_5 : decode cX2_ended 5 = .ok (.bipush (-100), 2) := by decide +kernel
theorem dX2_ended_7 : decode cX2_ended 7 = .ok (.iload_n 1, 1) := by decide +kernel
theorem dX2_ended_8 : decode cX2_ended 8 = .ok (.isub, 1) := by decide +kernel
theorem dX2_ended_9 : decode cX2_ended 9 = .ok (.goto 4, 3) := by decide +kernel
theorem dX2_ended_12 : decode cX2_ended 12 = .ok (.iload_n 0, 1) := by decide +kernel
theorem dX2_ended_13 : decode cX2_ended 13 = .ok (.ireturn, 1) := by decide +kernel
theorem dX2_alone_0 : decode cX2_alone 0 = .ok (.iconst 0, 1) := by decide +kernel
theorem dX2_alone_1 : decode cX2_alone 1 = .ok (.istore_n 3, 1) := by decide +kernel
theorem dX2_alone_2 : decode cX2_alone 2 = .ok (.iconst 0, 1) := by decide +kernel
theorem dX2_alone_3 : decode cX2_alone 3 = .ok (.istore 4, 2) := by decide +kernel
theorem dX2_alone_5 : decode cX2_alone 5 = .ok (.iload 4, 2) := by decide +kernel
theorem dX2_alone_7 : decode cX2_alone 7 = .ok (.aload_n 0, 1) := by decide +kernel
theorem dX2_alone_8 : decode cX2_alone 8 = .ok (.getfield 40, 3) := by decide +kernel
theorem dX2_alone_11 : decode cX2_alone 11 = .ok (.iload_n 1, 1) := by decide +kernel
theorem dX2_alone_12 : decode cX2_alone 12 = .ok (.iaload, 1) := by decide +kernel
theorem dX2_alone_13 : decode cX2_alone 13 = .ok (.if_icmp .ge 55, 3) := by decide +kernel
theorem dX2_alone_16 : decode cX2_alone 16 = .ok (.iload_n 3, 1) := by decide +kernel
theorem dX2_alone_17 : decode cX2_alone 17 = .ok (.ifCond .ne 51, 3) := by decide +kernel
theorem dX2_alone_20 : decode cX2_alone 20 = .ok (.aload_n 0, 1) := by decide +kernel
theorem dX2_alone_21 : decode cX2_alone 21 = .ok (.iload_n 1, 1) := by decide +kernel
theorem dX2_alone_22 : decode cX2_alone 22 = .ok (.iload 4, 2) := by decide +kernel
theorem dX2_alone_24 : decode cX2_alone 24 = .ok (.invokevirtual 88, 3) := by decide +kernel
theorem dX2_alone_27 : decode cX2_alone 27 = .ok (.istore 5, 2) := by decide +kernel
theorem dX2_alone_29 : decode cX2_alone 29 = .ok (.iload 5, 2) := by decide +kernel
theorem dX2_alone_31 : decode cX2_alone 31 = .ok (.ifCond .ge 6, 3) := by decide +kernel
theorem dX2_alone_34 : decode cX2_alone 34 = .ok (.bipush (-11), 2) := by decide +kernel
theorem dX2_alone_36 : decode cX2_alone 36 = .ok (.ireturn, 1) := by decide +kernel
theorem dX2_alone_37 : decode cX2_alone 37 = .ok (.aload_n 0, 1) := by decide +kernel
theorem dX2_alone_38 : decode cX2_alone 38 = .ok (.iload 5, 2) := by decide +kernel
theorem dX2_alone_40 : decode cX2_alone 40 = .ok (.invokevirtual 69, 3) := by decide +kernel
theorem dX2_alone_43 : decode cX2_alone 43 = .ok (.aload_n 0, 1) := by decide +kernel
theorem dX2_alone_44 : decode cX2_alone 44 = .ok (.iload 5, 2) := by decide +kernel
theorem dX2_alone_46 : decode cX2_alone 46 = .ok (.iload_n 2, 1) := by decide +kernel
theorem dX2_alone_47 : decode cX2_alone 47 = .ok (.invokevirtual 91, 3) := by decide +kernel
theorem dX2_alone_50 : decode cX2_alone 50 = .ok (.iload 4, 2) := by decide +kernel
theorem dX2_alone_52 : decode cX2_alone 52 = .ok (.invokestatic 94, 3) := by decide +kernel
theorem dX2_alone_55 : decode cX2_alone 55 = .ok (.istore_n 3, 1) := by decide +kernel
theorem dX2_alone_56 : decode cX2_alone 56 = .ok (.aload_n 0, 1) := by decide +kernel
theorem dX2_alone_57 : decode cX2_alone 57 = .ok (.iload 5, 2) := by decide +kernel
theorem dX2_alone_59 : decode cX2_alone 59 = .ok (.invokevirtual 72, 3) := by decide +kernel
theorem dX2_alone_62 : decode cX2_alone 62 = .ok (.iinc 4 1, 3) := by decide +kernel
theorem dX2_alone_65 : decode cX2_alone 65 = .ok (.goto (-60), 3) := by decide +kernel
theorem dX2_alone_68 : decode cX2_alone 68 = .ok (.iload_n 3, 1) := by decide +kernel
theorem dX2_alone_69 : decode cX2_alone 69 = .ok (.ireturn, 1) := by decide +kernel
theorem dX2_twoByTwo_0 : decode cX2_twoByTwo 0 = .ok (.iconst 0, 1) := by decide +kernel
theorem dX2_twoByTwo_1 : decode cX2_twoByTwo 1 = .ok (.istore_n 3, 1) := by decide +kernel
theorem dX2_twoByTwo_2 : decode cX2_twoByTwo 2 = .ok (.iconst 0, 1) := by decide +kernel
theorem dX2_twoByTwo_3 : decode cX2_twoByTwo 3 = .ok (.istore 4, 2) := by decide +kernel
theorem dX2_twoByTwo_5 : decode cX2_twoByTwo 5 = .ok (.iload 4, 2) := by decide +kernel
theorem dX2_twoByTwo_7 : decode cX2_twoByTwo 7 = .ok (.aload_n 0, 1) := by decide +kernel
theorem dX2_twoByTwo_8 : decode cX2_twoByTwo 8 = .ok (.getfield 40, 3) := by decide +kernel
theorem dX2_twoByTwo_11 : decode cX2_twoByTwo 11 = .ok (.iload_n 1, 1) := by decide +kernel
theorem dX2_twoByTwo_12 : decode cX2_twoByTwo 12 = .ok (.iaload, 1) := by decide +kernel
theorem dX2_twoByTwo_13 : decode cX2_twoByTwo 13 = .ok (.if_icmp .ge 133, 3) := by decide +kernel
theorem dX2_twoByTwo_16 : decode cX2_twoByTwo 16 = .ok (.iload_n 3, 1) := by decide +kernel
theorem dX2_twoByTwo_17 : decode cX2_twoByTwo 17 = .ok (.ifCond .ne 129, 3) := by decide +kernel
theorem dX2_twoByTwo_20 : decode cX2_twoByTwo 20 = .ok (.aload_n 0, 1) := by decide +kernel
theorem dX2_twoByTwo_21 : decode cX2_twoByTwo 21 = .ok (.iload_n 1, 1) := by decide +kernel
theorem dX2_twoByTwo_22 : decode cX2_twoByTwo 22 = .ok (.iload 4, 2) := by decide +kernel
theorem dX2_twoByTwo_24 : decode cX2_twoByTwo 24 = .ok (.invokevirtual 88, 3) := by decide +kernel
theorem dX2_twoByTwo_27 : decode cX2_twoByTwo 27 = .ok (.istore 5, 2) := by decide +kernel
theorem dX2_twoByTwo_29 : decode cX2_twoByTwo 29 = .ok (.iload 5, 2) := by decide +kernel
theorem dX2_twoByTwo_31 : decode cX2_twoByTwo 31 = .ok (.ifCond .ge 6, 3) := by decide +kernel
theorem dX2_twoByTwo_34 : decode cX2_twoByTwo 34 = .ok (.bipush (-11), 2) := by decide +kernel
theorem dX2_twoByTwo_36 : decode cX2_twoByTwo 36 = .ok (.ireturn, 1) := by decide +kernel
theorem dX2_twoByTwo_37 : decode cX2_twoByTwo 37 = .ok (.aload_n 0, 1) := by decide +kernel
theorem dX2_twoByTwo_38 : decode cX2_twoByTwo 38 = .ok (.iload 5, 2) := by decide +kernel
theorem dX2_twoByTwo_40 : decode cX2_twoByTwo 40 = .ok (.invokevirtual 69, 3) := by decide +kernel
theorem dX2_twoByTwo_43 : decode cX2_twoByTwo 43 = .ok (.iload 4, 2) := by decide +kernel
theorem dX2_twoByTwo_45 : decode cX2_twoByTwo 45 = .ok (.iconst 1, 1) := by decide +kernel
theorem dX2_twoByTwo_46 : decode cX2_twoByTwo 46 = .ok (.iadd, 1) := by decide +kernel
theorem dX2_twoByTwo_47 : decode cX2_twoByTwo 47 = .ok (.aload_n 0, 1) := by decide +kernel
theorem dX2_twoByTwo_48 : decode cX2_twoByTwo 48 = .ok (.getfield 40, 3) := by decide +kernel
theorem dX2_twoByTwo_51 : decode cX2_twoByTwo 51 = .ok (.iload_n 1, 1) := by decide +kernel
theorem dX2_twoByTwo_52 : decode cX2_twoByTwo 52 = .ok (.iaload, 1) := by decide +kernel
theorem dX2_twoByTwo_53 : decode cX2_twoByTwo 53 = .ok (.if_icmp .ge 7, 3) := by decide +kernel
theorem dX2_twoByTwo_56 : decode cX2_twoByTwo 56 = .ok (.iconst 1, 1) := by decide +kernel
theorem dX2_twoByTwo_57 : decode cX2_twoByTwo 57 = .ok (.goto 4, 3) := by decide +kernel
theorem dX2_twoByTwo_60 : decode cX2_twoByTwo 60 = .ok (.iconst 0, 1) := by decide +kernel
theorem dX2_twoByTwo_61 : decode cX2_twoByTwo 61 = .ok (.istore 6, 2) := by decide +kernel
theorem dX2_twoByTwo_63 : decode cX2_twoByTwo 63 = .ok (.iload 6, 2) := by decide +kernel
theorem dX2_twoByTwo_65 : decode cX2_twoByTwo 65 = .ok (.ifCond .eq 15, 3) := by decide +kernel
theorem dX2_twoByTwo_68 : decode cX2_twoByTwo 68 = .ok (.aload_n 0, 1) := by decide +kernel
theorem dX2_twoByTwo_69 : decode cX2_twoByTwo 69 = .ok (.iload_n 1, 1) := by decide +kernel
theorem dX2_twoByTwo_70 : decode cX2_twoByTwo 70 = .ok (.iload 4, 2) := by decide +kernel
theorem dX2_twoByTwo_72 : decode cX2_twoByTwo 72 = .ok (.iconst 1, 1) := by decide +kernel
theorem dX2_twoByTwo_73 : decode cX2_twoByTwo 73 = .ok (.iadd, 1) := by decide +kernel
theorem dX2_twoByTwo_74 : decode cX2_twoByTwo 74 = .ok (.invokevirtual 88, 3) := by decide +kernel
theorem dX2_twoByTwo_77 : decode cX2_twoByTwo 77 = .ok (.goto 4, 3) := by decide +kernel
theorem dX2_twoByTwo_80 : decode cX2_twoByTwo 80 = .ok (.iconst (-1), 1) := by decide +kernel
theorem dX2_twoByTwo_81 : decode cX2_twoByTwo 81 = .ok (.istore 7, 2) := by decide +kernel
theorem dX2_twoByTwo_83 : decode cX2_twoByTwo 83 = .ok (.iload 6, 2) := by decide +kernel
theorem dX2_twoByTwo_85 : decode cX2_twoByTwo 85 = .ok (.ifCond .eq 14, 3) := by decide +kernel
theorem dX2_twoByTwo_88 : decode cX2_twoByTwo 88 = .ok (.iload 7, 2) := by decide +kernel
theorem dX2_twoByTwo_90 : decode cX2_twoByTwo 90 = .ok (.ifCond .ge 9, 3) := by decide +kernel
theorem dX2_twoByTwo_93 : decode cX2_twoByTwo 93 = .ok (.bipush (-11), 2) := by decide +kernel
theorem dX2_twoByTwo_95 : decode cX2_twoByTwo 95 = .ok (.istore_n 3, 1) := by decide +kernel
theorem dX2_twoByTwo_96 : decode cX2_twoByTwo 96 = .ok (.goto 38, 3) := by decide +kernel
theorem dX2_twoByTwo_99 : decode cX2_twoByTwo 99 = .ok (.iload 6, 2) := by decide +kernel
theorem dX2_twoByTwo_101 : decode cX2_twoByTwo 101 = .ok (.ifCond .eq 9, 3) := by decide +kernel
theorem dX2_twoByTwo_104 : decode cX2_twoByTwo 104 = .ok (.aload_n 0, 1) := by decide +kernel
theorem dX2_twoByTwo_105 : decode cX2_twoByTwo 105 = .ok (.iload 7, 2) := by decide +kernel
theorem dX2_twoByTwo_107 : decode cX2_twoByTwo 107 = .ok (.invokevirtual 69, 3) := by decide +kernel
theorem dX2_twoByTwo_110 : decode cX2_twoByTwo 110 = .ok (.aload_n 0, 1) := by decide +kernel
theorem dX2_twoByTwo_111 : decode cX2_twoByTwo 111 = .ok (.iload 5, 2) := by decide +kernel
theorem dX2_twoByTwo_113 : decode cX2_twoByTwo 113 = .ok (.iload_n 2, 1) := by decide +kernel
theorem dX2_twoByTwo_114 : decode cX2_twoByTwo 114 = .ok (.invokevirtual 91, 3) := by decide +kernel
theorem dX2_twoByTwo_117 : decode cX2_twoByTwo 117 = .ok (.iload 4, 2) := by decide +kernel
theorem dX2_twoByTwo_119 : decode cX2_twoByTwo 119 = .ok (.invokestatic 94, 3) := by decide +kernel
theorem dX2_twoByTwo_122 : decode cX2_twoByTwo 122 = .ok (.istore_n 3, 1) := by decide +kernel
theorem dX2_twoByTwo_123 : decode cX2_twoByTwo 123 = .ok (.iload 6, 2) := by decide +kernel
theorem dX2_twoByTwo_125 : decode cX2_twoByTwo 125 = .ok (.ifCond .eq 9, 3) := by decide +kernel
theorem dX2_twoByTwo_128 : decode cX2_twoByTwo 128 = .ok (.aload_n 0, 1) := by decide +kernel
theorem dX2_twoByTwo_129 : decode cX2_twoByTwo 129 = .ok (.iload 7, 2) := by decide +kernel
theorem dX2_twoByTwo_131 : decode cX2_twoByTwo 131 = .ok (.invokevirtual 72, 3) := by decide +kernel
theorem dX2_twoByTwo_134 : decode cX2_twoByTwo 134 = .ok (.aload_n 0, 1) := by decide +kernel
theorem dX2_twoByTwo_135 : decode cX2_twoByTwo 135 = .ok (.iload 5, 2) := by decide +kernel
theorem dX2_twoByTwo_137 : decode cX2_twoByTwo 137 = .ok (.invokevirtual 72, 3) := by decide +kernel
theorem dX2_twoByTwo_140 : decode cX2_twoByTwo 140 = .ok (.iinc 4 1, 3) := by decide +kernel
theorem dX2_twoByTwo_143 : decode cX2_twoByTwo 143 = .ok (.goto (-138), 3) := by decide +kernel
theorem dX2_twoByTwo_146 : decode cX2_twoByTwo 146 = .ok (.iload_n 3, 1) := by decide +kernel
theorem dX2_twoByTwo_147 : decode cX2_twoByTwo 147 = .ok (.ireturn, 1) := by decide +kernel
theorem dX2_all_0 : decode cX2_all 0 = .ok (.iconst 0, 1) := by decide +kernel
theorem dX2_all_1 : decode cX2_all 1 = .ok (.istore_n 3, 1) := by decide +kernel
theorem dX2_all_2 : decode cX2_all 2 = .ok (.iload_n 3, 1) := by decide +kernel
theorem dX2_all_3 : decode cX2_all 3 = .ok (.aload_n 0, 1) := by decide +kernel
theorem dX2_all_4 : decode cX2_all 4 = .ok (.getfield 40, 3) := by decide +kernel
theorem dX2_all_7 : decode cX2_all 7 = .ok (.iload_n 1, 1) := by decide +kernel
theorem dX2_all_8 : decode cX2_all 8 = .ok (.iaload, 1) := by decide +kernel
theorem dX2_all_9 : decode cX2_all 9 = .ok (.if_icmp .ge 28, 3) := by decide +kernel
theorem dX2_all_12 : decode cX2_all 12 = .ok (.aload_n 0, 1) := by decide +kernel
theorem dX2_all_13 : decode cX2_all 13 = .ok (.iload_n 1, 1) := by decide +kernel
theorem dX2_all_14 : decode cX2_all 14 = .ok (.iload_n 3, 1) := by decide +kernel
theorem dX2_all_15 : decode cX2_all 15 = .ok (.invokevirtual 88, 3) := by decide +kernel
theorem dX2_all_18 : decode cX2_all 18 = .ok (.ifCond .lt 19, 3) := by decide +kernel
theorem dX2_all_21 : decode cX2_all 21 = .ok (.aload_n 0, 1) := by decide +kernel
theorem dX2_all_22 : decode cX2_all 22 = .ok (.aload_n 0, 1) := by decide +kernel
theorem dX2_all_23 : decode cX2_all 23 = .ok (.iload_n 1, 1) := by decide +kernel
theorem dX2_all_24 : decode cX2_all 24 = .ok (.iload_n 3, 1) := by decide +kernel
theorem dX2_all_25 : decode cX2_all 25 = .ok (.invokevirtual 88, 3) := by decide +kernel
theorem dX2_all_28 : decode cX2_all 28 = .ok (.invokevirtual 69, 3) := by decide +kernel
theorem dX2_all_31 : decode cX2_all 31 = .ok (.iinc 3 1, 3) := by decide +kernel
theorem dX2_all_34 : decode cX2_all 34 = .ok (.goto (-32), 3) := by decide +kernel
theorem dX2_all_37 : decode cX2_all 37 = .ok (.iload_n 3, 1) := by decide +kernel
theorem dX2_all_38 : decode cX2_all 38 = .ok (.aload_n 0, 1) := by decide +kernel
theorem dX2_all_39 : decode cX2_all 39 = .ok (.getfield 40, 3) := by decide +kernel
theorem dX2_all_42 : decode cX2_all 42 = .ok (.iload_n 1, 1) := by decide +kernel
theorem dX2_all_43 : decode cX2_all 43 = .ok (.iaload, 1) := by decide +kernel
theorem dX2_all_44 : decode cX2_all 44 = .ok (.if_icmp .ge 8, 3) := by decide +kernel
theorem dX2_all_47 : decode cX2_all 47 = .ok (.bipush (-11), 2) := by decide +kernel
theorem dX2_all_49 : decode cX2_all 49 = .ok (.goto 4, 3) := by decide +kernel
theorem dX2_all_52 : decode cX2_all 52 = .ok (.iconst 0, 1) := by decide +kernel
theorem dX2_all_53 : decode cX2_all 53 = .ok (.istore 4, 2) := by decide +kernel
theorem dX2_all_55 : decode cX2_all 55 = .ok (.iconst 0, 1) := by decide +kernel
theorem dX2_all_56 : decode cX2_all 56 = .ok (.istore 5, 2) := by decide +kernel
theorem dX2_all_58 : decode cX2_all 58 = .ok (.iload 5, 2) := by decide +kernel
theorem dX2_all_60 : decode cX2_all 60 = .ok (.iload_n 3, 1) := by decide +kernel
theorem dX2_all_61 : decode cX2_all 61 = .ok (.if_icmp .ge 33, 3) := by decide +kernel
theorem dX2_all_64 : decode cX2_all 64 = .ok (.iload 4, 2) := by decide +kernel
theorem dX2_all_66 : decode cX2_all 66 = .ok (.ifCond .ne 28, 3) := by decide +kernel
theorem dX2_all_69 : decode cX2_all 69 = .ok (.aload_n 0, 1) := by decide +kernel
theorem dX2_all_70 : decode cX2_all 70 = .ok (.aload_n 0, 1) := by decide +kernel
theorem dX2_all_71 : decode cX2_all 71 = .ok (.iload_n 1, 1) := by decide +kernel
theorem dX2_all_72 : decode cX2_all 72 = .ok (.iload 5, 2) := by decide +kernel
theorem dX2_all_74 : decode cX2_all 74 = .ok (.invokevirtual 88, 3) := by decide +kernel
theorem dX2_all_77 : decode cX2_all 77 = .ok (.iload_n 2, 1) := by decide +kernel
theorem dX2_all_78 : decode cX2_all 78 = .ok (.invokevirtual 91, 3) := by decide +kernel
theorem dX2_all_81 : decode cX2_all 81 = .ok (.iload 5, 2) := by decide +kernel
theorem dX2_all_83 : decode cX2_all 83 = .ok (.invokestatic 94, 3) := by decide +kernel
theorem dX2_all_86 : decode cX2_all 86 = .ok (.istore 4, 2) := by decide +kernel
theorem dX2_all_88 : decode cX2_all 88 = .ok (.iinc 5 1, 3) := by decide +kernel
theorem dX2_all_91 : decode cX2_all 91 = .ok (.goto (-33), 3) := by decide +kernel
theorem dX2_all_94 : decode cX2_all 94 = .ok (.iload_n 3, 1) := by decide +kernel
theorem dX2_all_95 : decode cX2_all 95 = .ok (.iconst 1, 1) := by decide +kernel
theorem dX2_all_96 : decode cX2_all 96 = .ok (.isub, 1) := by decide +kernel
theorem dX2_all_97 : decode cX2_all 97 = .ok (.istore 5, 2) := by decide +kernel
theorem dX2_all_99 : decode cX2_all 99 = .ok (.iload 5, 2) := by decide +kernel
theorem dX2_all_101 : decode cX2_all 101 = .ok (.ifCond .lt 20, 3) := by decide +kernel
theorem dX2_all_104 : decode cX2_all 104 = .ok (.aload_n 0, 1) := by decide +kernel
theorem dX2_all_105 : decode cX2_all 105 = .ok (.aload_n 0, 1) := by decide +kernel
theorem dX2_all_106 : decode cX2_all 106 = .ok (.iload_n 1, 1) := by decide +kernel
theorem dX2_all_107 : decode cX2_all 107 = .ok (.iload 5, 2) := by decide +kernel
theorem dX2_all_109 : decode cX2_all 109 = .ok (.invokevirtual 88, 3) := by decide +kernel
theorem dX2_all_112 : decode cX2_all 112 = .ok (.invokevirtual 72, 3) := by decide +kernel
theorem dX2_all_115 : decode cX2_all 115 = .ok (.iinc 5 (-1), 3) := by decide +kernel
theorem dX2_all_118 : decode cX2_all 118 = .ok (.goto (-19), 3) := by decide +kernel
theorem dX2_all_121 : decode cX2_all 121 = .ok (.iload 4, 2) := by decide +kernel
theorem dX2_all_123 : decode cX2_all 123 = .ok (.ireturn, 1) := by decide +kernel
theorem dX2_first_0 : decode cX2_first 0 = .ok (.iconst 0, 1) := by decide +kernel
theorem dX2_first_1 : decode cX2_first 1 = .ok (.istore_n 3, 1) := by decide +kernel
theorem dX2_first_2 : decode cX2_first 2 = .ok (.iload_n 3, 1) := by decide +kernel
theorem dX2_first_3 : decode cX2_first 3 = .ok (.aload_n 0, 1) := by decide +kernel
theorem dX2_first_4 : decode cX2_first 4 = .ok (.getfield 40, 3) := by decide +kernel
theorem dX2_first_7 : decode cX2_first 7 = .ok (.iload_n 1, 1) := by decide +kernel
theorem dX2_first_8 : decode cX2_first 8 = .ok (.iaload, 1) := by decide +kernel
theorem dX2_first_9 : decode cX2_first 9 = .ok (.if_icmp .ge 107, 3) := by decide +kernel
theorem dX2_first_12 : decode cX2_first 12 = .ok (.aload_n 0, 1) := by decide +kernel
theorem dX2_first_13 : decode cX2_first 13 = .ok (.iload_n 1, 1) := by decide +kernel
theorem dX2_first_14 : decode cX2_first 14 = .ok (.iload_n 3, 1) := by decide +kernel
theorem dX2_first_15 : decode cX2_first 15 = .ok (.invokevirtual 88, 3) := by decide +kernel
theorem dX2_first_18 : decode cX2_first 18 = .ok (.istore 4, 2) := by decide +kernel
theorem dX2_first_20 : decode cX2_first 20 = .ok (.iload 4, 2) := by decide +kernel
theorem dX2_first_22 : decode cX2_first 22 = .ok (.ifCond .ge 6, 3) := by decide +kernel
theorem dX2_first_25 : decode cX2_first 25 = .ok (.goto 85, 3) := by decide +kernel
theorem dX2_first_28 : decode cX2_first 28 = .ok (.aload_n 0, 1) := by decide +kernel
theorem dX2_first_29 : decode cX2_first 29 = .ok (.iload 4, 2) := by decide +kernel
theorem dX2_first_31 : decode cX2_first 31 = .ok (.invokevirtual 69, 3) := by decide +kernel
theorem dX2_first_34 : decode cX2_first 34 = .ok (.aload_n 0, 1) := by decide +kernel
theorem dX2_first_35 : decode cX2_first 35 = .ok (.getfield 19, 3) := by decide +kernel
theorem dX2_first_38 : decode cX2_first 38 = .ok (.iload 4, 2) := by decide +kernel
theorem dX2_first_40 : decode cX2_first 40 = .ok (.iaload, 1) := by decide +kernel
theorem dX2_first_41 : decode cX2_first 41 = .ok (.i2l, 1) := by decide +kernel
theorem dX2_first_42 : decode cX2_first 42 = .ok (.iload_n 2, 1) := by decide +kernel
theorem dX2_first_43 : decode cX2_first 43 = .ok (.i2l, 1) := by decide +kernel
theorem dX2_first_44 : decode cX2_first 44 = .ok (.ladd, 1) := by decide +kernel
theorem dX2_first_45 : decode cX2_first 45 = .ok (.aload_n 0, 1) := by decide +kernel
theorem dX2_first_46 : decode cX2_first 46 = .ok (.getfield 13, 3) := by decide +kernel
theorem dX2_first_49 : decode cX2_first 49 = .ok (.iload 4, 2) := by decide +kernel
theorem dX2_first_51 : decode cX2_first 51 = .ok (.iaload, 1) := by decide +kernel
theorem dX2_first_52 : decode cX2_first 52 = .ok (.i2l, 1) := by decide +kernel
theorem dX2_first_53 : decode cX2_first 53 = .ok (.lcmp, 1) := by decide +kernel
theorem dX2_first_54 : decode cX2_first 54 = .ok (.ifCond .gt 17, 3) := by decide +kernel
theorem dX2_first_57 : decode cX2_first 57 = .ok (.aload_n 0, 1) := by decide +kernel
theorem dX2_first_58 : decode cX2_first 58 = .ok (.getfield 22, 3) := by decide +kernel
theorem dX2_first_61 : decode cX2_first 61 = .ok (.iload 4, 2) := by decide +kernel
theorem dX2_first_63 : decode cX2_first 63 = .ok (.iaload, 1) := by decide +kernel
theorem dX2_first_64 : decode cX2_first 64 = .ok (.ifCond .ne 7, 3) := by decide +kernel
theorem dX2_first_67 : decode cX2_first 67 = .ok (.iconst 1, 1) := by decide +kernel
theorem dX2_first_68 : decode cX2_first 68 = .ok (.goto 4, 3) := by decide +kernel
theorem dX2_first_71 : decode cX2_first 71 = .ok (.iconst 0, 1) := by decide +kernel
theorem dX2_first_72 : decode cX2_first 72 = .ok (.istore 5, 2) := by decide +kernel
theorem dX2_first_74 : decode cX2_first 74 = .ok (.iload 5, 2) := by decide +kernel
theorem dX2_first_76 : decode cX2_first 76 = .ok (.ifCond .eq 17, 3) := by decide +kernel
theorem dX2_first_79 : decode cX2_first 79 = .ok (.aload_n 0, 1) := by decide +kernel
theorem dX2_first_80 : decode cX2_first 80 = .ok (.iload 4, 2) := by decide +kernel
theorem dX2_first_82 : decode cX2_first 82 = .ok (.iload_n 2, 1) := by decide +kernel
theorem dX2_first_83 : decode cX2_first 83 = .ok (.invokevirtual 91, 3) := by decide +kernel
theorem dX2_first_86 : decode cX2_first 86 = .ok (.iload_n 3, 1) := by decide +kernel
theorem dX2_first_87 : decode cX2_first 87 = .ok (.invokestatic 94, 3) := by decide +kernel
theorem dX2_first_90 : decode cX2_first 90 = .ok (.goto 4, 3) := by decide +kernel
theorem dX2_first_93 : decode cX2_first 93 = .ok (.iconst 0, 1) := by decide +kernel
theorem dX2_first_94 : decode cX2_first 94 = .ok (.istore 6, 2) := by decide +kernel
theorem dX2_first_96 : decode cX2_first 96 = .ok (.aload_n 0, 1) := by decide +kernel
theorem dX2_first_97 : decode cX2_first 97 = .ok (.iload 4, 2) := by decide +kernel
theorem dX2_first_99 : decode cX2_first 99 = .ok (.invokevirtual 72, 3) := by decide +kernel
theorem dX2_first_102 : decode cX2_first 102 = .ok (.iload 5, 2) := by decide +kernel
theorem dX2_first_104 : decode cX2_first 104 = .ok (.ifCond .eq 6, 3) := by decide +kernel
theorem dX2_first_107 : decode cX2_first 107 = .ok (.iload 6, 2) := by decide +kernel
theorem dX2_first_109 : decode cX2_first 109 = .ok (.ireturn, 1) := by decide +kernel
theorem dX2_first_110 : decode cX2_first 110 = .ok (.iinc 3 1, 3) := by decide +kernel
theorem dX2_first_113 : decode cX2_first 113 = .ok (.goto (-111), 3) := by decide +kernel
theorem dX2_first_116 : decode cX2_first 116 = .ok (.iconst 0, 1) := by decide +kernel
theorem dX2_first_117 : decode cX2_first 117 = .ok (.ireturn, 1) := by decide +kernel
theorem dX2_round_0 : decode cX2_round 0 = .ok (.iconst 0, 1) := by decide +kernel
theorem dX2_round_1 : decode cX2_round 1 = .ok (.istore_n 3, 1) := by decide +kernel
theorem dX2_round_2 : decode cX2_round 2 = .ok (.iconst 0, 1) := by decide +kernel
theorem dX2_round_3 : decode cX2_round 3 = .ok (.istore 4, 2) := by decide +kernel
theorem dX2_round_5 : decode cX2_round 5 = .ok (.iload 4, 2) := by decide +kernel
theorem dX2_round_7 : decode cX2_round 7 = .ok (.bipush 10, 2) := by decide +kernel
theorem dX2_round_9 : decode cX2_round 9 = .ok (.if_icmp .ge 20, 3) := by decide +kernel
theorem dX2_round_12 : decode cX2_round 12 = .ok (.iload_n 3, 1) := by decide +kernel
theorem dX2_round_13 : decode cX2_round 13 = .ok (.ifCond .ne 16, 3) := by decide +kernel
theorem dX2_round_16 : decode cX2_round 16 = .ok (.aload_n 0, 1) := by decide +kernel
theorem dX2_round_17 : decode cX2_round 17 = .ok (.iload_n 1, 1) := by decide +kernel
theorem dX2_round_18 : decode cX2_round 18 = .ok (.iload_n 2, 1) := by decide +kernel
theorem dX2_round_19 : decode cX2_round 19 = .ok (.invokevirtual 97, 3) := by decide +kernel
theorem dX2_round_22 : decode cX2_round 22 = .ok (.istore_n 3, 1) := by decide +kernel
theorem dX2_round_23 : decode cX2_round 23 = .ok (.iinc 4 1, 3) := by decide +kernel
theorem dX2_round_26 : decode cX2_round 26 = .ok (.goto (-21), 3) := by decide +kernel
theorem dX2_round_29 : decode cX2_round 29 = .ok (.iload_n 3, 1) := by decide +kernel
theorem dX2_round_30 : decode cX2_round 30 = .ok (.ireturn, 1) := by decide +kernel
theorem dX2_run_0 : decode cX2_run 0 = .ok (.iload_n 1, 1) := by decide +kernel
theorem dX2_run_1 : decode cX2_run 1 = .ok (.invokestatic 59, 3) := by decide +kernel
theorem dX2_run_4 : decode cX2_run 4 = .ok (.ifCond .eq 23, 3) := by decide +kernel
theorem dX2_run_7 : decode cX2_run 7 = .ok (.iload_n 2, 1) := by decide +kernel
theorem dX2_run_8 : decode cX2_run 8 = .ok (.iconst 0, 1) := by decide +kernel
theorem dX2_run_9 : decode cX2_run 9 = .ok (.iconst 4, 1) := by decide +kernel
theorem dX2_run_10 : decode cX2_run 10 = .ok (.invokestatic 46, 3) := by decide +kernel
theorem dX2_run_13 : decode cX2_run 13 = .ok (.ifCond .eq 14, 3) := by decide +kernel
theorem dX2_run_16 : decode cX2_run 16 = .ok (.iload_n 3, 1) := by decide +kernel
theorem dX2_run_17 : decode cX2_run 17 = .ok (.iconst 0, 1) := by decide +kernel
theorem dX2_run_18 : decode cX2_run 18 = .ok (.sipush 1000, 3) := by decide +kernel
theorem dX2_run_21 : decode cX2_run 21 = .ok (.invokestatic 46, 3) := by decide +kernel
theorem dX2_run_24 : decode cX2_run 24 = .ok (.ifCond .ne 5, 3) := by decide +kernel
theorem dX2_run_27 : decode cX2_run 27 = .ok (.iconst (-1), 1) := by decide +kernel
theorem dX2_run_28 : decode cX2_run 28 = .ok (.ireturn, 1) := by decide +kernel
theorem dX2_run_29 : decode cX2_run 29 = .ok (.aload_n 0, 1) := by decide +kernel
theorem dX2_run_30 : decode cX2_run 30 = .ok (.dup, 1) := by decide +kernel
theorem dX2_run_31 : decode cX2_run 31 = .ok (.getfield 100, 3) := by decide +kernel
theorem dX2_run_34 : decode cX2_run 34 = .ok (.iconst 1, 1) := by decide +kernel
theorem dX2_run_35 : decode cX2_run 35 = .ok (.iadd, 1) := by decide +kernel
theorem dX2_run_36 : decode cX2_run 36 = .ok (.putfield 100, 3) := by decide +kernel
theorem dX2_run_39 : decode cX2_run 39 = .ok (.aload_n 0, 1) := by decide +kernel
theorem dX2_run_40 : decode cX2_run 40 = .ok (.iconst 0, 1) := by decide +kernel
theorem dX2_run_41 : decode cX2_run 41 = .ok (.putfield 62, 3) := by decide +kernel
theorem dX2_run_44 : decode cX2_run 44 = .ok (.aload_n 0, 1) := by decide +kernel
theorem dX2_run_45 : decode cX2_run 45 = .ok (.iconst 0, 1) := by decide +kernel
theorem dX2_run_46 : decode cX2_run 46 = .ok (.putfield 85, 3) := by decide +kernel
theorem dX2_run_49 : decode cX2_run 49 = .ok (.iload_n 2, 1) := by decide +kernel
theorem dX2_run_50 : decode cX2_run 50 = .ok (.ifCond .ne 12, 3) := by decide +kernel
theorem dX2_run_53 : decode cX2_run 53 = .ok (.aload_n 0, 1) := by decide +kernel
theorem dX2_run_54 : decode cX2_run 54 = .ok (.iload_n 1, 1) := by decide +kernel
theorem dX2_run_55 : decode cX2_run 55 = .ok (.iload_n 3, 1) := by decide +kernel
theorem dX2_run_56 : decode cX2_run 56 = .ok (.invokevirtual 97, 3) := by decide +kernel
theorem dX2_run_59 : decode cX2_run 59 = .ok (.goto 51, 3) := by decide +kernel
theorem dX2_run_62 : decode cX2_run 62 = .ok (.iload_n 2, 1) := by decide +kernel
theorem dX2_run_63 : decode cX2_run 63 = .ok (.iconst 1, 1) := by decide +kernel
theorem dX2_run_64 : decode cX2_run 64 = .ok (.if_icmp .ne 12, 3) := by decide +kernel
theorem dX2_run_67 : decode cX2_run 67 = .ok (.aload_n 0, 1) := by decide +kernel
theorem dX2_run_68 : decode cX2_run 68 = .ok (.iload_n 1, 1) := by decide +kernel
theorem dX2_run_69 : decode cX2_run 69 = .ok (.iload_n 3, 1) := by decide +kernel
theorem dX2_run_70 : decode cX2_run 70 = .ok (.invokevirtual 103, 3) := by decide +kernel
theorem dX2_run_73 : decode cX2_run 73 = .ok (.goto 37, 3) := by decide +kernel
theorem dX2_run_76 : decode cX2_run 76 = .ok (.iload_n 2, 1) := by decide +kernel
theorem dX2_run_77 : decode cX2_run 77 = .ok (.iconst 2, 1) := by decide +kernel
theorem dX2_run_78 : decode cX2_run 78 = .ok (.if_icmp .ne 12, 3) := by decide +kernel
theorem dX2_run_81 : decode cX2_run 81 = .ok (.aload_n 0, 1) := by decide +kernel
theorem dX2_run_82 : decode cX2_run 82 = .ok (.iload_n 1, 1) := by decide +kernel
theorem dX2_run_83 : decode cX2_run 83 = .ok (.iload_n 3, 1) := by decide +kernel
theorem dX2_run_84 : decode cX2_run 84 = .ok (.invokevirtual 106, 3) := by decide +kernel
theorem dX2_run_87 : decode cX2_run 87 = .ok (.goto 23, 3) := by decide +kernel
theorem dX2_run_90 : decode cX2_run 90 = .ok (.iload_n 2, 1) := by decide +kernel
theorem dX2_run_91 : decode cX2_run 91 = .ok (.iconst 3, 1) := by decide +kernel
theorem dX2_run_92 : decode cX2_run 92 = .ok (.if_icmp .ne 12, 3) := by decide +kernel
theorem dX2_run_95 : decode cX2_run 95 = .ok (.aload_n 0, 1) := by decide +kernel
theorem dX2_run_96 : decode cX2_run 96 = .ok (.iload_n 1, 1) := by decide +kernel
theorem dX2_run_97 : decode cX2_run 97 = .ok (.iload_n 3, 1) := by decide +kernel
theorem dX2_run_98 : decode cX2_run 98 = .ok (.invokevirtual 109, 3) := by decide +kernel
theorem dX2_run_101 : decode cX2_run 101 = .ok (.goto 9, 3) := by decide +kernel
theorem dX2_run_104 : decode cX2_run 104 = .ok (.aload_n 0, 1) := by decide +kernel
theorem dX2_run_105 : decode cX2_run 105 = .ok (.iload_n 1, 1) := by decide +kernel
theorem dX2_run_106 : decode cX2_run 106 = .ok (.iload_n 3, 1) := by decide +kernel
theorem dX2_run_107 : decode cX2_run 107 = .ok (.invokevirtual 112, 3) := by decide +kernel
theorem dX2_run_110 : decode cX2_run 110 = .ok (.istore 4, 2) := by decide +kernel
theorem dX2_run_112 : decode cX2_run 112 = .ok (.aload_n 0, 1) := by decide +kernel
theorem dX2_run_113 : decode cX2_run 113 = .ok (.dup, 1) := by decide +kernel
theorem dX2_run_114 : decode cX2_run 114 = .ok (.getfield 115, 3) := by decide +kernel
theorem dX2_run_117 : decode cX2_run 117 = .ok (.iload 4, 2) := by decide +kernel
theorem dX2_run_119 : decode cX2_run 119 = .ok (.bipush (-11), 2) := by decide +kernel
theorem dX2_run_121 : decode cX2_run 121 = .ok (.if_icmp .ne 7, 3) := by decide +kernel
theorem dX2_run_124 : decode cX2_run 124 = .ok (.iconst 1, 1) := by decide +kernel
theorem dX2_run_125 : decode cX2_run 125 = .ok (.goto 4, 3) := by decide +kernel
theorem dX2_run_128 : decode cX2_run 128 = .ok (.iconst 0, 1) := by decide +kernel
theorem dX2_run_129 : decode cX2_run 129 = .ok (.iadd, 1) := by decide +kernel
theorem dX2_run_130 : decode cX2_run 130 = .ok (.putfield 115, 3) := by decide +kernel
theorem dX2_run_133 : decode cX2_run 133 = .ok (.aload_n 0, 1) := by decide +kernel
theorem dX2_run_134 : decode cX2_run 134 = .ok (.dup, 1) := by decide +kernel
theorem dX2_run_135 : decode cX2_run 135 = .ok (.getfield 118, 3) := by decide +kernel
theorem dX2_run_138 : decode cX2_run 138 = .ok (.iload 4, 2) := by decide +kernel
theorem dX2_run_140 : decode cX2_run 140 = .ok (.bipush (-30), 2) := by decide +kernel
theorem dX2_run_142 : decode cX2_run 142 = .ok (.if_icmp .ne 7, 3) := by decide +kernel
theorem dX2_run_145 : decode cX2_run 145 = .ok (.iconst 1, 1) := by decide +kernel
theorem dX2_run_146 : decode cX2_run 146 = .ok (.goto 4, 3) := by decide +kernel
theorem dX2_run_149 : decode cX2_run 149 = .ok (.iconst 0, 1) := by decide +kernel
theorem dX2_run_150 : decode cX2_run 150 = .ok (.iadd, 1) := by decide +kernel
theorem dX2_run_151 : decode cX2_run 151 = .ok (.putfield 118, 3) := by decide +kernel
theorem dX2_run_154 : decode cX2_run 154 = .ok (.iload 4, 2) := by decide +kernel
theorem dX2_run_156 : decode cX2_run 156 = .ok (.ifCond .lt 10, 3) := by decide +kernel
theorem dX2_run_159 : decode cX2_run 159 = .ok (.aload_n 0, 1) := by decide +kernel
theorem dX2_run_160 : decode cX2_run 160 = .ok (.getfield 85, 3) := by decide +kernel
theorem dX2_run_163 : decode cX2_run 163 = .ok (.goto 5, 3) := by decide +kernel
theorem dX2_run_166 : decode cX2_run 166 = .ok (.iload 4, 2) := by decide +kernel
theorem dX2_run_168 : decode cX2_run 168 = .ok (.ireturn, 1) := by decide +kernel
theorem dX2_shunt_0 : decode cX2_shunt 0 = .ok (.iload_n 1, 1) := by decide +kernel
theorem dX2_shunt_1 : decode cX2_shunt 1 = .ok (.invokestatic 50, 3) := by decide +kernel
theorem dX2_shunt_4 : decode cX2_shunt 4 = .ok (.ifCond .eq 21, 3) := by decide +kernel
theorem dX2_shunt_7 : decode cX2_shunt 7 = .ok (.iload_n 2, 1) := by decide +kernel
theorem dX2_shunt_8 : decode cX2_shunt 8 = .ok (.invokestatic 50, 3) := by decide +kernel
theorem dX2_shunt_11 : decode cX2_shunt 11 = .ok (.ifCond .eq 14, 3) := by decide +kernel
theorem dX2_shunt_14 : decode cX2_shunt 14 = .ok (.iload_n 3, 1) := by decide +kernel
theorem dX2_shunt_15 : decode cX2_shunt 15 = .ok (.iconst 0, 1) := by decide +kernel
theorem dX2_shunt_16 : decode cX2_shunt 16 = .ok (.sipush 1000, 3) := by decide +kernel
theorem dX2_shunt_19 : decode cX2_shunt 19 = .ok (.invokestatic 46, 3) := by decide +kernel
theorem dX2_shunt_22 : decode cX2_shunt 22 = .ok (.ifCond .ne 5, 3) := by decide +kernel
theorem dX2_shunt_25 : decode cX2_shunt 25 = .ok (.iconst (-1), 1) := by decide +kernel
theorem dX2_shunt_26 : decode cX2_shunt 26 = .ok (.ireturn, 1) := by decide +kernel
theorem dX2_shunt_27 : decode cX2_shunt 27 = .ok (.aload_n 0, 1) := by decide +kernel
theorem dX2_shunt_28 : decode cX2_shunt 28 = .ok (.iconst 0, 1) := by decide +kernel
theorem dX2_shunt_29 : decode cX2_shunt 29 = .ok (.putfield 62, 3) := by decide +kernel
theorem dX2_shunt_32 : decode cX2_shunt 32 = .ok (.aload_n 0, 1) := by decide +kernel
theorem dX2_shunt_33 : decode cX2_shunt 33 = .ok (.getfield 34, 3) := by decide +kernel
theorem dX2_shunt_36 : decode cX2_shunt 36 = .ok (.iload_n 1, 1) := by decide +kernel
theorem dX2_shunt_37 : decode cX2_shunt 37 = .ok (.iaload, 1) := by decide +kernel
theorem dX2_shunt_38 : decode cX2_shunt 38 = .ok (.istore 4, 2) := by decide +kernel
theorem dX2_shunt_40 : decode cX2_shunt 40 = .ok (.aload_n 0, 1) := by decide +kernel
theorem dX2_shunt_41 : decode cX2_shunt 41 = .ok (.getfield 34, 3) := by decide +kernel
theorem dX2_shunt_44 : decode cX2_shunt 44 = .ok (.iload_n 2, 1) := by decide +kernel
theorem dX2_shunt_45 : decode cX2_shunt 45 = .ok (.iaload, 1) := by decide +kernel
theorem dX2_shunt_46 : decode cX2_shunt 46 = .ok (.istore 5, 2) := by decide +kernel
theorem dX2_shunt_48 : decode cX2_shunt 48 = .ok (.iload 4, 2) := by decide +kernel
theorem dX2_shunt_50 : decode cX2_shunt 50 = .ok (.ifCond .ge 6, 3) := by decide +kernel
theorem dX2_shunt_53 : decode cX2_shunt 53 = .ok (.bipush (-11), 2) := by decide +kernel
theorem dX2_shunt_55 : decode cX2_shunt 55 = .ok (.ireturn, 1) := by decide +kernel
theorem dX2_shunt_56 : decode cX2_shunt 56 = .ok (.aload_n 0, 1) := by decide +kernel
theorem dX2_shunt_57 : decode cX2_shunt 57 = .ok (.iload 4, 2) := by decide +kernel
theorem dX2_shunt_59 : decode cX2_shunt 59 = .ok (.invokevirtual 69, 3) := by decide +kernel
theorem dX2_shunt_62 : decode cX2_shunt 62 = .ok (.bipush (-11), 2) := by decide +kernel
theorem dX2_shunt_64 : decode cX2_shunt 64 = .ok (.istore 6, 2) := by decide +kernel
theorem dX2_shunt_66 : decode cX2_shunt 66 = .ok (.iload 5, 2) := by decide +kernel
theorem dX2_shunt_68 : decode cX2_shunt 68 = .ok (.ifCond .lt 105, 3) := by decide +kernel
theorem dX2_shunt_71 : decode cX2_shunt 71 = .ok (.aload_n 0, 1) := by decide +kernel
theorem dX2_shunt_72 : decode cX2_shunt 72 = .ok (.iload 5, 2) := by decide +kernel
theorem dX2_shunt_74 : decode cX2_shunt 74 = .ok (.invokevirtual 69, 3) := by decide +kernel
theorem dX2_shunt_77 : decode cX2_shunt 77 = .ok (.aload_n 0, 1) := by decide +kernel
theorem dX2_shunt_78 : decode cX2_shunt 78 = .ok (.getfield 19, 3) := by decide +kernel
theorem dX2_shunt_81 : decode cX2_shunt 81 = .ok (.iload 4, 2) := by decide +kernel
theorem dX2_shunt_83 : decode cX2_shunt 83 = .ok (.iaload, 1) := by decide +kernel
theorem dX2_shunt_84 : decode cX2_shunt 84 = .ok (.iload_n 3, 1) := by decide +kernel
theorem dX2_shunt_85 : decode cX2_shunt 85 = .ok (.if_icmp .lt 37, 3) := by decide +kernel
theorem dX2_shunt_88 : decode cX2_shunt 88 = .ok (.iload 4, 2) := by decide +kernel
theorem dX2_shunt_90 : decode cX2_shunt 90 = .ok (.iload 5, 2) := by decide +kernel
theorem dX2_shunt_92 : decode cX2_shunt 92 = .ok (.if_icmp .eq 26, 3) := by decide +kernel
theorem dX2_shunt_95 : decode cX2_shunt 95 = .ok (.aload_n 0, 1) := by decide +kernel
theorem dX2_shunt_96 : decode cX2_shunt 96 = .ok (.getfield 19, 3) := by decide +kernel
theorem dX2_shunt_99 : decode cX2_shunt 99 = .ok (.iload 5, 2) := by decide +kernel
theorem dX2_shunt_101 : decode cX2_shunt 101 = .ok (.iaload, 1) := by decide +kernel
theorem dX2_shunt_102 : decode cX2_shunt 102 = .ok (.i2l, 1) := by decide +kernel
theorem dX2_shunt_103 : decode cX2_shunt 103 = .ok (.iload_n 3, 1) := by decide +kernel
theorem dX2_shunt_104 : decode cX2_shunt 104 = .ok (.i2l, 1) := by decide +kernel
theorem dX2_shunt_105 : decode cX2_shunt 105 = .ok (.ladd, 1) := by decide +kernel
theorem dX2_shunt_106 : decode cX2_shunt 106 = .ok (.aload_n 0, 1) := by decide +kernel
theorem dX2_shunt_107 : decode cX2_shunt 107 = .ok (.getfield 13, 3) := by decide +kernel
theorem dX2_shunt_110 : decode cX2_shunt 110 = .ok (.iload 5, 2) := by decide +kernel
theorem dX2_shunt_112 : decode cX2_shunt 112 = .ok (.iaload, 1) := by decide +kernel
theorem dX2_shunt_113 : decode cX2_shunt 113 = .ok (.i2l, 1) := by decide +kernel
theorem dX2_shunt_114 : decode cX2_shunt 114 = .ok (.lcmp, 1) := by decide +kernel
theorem dX2_shunt_115 : decode cX2_shunt 115 = .ok (.ifCond .gt 7, 3) := by decide +kernel
theorem dX2_shunt_118 : decode cX2_shunt 118 = .ok (.iconst 1, 1) := by decide +kernel
theorem dX2_shunt_119 : decode cX2_shunt 119 = .ok (.goto 4, 3) := by decide +kernel
theorem dX2_shunt_122 : decode cX2_shunt 122 = .ok (.iconst 0, 1) := by decide +kernel
theorem dX2_shunt_123 : decode cX2_shunt 123 = .ok (.istore 6, 2) := by decide +kernel
theorem dX2_shunt_125 : decode cX2_shunt 125 = .ok (.aload_n 0, 1) := by decide +kernel
theorem dX2_shunt_126 : decode cX2_shunt 126 = .ok (.getfield 19, 3) := by decide +kernel
theorem dX2_shunt_129 : decode cX2_shunt 129 = .ok (.iload 4, 2) := by decide +kernel
theorem dX2_shunt_131 : decode cX2_shunt 131 = .ok (.dup2, 1) := by decide +kernel
theorem dX2_shunt_132 : decode cX2_shunt 132 = .ok (.iaload, 1) := by decide +kernel
theorem dX2_shunt_133 : decode cX2_shunt 133 = .ok (.iload 6, 2) := by decide +kernel
theorem dX2_shunt_135 : decode cX2_shunt 135 = .ok (.iconst 1, 1) := by decide +kernel
theorem dX2_shunt_136 : decode cX2_shunt 136 = .ok (.if_icmp .ne 7, 3) := by decide +kernel
theorem dX2_shunt_139 : decode cX2_shunt 139 = .ok (.iload_n 3, 1) := by decide +kernel
theorem dX2_shunt_140 : decode cX2_shunt 140 = .ok (.goto 4, 3) := by decide +kernel
theorem dX2_shunt_143 : decode cX2_shunt 143 = .ok (.iconst 0, 1) := by decide +kernel
theorem dX2_shunt_144 : decode cX2_shunt 144 = .ok (.isub, 1) := by decide +kernel
theorem dX2_shunt_145 : decode cX2_shunt 145 = .ok (.iastore, 1) := by decide +kernel
theorem dX2_shunt_146 : decode cX2_shunt 146 = .ok (.aload_n 0, 1) := by decide +kernel
theorem dX2_shunt_147 : decode cX2_shunt 147 = .ok (.getfield 19, 3) := by decide +kernel
theorem dX2_shunt_150 : decode cX2_shunt 150 = .ok (.iload 5, 2) := by decide +kernel
theorem dX2_shunt_152 : decode cX2_shunt 152 = .ok (.dup2, 1) := by decide +kernel
theorem dX2_shunt_153 : decode cX2_shunt 153 = .ok (.iaload, 1) := by decide +kernel
theorem dX2_shunt_154 : decode cX2_shunt 154 = .ok (.iload 6, 2) := by decide +kernel
theorem dX2_shunt_156 : decode cX2_shunt 156 = .ok (.iconst 1, 1) := by decide +kernel
theorem dX2_shunt_157 : decode cX2_shunt 157 = .ok (.if_icmp .ne 7, 3) := by decide +kernel
theorem dX2_shunt_160 : decode cX2_shunt 160 = .ok (.iload_n 3, 1) := by decide +kernel
theorem dX2_shunt_161 : decode cX2_shunt 161 = .ok (.goto 4, 3) := by decide +kernel
theorem dX2_shunt_164 : decode cX2_shunt 164 = .ok (.iconst 0, 1) := by decide +kernel
theorem dX2_shunt_165 : decode cX2_shunt 165 = .ok (.iadd, 1) := by decide +kernel
theorem dX2_shunt_166 : decode cX2_shunt 166 = .ok (.iastore, 1) := by decide +kernel
theorem dX2_shunt_167 : decode cX2_shunt 167 = .ok (.aload_n 0, 1) := by decide +kernel
theorem dX2_shunt_168 : decode cX2_shunt 168 = .ok (.iload 5, 2) := by decide +kernel
theorem dX2_shunt_170 : decode cX2_shunt 170 = .ok (.invokevirtual 72, 3) := by decide +kernel
theorem dX2_shunt_173 : decode cX2_shunt 173 = .ok (.aload_n 0, 1) := by decide +kernel
theorem dX2_shunt_174 : decode cX2_shunt 174 = .ok (.iload 4, 2) := by decide +kernel
theorem dX2_shunt_176 : decode cX2_shunt 176 = .ok (.invokevirtual 72, 3) := by decide +kernel
theorem dX2_shunt_179 : decode cX2_shunt 179 = .ok (.iload 6, 2) := by decide +kernel
theorem dX2_shunt_181 : decode cX2_shunt 181 = .ok (.ireturn, 1) := by decide +kernel
theorem dX2_passed_0 : decode cX2_passed 0 = .ok (.aload_n 0, 1) := by decide +kernel
theorem dX2_passed_1 : decode cX2_passed 1 = .ok (.getfield 85, 3) := by decide +kernel
theorem dX2_passed_4 : decode cX2_passed 4 = .ok (.ireturn, 1) := by decide +kernel
theorem dX2_trace_0 : decode cX2_trace 0 = .ok (.iload_n 1, 1) := by decide +kernel
theorem dX2_trace_1 : decode cX2_trace 1 = .ok (.iconst (-1), 1) := by decide +kernel
theorem dX2_trace_2 : decode cX2_trace 2 = .ok (.if_icmp .ne 10, 3) := by decide +kernel
theorem dX2_trace_5 : decode cX2_trace 5 = .ok (.aload_n 0, 1) := by decide +kernel
theorem dX2_trace_6 : decode cX2_trace 6 = .ok (.getfield 62, 3) := by decide +kernel
theorem dX2_trace_9 : decode cX2_trace 9 = .ok (.goto 27, 3) := by decide +kernel
theorem dX2_trace_12 : decode cX2_trace 12 = .ok (.iload_n 1, 1) := by decide +kernel
theorem dX2_trace_13 : decode cX2_trace 13 = .ok (.iconst 0, 1) := by decide +kernel
theorem dX2_trace_14 : decode cX2_trace 14 = .ok (.aload_n 0, 1) := by decide +kernel
theorem dX2_trace_15 : decode cX2_trace 15 = .ok (.getfield 62, 3) := by decide +kernel
theorem dX2_trace_18 : decode cX2_trace 18 = .ok (.iconst 1, 1) := by decide +kernel
theorem dX2_trace_19 : decode cX2_trace 19 = .ok (.isub, 1) := by decide +kernel
theorem dX2_trace_20 : decode cX2_trace 20 = .ok (.invokestatic 46, 3) := by decide +kernel
theorem dX2_trace_23 : decode cX2_trace 23 = .ok (.ifCond .eq 12, 3) := by decide +kernel
theorem dX2_trace_26 : decode cX2_trace 26 = .ok (.aload_n 0, 1) := by decide +kernel
theorem dX2_trace_27 : decode cX2_trace 27 = .ok (.getfield 43, 3) := by decide +kernel
theorem dX2_trace_30 : decode cX2_trace 30 = .ok (.iload_n 1, 1) := by decide +kernel
theorem dX2_trace_31 : decode cX2_trace 31 = .ok (.iaload, 1) := by decide +kernel
theorem dX2_trace_32 : decode cX2_trace 32 = .ok (.goto 4, 3) := by decide +kernel
theorem dX2_trace_35 : decode cX2_trace 35 = .ok (.iconst (-1), 1) := by decide +kernel
theorem dX2_trace_36 : decode cX2_trace 36 = .ok (.ireturn, 1) := by decide +kernel
theorem dX2_told_0 : decode cX2_told 0 = .ok (.iload_n 1, 1) := by decide +kernel
theorem dX2_told_1 : decode cX2_told 1 = .ok (.invokestatic 50, 3) := by decide +kernel
theorem dX2_told_4 : decode cX2_told 4 = .ok (.ifCond .eq 12, 3) := by decide +kernel
theorem dX2_told_7 : decode cX2_told 7 = .ok (.aload_n 0, 1) := by decide +kernel
theorem dX2_told_8 : decode cX2_told 8 = .ok (.getfield 34, 3) := by decide +kernel
theorem dX2_told_11 : decode cX2_told 11 = .ok (.iload_n 1, 1) := by decide +kernel
theorem dX2_told_12 : decode cX2_told 12 = .ok (.iaload, 1) := by decide +kernel
theorem dX2_told_13 : decode cX2_told 13 = .ok (.ifCond .ge 5, 3) := by decide +kernel
theorem dX2_told_16 : decode cX2_told 16 = .ok (.iconst (-1), 1) := by decide +kernel
theorem dX2_told_17 : decode cX2_told 17 = .ok (.ireturn, 1) := by decide +kernel
theorem dX2_told_18 : decode cX2_told 18 = .ok (.aload_n 0, 1) := by decide +kernel
theorem dX2_told_19 : decode cX2_told 19 = .ok (.getfield 34, 3) := by decide +kernel
theorem dX2_told_22 : decode cX2_told 22 = .ok (.iload_n 1, 1) := by decide +kernel
theorem dX2_told_23 : decode cX2_told 23 = .ok (.iaload, 1) := by decide +kernel
theorem dX2_told_24 : decode cX2_told 24 = .ok (.istore_n 3, 1) := by decide +kernel
theorem dX2_told_25 : decode cX2_told 25 = .ok (.iload_n 2, 1) := by decide +kernel
theorem dX2_told_26 : decode cX2_told 26 = .ok (.tableswitch 108 0 8 #[50, 52, 59, 66, 73, 80, 87, 94, 101], 50) := by decide +kernel
theorem dX2_told_76 : decode cX2_told 76 = .ok (.iload_n 3, 1) := by decide +kernel
theorem dX2_told_77 : decode cX2_told 77 = .ok (.ireturn, 1) := by decide +kernel
theorem dX2_told_78 : decode cX2_told 78 = .ok (.aload_n 0, 1) := by decide +kernel
theorem dX2_told_79 : decode cX2_told 79 = .ok (.getfield 7, 3) := by decide +kernel
theorem dX2_told_82 : decode cX2_told 82 = .ok (.iload_n 3, 1) := by decide +kernel
theorem dX2_told_83 : decode cX2_told 83 = .ok (.iaload, 1) := by decide +kernel
theorem dX2_told_84 : decode cX2_told 84 = .ok (.ireturn, 1) := by decide +kernel
theorem dX2_told_85 : decode cX2_told 85 = .ok (.aload_n 0, 1) := by decide +kernel
theorem dX2_told_86 : decode cX2_told 86 = .ok (.getfield 13, 3) := by decide +kernel
theorem dX2_told_89 : decode cX2_told 89 = .ok (.iload_n 3, 1) := by decide +kernel
theorem dX2_told_90 : decode cX2_told 90 = .ok (.iaload, 1) := by decide +kernel
theorem dX2_told_91 : decode cX2_told 91 = .ok (.ireturn, 1) := by decide +kernel
theorem dX2_told_92 : decode cX2_told 92 = .ok (.aload_n 0, 1) := by decide +kernel
theorem dX2_told_93 : decode cX2_told 93 = .ok (.getfield 16, 3) := by decide +kernel
theorem dX2_told_96 : decode cX2_told 96 = .ok (.iload_n 3, 1) := by decide +kernel
theorem dX2_told_97 : decode cX2_told 97 = .ok (.iaload, 1) := by decide +kernel
theorem dX2_told_98 : decode cX2_told 98 = .ok (.ireturn, 1) := by decide +kernel
theorem dX2_told_99 : decode cX2_told 99 = .ok (.aload_n 0, 1) := by decide +kernel
theorem dX2_told_100 : decode cX2_told 100 = .ok (.getfield 19, 3) := by decide +kernel
theorem dX2_told_103 : decode cX2_told 103 = .ok (.iload_n 3, 1) := by decide +kernel
theorem dX2_told_104 : decode cX2_told 104 = .ok (.iaload, 1) := by decide +kernel
theorem dX2_told_105 : decode cX2_told 105 = .ok (.ireturn, 1) := by decide +kernel
theorem dX2_told_106 : decode cX2_told 106 = .ok (.aload_n 0, 1) := by decide +kernel
theorem dX2_told_107 : decode cX2_told 107 = .ok (.getfield 22, 3) := by decide +kernel
theorem dX2_told_110 : decode cX2_told 110 = .ok (.iload_n 3, 1) := by decide +kernel
theorem dX2_told_111 : decode cX2_told 111 = .ok (.iaload, 1) := by decide +kernel
theorem dX2_told_112 : decode cX2_told 112 = .ok (.ireturn, 1) := by decide +kernel
theorem dX2_told_113 : decode cX2_told 113 = .ok (.aload_n 0, 1) := by decide +kernel
theorem dX2_told_114 : decode cX2_told 114 = .ok (.getfield 25, 3) := by decide +kernel
theorem dX2_told_117 : decode cX2_told 117 = .ok (.iload_n 3, 1) := by decide +kernel
theorem dX2_told_118 : decode cX2_told 118 = .ok (.iaload, 1) := by decide +kernel
theorem dX2_told_119 : decode cX2_told 119 = .ok (.ireturn, 1) := by decide +kernel
theorem dX2_told_120 : decode cX2_told 120 = .ok (.aload_n 0, 1) := by decide +kernel
theorem dX2_told_121 : decode cX2_told 121 = .ok (.getfield 28, 3) := by decide +kernel
theorem dX2_told_124 : decode cX2_told 124 = .ok (.iload_n 3, 1) := by decide +kernel
theorem dX2_told_125 : decode cX2_told 125 = .ok (.iaload, 1) := by decide +kernel
theorem dX2_told_126 : decode cX2_told 126 = .ok (.ireturn, 1) := by decide +kernel
theorem dX2_told_127 : decode cX2_told 127 = .ok (.aload_n 0, 1) := by decide +kernel
theorem dX2_told_128 : decode cX2_told 128 = .ok (.getfield 31, 3) := by decide +kernel
theorem dX2_told_131 : decode cX2_told 131 = .ok (.iload_n 3, 1) := by decide +kernel
theorem dX2_told_132 : decode cX2_told 132 = .ok (.iaload, 1) := by decide +kernel
theorem dX2_told_133 : decode cX2_told 133 = .ok (.ireturn, 1) := by decide +kernel
theorem dX2_told_134 : decode cX2_told 134 = .ok (.iconst (-1), 1) := by decide +kernel
theorem dX2_told_135 : decode cX2_told 135 = .ok (.ireturn, 1) := by decide +kernel
theorem dX2_count_0 : decode cX2_count 0 = .ok (.iload_n 1, 1) := by decide +kernel
theorem dX2_count_1 : decode cX2_count 1 = .ok (.iconst 5, 1) := by decide +kernel
theorem dX2_count_2 : decode cX2_count 2 = .ok (.bipush 10, 2) := by decide +kernel
theorem dX2_count_4 : decode cX2_count 4 = .ok (.invokestatic 46, 3) := by decide +kernel
theorem dX2_count_7 : decode cX2_count 7 = .ok (.ifCond .eq 12, 3) := by decide +kernel
theorem dX2_count_10 : decode cX2_count 10 = .ok (.aload_n 0, 1) := by decide +kernel
theorem dX2_count_11 : decode cX2_count 11 = .ok (.getfield 40, 3) := by decide +kernel
theorem dX2_count_14 : decode cX2_count 14 = .ok (.iload_n 1, 1) := by decide +kernel
theorem dX2_count_15 : decode cX2_count 15 = .ok (.iconst 5, 1) := by decide +kernel
theorem dX2_count_16 : decode cX2_count 16 = .ok (.isub, 1) := by decide +kernel
theorem dX2_count_17 : decode cX2_count 17 = .ok (.iaload, 1) := by decide +kernel
theorem dX2_count_18 : decode cX2_count 18 = .ok (.ireturn, 1) := by decide +kernel
theorem dX2_count_19 : decode cX2_count 19 = .ok (.iconst 0, 1) := by decide +kernel
theorem dX2_count_20 : decode cX2_count 20 = .ok (.istore_n 2, 1) := by decide +kernel
theorem dX2_count_21 : decode cX2_count 21 = .ok (.iconst 0, 1) := by decide +kernel
theorem dX2_count_22 : decode cX2_count 22 = .ok (.istore_n 3, 1) := by decide +kernel
theorem dX2_count_23 : decode cX2_count 23 = .ok (.iload_n 3, 1) := by decide +kernel
theorem dX2_count_24 : decode cX2_count 24 = .ok (.bipush 12, 2) := by decide +kernel
theorem dX2_count_26 : decode cX2_count 26 = .ok (.if_icmp .ge 26, 3) := by decide +kernel
theorem dX2_count_29 : decode cX2_count 29 = .ok (.iload_n 2, 1) := by decide +kernel
theorem dX2_count_30 : decode cX2_count 30 = .ok (.aload_n 0, 1) := by decide +kernel
theorem dX2_count_31 : decode cX2_count 31 = .ok (.getfield 34, 3) := by decide +kernel
theorem dX2_count_34 : decode cX2_count 34 = .ok (.iload_n 3, 1) := by decide +kernel
theorem dX2_count_35 : decode cX2_count 35 = .ok (.iaload, 1) := by decide +kernel
theorem dX2_count_36 : decode cX2_count 36 = .ok (.ifCond .ge 7, 3) := by decide +kernel
theorem dX2_count_39 : decode cX2_count 39 = .ok (.iconst 0, 1) := by decide +kernel
theorem dX2_count_40 : decode cX2_count 40 = .ok (.goto 4, 3) := by decide +kernel
theorem dX2_count_43 : decode cX2_count 43 = .ok (.iconst 1, 1) := by decide +kernel
theorem dX2_count_44 : decode cX2_count 44 = .ok (.iadd, 1) := by decide +kernel
theorem dX2_count_45 : decode cX2_count 45 = .ok (.istore_n 2, 1) := by decide +kernel
theorem dX2_count_46 : decode cX2_count 46 = .ok (.iinc 3 1, 3) := by decide +kernel
theorem dX2_count_49 : decode cX2_count 49 = .ok (.goto (-26), 3) := by decide +kernel
theorem dX2_count_52 : decode cX2_count 52 = .ok (.iload_n 1, 1) := by decide +kernel
theorem dX2_count_53 : decode cX2_count 53 = .ok (.ifCond .ne 10, 3) := by decide +kernel
theorem dX2_count_56 : decode cX2_count 56 = .ok (.aload_n 0, 1) := by decide +kernel
theorem dX2_count_57 : decode cX2_count 57 = .ok (.getfield 55, 3) := by decide +kernel
theorem dX2_count_60 : decode cX2_count 60 = .ok (.goto 49, 3) := by decide +kernel
theorem dX2_count_63 : decode cX2_count 63 = .ok (.iload_n 1, 1) := by decide +kernel
theorem dX2_count_64 : decode cX2_count 64 = .ok (.iconst 1, 1) := by decide +kernel
theorem dX2_count_65 : decode cX2_count 65 = .ok (.if_icmp .ne 7, 3) := by decide +kernel
theorem dX2_count_68 : decode cX2_count 68 = .ok (.iload_n 2, 1) := by decide +kernel
theorem dX2_count_69 : decode cX2_count 69 = .ok (.goto 40, 3) := by decide +kernel
theorem dX2_count_72 : decode cX2_count 72 = .ok (.iload_n 1, 1) := by decide +kernel
theorem dX2_count_73 : decode cX2_count 73 = .ok (.iconst 2, 1) := by decide +kernel
theorem dX2_count_74 : decode cX2_count 74 = .ok (.if_icmp .ne 10, 3) := by decide +kernel
theorem dX2_count_77 : decode cX2_count 77 = .ok (.aload_n 0, 1) := by decide +kernel
theorem dX2_count_78 : decode cX2_count 78 = .ok (.getfield 100, 3) := by decide +kernel
theorem dX2_count_81 : decode cX2_count 81 = .ok (.goto 28, 3) := by decide +kernel
theorem dX2_count_84 : decode cX2_count 84 = .ok (.iload_n 1, 1) := by decide +kernel
theorem dX2_count_85 : decode cX2_count 85 = .ok (.iconst 3, 1) := by decide +kernel
theorem dX2_count_86 : decode cX2_count 86 = .ok (.if_icmp .ne 10, 3) := by decide +kernel
theorem dX2_count_89 : decode cX2_count 89 = .ok (.aload_n 0, 1) := by decide +kernel
theorem dX2_count_90 : decode cX2_count 90 = .ok (.getfield 115, 3) := by decide +kernel
theorem dX2_count_93 : decode cX2_count 93 = .ok (.goto 16, 3) := by decide +kernel
theorem dX2_count_96 : decode cX2_count 96 = .ok (.iload_n 1, 1) := by decide +kernel
theorem dX2_count_97 : decode cX2_count 97 = .ok (.iconst 4, 1) := by decide +kernel
theorem dX2_count_98 : decode cX2_count 98 = .ok (.if_icmp .ne 10, 3) := by decide +kernel
theorem dX2_count_101 : decode cX2_count 101 = .ok (.aload_n 0, 1) := by decide +kernel
theorem dX2_count_102 : decode cX2_count 102 = .ok (.getfield 118, 3) := by decide +kernel
theorem dX2_count_105 : decode cX2_count 105 = .ok (.goto 4, 3) := by decide +kernel
theorem dX2_count_108 : decode cX2_count 108 = .ok (.iconst (-1), 1) := by decide +kernel
theorem dX2_count_109 : decode cX2_count 109 = .ok (.ireturn, 1) := by decide +kernel
theorem dL_law_0 : decode cL_law 0 = .ok (.new 7, 3) := by decide +kernel
theorem dL_law_3 : decode cL_law 3 = .ok (.dup, 1) := by decide +kernel
theorem dL_law_4 : decode cL_law 4 = .ok (.invokespecial 9, 3) := by decide +kernel
theorem dL_law_7 : decode cL_law 7 = .ok (.astore_n 1, 1) := by decide +kernel
theorem dL_law_8 : decode cL_law 8 = .ok (.new 10, 3) := by decide +kernel
theorem dL_law_11 : decode cL_law 11 = .ok (.dup, 1) := by decide +kernel
theorem dL_law_12 : decode cL_law 12 = .ok (.invokespecial 12, 3) := by decide +kernel
theorem dL_law_15 : decode cL_law 15 = .ok (.astore_n 2, 1) := by decide +kernel
theorem dL_law_16 : decode cL_law 16 = .ok (.iconst 0, 1) := by decide +kernel
theorem dL_law_17 : decode cL_law 17 = .ok (.istore_n 3, 1) := by decide +kernel
theorem dL_law_18 : decode cL_law 18 = .ok (.iload_n 3, 1) := by decide +kernel
theorem dL_law_19 : decode cL_law 19 = .ok (.aload_n 0, 1) := by decide +kernel
theorem dL_law_20 : decode cL_law 20 = .ok (.arraylength, 1) := by decide +kernel
theorem dL_law_21 : decode cL_law 21 = .ok (.iconst 5, 1) := by decide +kernel
theorem dL_law_22 : decode cL_law 22 = .ok (.isub, 1) := by decide +kernel
theorem dL_law_23 : decode cL_law 23 = .ok (.if_icmp .gt 455, 3) := by decide +kernel
theorem dL_law_26 : decode cL_law 26 = .ok (.aload_n 0, 1) := by decide +kernel
theorem dL_law_27 : decode cL_law 27 = .ok (.iload_n 3, 1) := by decide +kernel
theorem dL_law_28 : decode cL_law 28 = .ok (.iaload, 1) := by decide +kernel
theorem dL_law_29 : decode cL_law 29 = .ok (.bipush 15, 2) := by decide +kernel
theorem dL_law_31 : decode cL_law 31 = .ok (.iand, 1) := by decide +kernel
theorem dL_law_32 : decode cL_law 32 = .ok (.tableswitch 440 0 11 #[64, 117, 150, 173, 206, 239, 262, 305, 348, 361, 384, 417], 64) := by decide +kernel
theorem dL_law_96 : decode cL_law 96 = .ok (.aload_n 1, 1) := by decide +kernel
theorem dL_law_97 : decode cL_law 97 = .ok (.aload_n 0, 1) := by decide +kernel
theorem dL_law_98 : decode cL_law 98 = .ok (.iload_n 3, 1) := by decide +kernel
theorem dL_law_99 : decode cL_law 99 = .ok (.iconst 1, 1) := by decide +kernel
theorem dL_law_100 : decode cL_law 100 = .ok (.iadd, 1) := by decide +kernel
theorem dL_law_101 : decode cL_law 101 = .ok (.iaload, 1) := by decide +kernel
theorem dL_law_102 : decode cL_law 102 = .ok (.aload_n 0, 1) := by decide +kernel
theorem dL_law_103 : decode cL_law 103 = .ok (.iload_n 3, 1) := by decide +kernel
theorem dL_law_104 : decode cL_law 104 = .ok (.iconst 2, 1) := by decide +kernel
theorem dL_law_105 : decode cL_law 105 = .ok (.iadd, 1) := by decide +kernel
theorem dL_law_106 : decode cL_law 106 = .ok (.iaload, 1) := by decide +kernel
theorem dL_law_107 : decode cL_law 107 = .ok (.aload_n 0, 1) := by decide +kernel
theorem dL_law_108 : decode cL_law 108 = .ok (.iload_n 3, 1) := by decide +kernel
theorem dL_law_109 : decode cL_law 109 = .ok (.iconst 3, 1) := by decide +kernel
theorem dL_law_110 : decode cL_law 110 = .ok (.iadd, 1) := by decide +kernel
theorem dL_law_111 : decode cL_law 111 = .ok (.iaload, 1) := by decide +kernel
theorem dL_law_112 : decode cL_law 112 = .ok (.aload_n 0, 1) := by decide +kernel
theorem dL_law_113 : decode cL_law 113 = .ok (.iload_n 3, 1) := by decide +kernel
theorem dL_law_114 : decode cL_law 114 = .ok (.iconst 4, 1) := by decide +kernel
theorem dL_law_115 : decode cL_law 115 = .ok (.iadd, 1) := by decide +kernel
theorem dL_law_116 : decode cL_law 116 = .ok (.iaload, 1) := by decide +kernel
theorem dL_law_117 : decode cL_law 117 = .ok (.invokevirtual 13, 3) := by decide +kernel
theorem dL_law_120 : decode cL_law 120 = .ok (.aload_n 2, 1) := by decide +kernel
theorem dL_law_121 : decode cL_law 121 = .ok (.aload_n 0, 1) := by decide +kernel
theorem dL_law_122 : decode cL_law 122 = .ok (.iload_n 3, 1) := by decide +kernel
theorem dL_law_123 : decode cL_law 123 = .ok (.iconst 1, 1) := by decide +kernel
theorem dL_law_124 : decode cL_law 124 = .ok (.iadd, 1) := by decide +kernel
theorem dL_law_125 : decode cL_law 125 = .ok (.iaload, 1) := by decide +kernel
theorem dL_law_126 : decode cL_law 126 = .ok (.aload_n 0, 1) := by decide +kernel
theorem dL_law_127 : decode cL_law 127 = .ok (.iload_n 3, 1) := by decide +kernel
theorem dL_law_128 : decode cL_law 128 = .ok (.iconst 2, 1) := by decide +kernel
theorem dL_law_129 : decode cL_law 129 = .ok (.iadd, 1) := by decide +kernel
theorem dL_law_130 : decode cL_law 130 = .ok (.iaload, 1) := by decide +kernel
theorem dL_law_131 : decode cL_law 131 = .ok (.aload_n 0, 1) := by decide +kernel
theorem dL_law_132 : decode cL_law 132 = .ok (.iload_n 3, 1) := by decide +kernel
theorem dL_law_133 : decode cL_law 133 = .ok (.iconst 3, 1) := by decide +kernel
theorem dL_law_134 : decode cL_law 134 = .ok (.iadd, 1) := by decide +kernel
theorem dL_law_135 : decode cL_law 135 = .ok (.iaload, 1) := by decide +kernel
theorem dL_law_136 : decode cL_law 136 = .ok (.aload_n 0, 1) := by decide +kernel
theorem dL_law_137 : decode cL_law 137 = .ok (.iload_n 3, 1) := by decide +kernel
theorem dL_law_138 : decode cL_law 138 = .ok (.iconst 4, 1) := by decide +kernel
theorem dL_law_139 : decode cL_law 139 = .ok (.iadd, 1) := by decide +kernel
theorem dL_law_140 : decode cL_law 140 = .ok (.iaload, 1) := by decide +kernel
theorem dL_law_141 : decode cL_law 141 = .ok (.invokevirtual 17, 3) := by decide +kernel
theorem dL_law_144 : decode cL_law 144 = .ok (.if_icmp .eq 328, 3) := by decide +kernel
theorem dL_law_147 : decode cL_law 147 = .ok (.iconst 0, 1) := by decide +kernel
theorem dL_law_148 : decode cL_law 148 = .ok (.ireturn, 1) := by decide +kernel
theorem dL_law_149 : decode cL_law 149 = .ok (.aload_n 1, 1) := by decide +kernel
theorem dL_law_150 : decode cL_law 150 = .ok (.aload_n 0, 1) := by decide +kernel
theorem dL_law_151 : decode cL_law 151 = .ok (.iload_n 3, 1) := by decide +kernel
theorem dL_law_152 : decode cL_law 152 = .ok (.iconst 1, 1) := by decide +kernel
theorem dL_law_153 : decode cL_law 153 = .ok (.iadd, 1) := by decide +kernel
theorem dL_law_154 : decode cL_law 154 = .ok (.iaload, 1) := by decide +kernel
theorem dL_law_155 : decode cL_law 155 = .ok (.aload_n 0, 1) := by decide +kernel
theorem dL_law_156 : decode cL_law 156 = .ok (.iload_n 3, 1) := by decide +kernel
theorem dL_law_157 : decode cL_law 157 = .ok (.iconst 2, 1) := by decide +kernel
theorem dL_law_158 : decode cL_law 158 = .ok (.iadd, 1) := by decide +kernel
theorem dL_law_159 : decode cL_law 159 = .ok (.iaload, 1) := by decide +kernel
theorem dL_law_160 : decode cL_law 160 = .ok (.invokevirtual 18, 3) := by decide +kernel
theorem dL_law_163 : decode cL_law 163 = .ok (.aload_n 2, 1) := by decide +kernel
theorem dL_law_164 : decode cL_law 164 = .ok (.aload_n 0, 1) := by decide +kernel
theorem dL_law_165 : decode cL_law 165 = .ok (.iload_n 3, 1) := by decide +kernel
theorem dL_law_166 : decode cL_law 166 = .ok (.iconst 1, 1) := by decide +kernel
theorem dL_law_167 : decode cL_law 167 = .ok (.iadd, 1) := by decide +kernel
theorem dL_law_168 : decode cL_law 168 = .ok (.iaload, 1) := by decide +kernel
theorem dL_law_169 : decode cL_law 169 = .ok (.aload_n 0, 1) := by decide +kernel
theorem dL_law_170 : decode cL_law 170 = .ok (.iload_n 3, 1) := by decide +kernel
theorem dL_law_171 : decode cL_law 171 = .ok (.iconst 2, 1) := by decide +kernel
theorem dL_law_172 : decode cL_law 172 = .ok (.iadd, 1) := by decide +kernel
theorem dL_law_173 : decode cL_law 173 = .ok (.iaload, 1) := by decide +kernel
theorem dL_law_174 : decode cL_law 174 = .ok (.invokevirtual 22, 3) := by decide +kernel
theorem dL_law_177 : decode cL_law 177 = .ok (.if_icmp .eq 295, 3) := by decide +kernel
theorem dL_law_180 : decode cL_law 180 = .ok (.iconst 0, 1) := by decide +kernel
theorem dL_law_181 : decode cL_law 181 = .ok (.ireturn, 1) := by decide +kernel
theorem dL_law_182 : decode cL_law 182 = .ok (.aload_n 1, 1) := by decide +kernel
theorem dL_law_183 : decode cL_law 183 = .ok (.aload_n 0, 1) := by decide +kernel
theorem dL_law_184 : decode cL_law 184 = .ok (.iload_n 3, 1) := by decide +kernel
theorem dL_law_185 : decode cL_law 185 = .ok (.iconst 1, 1) := by decide +kernel
theorem dL_law_186 : decode cL_law 186 = .ok (.iadd, 1) := by decide +kernel
theorem dL_law_187 : decode cL_law 187 = .ok (.iaload, 1) := by decide +kernel
theorem dL_law_188 : decode cL_law 188 = .ok (.invokevirtual 23, 3) := by decide +kernel
theorem dL_law_191 : decode cL_law 191 = .ok (.aload_n 2, 1) := by decide +kernel
theorem dL_law_192 : decode cL_law 192 = .ok (.aload_n 0, 1) := by decide +kernel
theorem dL_law_193 : decode cL_law 193 = .ok (.iload_n 3, 1) := by decide +kernel
theorem dL_law_194 : decode cL_law 194 = .ok (.iconst 1, 1) := by decide +kernel
theorem dL_law_195 : decode cL_law 195 = .ok (.iadd, 1) := by decide +kernel
theorem dL_law_196 : decode cL_law 196 = .ok (.iaload, 1) := by decide +kernel
theorem dL_law_197 : decode cL_law 197 = .ok (.invokevirtual 27, 3) := by decide +kernel
theorem dL_law_200 : decode cL_law 200 = .ok (.if_icmp .eq 272, 3) := by decide +kernel
theorem dL_law_203 : decode cL_law 203 = .ok (.iconst 0, 1) := by decide +kernel
theorem dL_law_204 : decode cL_law 204 = .ok (.ireturn, 1) := by decide +kernel
theorem dL_law_205 : decode cL_law 205 = .ok (.aload_n 1, 1) := by decide +kernel
theorem dL_law_206 : decode cL_law 206 = .ok (.aload_n 0, 1) := by decide +kernel
theorem dL_law_207 : decode cL_law 207 = .ok (.iload_n 3, 1) := by decide +kernel
theorem dL_law_208 : decode cL_law 208 = .ok (.iconst 1, 1) := by decide +kernel
theorem dL_law_209 : decode cL_law 209 = .ok (.iadd, 1) := by decide +kernel
theorem dL_law_210 : decode cL_law 210 = .ok (.iaload, 1) := by decide +kernel
theorem dL_law_211 : decode cL_law 211 = .ok (.aload_n 0, 1) := by decide +kernel
theorem dL_law_212 : decode cL_law 212 = .ok (.iload_n 3, 1) := by decide +kernel
theorem dL_law_213 : decode cL_law 213 = .ok (.iconst 2, 1) := by decide +kernel
theorem dL_law_214 : decode cL_law 214 = .ok (.iadd, 1) := by decide +kernel
theorem dL_law_215 : decode cL_law 215 = .ok (.iaload, 1) := by decide +kernel
theorem dL_law_216 : decode cL_law 216 = .ok (.invokevirtual 28, 3) := by decide +kernel
theorem dL_law_219 : decode cL_law 219 = .ok (.aload_n 2, 1) := by decide +kernel
theorem dL_law_220 : decode cL_law 220 = .ok (.aload_n 0, 1) := by decide +kernel
theorem dL_law_221 : decode cL_law 221 = .ok (.iload_n 3, 1) := by decide +kernel
theorem dL_law_222 : decode cL_law 222 = .ok (.iconst 1, 1) := by decide +kernel
theorem dL_law_223 : decode cL_law 223 = .ok (.iadd, 1) := by decide +kernel
theorem dL_law_224 : decode cL_law 224 = .ok (.iaload, 1) := by decide +kernel
theorem dL_law_225 : decode cL_law 225 = .ok (.aload_n 0, 1) := by decide +kernel
theorem dL_law_226 : decode cL_law 226 = .ok (.iload_n 3, 1) := by decide +kernel
theorem dL_law_227 : decode cL_law 227 = .ok (.iconst 2, 1) := by decide +kernel
theorem dL_law_228 : decode cL_law 228 = .ok (.iadd, 1) := by decide +kernel
theorem dL_law_229 : decode cL_law 229 = .ok (.iaload, 1) := by decide +kernel
theorem dL_law_230 : decode cL_law 230 = .ok (.invokevirtual 31, 3) := by decide +kernel
theorem dL_law_233 : decode cL_law 233 = .ok (.if_icmp .eq 239, 3) := by decide +kernel
theorem dL_law_236 : decode cL_law 236 = .ok (.iconst 0, 1) := by decide +kernel
theorem dL_law_237 : decode cL_law 237 = .ok (.ireturn, 1) := by decide +kernel
theorem dL_law_238 : decode cL_law 238 = .ok (.aload_n 1, 1) := by decide +kernel
theorem dL_law_239 : decode cL_law 239 = .ok (.aload_n 0, 1) := by decide +kernel
theorem dL_law_240 : decode cL_law 240 = .ok (.iload_n 3, 1) := by decide +kernel
theorem dL_law_241 : decode cL_law 241 = .ok (.iconst 1, 1) := by decide +kernel
theorem dL_law_242 : decode cL_law 242 = .ok (.iadd, 1) := by decide +kernel
theorem dL_law_243 : decode cL_law 243 = .ok (.iaload, 1) := by decide +kernel
theorem dL_law_244 : decode cL_law 244 = .ok (.aload_n 0, 1) := by decide +kernel
theorem dL_law_245 : decode cL_law 245 = .ok (.iload_n 3, 1) := by decide +kernel
theorem dL_law_246 : decode cL_law 246 = .ok (.iconst 2, 1) := by decide +kernel
theorem dL_law_247 : decode cL_law 247 = .ok (.iadd, 1) := by decide +kernel
theorem dL_law_248 : decode cL_law 248 = .ok (.iaload, 1) := by decide +kernel
theorem dL_law_249 : decode cL_law 249 = .ok (.invokevirtual 32, 3) := by decide +kernel
theorem dL_law_252 : decode cL_law 252 = .ok (.aload_n 2, 1) := by decide +kernel
theorem dL_law_253 : decode cL_law 253 = .ok (.aload_n 0, 1) := by decide +kernel
theorem dL_law_254 : decode cL_law 254 = .ok (.iload_n 3, 1) := by decide +kernel
theorem dL_law_255 : decode cL_law 255 = .ok (.iconst 1, 1) := by decide +kernel
theorem dL_law_256 : decode cL_law 256 = .ok (.iadd, 1) := by decide +kernel
theorem dL_law_257 : decode cL_law 257 = .ok (.iaload, 1) := by decide +kernel
theorem dL_law_258 : decode cL_law 258 = .ok (.aload_n 0, 1) := by decide +kernel
theorem dL_law_259 : decode cL_law 259 = .ok (.iload_n 3, 1) := by decide +kernel
theorem dL_law_260 : decode cL_law 260 = .ok (.iconst 2, 1) := by decide +kernel
theorem dL_law_261 : decode cL_law 261 = .ok (.iadd, 1) := by decide +kernel
theorem dL_law_262 : decode cL_law 262 = .ok (.iaload, 1) := by decide +kernel
theorem dL_law_263 : decode cL_law 263 = .ok (.invokevirtual 35, 3) := by decide +kernel
theorem dL_law_266 : decode cL_law 266 = .ok (.if_icmp .eq 206, 3) := by decide +kernel
theorem dL_law_269 : decode cL_law 269 = .ok (.iconst 0, 1) := by decide +kernel
theorem dL_law_270 : decode cL_law 270 = .ok (.ireturn, 1) := by decide +kernel
theorem dL_law_271 : decode cL_law 271 = .ok (.aload_n 1, 1) := by decide +kernel
theorem dL_law_272 : decode cL_law 272 = .ok (.aload_n 0, 1) := by decide +kernel
theorem dL_law_273 : decode cL_law 273 = .ok (.iload_n 3, 1) := by decide +kernel
theorem dL_law_274 : decode cL_law 274 = .ok (.iconst 1, 1) := by decide +kernel
theorem dL_law_275 : decode cL_law 275 = .ok (.iadd, 1) := by decide +kernel
theorem dL_law_276 : decode cL_law 276 = .ok (.iaload, 1) := by decide +kernel
theorem dL_law_277 : decode cL_law 277 = .ok (.invokevirtual 36, 3) := by decide +kernel
theorem dL_law_280 : decode cL_law 280 = .ok (.aload_n 2, 1) := by decide +kernel
theorem dL_law_281 : decode cL_law 281 = .ok (.aload_n 0, 1) := by decide +kernel
theorem dL_law_282 : decode cL_law 282 = .ok (.iload_n 3, 1) := by decide +kernel
theorem dL_law_283 : decode cL_law 283 = .ok (.iconst 1, 1) := by decide +kernel
theorem dL_law_284 : decode cL_law 284 = .ok (.iadd, 1) := by decide +kernel
theorem dL_law_285 : decode cL_law 285 = .ok (.iaload, 1) := by decide +kernel
theorem dL_law_286 : decode cL_law 286 = .ok (.invokevirtual 39, 3) := by decide +kernel
theorem dL_law_289 : decode cL_law 289 = .ok (.if_icmp .eq 183, 3) := by decide +kernel
theorem dL_law_292 : decode cL_law 292 = .ok (.iconst 0, 1) := by decide +kernel
theorem dL_law_293 : decode cL_law 293 = .ok (.ireturn, 1) := by decide +kernel
theorem dL_law_294 : decode cL_law 294 = .ok (.aload_n 1, 1) := by decide +kernel
theorem dL_law_295 : decode cL_law 295 = .ok (.aload_n 0, 1) := by decide +kernel
theorem dL_law_296 : decode cL_law 296 = .ok (.iload_n 3, 1) := by decide +kernel
theorem dL_law_297 : decode cL_law 297 = .ok (.iconst 1, 1) := by decide +kernel
theorem dL_law_298 : decode cL_law 298 = .ok (.iadd, 1) := by decide +kernel
theorem dL_law_299 : decode cL_law 299 = .ok (.iaload, 1) := by decide +kernel
theorem dL_law_300 : decode cL_law 300 = .ok (.aload_n 0, 1) := by decide +kernel
theorem dL_law_301 : decode cL_law 301 = .ok (.iload_n 3, 1) := by decide +kernel
theorem dL_law_302 : decode cL_law 302 = .ok (.iconst 2, 1) := by decide +kernel
theorem dL_law_303 : decode cL_law 303 = .ok (.iadd, 1) := by decide +kernel
theorem dL_law_304 : decode cL_law 304 = .ok (.iaload, 1) := by decide +kernel
theorem dL_law_305 : decode cL_law 305 = .ok (.aload_n 0, 1) := by decide +kernel
theorem dL_law_306 : decode cL_law 306 = .ok (.iload_n 3, 1) := by decide +kernel
theorem dL_law_307 : decode cL_law 307 = .ok (.iconst 3, 1) := by decide +kernel
theorem dL_law_308 : decode cL_law 308 = .ok (.iadd, 1) := by decide +kernel
theorem dL_law_309 : decode cL_law 309 = .ok (.iaload, 1) := by decide +kernel
theorem dL_law_310 : decode cL_law 310 = .ok (.invokevirtual 40, 3) := by decide +kernel
theorem dL_law_313 : decode cL_law 313 = .ok (.aload_n 2, 1) := by decide +kernel
theorem dL_law_314 : decode cL_law 314 = .ok (.aload_n 0, 1) := by decide +kernel
theorem dL_law_315 : decode cL_law 315 = .ok (.iload_n 3, 1) := by decide +kernel
theorem dL_law_316 : decode cL_law 316 = .ok (.iconst 1, 1) := by decide +kernel
theorem dL_law_317 : decode cL_law 317 = .ok (.iadd, 1) := by decide +kernel
theorem dL_law_318 : decode cL_law 318 = .ok (.iaload, 1) := by decide +kernel
theorem dL_law_319 : decode cL_law 319 = .ok (.aload_n 0, 1) := by decide +kernel
theorem dL_law_320 : decode cL_law 320 = .ok (.iload_n 3, 1) := by decide +kernel
theorem dL_law_321 : decode cL_law 321 = .ok (.iconst 2, 1) := by decide +kernel
theorem dL_law_322 : decode cL_law 322 = .ok (.iadd, 1) := by decide +kernel
theorem dL_law_323 : decode cL_law 323 = .ok (.iaload, 1) := by decide +kernel
theorem dL_law_324 : decode cL_law 324 = .ok (.aload_n 0, 1) := by decide +kernel
theorem dL_law_325 : decode cL_law 325 = .ok (.iload_n 3, 1) := by decide +kernel
theorem dL_law_326 : decode cL_law 326 = .ok (.iconst 3, 1) := by decide +kernel
theorem dL_law_327 : decode cL_law 327 = .ok (.iadd, 1) := by decide +kernel
theorem dL_law_328 : decode cL_law 328 = .ok (.iaload, 1) := by decide +kernel
theorem dL_law_329 : decode cL_law 329 = .ok (.invokevirtual 44, 3) := by decide +kernel
theorem dL_law_332 : decode cL_law 332 = .ok (.if_icmp .eq 140, 3) := by decide +kernel
theorem dL_law_335 : decode cL_law 335 = .ok (.iconst 0, 1) := by decide +kernel
theorem dL_law_336 : decode cL_law 336 = .ok (.ireturn, 1) := by decide +kernel
theorem dL_law_337 : decode cL_law 337 = .ok (.aload_n 1, 1) := by decide +kernel
theorem dL_law_338 : decode cL_law 338 = .ok (.aload_n 0, 1) := by decide +kernel
theorem dL_law_339 : decode cL_law 339 = .ok (.iload_n 3, 1) := by decide +kernel
theorem dL_law_340 : decode cL_law 340 = .ok (.iconst 1, 1) := by decide +kernel
theorem dL_law_341 : decode cL_law 341 = .ok (.iadd, 1) := by decide +kernel
theorem dL_law_342 : decode cL_law 342 = .ok (.iaload, 1) := by decide +kernel
theorem dL_law_343 : decode cL_law 343 = .ok (.aload_n 0, 1) := by decide +kernel
theorem dL_law_344 : decode cL_law 344 = .ok (.iload_n 3, 1) := by decide +kernel
theorem dL_law_345 : decode cL_law 345 = .ok (.iconst 2, 1) := by decide +kernel
theorem dL_law_346 : decode cL_law 346 = .ok (.iadd, 1) := by decide +kernel
theorem dL_law_347 : decode cL_law 347 = .ok (.iaload, 1) := by decide +kernel
theorem dL_law_348 : decode cL_law 348 = .ok (.aload_n 0, 1) := by decide +kernel
theorem dL_law_349 : decode cL_law 349 = .ok (.iload_n 3, 1) := by decide +kernel
theorem dL_law_350 : decode cL_law 350 = .ok (.iconst 3, 1) := by decide +kernel
theorem dL_law_351 : decode cL_law 351 = .ok (.iadd, 1) := by decide +kernel
theorem dL_law_352 : decode cL_law 352 = .ok (.iaload, 1) := by decide +kernel
theorem dL_law_353 : decode cL_law 353 = .ok (.invokevirtual 45, 3) := by decide +kernel
theorem dL_law_356 : decode cL_law 356 = .ok (.aload_n 2, 1) := by decide +kernel
theorem dL_law_357 : decode cL_law 357 = .ok (.aload_n 0, 1) := by decide +kernel
theorem dL_law_358 : decode cL_law 358 = .ok (.iload_n 3, 1) := by decide +kernel
theorem dL_law_359 : decode cL_law 359 = .ok (.iconst 1, 1) := by decide +kernel
theorem dL_law_360 : decode cL_law 360 = .ok (.iadd, 1) := by decide +kernel
theorem dL_law_361 : decode cL_law 361 = .ok (.iaload, 1) := by decide +kernel
theorem dL_law_362 : decode cL_law 362 = .ok (.aload_n 0, 1) := by decide +kernel
theorem dL_law_363 : decode cL_law 363 = .ok (.iload_n 3, 1) := by decide +kernel
theorem dL_law_364 : decode cL_law 364 = .ok (.iconst 2, 1) := by decide +kernel
theorem dL_law_365 : decode cL_law 365 = .ok (.iadd, 1) := by decide +kernel
theorem dL_law_366 : decode cL_law 366 = .ok (.iaload, 1) := by decide +kernel
theorem dL_law_367 : decode cL_law 367 = .ok (.aload_n 0, 1) := by decide +kernel
theorem dL_law_368 : decode cL_law 368 = .ok (.iload_n 3, 1) := by decide +kernel
theorem dL_law_369 : decode cL_law 369 = .ok (.iconst 3, 1) := by decide +kernel
theorem dL_law_370 : decode cL_law 370 = .ok (.iadd, 1) := by decide +kernel
theorem dL_law_371 : decode cL_law 371 = .ok (.iaload, 1) := by decide +kernel
theorem dL_law_372 : decode cL_law 372 = .ok (.invokevirtual 48, 3) := by decide +kernel
theorem dL_law_375 : decode cL_law 375 = .ok (.if_icmp .eq 97, 3) := by decide +kernel
theorem dL_law_378 : decode cL_law 378 = .ok (.iconst 0, 1) := by decide +kernel
theorem dL_law_379 : decode cL_law 379 = .ok (.ireturn, 1) := by decide +kernel
theorem dL_law_380 : decode cL_law 380 = .ok (.aload_n 1, 1) := by decide +kernel
theorem dL_law_381 : decode cL_law 381 = .ok (.invokevirtual 49, 3) := by decide +kernel
theorem dL_law_384 : decode cL_law 384 = .ok (.aload_n 2, 1) := by decide +kernel
theorem dL_law_385 : decode cL_law 385 = .ok (.invokevirtual 53, 3) := by decide +kernel
theorem dL_law_388 : decode cL_law 388 = .ok (.if_icmp .eq 84, 3) := by decide +kernel
theorem dL_law_391 : decode cL_law 391 = .ok (.iconst 0, 1) := by decide +kernel
theorem dL_law_392 : decode cL_law 392 = .ok (.ireturn, 1) := by decide +kernel
theorem dL_law_393 : decode cL_law 393 = .ok (.aload_n 1, 1) := by decide +kernel
theorem dL_law_394 : decode cL_law 394 = .ok (.aload_n 0, 1) := by decide +kernel
theorem dL_law_395 : decode cL_law 395 = .ok (.iload_n 3, 1) := by decide +kernel
theorem dL_law_396 : decode cL_law 396 = .ok (.iconst 1, 1) := by decide +kernel
theorem dL_law_397 : decode cL_law 397 = .ok (.iadd, 1) := by decide +kernel
theorem dL_law_398 : decode cL_law 398 = .ok (.iaload, 1) := by decide +kernel
theorem dL_law_399 : decode cL_law 399 = .ok (.invokevirtual 54, 3) := by decide +kernel
theorem dL_law_402 : decode cL_law 402 = .ok (.aload_n 2, 1) := by decide +kernel
theorem dL_law_403 : decode cL_law 403 = .ok (.aload_n 0, 1) := by decide +kernel
theorem dL_law_404 : decode cL_law 404 = .ok (.iload_n 3, 1) := by decide +kernel
theorem dL_law_405 : decode cL_law 405 = .ok (.iconst 1, 1) := by decide +kernel
theorem dL_law_406 : decode cL_law 406 = .ok (.iadd, 1) := by decide +kernel
theorem dL_law_407 : decode cL_law 407 = .ok (.iaload, 1) := by decide +kernel
theorem dL_law_408 : decode cL_law 408 = .ok (.invokevirtual 57, 3) := by decide +kernel
theorem dL_law_411 : decode cL_law 411 = .ok (.if_icmp .eq 61, 3) := by decide +kernel
theorem dL_law_414 : decode cL_law 414 = .ok (.iconst 0, 1) := by decide +kernel
theorem dL_law_415 : decode cL_law 415 = .ok (.ireturn, 1) := by decide +kernel
theorem dL_law_416 : decode cL_law 416 = .ok (.aload_n 1, 1) := by decide +kernel
theorem dL_law_417 : decode cL_law 417 = .ok (.aload_n 0, 1) := by decide +kernel
theorem dL_law_418 : decode cL_law 418 = .ok (.iload_n 3, 1) := by decide +kernel
theorem dL_law_419 : decode cL_law 419 = .ok (.iconst 1, 1) := by decide +kernel
theorem dL_law_420 : decode cL_law 420 = .ok (.iadd, 1) := by decide +kernel
theorem dL_law_421 : decode cL_law 421 = .ok (.iaload, 1) := by decide +kernel
theorem dL_law_422 : decode cL_law 422 = .ok (.aload_n 0, 1) := by decide +kernel
theorem dL_law_423 : decode cL_law 423 = .ok (.iload_n 3, 1) := by decide +kernel
theorem dL_law_424 : decode cL_law 424 = .ok (.iconst 2, 1) := by decide +kernel
theorem dL_law_425 : decode cL_law 425 = .ok (.iadd, 1) := by decide +kernel
theorem dL_law_426 : decode cL_law 426 = .ok (.iaload, 1) := by decide +kernel
theorem dL_law_427 : decode cL_law 427 = .ok (.invokevirtual 58, 3) := by decide +kernel
theorem dL_law_430 : decode cL_law 430 = .ok (.aload_n 2, 1) := by decide +kernel
theorem dL_law_431 : decode cL_law 431 = .ok (.aload_n 0, 1) := by decide +kernel
theorem dL_law_432 : decode cL_law 432 = .ok (.iload_n 3, 1) := by decide +kernel
theorem dL_law_433 : decode cL_law 433 = .ok (.iconst 1, 1) := by decide +kernel
theorem dL_law_434 : decode cL_law 434 = .ok (.iadd, 1) := by decide +kernel
theorem dL_law_435 : decode cL_law 435 = .ok (.iaload, 1) := by decide +kernel
theorem dL_law_436 : decode cL_law 436 = .ok (.aload_n 0, 1) := by decide +kernel
theorem dL_law_437 : decode cL_law 437 = .ok (.iload_n 3, 1) := by decide +kernel
theorem dL_law_438 : decode cL_law 438 = .ok (.iconst 2, 1) := by decide +kernel
theorem dL_law_439 : decode cL_law 439 = .ok (.iadd, 1) := by decide +kernel
theorem dL_law_440 : decode cL_law 440 = .ok (.iaload, 1) := by decide +kernel
theorem dL_law_441 : decode cL_law 441 = .ok (.invokevirtual 61, 3) := by decide +kernel
theorem dL_law_444 : decode cL_law 444 = .ok (.if_icmp .eq 28, 3) := by decide +kernel
theorem dL_law_447 : decode cL_law 447 = .ok (.iconst 0, 1) := by decide +kernel
theorem dL_law_448 : decode cL_law 448 = .ok (.ireturn, 1) := by decide +kernel
theorem dL_law_449 : decode cL_law 449 = .ok (.aload_n 1, 1) := by decide +kernel
theorem dL_law_450 : decode cL_law 450 = .ok (.aload_n 0, 1) := by decide +kernel
theorem dL_law_451 : decode cL_law 451 = .ok (.iload_n 3, 1) := by decide +kernel
theorem dL_law_452 : decode cL_law 452 = .ok (.iconst 1, 1) := by decide +kernel
theorem dL_law_453 : decode cL_law 453 = .ok (.iadd, 1) := by decide +kernel
theorem dL_law_454 : decode cL_law 454 = .ok (.iaload, 1) := by decide +kernel
theorem dL_law_455 : decode cL_law 455 = .ok (.invokevirtual 62, 3) := by decide +kernel
theorem dL_law_458 : decode cL_law 458 = .ok (.aload_n 2, 1) := by decide +kernel
theorem dL_law_459 : decode cL_law 459 = .ok (.aload_n 0, 1) := by decide +kernel
theorem dL_law_460 : decode cL_law 460 = .ok (.iload_n 3, 1) := by decide +kernel
theorem dL_law_461 : decode cL_law 461 = .ok (.iconst 1, 1) := by decide +kernel
theorem dL_law_462 : decode cL_law 462 = .ok (.iadd, 1) := by decide +kernel
theorem dL_law_463 : decode cL_law 463 = .ok (.iaload, 1) := by decide +kernel
theorem dL_law_464 : decode cL_law 464 = .ok (.invokevirtual 65, 3) := by decide +kernel
theorem dL_law_467 : decode cL_law 467 = .ok (.if_icmp .eq 5, 3) := by decide +kernel
theorem dL_law_470 : decode cL_law 470 = .ok (.iconst 0, 1) := by decide +kernel
theorem dL_law_471 : decode cL_law 471 = .ok (.ireturn, 1) := by decide +kernel
theorem dL_law_472 : decode cL_law 472 = .ok (.iinc 3 5, 3) := by decide +kernel
theorem dL_law_475 : decode cL_law 475 = .ok (.goto (-457), 3) := by decide +kernel
theorem dL_law_478 : decode cL_law 478 = .ok (.iconst 1, 1) := by decide +kernel
theorem dL_law_479 : decode cL_law 479 = .ok (.ireturn, 1) := by decide +kernel
end
section
/-! ===== the words that the decompiled functions are made of ===== -/
def let_ {α β : Type} (v : β) (f : β → α) : α := f v
def opt_ {α : Type} (o : Option Nat) (x : Option α) (f : Nat → Option α) : Option α := match o with
  | none => x
  | some y => f y
def bd_ {α β γ : Type} (x : Option (α × β)) (f : α → β → Option γ) : Option γ := match x with
  | none => none
  | some q => f q.1 q.2
theorem o_t {α : Type} {c : Prop} {h : Decidable c} {t e : Option α} {z : α} (hc : c) (hF : (@ite (Option α) c h t e) = some z) : t = some z := by rw [if_pos hc] at hF; exact hF
theorem o_f {α : Type} {c : Prop} {h : Decidable c} {t e : Option α} {z : α} (hc : ¬ c) (hF : (@ite (Option α) c h t e) = some z) : e = some z := by rw [if_neg hc] at hF; exact hF
theorem o_n {α : Type} {c : Prop} {h : Decidable c} {e : Option α} {z : α} (hF : (@ite (Option α) c h none e) = some z) : ¬ c ∧ e = some z := by
  by_cases hc : c
  · rw [if_pos hc] at hF; cases hF
  · rw [if_neg hc] at hF; exact ⟨hc, hF⟩
theorem o_i {α : Type} {c : Prop} {h : Decidable c} {t : Option α} {z : α} (hF : (@ite (Option α) c h t none) = some z) : c ∧ t = some z := by
  by_cases hc : c
  · rw [if_pos hc] at hF; exact ⟨hc, hF⟩
  · rw [if_neg hc] at hF; cases hF
theorem o_l {α β : Type} {v : β} {f : β → Option α} {z : α} (hF : let_ v f = some z) : ∃ w, w = v ∧ f w = some z := ⟨v, rfl, hF⟩
theorem o_b {α β γ : Type} {x : Option (α × β)} {f : α → β → Option γ} {z : γ} (hF : bd_ x f = some z) : ∃ r u, x = some (r, u) ∧ f r u = some z := by
  cases x with
  | none => cases hF
  | some q => exact ⟨q.1, q.2, rfl, hF⟩
theorem o_mn {α : Type} {o : Option Nat} {x : Option α} {f : Nat → Option α} {z : α} (ho : o = none) (hF : opt_ o x f = some z) : x = some z := by subst ho; exact hF
theorem o_ms {α : Type} {o : Option Nat} {x : Option α} {f : Nat → Option α} {z : α} {y : Nat} (ho : o = some y) (hF : opt_ o x f = some z) : f y = some z := by subst ho; exact hF
theorem o_s {α β : Type} {v r : α} {x u : β} (h : some (v, x) = some (r, u)) : r = v ∧ u = x := by cases h; exact ⟨rfl, rfl⟩
/-! ===== contracts over a whole world ===== -/
def nestF : List (Nat × String) := [(39, "number"), (86, "kind"), (89, "limit"), (92, "mark"), (95, "axles"), (98, "leg"), (101, "claims"), (104, "held"), (107, "most")]
def nestM : List (Nat × MethodName) := [(36, yX0_init), (139, yX0_hasRoomFor)]
def nw (U : State) : Prop := (∀ q ∈ nestF, va_Nw (.fieldLinkNest RX1 q.1 RX0 q.2 "I" RX1) U) ∧ ∀ q ∈ nestM, va_Nw (.methodLinkNest RX1 q.1 q.2 RX1) U
theorem nw.warm {s U : State} (h : nw s) (hW : s.WarmedH U.vm) : nw U := ⟨fun q hq => va_Nw.warmF hW (h.1 q hq), fun q hq => va_Nw.warmM hW (h.2 q hq)⟩
abbrev tys_ (cy cyO : ClassId) : List (ClassId × FieldType) := [(cy, .int), (cyO, .object RX0)]
def wPre (G : va_G) (ty : List (ClassId × FieldType)) (w : va_W) (sz : Nat) (U : State) : Prop := U.heap.size = sz ∧ va_P G vwCl w U.heap ∧ va_K G vwCl ty U ∧ va_D (fun _ => True) w ∧ nw U
def wPost (G : va_G) (A : Nat → Prop) (w : va_W) (t : State) : Prop := va_P G vwCl w t.heap ∧ va_D A w
def qg (v : Option Value) (B : State → Prop) (A : Nat → Prop) : Array Value → State → Outcome → State → Prop := fun _ st oc t => (oc = .returned v ∧ B t) ∧ va_F A st t
theorem wPre_blind {av : List Value} {G : va_G} {ty : List (ClassId × FieldType)} {w : va_W} {sz : Nat} : FrameBlind (va_Pc av (wPre G ty w sz)) := fun a U g mk q => by
  obtain ⟨q0, q1, qP, qK, qD, qN⟩ := q
  exact ⟨q0, q1, qP, va_K.moved (u := U) (U := U.calling g mk a) (Vm.Alike.refl U.vm) qK, qD, ⟨fun q hq => va_Nw.same rfl rfl (qN.1 q hq), fun q hq => va_Nw.same rfl rfl (qN.2 q hq)⟩⟩
theorem wPre_at {s U : State} {H : Heap} {av : List Value} {G : va_G} {ty : List (ClassId × FieldType)} {w : va_W} {A : Nat → Prop} (hK : va_K G vwCl ty s) (hN : nw s) (hP : va_P G vwCl w H) (hD : va_D A w) (hU : U.heap = H) (hW : s.WarmedH U.vm) : va_Pc av (wPre G ty w H.size) av.toArray U :=
  ⟨rfl, by rw [hU], by rw [hU]; exact hP, va_K.moved hW.alike hK, hD.weaken (fun _ _ _ _ => trivial), hN.warm hW⟩
theorem wFree {s : State} {H : Heap} {w : va_W} {A : Nat → Prop} {locs : List Loc} (hD : va_D A w) (hS : va_S A s.heap H locs) (hA : ∀ q, s.heap.size ≤ q → A q) : ∀ q, va_A w H.size q → A q := fun q h => by
  rcases h with ⟨k, e, hk⟩ | h
  · exact hD.2 k (q, e) hk
  · exact hA q (Nat.le_trans hS.1 h)
def CtB (l : Launch) (G : va_G) (ty : List (ClassId × FieldType)) (y : MethodName) (ws : List Cond) (rm : Room) (av : List Value) (w : va_W) (v : Option Value) (B : (Nat → Prop) → State → Prop) (mc ms : Nat) : Prop := ∀ sz : Nat, Met l y ws rm (va_Pc av (wPre G ty w sz)) (qg v (B (va_A w sz)) (va_A w sz)) mc ms (va_A w sz)
abbrev Ct (l : Launch) (G : va_G) (ty : List (ClassId × FieldType)) (y : MethodName) (ws : List Cond) (rm : Room) (av : List Value) (w : va_W) (v : Option Value) (w' : va_W) : Prop := CtB l G ty y ws rm av w v (fun A t => wPost G A w' t) 0 0
theorem ct_of {l : Launch} {G : va_G} {ty : List (ClassId × FieldType)} {y : MethodName} {ws ws' : List Cond} {rm : Room} {av : List Value} {w : va_W} {v : Option Value} {B : (Nat → Prop) → State → Prop} {mc ms : Nat} {cc : ByteArray} {maxL : Nat} {ret : Option FieldType} {own : String}
    (hy : plainName y.cls = true) (hw : ws = Cond.code y cc maxL ret :: ws') (hlen : (lg_sl av).length ≤ maxL) (hown : y.cls = own)
    (body : ∀ (p : Program) (e : Env) (s : State) (m : MethodId) (below : List Frame) (meth : Method) (c : Code) (A : Nat → Prop) (ls : Array Slot), CallFix p m c cc maxL s av.toArray ws own → meth.sig.returnType = ret → meth.locks = false → (∀ nm : String, y.name = nm → meth.name = nm) → va_K G vwCl ty s → nw s → (∀ q, s.heap.size ≤ q → A q) → va_P G vwCl w s.heap → va_D A w → lv_has ls maxL (lv_args 0 av) →
      W p l e rm s m av.toArray below meth c s.heap [] 0 0 (MQ below (qg v (B A) A) av.toArray s mc ms A) (F0 m 0 ls [])) : CtB l G ty y ws rm av w v B mc ms := by
  intro sz
  refine Met.ofW (cc := cc) (maxL := maxL) (ret := ret) hy hw ?_
  intro p e s m args below meth c s₁ Bd hml hv
  obtain ⟨rfl, hsz, hP, hK, hD0, hN⟩ := hv
  subst hsz
  have hD := hD0.self (sz := s.heap.size)
  rw [lg_entry_eq]
  subst hown
  exact body p e s m below meth c (va_A w s.heap.size) _ ⟨Bd.exec, Bd.bytes, hml, findClass_of_methodNamed Bd.named, atoms_spec (ws := ws) Bd.pre⟩ Bd.returns Bd.notSynchronized (fun nm h => h ▸ (name_of_methodNamed Bd.named Bd.method).1) hK hN (fun q h => Or.inr h) hP hD (lv_entry av hlen)
section CLS
variable {p : Program} {l : Launch} {e : Env} {R : Room} {s : State} {m : MethodId} {args : Array Value} {below : List Frame} {meth : Method} {c : Code} {H : Heap} {locs : List Loc} {cells slots : Nat} {Q : State → Prop}
variable {cc bytes : ByteArray} {nL maxL index n mc ms pc : Nat} {Ts ws : List Cond} {own C host : String} {y : MethodName} {ret : Option FieldType} {rm : Room} {G : va_G} {ty : List (ClassId × FieldType)} {w w' : va_W} {v : Option Value} {A : Nat → Prop} {ls : Array Slot} {st0 rest As : List Value} {b : Nat} {B : (Nat → Prop) → State → Prop}
theorem w_call {Bq : State → Prop} {A1 : Nat → Prop} {a : Array Value} {free : Addr → Prop} (hr : va_Run p l e R s m args below meth c H locs cells slots mc ms (F0 m pc ls st0) rest (qg v Bq A1 a) free) (hS : va_S A s.heap H locs) (hA : ∀ q, q < H.size → A1 q → A q) (hf : ∀ q, free q → A q)
    (kk : ∀ (t : State) (H1 : Heap) (locs1 : List Loc), t.heap = H1 → s.vm.Alike t.vm → Bq t → H.size ≤ H1.size → (∀ q : Nat, q < H.size → ¬ A1 q → H1[q]? = H[q]?) → va_S A s.heap H1 locs1 → W p l e R s m args below meth c H1 locs1 (cells + mc) (slots + ms) Q (F0 m (pc + 3) ls (v.toList ++ rest))) : W p l e R s m args below meth c H locs cells slots Q (F0 m pc ls st0) := by
  intro T hT X
  obtain ⟨v1, st₀, t, T', L, h0, X', hL, e1, e2, ⟨⟨hv, hb⟩, hz, hk⟩, st⟩ := hr T hT X
  cases hv
  rw [h0] at hz hk
  obtain ⟨t2, a1, b1⟩ := kk t T'.heap (locs ++ L) e1.symm (by rw [← e2]; exact X'.warmed.alike) hb (by rw [e1]; exact hz) (fun q h1 h2 => by rw [e1]; exact hk q h1 h2)
    ⟨Nat.le_trans hS.1 (by rw [e1]; exact hz), fun q h1 h2 => by rw [e1, hk q (Nat.lt_of_lt_of_le h1 hS.1) (fun z => h2 (hA q (Nat.lt_of_lt_of_le h1 hS.1) z))]; exact hS.2.1 q h1 h2, fun q hq => by
      rcases List.mem_append.mp hq with h | h
      · exact hS.2.2 q h
      · exact hf _ (hL q h)⟩ T' rfl X'
  exact ⟨t2, st t2 a1, b1⟩
/-- a private or public method of an object of the world, by its contract -/
theorem cl_V (X : CallFix p m c cc nL s args Ts own) (hK : va_K G vwCl ty s) (hN : nw s) (hA : ∀ q, s.heap.size ≤ q → A q) (hP : va_P G vwCl w H) (hD : va_D A w) (hS : va_S A s.heap H locs) (hC : Ct l G ty y ws rm (.ref b :: As) w v w') (cw : CallW R s args own C index y bytes maxL ret ws rm 0 0 n)
    (hrecv : ∃ cellB : Cell, H[b]? = some cellB ∧ cellB.vm.isStatics = false ∧ s.vm.findClass C = some cellB.cls) (hn : As.length = n) (hsize : ls.size = nL) (hst : st0 = As.reverse ++ .ref b :: rest) (hroom : (rest.map fun v => v.category).sum ≤ 8) (hdg : decode cc pc = .ok (.invokevirtual index, 3)) (hf : cells ≤ R.cells ∧ slots ≤ R.slots)
    (kk : ∀ (H1 : Heap) (locs1 : List Loc), va_P G vwCl w' H1 → va_D A w' → va_S A s.heap H1 locs1 → W p l e R s m args below meth c H1 locs1 cells slots Q (F0 m (pc + 3) ls (v.toList ++ rest))) : W p l e R s m args below meth c H locs cells slots Q (F0 m pc ls st0) := by
  have hFc := wFree hD hS hA
  refine w_call (va_runV (g := F0 m pc ls st0) (As := As) (rest := rest) X (hC H.size) cw ⟨wPre_blind, hrecv, fun U hU hW => wPre_at hK hN hP hD hU hW⟩ rfl hn hsize hst (lv_room hroom) hdg hf) hS (fun q _ h => hFc q h) hFc (fun t H1 locs1 ht _ hB _ _ hS1 => ?_)
  obtain ⟨hP1, hD1⟩ := hB
  rw [ht] at hP1
  exact kk H1 locs1 hP1 (hD1.weaken (fun _ _ _ h => hFc _ h)) hS1
/-- a private method of a nest mate -/
theorem cl_N (X : CallFix p m c cc nL s args Ts own) (hK : va_K G vwCl ty s) (hN : nw s) (hA : ∀ q, s.heap.size ≤ q → A q) (hP : va_P G vwCl w H) (hD : va_D A w) (hS : va_S A s.heap H locs) (hC : Ct l G ty y ws rm (.ref b :: As) w v w') (cw : va_CN R s args own index y host bytes maxL ret ws rm 0 0 n ∧ (Cond.instanceMethod y).before args s = true ∧ (Cond.selects C y y).before args s = true)
    (hrecv : ∃ cellB : Cell, H[b]? = some cellB ∧ cellB.vm.isStatics = false ∧ s.vm.findClass C = some cellB.cls) (hn : As.length = n) (hsize : ls.size = nL) (hst : st0 = As.reverse ++ .ref b :: rest) (hroom : (rest.map fun v => v.category).sum ≤ 8) (hdg : decode cc pc = .ok (.invokevirtual index, 3)) (hf : cells ≤ R.cells ∧ slots ≤ R.slots)
    (kk : ∀ (H1 : Heap) (locs1 : List Loc), va_P G vwCl w' H1 → va_D A w' → va_S A s.heap H1 locs1 → W p l e R s m args below meth c H1 locs1 cells slots Q (F0 m (pc + 3) ls (v.toList ++ rest))) : W p l e R s m args below meth c H locs cells slots Q (F0 m pc ls st0) := by
  have hFc := wFree hD hS hA
  refine w_call (va_runVN (g := F0 m pc ls st0) (As := As) (rest := rest) X (hC H.size) cw ⟨wPre_blind, hrecv, fun U hU hW => wPre_at hK hN hP hD hU hW⟩ rfl hn hsize hst (lv_room hroom) hdg hf) hS (fun q _ h => hFc q h) hFc (fun t H1 locs1 ht _ hB _ _ hS1 => ?_)
  obtain ⟨hP1, hD1⟩ := hB
  rw [ht] at hP1
  exact kk H1 locs1 hP1 (hD1.weaken (fun _ _ _ h => hFc _ h)) hS1
/-- a static method -/
theorem cl_S (X : CallFix p m c cc nL s args Ts own) (hK : va_K G vwCl ty s) (hN : nw s) (hA : ∀ q, s.heap.size ≤ q → A q) (hP : va_P G vwCl w H) (hD : va_D A w) (hS : va_S A s.heap H locs) (hC : Ct l G ty y ws rm As w v w') (cw : CallB R s args own index y bytes maxL ret ws rm 0 0 n ∧ (Cond.static y).before args s = true)
    (hn : As.length = n) (hsize : ls.size = nL) (hst : st0 = As.reverse ++ rest) (hroom : (rest.map fun v => v.category).sum ≤ 8) (hdg : decode cc pc = .ok (.invokestatic index, 3)) (hf : cells ≤ R.cells ∧ slots ≤ R.slots)
    (kk : ∀ (H1 : Heap) (locs1 : List Loc), va_P G vwCl w' H1 → va_D A w' → va_S A s.heap H1 locs1 → W p l e R s m args below meth c H1 locs1 cells slots Q (F0 m (pc + 3) ls (v.toList ++ rest))) : W p l e R s m args below meth c H locs cells slots Q (F0 m pc ls st0) := by
  have hFc := wFree hD hS hA
  refine w_call (va_runS (g := F0 m pc ls st0) (As := As) (rest := rest) X (hC H.size) cw ⟨wPre_blind, fun U hU hW => wPre_at hK hN hP hD hU hW⟩ rfl hn hsize hst (lv_room hroom) hdg hf) hS (fun q _ h => hFc q h) hFc (fun t H1 locs1 ht _ hB _ _ hS1 => ?_)
  obtain ⟨hP1, hD1⟩ := hB
  rw [ht] at hP1
  exact kk H1 locs1 hP1 (hD1.weaken (fun _ _ _ h => hFc _ h)) hS1
theorem rt_i {x : Int32} (X : CallFix p m c cc nL s args Ts own) (hr : meth.sig.returnType = some .int) (hlocks : meth.locks = false) (hP : va_P G vwCl w H) (hD : va_D A w) (hS : va_S A s.heap H locs) (hdg : decode cc pc = .ok (.ireturn, 1)) : W p l e R s m args below meth c H locs cells slots (MQ below (qg (some (.int x)) (fun t => wPost G A w t) A) args s cells slots A) (F0 m pc ls [.int x]) :=
  W.iret X.1 X.2.1 hr (fun t ht _ => ⟨⟨rfl, by rw [ht]; exact hP, hD⟩, hS.F ht⟩) hS.2.2 hdg hlocks
theorem rt_z {x : Int32} (X : CallFix p m c cc nL s args Ts own) (hr : meth.sig.returnType = some .boolean) (hlocks : meth.locks = false) (hP : va_P G vwCl w H) (hD : va_D A w) (hS : va_S A s.heap H locs) (hx : narrow .boolean (.int x) = .int x) (hdg : decode cc pc = .ok (.ireturn, 1)) : W p l e R s m args below meth c H locs cells slots (MQ below (qg (some (.int x)) (fun t => wPost G A w t) A) args s cells slots A) (F0 m pc ls [.int x]) :=
  W.zret X.1 X.2.1 hr hx (fun t ht _ => ⟨⟨rfl, by rw [ht]; exact hP, hD⟩, hS.F ht⟩) hS.2.2 hdg hlocks
theorem rt_v (X : CallFix p m c cc nL s args Ts own) (hr : meth.sig.returnType = none) (hlocks : meth.locks = false) (hP : va_P G vwCl w H) (hD : va_D A w) (hS : va_S A s.heap H locs) (hdg : decode cc pc = .ok (.return_, 1)) : W p l e R s m args below meth c H locs cells slots (MQ below (qg none (fun t => wPost G A w t) A) args s cells slots A) (F0 m pc ls []) :=
  W.vret X.1 X.2.1 hr (fun t ht _ => ⟨⟨rfl, by rw [ht]; exact hP, hD⟩, hS.F ht⟩) hS.2.2 hdg hlocks
theorem rt_a {o : Option Nat} {nm : String} (X : CallFix p m c cc nL s args Ts own) (hr : meth.sig.returnType = some (.object nm)) (hlocks : meth.locks = false) (hP : va_P G vwCl w H) (hD : va_D A w) (hS : va_S A s.heap H locs) (hdg : decode cc pc = .ok (.areturn, 1)) : W p l e R s m args below meth c H locs cells slots (MQ below (qg (some (va_rf o)) (fun t => wPost G A w t) A) args s cells slots A) (F0 m pc ls [va_rf o]) :=
  W.aret X.1 X.2.1 hr (Or.inl ⟨nm, rfl⟩) (by cases o with
    | none => exact Or.inl rfl
    | some q => exact Or.inr ⟨q, rfl⟩) (fun t ht _ => ⟨⟨rfl, by rw [ht]; exact hP, hD⟩, hS.F ht⟩) hS.2.2 hdg hlocks
theorem w_top {x y : Int32} (h : y = x) (k : W p l e R s m args below meth c H locs cells slots Q (F0 m pc ls (.int y :: rest))) : W p l e R s m args below meth c H locs cells slots Q (F0 m pc ls (.int x :: rest)) := h ▸ k
theorem w_none {o : Option Nat} (h : o = none) (k : W p l e R s m args below meth c H locs cells slots Q (F0 m pc ls (.null :: rest))) : W p l e R s m args below meth c H locs cells slots Q (F0 m pc ls (va_rf o :: rest)) := by rw [h]; exact k
theorem w_some {o : Option Nat} {x : Nat} (h : o = some x) (k : W p l e R s m args below meth c H locs cells slots Q (F0 m pc ls (.ref x :: rest))) : W p l e R s m args below meth c H locs cells slots Q (F0 m pc ls (va_rf o :: rest)) := by rw [h]; exact k
end CLS
/-! ===== the two states ===== -/
/-- what both have: the routes' places, their lengths, the trace; traced, made, runs, nulls, fulls, passed -/
abbrev CC : Type := (Nat → Int32) × (Nat → Int32) × (Nat → Int32) × Int32 × Int32 × Int32 × Int32 × Int32 × Int32
/-- the class: section's fields by address and field; the addresses as they were made; what stands at a place; the rest -/
abbrev SC : Type := (Nat → Nat → Int32) × List Nat × (Nat → Option Nat) × CC
/-- the reference: field by number; the place's section; the rest -/
abbrev SM : Type := (Nat → Nat → Int32) × (Nat → Int32) × CC
def secE (f : Nat → Nat → Int32) (a : Nat) : va_E := .inr (0, [.int (f a 0), .int (f a 1), .int (f a 2), .int (f a 3), .int (f a 4), .int (f a 5), .int (f a 6), .int (f a 7), .int (f a 8)])
def cX (a : Nat → Nat) (cy cyO : ClassId) (σ : SC) : va_W := [(a 0, .inr (1, [.ref (a 1), .ref (a 2), .ref (a 3), .ref (a 4), .int σ.2.2.2.2.2.2.1, .int σ.2.2.2.2.2.2.2.1, .int σ.2.2.2.2.2.2.2.2.1, .int σ.2.2.2.2.2.2.2.2.2.1, .int σ.2.2.2.2.2.2.2.2.2.2.1, .int σ.2.2.2.2.2.2.2.2.2.2.2])), (a 1, .inl (cyO, 12, .inr (.inr (.inr (.inr σ.2.2.1))))), (a 2, .inl (cy, 48, .inl σ.2.2.2.1)), (a 3, .inl (cy, 6, .inl σ.2.2.2.2.1)), (a 4, .inl (cy, 150, .inl σ.2.2.2.2.2.1))]
def cW (a : Nat → Nat) (cy cyO : ClassId) (σ : SC) : va_W := cX a cy cyO σ ++ va_pl σ.2.1 (secE σ.1)
def mW (a : Nat → Nat) (cy : ClassId) (σ : SM) : va_W := [(a 0, .inr (2, [.int σ.2.2.2.2.2.2.1, .ref (a 1), .ref (a 2), .ref (a 3), .ref (a 4), .ref (a 5), .ref (a 6), .ref (a 7), .ref (a 8), .ref (a 9), .ref (a 10), .ref (a 11), .ref (a 12), .int σ.2.2.2.2.2.1, .int σ.2.2.2.2.2.2.2.2.2.2, .int σ.2.2.2.2.2.2.2.1, .int σ.2.2.2.2.2.2.2.2.1, .int σ.2.2.2.2.2.2.2.2.2.1])),
  (a 1, .inl (cy, 640, .inl (σ.1 1))), (a 2, .inl (cy, 640, .inl (σ.1 2))), (a 3, .inl (cy, 640, .inl (σ.1 3))), (a 4, .inl (cy, 640, .inl (σ.1 4))), (a 5, .inl (cy, 640, .inl (σ.1 5))), (a 6, .inl (cy, 640, .inl (σ.1 6))), (a 7, .inl (cy, 640, .inl (σ.1 7))), (a 8, .inl (cy, 640, .inl (σ.1 8))), (a 9, .inl (cy, 12, .inl σ.2.1)), (a 10, .inl (cy, 48, .inl σ.2.2.1)), (a 11, .inl (cy, 6, .inl σ.2.2.2.1)), (a 12, .inl (cy, 150, .inl σ.2.2.2.2.1))]
/-- field k of the section at x becomes v -/
def setS (f : Nat → Nat → Int32) (x k : Nat) (v : Int32) : Nat → Nat → Int32 := fun b j => if b = x ∧ j = k then v else f b j
/-- row k becomes g -/
def setA (f : Nat → Nat → Int32) (k : Nat) (g : Nat → Int32) : Nat → Nat → Int32 := fun j => if j = k then g else f j
theorem cW_up {a : Nat → Nat} {cy cyO : ClassId} {σ : SC} {A : Nat → Prop} {x q k : Nat} {v : Int32} (hD : va_D A (cW a cy cyO σ)) (hx : x ∈ σ.2.1) (hk : k < 9) (hq : (cW a cy cyO σ)[q]? = some (x, secE σ.1 x)) :
    (cW a cy cyO σ).set q (x, .inr (0, ([.int (σ.1 x 0), .int (σ.1 x 1), .int (σ.1 x 2), .int (σ.1 x 3), .int (σ.1 x 4), .int (σ.1 x 5), .int (σ.1 x 6), .int (σ.1 x 7), .int (σ.1 x 8)] : List Value).set k (.int v))) = cW a cy cyO (setS σ.1 x k v, σ.2) := by
  unfold cW at hD hq ⊢
  rw [va_pl_set hD hx hq]
  refine congrArg (fun l => cX a cy cyO σ ++ l) (va_pl_congr (fun b => ?_))
  by_cases hb : b = x
  · subst hb
    rw [va_up_self]
    have h9 : k = 0 ∨ k = 1 ∨ k = 2 ∨ k = 3 ∨ k = 4 ∨ k = 5 ∨ k = 6 ∨ k = 7 ∨ k = 8 := by omega
    rcases h9 with h | h | h | h | h | h | h | h | h <;> subst h <;> simp [secE, setS]
  · rw [va_up_ne _ _ hb]
    simp [secE, setS, hb]
theorem cW_at {a : Nat → Nat} {cy cyO : ClassId} {σ : SC} {x : Nat} (hx : x ∈ σ.2.1) : ∃ q : Nat, (cW a cy cyO σ)[q]? = some (x, secE σ.1 x) := va_pl_get hx
section SECS
variable {p : Program} {l : Launch} {e : Env} {R : Room} {s : State} {m : MethodId} {args : Array Value} {below : List Frame} {meth : Method} {c : Code} {H : Heap} {locs : List Loc} {cells slots : Nat} {Q : State → Prop}
variable {cc : ByteArray} {nL pc index : Nat} {Ts : List Cond} {G : va_G} {cy cyO : ClassId} {A : Nat → Prop} {ls : Array Slot} {rest : List Value} {a : Nat → Nat} {σ : SC} {x : Nat}
theorem cs_recv (hK : va_K G vwCl (tys_ cy cyO) s) (hP : va_P G vwCl (cW a cy cyO σ) H) (hx : x ∈ σ.2.1) : ∃ cell : Cell, H[x]? = some cell ∧ cell.vm.isStatics = false ∧ s.vm.findClass RX0 = some cell.cls := by
  obtain ⟨q, hq⟩ := cW_at (a := a) (cy := cy) (cyO := cyO) hx
  exact va_recv (q := (RX0, TX0, 9)) hK hP (ci := 0) rfl hq
/-- a section's field is read, out of SignalBox -/
theorem cs_get (X : CallFix p m c cc nL s args Ts RX1) (hin : ∀ w ∈ wsX00, w ∈ Ts) (hK : va_K G vwCl (tys_ cy cyO) s) (hN : nw s) (hP : va_P G vwCl (cW a cy cyO σ) H) (hx : x ∈ σ.2.1) (k : Nat) (hk : k < 9) (hlink : (index, (TX0 k).2.1) ∈ nestF) (hd : (TX0 k).2.2.1 = "I" ∧ (TX0 k).1 = RX0) {v : Value} (hv : ([.int (σ.1 x 0), .int (σ.1 x 1), .int (σ.1 x 2), .int (σ.1 x 3), .int (σ.1 x 4), .int (σ.1 x 5), .int (σ.1 x 6), .int (σ.1 x 7), .int (σ.1 x 8)] : List Value)[k]? = some v) (hdg : decode cc pc = .ok (.getfield index, 3))
    (kk : W p l e R s m args below meth c H locs cells slots Q (F0 m (pc + 3) ls (v :: rest))) : W p l e R s m args below meth c H locs cells slots Q (F0 m pc ls (.ref x :: rest)) := by
  obtain ⟨q, hq⟩ := cW_at (a := a) (cy := cy) (cyO := cyO) hx
  have hl := hN.1 _ hlink
  exact va_getN (host := RX1) (ref := RX0) X.1 X.2.1 X.2.2.2.2 hin X.2.2.2.1 hK hP q hq (ci := 0) (C := RX0) (T := TX0) (N := 9) rfl k hk (by rw [hd.1]; exact va_Nw.use rfl hl) (fun z h => by rw [hd.2] at h; exact h) hv hdg kk
/-- a section's field is written, out of SignalBox -/
theorem cs_put {v : Int32} (X : CallFix p m c cc nL s args Ts RX1) (hin : ∀ w ∈ wsX00, w ∈ Ts) (hK : va_K G vwCl (tys_ cy cyO) s) (hN : nw s) (hP : va_P G vwCl (cW a cy cyO σ) H) (hD : va_D A (cW a cy cyO σ)) (hS : va_S A s.heap H locs) (hx : x ∈ σ.2.1) (k : Nat) (hk : k < 9) (hlink : (index, (TX0 k).2.1) ∈ nestF) (hd : (TX0 k).2.2.1 = "I" ∧ (TX0 k).1 = RX0) (hfin : (TX0 k).2.2.2 = false) (hdg : decode cc pc = .ok (.putfield index, 3))
    (kk : ∀ (H1 : Heap) (locs1 : List Loc), va_P G vwCl (cW a cy cyO (setS σ.1 x k v, σ.2)) H1 → va_D A (cW a cy cyO (setS σ.1 x k v, σ.2)) → va_S A s.heap H1 locs1 → W p l e R s m args below meth c H1 locs1 cells slots Q (F0 m (pc + 3) ls rest)) : W p l e R s m args below meth c H locs cells slots Q (F0 m pc ls (.int v :: .ref x :: rest)) := by
  obtain ⟨q, hq⟩ := cW_at (a := a) (cy := cy) (cyO := cyO) hx
  have hl := hN.1 _ hlink
  refine va_putN (host := RX1) (ref := RX0) X.1 X.2.1 X.2.2.2.2 hin tyX0 tyX0_ok nmX0 X.2.2.2.1 hK hP hD hS q hq (ci := 0) (C := RX0) (T := TX0) (N := 9) rfl k hk (by rw [hd.1]; exact va_Nw.use rfl hl) (fun z h => by rw [hd.2] at h; exact h) hfin (ty := .int) (by rw [hd.1]; decide +kernel) rfl rfl (by exact hk) hdg (fun H1 locs1 hP1 hD1 hS1 => ?_)
  rw [cW_up hD hx hk hq] at hP1 hD1
  exact kk H1 locs1 hP1 hD1 hS1
end SECS
end
section
def fX2_in (z0 : SM) (x0 : Int32) (x1 : Int32) (x2 : Int32) : Option (Int32 × SM) := (if x0 < x1 then some (0, z0) else (if x2 < x0 then some (0, z0) else some (1, z0)))
set_option maxRecDepth 100000 in
set_option maxHeartbeats 4000000 in
theorem kX2_in (l : Launch) (G : va_G) (cy cyO : ClassId) (a : Nat → Nat) (z0 : SM) (x0 : Int32) (x1 : Int32) (x2 : Int32) (r : Int32) (u : SM) (hF : fX2_in z0 x0 x1 x2 = some (r, u)) : Ct l G (tys_ cy cyO) yX2_in wsX2_in ({ frames := 0, cells := 0, slots := 0, locals := 0 } : Room) [.int x0, .int x1, .int x2] (mW a cy z0) (some (.int r)) (mW a cy u) := by
  unfold fX2_in at hF
  refine ct_of (cc := cX2_in) (maxL := 3) (ret := (some .boolean)) (own := RX2) (by decide) rfl (Nat.le_of_ble_eq_true rfl) rfl ?_
  intro p e s m below meth c A ls X hr hlocks _ hK hN hA hP hD hl
  have hS : va_S A s.heap s.heap [] := va_S.rf
  have hl : lv_has ls 3 [(0, .int x0), (1, .int x1), (2, .int x2)] := hl
  obtain ⟨hx, hb, hml, hown, hts⟩ := id X
  refine lv_iload_n hx hb dX2_in_0 rfl (lv_at hl 0 rfl) ?_
  refine lv_iload_n hx hb dX2_in_1 rfl (lv_at hl 1 rfl) ?_
  refine lv_icmp_lt (tgt := 14) hx hb dX2_in_2 (by decide) (fun c1 => ?_) (fun c1 => ?_)
  · have hF := o_t c1 hF
    refine lv_iconst (v := 0) hx hb dX2_in_14 (by decide) ?_
    obtain ⟨rfl, rfl⟩ := o_s hF
    exact rt_z X hr hlocks hP hD hS rfl dX2_in_15
  · have hF := o_f c1 hF
    refine lv_iload_n hx hb dX2_in_5 rfl (lv_at hl 0 rfl) ?_
    refine lv_iload_n hx hb dX2_in_6 rfl (lv_at hl 2 rfl) ?_
    refine lv_icmp_gt (tgt := 14) hx hb dX2_in_7 (by decide) (fun c2 => ?_) (fun c2 => ?_)
    · have hF := o_t c2 hF
      refine lv_iconst (v := 0) hx hb dX2_in_14 (by decide) ?_
      obtain ⟨rfl, rfl⟩ := o_s hF
      exact rt_z X hr hlocks hP hD hS rfl dX2_in_15
    · have hF := o_f c2 hF
      refine lv_iconst (v := 1) hx hb dX2_in_10 (by decide) ?_
      refine lv_goto (tgt := 15) hx hb dX2_in_11 (by decide) ?_
      obtain ⟨rfl, rfl⟩ := o_s hF
      exact rt_z X hr hlocks hP hD hS rfl dX2_in_15
def fX2_isPlace (z0 : SM) (x0 : Int32) : Option (Int32 × SM) := bd_ (fX2_in z0 x0 0 11) (fun r1 z1 => (if (r1 &&& 1) = r1 then some (r1, z1) else none))
set_option maxRecDepth 100000 in
set_option maxHeartbeats 4000000 in
theorem kX2_isPlace (l : Launch) (G : va_G) (cy cyO : ClassId) (a : Nat → Nat) (z0 : SM) (x0 : Int32) (r : Int32) (u : SM) (hF : fX2_isPlace z0 x0 = some (r, u)) : Ct l G (tys_ cy cyO) yX2_isPlace wsX2_isPlace ({ frames := 1, cells := 0, slots := 0, locals := 22 } : Room) [.int x0] (mW a cy z0) (some (.int r)) (mW a cy u) := by
  unfold fX2_isPlace at hF
  refine ct_of (cc := cX2_isPlace) (maxL := 1) (ret := (some .boolean)) (own := RX2) (by decide) rfl (Nat.le_of_ble_eq_true rfl) rfl ?_
  intro p e s m below meth c A ls X hr hlocks _ hK hN hA hP hD hl
  have hS : va_S A s.heap s.heap [] := va_S.rf
  have hl : lv_has ls 1 [(0, .int x0)] := hl
  obtain ⟨hx, hb, hml, hown, hts⟩ := id X
  refine lv_iload_n hx hb dX2_isPlace_0 rfl (lv_at hl 0 rfl) ?_
  refine lv_iconst (v := 0) hx hb dX2_isPlace_1 (by decide) ?_
  refine lv_bipush (v := 11) hx hb dX2_isPlace_2 (by decide) ?_
  obtain ⟨r1, z1, hG1, hF⟩ := o_b hF
  refine cl_S (rest := []) X hK hN hA hP hD hS (kX2_in l G cy cyO a z0 x0 0 11 r1 z1 hG1) (va_cwS 3 hts gX2_isPlace_X2_in rfl rfl rfl (by decide +kernel) ⟨Nat.le_of_ble_eq_true rfl, Nat.le_of_ble_eq_true rfl⟩) rfl hl.1 rfl (Nat.le_of_ble_eq_true rfl) dX2_isPlace_4 ⟨Nat.zero_le _, Nat.zero_le _⟩ (fun H locs hP hD hS => ?_)
  refine W.eq (g2 := F0 m 7 ls [.int r1]) rfl ?_
  obtain ⟨h2, hF⟩ := o_i hF
  have h2 : narrow .boolean (.int r1) = .int r1 := congrArg Value.int h2
  obtain ⟨rfl, rfl⟩ := o_s hF
  exact rt_z X hr hlocks hP hD hS h2 dX2_isPlace_7
def fX2_isRoute (z0 : SM) (x0 : Int32) : Option (Int32 × SM) := bd_ (fX2_in z0 x0 0 5) (fun r1 z1 => (if (r1 &&& 1) = r1 then some (r1, z1) else none))
set_option maxRecDepth 100000 in
set_option maxHeartbeats 4000000 in
theorem kX2_isRoute (l : Launch) (G : va_G) (cy cyO : ClassId) (a : Nat → Nat) (z0 : SM) (x0 : Int32) (r : Int32) (u : SM) (hF : fX2_isRoute z0 x0 = some (r, u)) : Ct l G (tys_ cy cyO) yX2_isRoute wsX2_isRoute ({ frames := 1, cells := 0, slots := 0, locals := 22 } : Room) [.int x0] (mW a cy z0) (some (.int r)) (mW a cy u) := by
  unfold fX2_isRoute at hF
  refine ct_of (cc := cX2_isRoute) (maxL := 1) (ret := (some .boolean)) (own := RX2) (by decide) rfl (Nat.le_of_ble_eq_true rfl) rfl ?_
  intro p e s m below meth c A ls X hr hlocks _ hK hN hA hP hD hl
  have hS : va_S A s.heap s.heap [] := va_S.rf
  have hl : lv_has ls 1 [(0, .int x0)] := hl
  obtain ⟨hx, hb, hml, hown, hts⟩ := id X
  refine lv_iload_n hx hb dX2_isRoute_0 rfl (lv_at hl 0 rfl) ?_
  refine lv_iconst (v := 0) hx hb dX2_isRoute_1 (by decide) ?_
  refine lv_iconst (v := 5) hx hb dX2_isRoute_2 (by decide) ?_
  obtain ⟨r1, z1, hG1, hF⟩ := o_b hF
  refine cl_S (rest := []) X hK hN hA hP hD hS (kX2_in l G cy cyO a z0 x0 0 5 r1 z1 hG1) (va_cwS 3 hts gX2_isRoute_X2_in rfl rfl rfl (by decide +kernel) ⟨Nat.le_of_ble_eq_true rfl, Nat.le_of_ble_eq_true rfl⟩) rfl hl.1 rfl (Nat.le_of_ble_eq_true rfl) dX2_isRoute_3 ⟨Nat.zero_le _, Nat.zero_le _⟩ (fun H locs hP hD hS => ?_)
  refine W.eq (g2 := F0 m 6 ls [.int r1]) rfl ?_
  obtain ⟨h2, hF⟩ := o_i hF
  have h2 : narrow .boolean (.int r1) = .int r1 := congrArg Value.int h2
  obtain ⟨rfl, rfl⟩ := o_s hF
  exact rt_z X hr hlocks hP hD hS h2 dX2_isRoute_6
def fX2_ended (z0 : SM) (x0 : Int32) (x1 : Int32) : Option (Int32 × SM) := (if x0 = 2 then some (((-100) - x1), z0) else some (x0, z0))
set_option maxRecDepth 100000 in
set_option maxHeartbeats 4000000 in
theorem kX2_ended (l : Launch) (G : va_G) (cy cyO : ClassId) (a : Nat → Nat) (z0 : SM) (x0 : Int32) (x1 : Int32) (r : Int32) (u : SM) (hF : fX2_ended z0 x0 x1 = some (r, u)) : Ct l G (tys_ cy cyO) yX2_ended wsX2_ended ({ frames := 0, cells := 0, slots := 0, locals := 0 } : Room) [.int x0, .int x1] (mW a cy z0) (some (.int r)) (mW a cy u) := by
  unfold fX2_ended at hF
  refine ct_of (cc := cX2_ended) (maxL := 2) (ret := (some .int)) (own := RX2) (by decide) rfl (Nat.le_of_ble_eq_true rfl) rfl ?_
  intro p e s m below meth c A ls X hr hlocks _ hK hN hA hP hD hl
  have hS : va_S A s.heap s.heap [] := va_S.rf
  have hl : lv_has ls 2 [(0, .int x0), (1, .int x1)] := hl
  obtain ⟨hx, hb, hml, hown, hts⟩ := id X
  refine lv_iload_n hx hb dX2_ended_0 rfl (lv_at hl 0 rfl) ?_
  refine lv_iconst (v := 2) hx hb dX2_ended_1 (by decide) ?_
  refine lv_icmp_ne (tgt := 12) hx hb dX2_ended_2 (by decide) (fun c1 => ?_) (fun c1 => ?_)
  · have hF := o_f c1 hF
    refine lv_iload_n hx hb dX2_ended_12 rfl (lv_at hl 0 rfl) ?_
    obtain ⟨rfl, rfl⟩ := o_s hF
    exact rt_i X hr hlocks hP hD hS dX2_ended_13
  · have hF := o_t c1 hF
    refine lv_bipush (v := (-100)) hx hb dX2_ended_5 (by decide) ?_
    refine lv_iload_n hx hb dX2_ended_7 rfl (lv_at hl 1 rfl) ?_
    refine lv_isub hx hb dX2_ended_8 ?_
    refine lv_goto (tgt := 13) hx hb dX2_ended_9 (by decide) ?_
    obtain ⟨rfl, rfl⟩ := o_s hF
    exact rt_i X hr hlocks hP hD hS dX2_ended_13
def fX2_leave (z0 : SM) (x1 : Int32) : Option (Int32 × SM) := (if 150 ≤ z0.2.2.2.2.2.1 then some (0, z0) else if z0.2.2.2.2.2.1 < 0 ∨ 150 ≤ z0.2.2.2.2.2.1.toNatClampNeg then none else let_ ((z0.1, z0.2.1, z0.2.2.1, z0.2.2.2.1, (upd z0.2.2.2.2.1 z0.2.2.2.2.2.1.toNatClampNeg x1), z0.2.2.2.2.2) : SM) (fun z3 => let_ ((z3.1, z3.2.1, z3.2.2.1, z3.2.2.2.1, z3.2.2.2.2.1, (z3.2.2.2.2.2.1 + 1), z3.2.2.2.2.2.2) : SM) (fun z4 => some (0, z4))))
set_option maxRecDepth 100000 in
set_option maxHeartbeats 4000000 in
theorem kX2_leave (l : Launch) (G : va_G) (cy cyO : ClassId) (a : Nat → Nat) (z0 : SM) (x1 : Int32) (r : Int32) (u : SM) (hF : fX2_leave z0 x1 = some (r, u)) : Ct l G (tys_ cy cyO) yX2_leave wsX2_leave ({ frames := 0, cells := 0, slots := 0, locals := 0 } : Room) [.ref (a 0), .int x1] (mW a cy z0) none (mW a cy u) := by
  unfold fX2_leave at hF
  refine ct_of (cc := cX2_leave) (maxL := 2) (ret := none) (own := RX2) (by decide) rfl (Nat.le_of_ble_eq_true rfl) rfl ?_
  intro p e s m below meth c A ls X hr hlocks _ hK hN hA hP hD hl
  have hS : va_S A s.heap s.heap [] := va_S.rf
  have hl : lv_has ls 2 [(0, .ref (a 0)), (1, .int x1)] := hl
  obtain ⟨hx, hb, hml, hown, hts⟩ := id X
  have hin2 : ∀ w ∈ wsX20, w ∈ wsX2_leave := by decide +kernel
  refine lv_aload_n hx hb dX2_leave_0 rfl (lv_at hl 0 rfl) ?_
  refine va_get (D := G) (ci := 2) (v := .int z0.2.2.2.2.2.1) (C := RX2) (T := TX2) (N := 18) hx hb hts hin2 hown hK hP 0 rfl rfl 13 (by decide) (hts (.fieldLink RX2 62 "SignalBoxModel" "traced" "I") (by decide +kernel)) (fun _ h9 => h9) rfl dX2_leave_1 ?_
  refine lv_sipush (v := 150) hx hb dX2_leave_4 (by decide) ?_
  refine lv_icmp_ge (tgt := 30) hx hb dX2_leave_7 (by decide) (fun c1 => ?_) (fun c1 => ?_)
  · have hF := o_t c1 hF
    obtain ⟨rfl, rfl⟩ := o_s hF
    exact rt_v X hr hlocks hP hD hS dX2_leave_30
  · have hF := o_f c1 hF
    refine lv_aload_n hx hb dX2_leave_10 rfl (lv_at hl 0 rfl) ?_
    refine va_get (D := G) (ci := 2) (v := .ref (a 12)) (C := RX2) (T := TX2) (N := 18) hx hb hts hin2 hown hK hP 0 rfl rfl 12 (by decide) (hts (.fieldLink RX2 43 "SignalBoxModel" "trace" "[I") (by decide +kernel)) (fun _ h9 => h9) rfl dX2_leave_11 ?_
    refine lv_aload_n hx hb dX2_leave_14 rfl (lv_at hl 0 rfl) ?_
    refine va_get (D := G) (ci := 2) (v := .int z0.2.2.2.2.2.1) (C := RX2) (T := TX2) (N := 18) hx hb hts hin2 hown hK hP 0 rfl rfl 13 (by decide) (hts (.fieldLink RX2 62 "SignalBoxModel" "traced" "I") (by decide +kernel)) (fun _ h9 => h9) rfl dX2_leave_15 ?_
    refine lv_iload_n hx hb dX2_leave_18 rfl (lv_at hl 1 rfl) ?_
    obtain ⟨h2, hF⟩ := o_n hF
    refine va_iast (n := 150) (f := z0.2.2.2.2.1) (cA := cy) hx hb hK hP hD hS 12 0 rfl rfl h2 dX2_leave_19 (fun H locs hP hD hS => ?_)
    obtain ⟨z3, e3, hF⟩ := o_l hF
    have hP : va_P G vwCl (mW a cy z3) H := by rw [e3]; exact hP
    have hD : va_D A (mW a cy z3) := by rw [e3]; exact hD
    refine lv_aload_n hx hb dX2_leave_20 rfl (lv_at hl 0 rfl) ?_
    refine lv_dup hx hb dX2_leave_21 rfl ?_
    refine va_get (D := G) (ci := 2) (v := .int z3.2.2.2.2.2.1) (C := RX2) (T := TX2) (N := 18) hx hb hts hin2 hown hK hP 0 rfl rfl 13 (by decide) (hts (.fieldLink RX2 62 "SignalBoxModel" "traced" "I") (by decide +kernel)) (fun _ h9 => h9) rfl dX2_leave_22 ?_
    refine lv_iconst (v := 1) hx hb dX2_leave_25 (by decide) ?_
    refine lv_iadd hx hb dX2_leave_26 ?_
    refine va_put (D := G) (ci := 2) (v := .int (z3.2.2.2.2.2.1 + 1)) (ty := .int) (C := RX2) (T := TX2) (N := 18) hx hb hts hin2 tyX2 tyX2_ok nmX2 hown hK hP hD hS 0 rfl rfl 13 (by decide) (hts (.fieldLink RX2 62 "SignalBoxModel" "traced" "I") (by decide +kernel)) (fun _ h9 => h9) rfl (by decide +kernel) rfl rfl (Nat.le_of_ble_eq_true rfl) dX2_leave_27 (fun H locs hP hD hS => ?_)
    obtain ⟨z4, e4, hF⟩ := o_l hF
    have hP : va_P G vwCl (mW a cy z4) H := by rw [e4]; exact hP
    have hD : va_D A (mW a cy z4) := by rw [e4]; exact hD
    obtain ⟨rfl, rfl⟩ := o_s hF
    exact rt_v X hr hlocks hP hD hS dX2_leave_30
def fX2_claim (z0 : SM) (x1 : Int32) : Option (Int32 × SM) := if x1 < 0 ∨ 640 ≤ x1.toNatClampNeg then none else let_ ((z0.1 7) x1.toNatClampNeg) (fun v1 => if x1 < 0 ∨ 640 ≤ x1.toNatClampNeg then none else let_ ((setA z0.1 7 (upd (z0.1 7) x1.toNatClampNeg (v1 + 1)), z0.2) : SM) (fun z3 => if x1 < 0 ∨ 640 ≤ x1.toNatClampNeg then none else let_ ((z3.1 6) x1.toNatClampNeg) (fun v4 => if x1 < 0 ∨ 640 ≤ x1.toNatClampNeg then none else let_ ((setA z3.1 6 (upd (z3.1 6) x1.toNatClampNeg (v4 + 1)), z3.2) : SM) (fun z6 => if x1 < 0 ∨ 640 ≤ x1.toNatClampNeg then none else let_ ((z6.1 7) x1.toNatClampNeg) (fun v7 => if x1 < 0 ∨ 640 ≤ x1.toNatClampNeg then none else let_ ((z6.1 8) x1.toNatClampNeg) (fun v8 => (if v7 ≤ v8 then if x1 < 0 ∨ 640 ≤ x1.toNatClampNeg then none else let_ ((z6.1 8) x1.toNatClampNeg) (fun v10 => if x1 < 0 ∨ 640 ≤ x1.toNatClampNeg then none else let_ ((setA z6.1 8 (upd (z6.1 8) x1.toNatClampNeg v10), z6.2) : SM) (fun z12 => bd_ (fX2_leave z12 (1000 + x1)) (fun r13 z13 => some (0, z13)))) else if x1 < 0 ∨ 640 ≤ x1.toNatClampNeg then none else let_ ((z6.1 7) x1.toNatClampNeg) (fun v14 => if x1 < 0 ∨ 640 ≤ x1.toNatClampNeg then none else let_ ((setA z6.1 8 (upd (z6.1 8) x1.toNatClampNeg v14), z6.2) : SM) (fun z16 => bd_ (fX2_leave z16 (1000 + x1)) (fun r17 z17 => some (0, z17)))))))))))
set_option maxRecDepth 100000 in
set_option maxHeartbeats 4000000 in
theorem kX2_claim (l : Launch) (G : va_G) (cy cyO : ClassId) (a : Nat → Nat) (z0 : SM) (x1 : Int32) (r : Int32) (u : SM) (hF : fX2_claim z0 x1 = some (r, u)) : Ct l G (tys_ cy cyO) yX2_claim wsX2_claim ({ frames := 1, cells := 0, slots := 0, locals := 21 } : Room) [.ref (a 0), .int x1] (mW a cy z0) none (mW a cy u) := by
  unfold fX2_claim at hF
  refine ct_of (cc := cX2_claim) (maxL := 2) (ret := none) (own := RX2) (by decide) rfl (Nat.le_of_ble_eq_true rfl) rfl ?_
  intro p e s m below meth c A ls X hr hlocks _ hK hN hA hP hD hl
  have hS : va_S A s.heap s.heap [] := va_S.rf
  have hl : lv_has ls 2 [(0, .ref (a 0)), (1, .int x1)] := hl
  obtain ⟨hx, hb, hml, hown, hts⟩ := id X
  have hin2 : ∀ w ∈ wsX20, w ∈ wsX2_claim := by decide +kernel
  refine lv_aload_n hx hb dX2_claim_0 rfl (lv_at hl 0 rfl) ?_
  refine va_get (D := G) (ci := 2) (v := .ref (a 7)) (C := RX2) (T := TX2) (N := 18) hx hb hts hin2 hown hK hP 0 rfl rfl 7 (by decide) (hts (.fieldLink RX2 28 "SignalBoxModel" "held" "[I") (by decide +kernel)) (fun _ h9 => h9) rfl dX2_claim_1 ?_
  refine lv_iload_n hx hb dX2_claim_4 rfl (lv_at hl 1 rfl) ?_
  refine lv_dup2_11 hx hb dX2_claim_5 rfl rfl ?_
  obtain ⟨h1, hF⟩ := o_n hF
  refine va_iald (n := 640) (f := (z0.1 7)) (cA := cy) hx hb hK hP 7 0 rfl rfl h1 dX2_claim_6 ?_
  obtain ⟨v1, e1, hF⟩ := o_l hF
  refine w_top e1 ?_
  refine lv_iconst (v := 1) hx hb dX2_claim_7 (by decide) ?_
  refine lv_iadd hx hb dX2_claim_8 ?_
  obtain ⟨h2, hF⟩ := o_n hF
  refine va_iast (n := 640) (f := (z0.1 7)) (cA := cy) hx hb hK hP hD hS 7 0 rfl rfl h2 dX2_claim_9 (fun H locs hP hD hS => ?_)
  obtain ⟨z3, e3, hF⟩ := o_l hF
  have hP : va_P G vwCl (mW a cy z3) H := by rw [e3]; exact hP
  have hD : va_D A (mW a cy z3) := by rw [e3]; exact hD
  refine lv_aload_n hx hb dX2_claim_10 rfl (lv_at hl 0 rfl) ?_
  refine va_get (D := G) (ci := 2) (v := .ref (a 6)) (C := RX2) (T := TX2) (N := 18) hx hb hts hin2 hown hK hP 0 rfl rfl 6 (by decide) (hts (.fieldLink RX2 25 "SignalBoxModel" "claims" "[I") (by decide +kernel)) (fun _ h9 => h9) rfl dX2_claim_11 ?_
  refine lv_iload_n hx hb dX2_claim_14 rfl (lv_at hl 1 rfl) ?_
  refine lv_dup2_11 hx hb dX2_claim_15 rfl rfl ?_
  obtain ⟨h4, hF⟩ := o_n hF
  refine va_iald (n := 640) (f := (z3.1 6)) (cA := cy) hx hb hK hP 6 0 rfl rfl h4 dX2_claim_16 ?_
  obtain ⟨v4, e4, hF⟩ := o_l hF
  refine w_top e4 ?_
  refine lv_iconst (v := 1) hx hb dX2_claim_17 (by decide) ?_
  refine lv_iadd hx hb dX2_claim_18 ?_
  obtain ⟨h5, hF⟩ := o_n hF
  refine va_iast (n := 640) (f := (z3.1 6)) (cA := cy) hx hb hK hP hD hS 6 0 rfl rfl h5 dX2_claim_19 (fun H locs hP hD hS => ?_)
  obtain ⟨z6, e6, hF⟩ := o_l hF
  have hP : va_P G vwCl (mW a cy z6) H := by rw [e6]; exact hP
  have hD : va_D A (mW a cy z6) := by rw [e6]; exact hD
  refine lv_aload_n hx hb dX2_claim_20 rfl (lv_at hl 0 rfl) ?_
  refine va_get (D := G) (ci := 2) (v := .ref (a 8)) (C := RX2) (T := TX2) (N := 18) hx hb hts hin2 hown hK hP 0 rfl rfl 8 (by decide) (hts (.fieldLink RX2 31 "SignalBoxModel" "most" "[I") (by decide +kernel)) (fun _ h9 => h9) rfl dX2_claim_21 ?_
  refine lv_iload_n hx hb dX2_claim_24 rfl (lv_at hl 1 rfl) ?_
  refine lv_aload_n hx hb dX2_claim_25 rfl (lv_at hl 0 rfl) ?_
  refine va_get (D := G) (ci := 2) (v := .ref (a 7)) (C := RX2) (T := TX2) (N := 18) hx hb hts hin2 hown hK hP 0 rfl rfl 7 (by decide) (hts (.fieldLink RX2 28 "SignalBoxModel" "held" "[I") (by decide +kernel)) (fun _ h9 => h9) rfl dX2_claim_26 ?_
  refine lv_iload_n hx hb dX2_claim_29 rfl (lv_at hl 1 rfl) ?_
  obtain ⟨h7, hF⟩ := o_n hF
  refine va_iald (n := 640) (f := (z6.1 7)) (cA := cy) hx hb hK hP 7 0 rfl rfl h7 dX2_claim_30 ?_
  obtain ⟨v7, e7, hF⟩ := o_l hF
  refine w_top e7 ?_
  refine lv_aload_n hx hb dX2_claim_31 rfl (lv_at hl 0 rfl) ?_
  refine va_get (D := G) (ci := 2) (v := .ref (a 8)) (C := RX2) (T := TX2) (N := 18) hx hb hts hin2 hown hK hP 0 rfl rfl 8 (by decide) (hts (.fieldLink RX2 31 "SignalBoxModel" "most" "[I") (by decide +kernel)) (fun _ h9 => h9) rfl dX2_claim_32 ?_
  refine lv_iload_n hx hb dX2_claim_35 rfl (lv_at hl 1 rfl) ?_
  obtain ⟨h8, hF⟩ := o_n hF
  refine va_iald (n := 640) (f := (z6.1 8)) (cA := cy) hx hb hK hP 8 0 rfl rfl h8 dX2_claim_36 ?_
  obtain ⟨v8, e8, hF⟩ := o_l hF
  refine w_top e8 ?_
  refine lv_icmp_le (tgt := 49) hx hb dX2_claim_37 (by decide) (fun c9 => ?_) (fun c9 => ?_)
  · have hF := o_t c9 hF
    refine lv_aload_n hx hb dX2_claim_49 rfl (lv_at hl 0 rfl) ?_
    refine va_get (D := G) (ci := 2) (v := .ref (a 8)) (C := RX2) (T := TX2) (N := 18) hx hb hts hin2 hown hK hP 0 rfl rfl 8 (by decide) (hts (.fieldLink RX2 31 "SignalBoxModel" "most" "[I") (by decide +kernel)) (fun _ h9 => h9) rfl dX2_claim_50 ?_
    refine lv_iload_n hx hb dX2_claim_53 rfl (lv_at hl 1 rfl) ?_
    obtain ⟨h10, hF⟩ := o_n hF
    refine va_iald (n := 640) (f := (z6.1 8)) (cA := cy) hx hb hK hP 8 0 rfl rfl h10 dX2_claim_54 ?_
    obtain ⟨v10, e10, hF⟩ := o_l hF
    refine w_top e10 ?_
    obtain ⟨h11, hF⟩ := o_n hF
    refine va_iast (n := 640) (f := (z6.1 8)) (cA := cy) hx hb hK hP hD hS 8 0 rfl rfl h11 dX2_claim_55 (fun H locs hP hD hS => ?_)
    obtain ⟨z12, e12, hF⟩ := o_l hF
    have hP : va_P G vwCl (mW a cy z12) H := by rw [e12]; exact hP
    have hD : va_D A (mW a cy z12) := by rw [e12]; exact hD
    refine lv_aload_n hx hb dX2_claim_56 rfl (lv_at hl 0 rfl) ?_
    refine lv_sipush (v := 1000) hx hb dX2_claim_57 (by decide) ?_
    refine lv_iload_n hx hb dX2_claim_60 rfl (lv_at hl 1 rfl) ?_
    refine lv_iadd hx hb dX2_claim_61 ?_
    obtain ⟨r13, z13, hG13, hF⟩ := o_b hF
    refine cl_V (C := RX2) (rest := []) X hK hN hA hP hD hS (kX2_leave l G cy cyO a z12 (1000 + x1) r13 z13 hG13) (cwV 1 hts gX2_claim_X2_leave rfl rfl rfl (by decide +kernel) ⟨Nat.le_of_ble_eq_true rfl, Nat.le_of_ble_eq_true rfl⟩) (va_recv hK hP (ci := 2) (q0 := 0) rfl rfl) rfl hl.1 rfl (Nat.le_of_ble_eq_true rfl) dX2_claim_62 ⟨Nat.zero_le _, Nat.zero_le _⟩ (fun H locs hP hD hS => ?_)
    refine W.eq (g2 := F0 m 65 ls []) rfl ?_
    obtain ⟨rfl, rfl⟩ := o_s hF
    exact rt_v X hr hlocks hP hD hS dX2_claim_65
  · have hF := o_f c9 hF
    refine lv_aload_n hx hb dX2_claim_40 rfl (lv_at hl 0 rfl) ?_
    refine va_get (D := G) (ci := 2) (v := .ref (a 7)) (C := RX2) (T := TX2) (N := 18) hx hb hts hin2 hown hK hP 0 rfl rfl 7 (by decide) (hts (.fieldLink RX2 28 "SignalBoxModel" "held" "[I") (by decide +kernel)) (fun _ h9 => h9) rfl dX2_claim_41 ?_
    refine lv_iload_n hx hb dX2_claim_44 rfl (lv_at hl 1 rfl) ?_
    obtain ⟨h14, hF⟩ := o_n hF
    refine va_iald (n := 640) (f := (z6.1 7)) (cA := cy) hx hb hK hP 7 0 rfl rfl h14 dX2_claim_45 ?_
    obtain ⟨v14, e14, hF⟩ := o_l hF
    refine w_top e14 ?_
    refine lv_goto (tgt := 55) hx hb dX2_claim_46 (by decide) ?_
    obtain ⟨h15, hF⟩ := o_n hF
    refine va_iast (n := 640) (f := (z6.1 8)) (cA := cy) hx hb hK hP hD hS 8 0 rfl rfl h15 dX2_claim_55 (fun H locs hP hD hS => ?_)
    obtain ⟨z16, e16, hF⟩ := o_l hF
    have hP : va_P G vwCl (mW a cy z16) H := by rw [e16]; exact hP
    have hD : va_D A (mW a cy z16) := by rw [e16]; exact hD
    refine lv_aload_n hx hb dX2_claim_56 rfl (lv_at hl 0 rfl) ?_
    refine lv_sipush (v := 1000) hx hb dX2_claim_57 (by decide) ?_
    refine lv_iload_n hx hb dX2_claim_60 rfl (lv_at hl 1 rfl) ?_
    refine lv_iadd hx hb dX2_claim_61 ?_
    obtain ⟨r17, z17, hG17, hF⟩ := o_b hF
    refine cl_V (C := RX2) (rest := []) X hK hN hA hP hD hS (kX2_leave l G cy cyO a z16 (1000 + x1) r17 z17 hG17) (cwV 1 hts gX2_claim_X2_leave rfl rfl rfl (by decide +kernel) ⟨Nat.le_of_ble_eq_true rfl, Nat.le_of_ble_eq_true rfl⟩) (va_recv hK hP (ci := 2) (q0 := 0) rfl rfl) rfl hl.1 rfl (Nat.le_of_ble_eq_true rfl) dX2_claim_62 ⟨Nat.zero_le _, Nat.zero_le _⟩ (fun H locs hP hD hS => ?_)
    refine W.eq (g2 := F0 m 65 ls []) rfl ?_
    obtain ⟨rfl, rfl⟩ := o_s hF
    exact rt_v X hr hlocks hP hD hS dX2_claim_65
def fX2_let (z0 : SM) (x1 : Int32) : Option (Int32 × SM) := if x1 < 0 ∨ 640 ≤ x1.toNatClampNeg then none else let_ ((z0.1 7) x1.toNatClampNeg) (fun v1 => if x1 < 0 ∨ 640 ≤ x1.toNatClampNeg then none else let_ ((setA z0.1 7 (upd (z0.1 7) x1.toNatClampNeg (v1 - 1)), z0.2) : SM) (fun z3 => bd_ (fX2_leave z3 (2000 + x1)) (fun r4 z4 => some (0, z4))))
set_option maxRecDepth 100000 in
set_option maxHeartbeats 4000000 in
theorem kX2_let (l : Launch) (G : va_G) (cy cyO : ClassId) (a : Nat → Nat) (z0 : SM) (x1 : Int32) (r : Int32) (u : SM) (hF : fX2_let z0 x1 = some (r, u)) : Ct l G (tys_ cy cyO) yX2_let wsX2_let ({ frames := 1, cells := 0, slots := 0, locals := 21 } : Room) [.ref (a 0), .int x1] (mW a cy z0) none (mW a cy u) := by
  unfold fX2_let at hF
  refine ct_of (cc := cX2_let) (maxL := 2) (ret := none) (own := RX2) (by decide) rfl (Nat.le_of_ble_eq_true rfl) rfl ?_
  intro p e s m below meth c A ls X hr hlocks _ hK hN hA hP hD hl
  have hS : va_S A s.heap s.heap [] := va_S.rf
  have hl : lv_has ls 2 [(0, .ref (a 0)), (1, .int x1)] := hl
  obtain ⟨hx, hb, hml, hown, hts⟩ := id X
  have hin2 : ∀ w ∈ wsX20, w ∈ wsX2_let := by decide +kernel
  refine lv_aload_n hx hb dX2_let_0 rfl (lv_at hl 0 rfl) ?_
  refine va_get (D := G) (ci := 2) (v := .ref (a 7)) (C := RX2) (T := TX2) (N := 18) hx hb hts hin2 hown hK hP 0 rfl rfl 7 (by decide) (hts (.fieldLink RX2 28 "SignalBoxModel" "held" "[I") (by decide +kernel)) (fun _ h9 => h9) rfl dX2_let_1 ?_
  refine lv_iload_n hx hb dX2_let_4 rfl (lv_at hl 1 rfl) ?_
  refine lv_dup2_11 hx hb dX2_let_5 rfl rfl ?_
  obtain ⟨h1, hF⟩ := o_n hF
  refine va_iald (n := 640) (f := (z0.1 7)) (cA := cy) hx hb hK hP 7 0 rfl rfl h1 dX2_let_6 ?_
  obtain ⟨v1, e1, hF⟩ := o_l hF
  refine w_top e1 ?_
  refine lv_iconst (v := 1) hx hb dX2_let_7 (by decide) ?_
  refine lv_isub hx hb dX2_let_8 ?_
  obtain ⟨h2, hF⟩ := o_n hF
  refine va_iast (n := 640) (f := (z0.1 7)) (cA := cy) hx hb hK hP hD hS 7 0 rfl rfl h2 dX2_let_9 (fun H locs hP hD hS => ?_)
  obtain ⟨z3, e3, hF⟩ := o_l hF
  have hP : va_P G vwCl (mW a cy z3) H := by rw [e3]; exact hP
  have hD : va_D A (mW a cy z3) := by rw [e3]; exact hD
  refine lv_aload_n hx hb dX2_let_10 rfl (lv_at hl 0 rfl) ?_
  refine lv_sipush (v := 2000) hx hb dX2_let_11 (by decide) ?_
  refine lv_iload_n hx hb dX2_let_14 rfl (lv_at hl 1 rfl) ?_
  refine lv_iadd hx hb dX2_let_15 ?_
  obtain ⟨r4, z4, hG4, hF⟩ := o_b hF
  refine cl_V (C := RX2) (rest := []) X hK hN hA hP hD hS (kX2_leave l G cy cyO a z3 (2000 + x1) r4 z4 hG4) (cwV 1 hts gX2_let_X2_leave rfl rfl rfl (by decide +kernel) ⟨Nat.le_of_ble_eq_true rfl, Nat.le_of_ble_eq_true rfl⟩) (va_recv hK hP (ci := 2) (q0 := 0) rfl rfl) rfl hl.1 rfl (Nat.le_of_ble_eq_true rfl) dX2_let_16 ⟨Nat.zero_le _, Nat.zero_le _⟩ (fun H locs hP hD hS => ?_)
  refine W.eq (g2 := F0 m 19 ls []) rfl ?_
  obtain ⟨rfl, rfl⟩ := o_s hF
  exact rt_v X hr hlocks hP hD hS dX2_let_19
def fX2_passPlain_j32 (z0 : SM) (y1 : Int32) (y2 : Int32) (t0 : Int32) : Option (Int32 × SM) := if y1 < 0 ∨ 640 ≤ y1.toNatClampNeg then none else let_ ((z0.1 4) y1.toNatClampNeg) (fun v1 => (if t0 = 0 then if y1 < 0 ∨ 640 ≤ y1.toNatClampNeg then none else let_ ((setA z0.1 4 (upd (z0.1 4) y1.toNatClampNeg (v1 + y2)), z0.2) : SM) (fun z7 => bd_ (fX2_let z7 y1) (fun r8 z8 => some (t0, z8))) else if y1 < 0 ∨ 640 ≤ y1.toNatClampNeg then none else let_ ((setA z0.1 4 (upd (z0.1 4) y1.toNatClampNeg (v1 + 0)), z0.2) : SM) (fun z4 => bd_ (fX2_let z4 y1) (fun r5 z5 => some (t0, z5)))))
set_option maxRecDepth 100000 in
set_option maxHeartbeats 4000000 in
theorem jX2_passPlain_32 {p : Program} {l : Launch} {e : Env} {s : State} {m : MethodId} {args : Array Value} {below : List Frame} {meth : Method} {c : Code} {G : va_G} {cy cyO : ClassId} {a : Nat → Nat} {A : Nat → Prop} {r : Int32} {u : SM} (X : CallFix p m c cX2_passPlain 4 s args wsX2_passPlain RX2) (hr : meth.sig.returnType = (some .int)) (hlocks : meth.locks = false) (hK : va_K G vwCl (tys_ cy cyO) s) (hN : nw s) (hA : ∀ q, s.heap.size ≤ q → A q) : ∀ (z0 : SM) (y1 : Int32) (y2 : Int32) (t0 : Int32), fX2_passPlain_j32 z0 y1 y2 t0 = some (r, u) → ∀ (H : Heap) (locs : List Loc), va_P G vwCl (mW a cy z0) H → va_D A (mW a cy z0) → va_S A s.heap H locs → ∀ (ls : Array Slot), lv_has ls 4 [(0, .ref (a 0)), (1, .int y1), (2, .int y2)] → W p l e ({ frames := 2, cells := 0, slots := 0, locals := 42 } : Room) s m args below meth c H locs 0 0 (MQ below (qg (some (.int r)) (fun t => wPost G A (mW a cy u) t) A) args s 0 0 A) (F0 m 32 ls [.int t0]) := by
  obtain ⟨hx, hb, hml, hown, hts⟩ := id X
  have hin2 : ∀ w ∈ wsX20, w ∈ wsX2_passPlain := by decide +kernel
  intro z0 y1 y2 t0 hF H locs hP hD hS ls hl
  unfold fX2_passPlain_j32 at hF
  refine lv_istore_n (lv' := [(3, .int t0), (0, .ref (a 0)), (1, .int y1), (2, .int y2)]) hx hb dX2_passPlain_32 rfl hl (by decide) rfl (fun ls hl => ?_)
  refine lv_aload_n hx hb dX2_passPlain_33 rfl (lv_at hl 1 rfl) ?_
  refine va_get (D := G) (ci := 2) (v := .ref (a 4)) (C := RX2) (T := TX2) (N := 18) hx hb hts hin2 hown hK hP 0 rfl rfl 4 (by decide) (hts (.fieldLink RX2 19 "SignalBoxModel" "axles" "[I") (by decide +kernel)) (fun _ h9 => h9) rfl dX2_passPlain_34 ?_
  refine lv_iload_n hx hb dX2_passPlain_37 rfl (lv_at hl 2 rfl) ?_
  refine lv_dup2_11 hx hb dX2_passPlain_38 rfl rfl ?_
  obtain ⟨h1, hF⟩ := o_n hF
  refine va_iald (n := 640) (f := (z0.1 4)) (cA := cy) hx hb hK hP 4 0 rfl rfl h1 dX2_passPlain_39 ?_
  obtain ⟨v1, e1, hF⟩ := o_l hF
  refine w_top e1 ?_
  refine lv_iload_n hx hb dX2_passPlain_40 rfl (lv_at hl 0 rfl) ?_
  refine lv_if_ne (tgt := 48) hx hb dX2_passPlain_41 (by decide) (fun c2 => ?_) (fun c2 => ?_)
  · have hF := o_f c2 hF
    refine lv_iconst (v := 0) hx hb dX2_passPlain_48 (by decide) ?_
    refine lv_iadd hx hb dX2_passPlain_49 ?_
    obtain ⟨h3, hF⟩ := o_n hF
    refine va_iast (n := 640) (f := (z0.1 4)) (cA := cy) hx hb hK hP hD hS 4 0 rfl rfl h3 dX2_passPlain_50 (fun H locs hP hD hS => ?_)
    obtain ⟨z4, e4, hF⟩ := o_l hF
    have hP : va_P G vwCl (mW a cy z4) H := by rw [e4]; exact hP
    have hD : va_D A (mW a cy z4) := by rw [e4]; exact hD
    refine lv_aload_n hx hb dX2_passPlain_51 rfl (lv_at hl 1 rfl) ?_
    refine lv_iload_n hx hb dX2_passPlain_52 rfl (lv_at hl 2 rfl) ?_
    obtain ⟨r5, z5, hG5, hF⟩ := o_b hF
    refine cl_V (C := RX2) (rest := []) X hK hN hA hP hD hS (kX2_let l G cy cyO a z4 y1 r5 z5 hG5) (cwV 1 hts gX2_passPlain_X2_let rfl rfl rfl (by decide +kernel) ⟨Nat.le_of_ble_eq_true rfl, Nat.le_of_ble_eq_true rfl⟩) (va_recv hK hP (ci := 2) (q0 := 0) rfl rfl) rfl hl.1 rfl (Nat.le_of_ble_eq_true rfl) dX2_passPlain_53 ⟨Nat.zero_le _, Nat.zero_le _⟩ (fun H locs hP hD hS => ?_)
    refine W.eq (g2 := F0 m 56 ls []) rfl ?_
    refine lv_iload_n hx hb dX2_passPlain_56 rfl (lv_at hl 0 rfl) ?_
    obtain ⟨rfl, rfl⟩ := o_s hF
    exact rt_i X hr hlocks hP hD hS dX2_passPlain_57
  · have hF := o_t c2 hF
    refine lv_iload_n hx hb dX2_passPlain_44 rfl (lv_at hl 3 rfl) ?_
    refine lv_goto (tgt := 49) hx hb dX2_passPlain_45 (by decide) ?_
    refine lv_iadd hx hb dX2_passPlain_49 ?_
    obtain ⟨h6, hF⟩ := o_n hF
    refine va_iast (n := 640) (f := (z0.1 4)) (cA := cy) hx hb hK hP hD hS 4 0 rfl rfl h6 dX2_passPlain_50 (fun H locs hP hD hS => ?_)
    obtain ⟨z7, e7, hF⟩ := o_l hF
    have hP : va_P G vwCl (mW a cy z7) H := by rw [e7]; exact hP
    have hD : va_D A (mW a cy z7) := by rw [e7]; exact hD
    refine lv_aload_n hx hb dX2_passPlain_51 rfl (lv_at hl 1 rfl) ?_
    refine lv_iload_n hx hb dX2_passPlain_52 rfl (lv_at hl 2 rfl) ?_
    obtain ⟨r8, z8, hG8, hF⟩ := o_b hF
    refine cl_V (C := RX2) (rest := []) X hK hN hA hP hD hS (kX2_let l G cy cyO a z7 y1 r8 z8 hG8) (cwV 1 hts gX2_passPlain_X2_let rfl rfl rfl (by decide +kernel) ⟨Nat.le_of_ble_eq_true rfl, Nat.le_of_ble_eq_true rfl⟩) (va_recv hK hP (ci := 2) (q0 := 0) rfl rfl) rfl hl.1 rfl (Nat.le_of_ble_eq_true rfl) dX2_passPlain_53 ⟨Nat.zero_le _, Nat.zero_le _⟩ (fun H locs hP hD hS => ?_)
    refine W.eq (g2 := F0 m 56 ls []) rfl ?_
    refine lv_iload_n hx hb dX2_passPlain_56 rfl (lv_at hl 0 rfl) ?_
    obtain ⟨rfl, rfl⟩ := o_s hF
    exact rt_i X hr hlocks hP hD hS dX2_passPlain_57
def fX2_passPlain (z0 : SM) (x1 : Int32) (x2 : Int32) : Option (Int32 × SM) := bd_ (fX2_claim z0 x1) (fun r1 z1 => if x1 < 0 ∨ 640 ≤ x1.toNatClampNeg then none else let_ ((z1.1 4) x1.toNatClampNeg) (fun v2 => if x1 < 0 ∨ 640 ≤ x1.toNatClampNeg then none else let_ ((z1.1 2) x1.toNatClampNeg) (fun v3 => (if (lg_cmp (v2.toInt64 + x2.toInt64) v3.toInt64) ≤ 0 then (fX2_passPlain_j32 z1 x1 x2 0) else (fX2_passPlain_j32 z1 x1 x2 (-30))))))
set_option maxRecDepth 100000 in
set_option maxHeartbeats 4000000 in
theorem kX2_passPlain (l : Launch) (G : va_G) (cy cyO : ClassId) (a : Nat → Nat) (z0 : SM) (x1 : Int32) (x2 : Int32) (r : Int32) (u : SM) (hF : fX2_passPlain z0 x1 x2 = some (r, u)) : Ct l G (tys_ cy cyO) yX2_passPlain wsX2_passPlain ({ frames := 2, cells := 0, slots := 0, locals := 42 } : Room) [.ref (a 0), .int x1, .int x2] (mW a cy z0) (some (.int r)) (mW a cy u) := by
  unfold fX2_passPlain at hF
  refine ct_of (cc := cX2_passPlain) (maxL := 4) (ret := (some .int)) (own := RX2) (by decide) rfl (Nat.le_of_ble_eq_true rfl) rfl ?_
  intro p e s m below meth c A ls X hr hlocks _ hK hN hA hP hD hl
  have hS : va_S A s.heap s.heap [] := va_S.rf
  have hl : lv_has ls 4 [(0, .ref (a 0)), (1, .int x1), (2, .int x2)] := hl
  obtain ⟨hx, hb, hml, hown, hts⟩ := id X
  have hin2 : ∀ w ∈ wsX20, w ∈ wsX2_passPlain := by decide +kernel
  refine lv_aload_n hx hb dX2_passPlain_0 rfl (lv_at hl 0 rfl) ?_
  refine lv_iload_n hx hb dX2_passPlain_1 rfl (lv_at hl 1 rfl) ?_
  obtain ⟨r1, z1, hG1, hF⟩ := o_b hF
  refine cl_V (C := RX2) (rest := []) X hK hN hA hP hD hS (kX2_claim l G cy cyO a z0 x1 r1 z1 hG1) (cwV 1 hts gX2_passPlain_X2_claim rfl rfl rfl (by decide +kernel) ⟨Nat.le_of_ble_eq_true rfl, Nat.le_of_ble_eq_true rfl⟩) (va_recv hK hP (ci := 2) (q0 := 0) rfl rfl) rfl hl.1 rfl (Nat.le_of_ble_eq_true rfl) dX2_passPlain_2 ⟨Nat.zero_le _, Nat.zero_le _⟩ (fun H locs hP hD hS => ?_)
  refine W.eq (g2 := F0 m 5 ls []) rfl ?_
  refine lv_aload_n hx hb dX2_passPlain_5 rfl (lv_at hl 0 rfl) ?_
  refine va_get (D := G) (ci := 2) (v := .ref (a 4)) (C := RX2) (T := TX2) (N := 18) hx hb hts hin2 hown hK hP 0 rfl rfl 4 (by decide) (hts (.fieldLink RX2 19 "SignalBoxModel" "axles" "[I") (by decide +kernel)) (fun _ h9 => h9) rfl dX2_passPlain_6 ?_
  refine lv_iload_n hx hb dX2_passPlain_9 rfl (lv_at hl 1 rfl) ?_
  obtain ⟨h2, hF⟩ := o_n hF
  refine va_iald (n := 640) (f := (z1.1 4)) (cA := cy) hx hb hK hP 4 0 rfl rfl h2 dX2_passPlain_10 ?_
  obtain ⟨v2, e2, hF⟩ := o_l hF
  refine w_top e2 ?_
  refine lv_i2l hx hb dX2_passPlain_11 rfl ?_
  refine lv_iload_n hx hb dX2_passPlain_12 rfl (lv_at hl 2 rfl) ?_
  refine lv_i2l hx hb dX2_passPlain_13 rfl ?_
  refine lv_ladd hx hb dX2_passPlain_14 ?_
  refine lv_aload_n hx hb dX2_passPlain_15 rfl (lv_at hl 0 rfl) ?_
  refine va_get (D := G) (ci := 2) (v := .ref (a 2)) (C := RX2) (T := TX2) (N := 18) hx hb hts hin2 hown hK hP 0 rfl rfl 2 (by decide) (hts (.fieldLink RX2 13 "SignalBoxModel" "limits" "[I") (by decide +kernel)) (fun _ h9 => h9) rfl dX2_passPlain_16 ?_
  refine lv_iload_n hx hb dX2_passPlain_19 rfl (lv_at hl 1 rfl) ?_
  obtain ⟨h3, hF⟩ := o_n hF
  refine va_iald (n := 640) (f := (z1.1 2)) (cA := cy) hx hb hK hP 2 0 rfl rfl h3 dX2_passPlain_20 ?_
  obtain ⟨v3, e3, hF⟩ := o_l hF
  refine w_top e3 ?_
  refine lv_i2l hx hb dX2_passPlain_21 rfl ?_
  refine W.lcmp hx hb dX2_passPlain_22 ?_
  refine lv_if_le (tgt := 31) hx hb dX2_passPlain_23 (by decide) (fun c4 => ?_) (fun c4 => ?_)
  · have hF := o_t c4 hF
    refine lv_iconst (v := 0) hx hb dX2_passPlain_31 (by decide) ?_
    exact jX2_passPlain_32 X hr hlocks hK hN hA z1 x1 x2 0 hF H locs hP hD hS ls (lv_sub hl [0, 1, 2] rfl)
  · have hF := o_f c4 hF
    refine lv_bipush (v := (-30)) hx hb dX2_passPlain_26 (by decide) ?_
    refine lv_goto (tgt := 32) hx hb dX2_passPlain_28 (by decide) ?_
    exact jX2_passPlain_32 X hr hlocks hK hN hA z1 x1 x2 (-30) hF H locs hP hD hS ls (lv_sub hl [0, 1, 2] rfl)
def fX2_passPoints (z0 : SM) (x1 : Int32) (x2 : Int32) : Option (Int32 × SM) := bd_ (fX2_claim z0 x1) (fun r1 z1 => if x1 < 0 ∨ 640 ≤ x1.toNatClampNeg then none else let_ ((z1.1 5) x1.toNatClampNeg) (fun v2 => (if v2 = 1 then if x1 < 0 ∨ 640 ≤ x1.toNatClampNeg then none else let_ ((setA z1.1 5 (upd (z1.1 5) x1.toNatClampNeg 0), z1.2) : SM) (fun z9 => bd_ (fX2_let z9 x1) (fun r10 z10 => some (1, z10))) else if x1 < 0 ∨ 640 ≤ x1.toNatClampNeg then none else let_ ((setA z1.1 5 (upd (z1.1 5) x1.toNatClampNeg 1), z1.2) : SM) (fun z5 => bd_ (fX2_passPlain z5 x1 x2) (fun r6 z6 => bd_ (fX2_let z6 x1) (fun r7 z7 => some (r6, z7)))))))
set_option maxRecDepth 100000 in
set_option maxHeartbeats 4000000 in
theorem kX2_passPoints (l : Launch) (G : va_G) (cy cyO : ClassId) (a : Nat → Nat) (z0 : SM) (x1 : Int32) (x2 : Int32) (r : Int32) (u : SM) (hF : fX2_passPoints z0 x1 x2 = some (r, u)) : Ct l G (tys_ cy cyO) yX2_passPoints wsX2_passPoints ({ frames := 3, cells := 0, slots := 0, locals := 65 } : Room) [.ref (a 0), .int x1, .int x2] (mW a cy z0) (some (.int r)) (mW a cy u) := by
  unfold fX2_passPoints at hF
  refine ct_of (cc := cX2_passPoints) (maxL := 4) (ret := (some .int)) (own := RX2) (by decide) rfl (Nat.le_of_ble_eq_true rfl) rfl ?_
  intro p e s m below meth c A ls X hr hlocks _ hK hN hA hP hD hl
  have hS : va_S A s.heap s.heap [] := va_S.rf
  have hl : lv_has ls 4 [(0, .ref (a 0)), (1, .int x1), (2, .int x2)] := hl
  obtain ⟨hx, hb, hml, hown, hts⟩ := id X
  have hin2 : ∀ w ∈ wsX20, w ∈ wsX2_passPoints := by decide +kernel
  refine lv_aload_n hx hb dX2_passPoints_0 rfl (lv_at hl 0 rfl) ?_
  refine lv_iload_n hx hb dX2_passPoints_1 rfl (lv_at hl 1 rfl) ?_
  obtain ⟨r1, z1, hG1, hF⟩ := o_b hF
  refine cl_V (C := RX2) (rest := []) X hK hN hA hP hD hS (kX2_claim l G cy cyO a z0 x1 r1 z1 hG1) (cwV 1 hts gX2_passPoints_X2_claim rfl rfl rfl (by decide +kernel) ⟨Nat.le_of_ble_eq_true rfl, Nat.le_of_ble_eq_true rfl⟩) (va_recv hK hP (ci := 2) (q0 := 0) rfl rfl) rfl hl.1 rfl (Nat.le_of_ble_eq_true rfl) dX2_passPoints_2 ⟨Nat.zero_le _, Nat.zero_le _⟩ (fun H locs hP hD hS => ?_)
  refine W.eq (g2 := F0 m 5 ls []) rfl ?_
  refine lv_iconst (v := 1) hx hb dX2_passPoints_5 (by decide) ?_
  refine lv_istore_n (lv' := [(3, .int 1), (0, .ref (a 0)), (1, .int x1), (2, .int x2)]) hx hb dX2_passPoints_6 rfl hl (by decide) rfl (fun ls hl => ?_)
  refine lv_aload_n hx hb dX2_passPoints_7 rfl (lv_at hl 1 rfl) ?_
  refine va_get (D := G) (ci := 2) (v := .ref (a 5)) (C := RX2) (T := TX2) (N := 18) hx hb hts hin2 hown hK hP 0 rfl rfl 5 (by decide) (hts (.fieldLink RX2 22 "SignalBoxModel" "legs" "[I") (by decide +kernel)) (fun _ h9 => h9) rfl dX2_passPoints_8 ?_
  refine lv_iload_n hx hb dX2_passPoints_11 rfl (lv_at hl 2 rfl) ?_
  obtain ⟨h2, hF⟩ := o_n hF
  refine va_iald (n := 640) (f := (z1.1 5)) (cA := cy) hx hb hK hP 5 0 rfl rfl h2 dX2_passPoints_12 ?_
  obtain ⟨v2, e2, hF⟩ := o_l hF
  refine w_top e2 ?_
  refine lv_iconst (v := 1) hx hb dX2_passPoints_13 (by decide) ?_
  refine lv_icmp_ne (tgt := 27) hx hb dX2_passPoints_14 (by decide) (fun c3 => ?_) (fun c3 => ?_)
  · have hF := o_f c3 hF
    refine lv_aload_n hx hb dX2_passPoints_27 rfl (lv_at hl 1 rfl) ?_
    refine va_get (D := G) (ci := 2) (v := .ref (a 5)) (C := RX2) (T := TX2) (N := 18) hx hb hts hin2 hown hK hP 0 rfl rfl 5 (by decide) (hts (.fieldLink RX2 22 "SignalBoxModel" "legs" "[I") (by decide +kernel)) (fun _ h9 => h9) rfl dX2_passPoints_28 ?_
    refine lv_iload_n hx hb dX2_passPoints_31 rfl (lv_at hl 2 rfl) ?_
    refine lv_iconst (v := 1) hx hb dX2_passPoints_32 (by decide) ?_
    obtain ⟨h4, hF⟩ := o_n hF
    refine va_iast (n := 640) (f := (z1.1 5)) (cA := cy) hx hb hK hP hD hS 5 0 rfl rfl h4 dX2_passPoints_33 (fun H locs hP hD hS => ?_)
    obtain ⟨z5, e5, hF⟩ := o_l hF
    have hP : va_P G vwCl (mW a cy z5) H := by rw [e5]; exact hP
    have hD : va_D A (mW a cy z5) := by rw [e5]; exact hD
    refine lv_aload_n hx hb dX2_passPoints_34 rfl (lv_at hl 1 rfl) ?_
    refine lv_iload_n hx hb dX2_passPoints_35 rfl (lv_at hl 2 rfl) ?_
    refine lv_iload_n hx hb dX2_passPoints_36 rfl (lv_at hl 3 rfl) ?_
    obtain ⟨r6, z6, hG6, hF⟩ := o_b hF
    refine cl_V (C := RX2) (rest := []) X hK hN hA hP hD hS (kX2_passPlain l G cy cyO a z5 x1 x2 r6 z6 hG6) (cwV 2 hts gX2_passPoints_X2_passPlain rfl rfl rfl (by decide +kernel) ⟨Nat.le_of_ble_eq_true rfl, Nat.le_of_ble_eq_true rfl⟩) (va_recv hK hP (ci := 2) (q0 := 0) rfl rfl) rfl hl.1 rfl (Nat.le_of_ble_eq_true rfl) dX2_passPoints_37 ⟨Nat.zero_le _, Nat.zero_le _⟩ (fun H locs hP hD hS => ?_)
    refine W.eq (g2 := F0 m 40 ls [.int r6]) rfl ?_
    refine lv_istore_n (lv' := [(3, .int r6), (0, .ref (a 0)), (1, .int x1), (2, .int x2)]) hx hb dX2_passPoints_40 rfl hl (by decide) rfl (fun ls hl => ?_)
    refine lv_aload_n hx hb dX2_passPoints_41 rfl (lv_at hl 1 rfl) ?_
    refine lv_iload_n hx hb dX2_passPoints_42 rfl (lv_at hl 2 rfl) ?_
    obtain ⟨r7, z7, hG7, hF⟩ := o_b hF
    refine cl_V (C := RX2) (rest := []) X hK hN hA hP hD hS (kX2_let l G cy cyO a z6 x1 r7 z7 hG7) (cwV 1 hts gX2_passPoints_X2_let rfl rfl rfl (by decide +kernel) ⟨Nat.le_of_ble_eq_true rfl, Nat.le_of_ble_eq_true rfl⟩) (va_recv hK hP (ci := 2) (q0 := 0) rfl rfl) rfl hl.1 rfl (Nat.le_of_ble_eq_true rfl) dX2_passPoints_43 ⟨Nat.zero_le _, Nat.zero_le _⟩ (fun H locs hP hD hS => ?_)
    refine W.eq (g2 := F0 m 46 ls []) rfl ?_
    refine lv_iload_n hx hb dX2_passPoints_46 rfl (lv_at hl 0 rfl) ?_
    obtain ⟨rfl, rfl⟩ := o_s hF
    exact rt_i X hr hlocks hP hD hS dX2_passPoints_47
  · have hF := o_t c3 hF
    refine lv_aload_n hx hb dX2_passPoints_17 rfl (lv_at hl 1 rfl) ?_
    refine va_get (D := G) (ci := 2) (v := .ref (a 5)) (C := RX2) (T := TX2) (N := 18) hx hb hts hin2 hown hK hP 0 rfl rfl 5 (by decide) (hts (.fieldLink RX2 22 "SignalBoxModel" "legs" "[I") (by decide +kernel)) (fun _ h9 => h9) rfl dX2_passPoints_18 ?_
    refine lv_iload_n hx hb dX2_passPoints_21 rfl (lv_at hl 2 rfl) ?_
    refine lv_iconst (v := 0) hx hb dX2_passPoints_22 (by decide) ?_
    obtain ⟨h8, hF⟩ := o_n hF
    refine va_iast (n := 640) (f := (z1.1 5)) (cA := cy) hx hb hK hP hD hS 5 0 rfl rfl h8 dX2_passPoints_23 (fun H locs hP hD hS => ?_)
    obtain ⟨z9, e9, hF⟩ := o_l hF
    have hP : va_P G vwCl (mW a cy z9) H := by rw [e9]; exact hP
    have hD : va_D A (mW a cy z9) := by rw [e9]; exact hD
    refine lv_goto (tgt := 41) hx hb dX2_passPoints_24 (by decide) ?_
    refine lv_aload_n hx hb dX2_passPoints_41 rfl (lv_at hl 1 rfl) ?_
    refine lv_iload_n hx hb dX2_passPoints_42 rfl (lv_at hl 2 rfl) ?_
    obtain ⟨r10, z10, hG10, hF⟩ := o_b hF
    refine cl_V (C := RX2) (rest := []) X hK hN hA hP hD hS (kX2_let l G cy cyO a z9 x1 r10 z10 hG10) (cwV 1 hts gX2_passPoints_X2_let rfl rfl rfl (by decide +kernel) ⟨Nat.le_of_ble_eq_true rfl, Nat.le_of_ble_eq_true rfl⟩) (va_recv hK hP (ci := 2) (q0 := 0) rfl rfl) rfl hl.1 rfl (Nat.le_of_ble_eq_true rfl) dX2_passPoints_43 ⟨Nat.zero_le _, Nat.zero_le _⟩ (fun H locs hP hD hS => ?_)
    refine W.eq (g2 := F0 m 46 ls []) rfl ?_
    refine lv_iload_n hx hb dX2_passPoints_46 rfl (lv_at hl 0 rfl) ?_
    obtain ⟨rfl, rfl⟩ := o_s hF
    exact rt_i X hr hlocks hP hD hS dX2_passPoints_47
def fX2_passBridge (z0 : SM) (x1 : Int32) (x2 : Int32) : Option (Int32 × SM) := bd_ (fX2_claim z0 x1) (fun r1 z1 => if x1 < 0 ∨ 640 ≤ x1.toNatClampNeg then none else let_ ((z1.1 3) x1.toNatClampNeg) (fun v2 => (if v2 < x2 then bd_ (fX2_let z1 x1) (fun r4 z4 => some (2, z4)) else bd_ (fX2_passPoints z1 x1 x2) (fun r5 z5 => if x1 < 0 ∨ 640 ≤ x1.toNatClampNeg then none else let_ ((z5.1 3) x1.toNatClampNeg) (fun v6 => (if r5 = 0 then if x1 < 0 ∨ 640 ≤ x1.toNatClampNeg then none else let_ ((setA z5.1 3 (upd (z5.1 3) x1.toNatClampNeg (v6 - 1)), z5.2) : SM) (fun z12 => bd_ (fX2_let z12 x1) (fun r13 z13 => some (r5, z13))) else if x1 < 0 ∨ 640 ≤ x1.toNatClampNeg then none else let_ ((setA z5.1 3 (upd (z5.1 3) x1.toNatClampNeg (v6 - 0)), z5.2) : SM) (fun z9 => bd_ (fX2_let z9 x1) (fun r10 z10 => some (r5, z10)))))))))
set_option maxRecDepth 100000 in
set_option maxHeartbeats 4000000 in
theorem kX2_passBridge (l : Launch) (G : va_G) (cy cyO : ClassId) (a : Nat → Nat) (z0 : SM) (x1 : Int32) (x2 : Int32) (r : Int32) (u : SM) (hF : fX2_passBridge z0 x1 x2 = some (r, u)) : Ct l G (tys_ cy cyO) yX2_passBridge wsX2_passBridge ({ frames := 4, cells := 0, slots := 0, locals := 88 } : Room) [.ref (a 0), .int x1, .int x2] (mW a cy z0) (some (.int r)) (mW a cy u) := by
  unfold fX2_passBridge at hF
  refine ct_of (cc := cX2_passBridge) (maxL := 4) (ret := (some .int)) (own := RX2) (by decide) rfl (Nat.le_of_ble_eq_true rfl) rfl ?_
  intro p e s m below meth c A ls X hr hlocks _ hK hN hA hP hD hl
  have hS : va_S A s.heap s.heap [] := va_S.rf
  have hl : lv_has ls 4 [(0, .ref (a 0)), (1, .int x1), (2, .int x2)] := hl
  obtain ⟨hx, hb, hml, hown, hts⟩ := id X
  have hin2 : ∀ w ∈ wsX20, w ∈ wsX2_passBridge := by decide +kernel
  refine lv_aload_n hx hb dX2_passBridge_0 rfl (lv_at hl 0 rfl) ?_
  refine lv_iload_n hx hb dX2_passBridge_1 rfl (lv_at hl 1 rfl) ?_
  obtain ⟨r1, z1, hG1, hF⟩ := o_b hF
  refine cl_V (C := RX2) (rest := []) X hK hN hA hP hD hS (kX2_claim l G cy cyO a z0 x1 r1 z1 hG1) (cwV 1 hts gX2_passBridge_X2_claim rfl rfl rfl (by decide +kernel) ⟨Nat.le_of_ble_eq_true rfl, Nat.le_of_ble_eq_true rfl⟩) (va_recv hK hP (ci := 2) (q0 := 0) rfl rfl) rfl hl.1 rfl (Nat.le_of_ble_eq_true rfl) dX2_passBridge_2 ⟨Nat.zero_le _, Nat.zero_le _⟩ (fun H locs hP hD hS => ?_)
  refine W.eq (g2 := F0 m 5 ls []) rfl ?_
  refine lv_iconst (v := 2) hx hb dX2_passBridge_5 (by decide) ?_
  refine lv_istore_n (lv' := [(3, .int 2), (0, .ref (a 0)), (1, .int x1), (2, .int x2)]) hx hb dX2_passBridge_6 rfl hl (by decide) rfl (fun ls hl => ?_)
  refine lv_iload_n hx hb dX2_passBridge_7 rfl (lv_at hl 3 rfl) ?_
  refine lv_aload_n hx hb dX2_passBridge_8 rfl (lv_at hl 1 rfl) ?_
  refine va_get (D := G) (ci := 2) (v := .ref (a 3)) (C := RX2) (T := TX2) (N := 18) hx hb hts hin2 hown hK hP 0 rfl rfl 3 (by decide) (hts (.fieldLink RX2 16 "SignalBoxModel" "marks" "[I") (by decide +kernel)) (fun _ h9 => h9) rfl dX2_passBridge_9 ?_
  refine lv_iload_n hx hb dX2_passBridge_12 rfl (lv_at hl 2 rfl) ?_
  obtain ⟨h2, hF⟩ := o_n hF
  refine va_iald (n := 640) (f := (z1.1 3)) (cA := cy) hx hb hK hP 3 0 rfl rfl h2 dX2_passBridge_13 ?_
  obtain ⟨v2, e2, hF⟩ := o_l hF
  refine w_top e2 ?_
  refine lv_icmp_gt (tgt := 42) hx hb dX2_passBridge_14 (by decide) (fun c3 => ?_) (fun c3 => ?_)
  · have hF := o_t c3 hF
    refine lv_aload_n hx hb dX2_passBridge_42 rfl (lv_at hl 1 rfl) ?_
    refine lv_iload_n hx hb dX2_passBridge_43 rfl (lv_at hl 2 rfl) ?_
    obtain ⟨r4, z4, hG4, hF⟩ := o_b hF
    refine cl_V (C := RX2) (rest := []) X hK hN hA hP hD hS (kX2_let l G cy cyO a z1 x1 r4 z4 hG4) (cwV 1 hts gX2_passBridge_X2_let rfl rfl rfl (by decide +kernel) ⟨Nat.le_of_ble_eq_true rfl, Nat.le_of_ble_eq_true rfl⟩) (va_recv hK hP (ci := 2) (q0 := 0) rfl rfl) rfl hl.1 rfl (Nat.le_of_ble_eq_true rfl) dX2_passBridge_44 ⟨Nat.zero_le _, Nat.zero_le _⟩ (fun H locs hP hD hS => ?_)
    refine W.eq (g2 := F0 m 47 ls []) rfl ?_
    refine lv_iload_n hx hb dX2_passBridge_47 rfl (lv_at hl 0 rfl) ?_
    obtain ⟨rfl, rfl⟩ := o_s hF
    exact rt_i X hr hlocks hP hD hS dX2_passBridge_48
  · have hF := o_f c3 hF
    refine lv_aload_n hx hb dX2_passBridge_17 rfl (lv_at hl 1 rfl) ?_
    refine lv_iload_n hx hb dX2_passBridge_18 rfl (lv_at hl 2 rfl) ?_
    refine lv_iload_n hx hb dX2_passBridge_19 rfl (lv_at hl 3 rfl) ?_
    obtain ⟨r5, z5, hG5, hF⟩ := o_b hF
    refine cl_V (C := RX2) (rest := []) X hK hN hA hP hD hS (kX2_passPoints l G cy cyO a z1 x1 x2 r5 z5 hG5) (cwV 2 hts gX2_passBridge_X2_passPoints rfl rfl rfl (by decide +kernel) ⟨Nat.le_of_ble_eq_true rfl, Nat.le_of_ble_eq_true rfl⟩) (va_recv hK hP (ci := 2) (q0 := 0) rfl rfl) rfl hl.1 rfl (Nat.le_of_ble_eq_true rfl) dX2_passBridge_20 ⟨Nat.zero_le _, Nat.zero_le _⟩ (fun H locs hP hD hS => ?_)
    refine W.eq (g2 := F0 m 23 ls [.int r5]) rfl ?_
    refine lv_istore_n (lv' := [(3, .int r5), (0, .ref (a 0)), (1, .int x1), (2, .int x2)]) hx hb dX2_passBridge_23 rfl hl (by decide) rfl (fun ls hl => ?_)
    refine lv_aload_n hx hb dX2_passBridge_24 rfl (lv_at hl 1 rfl) ?_
    refine va_get (D := G) (ci := 2) (v := .ref (a 3)) (C := RX2) (T := TX2) (N := 18) hx hb hts hin2 hown hK hP 0 rfl rfl 3 (by decide) (hts (.fieldLink RX2 16 "SignalBoxModel" "marks" "[I") (by decide +kernel)) (fun _ h9 => h9) rfl dX2_passBridge_25 ?_
    refine lv_iload_n hx hb dX2_passBridge_28 rfl (lv_at hl 2 rfl) ?_
    refine lv_dup2_11 hx hb dX2_passBridge_29 rfl rfl ?_
    obtain ⟨h6, hF⟩ := o_n hF
    refine va_iald (n := 640) (f := (z5.1 3)) (cA := cy) hx hb hK hP 3 0 rfl rfl h6 dX2_passBridge_30 ?_
    obtain ⟨v6, e6, hF⟩ := o_l hF
    refine w_top e6 ?_
    refine lv_iload_n hx hb dX2_passBridge_31 rfl (lv_at hl 0 rfl) ?_
    refine lv_if_ne (tgt := 39) hx hb dX2_passBridge_32 (by decide) (fun c7 => ?_) (fun c7 => ?_)
    · have hF := o_f c7 hF
      refine lv_iconst (v := 0) hx hb dX2_passBridge_39 (by decide) ?_
      refine lv_isub hx hb dX2_passBridge_40 ?_
      obtain ⟨h8, hF⟩ := o_n hF
      refine va_iast (n := 640) (f := (z5.1 3)) (cA := cy) hx hb hK hP hD hS 3 0 rfl rfl h8 dX2_passBridge_41 (fun H locs hP hD hS => ?_)
      obtain ⟨z9, e9, hF⟩ := o_l hF
      have hP : va_P G vwCl (mW a cy z9) H := by rw [e9]; exact hP
      have hD : va_D A (mW a cy z9) := by rw [e9]; exact hD
      refine lv_aload_n hx hb dX2_passBridge_42 rfl (lv_at hl 1 rfl) ?_
      refine lv_iload_n hx hb dX2_passBridge_43 rfl (lv_at hl 2 rfl) ?_
      obtain ⟨r10, z10, hG10, hF⟩ := o_b hF
      refine cl_V (C := RX2) (rest := []) X hK hN hA hP hD hS (kX2_let l G cy cyO a z9 x1 r10 z10 hG10) (cwV 1 hts gX2_passBridge_X2_let rfl rfl rfl (by decide +kernel) ⟨Nat.le_of_ble_eq_true rfl, Nat.le_of_ble_eq_true rfl⟩) (va_recv hK hP (ci := 2) (q0 := 0) rfl rfl) rfl hl.1 rfl (Nat.le_of_ble_eq_true rfl) dX2_passBridge_44 ⟨Nat.zero_le _, Nat.zero_le _⟩ (fun H locs hP hD hS => ?_)
      refine W.eq (g2 := F0 m 47 ls []) rfl ?_
      refine lv_iload_n hx hb dX2_passBridge_47 rfl (lv_at hl 0 rfl) ?_
      obtain ⟨rfl, rfl⟩ := o_s hF
      exact rt_i X hr hlocks hP hD hS dX2_passBridge_48
    · have hF := o_t c7 hF
      refine lv_iconst (v := 1) hx hb dX2_passBridge_35 (by decide) ?_
      refine lv_goto (tgt := 40) hx hb dX2_passBridge_36 (by decide) ?_
      refine lv_isub hx hb dX2_passBridge_40 ?_
      obtain ⟨h11, hF⟩ := o_n hF
      refine va_iast (n := 640) (f := (z5.1 3)) (cA := cy) hx hb hK hP hD hS 3 0 rfl rfl h11 dX2_passBridge_41 (fun H locs hP hD hS => ?_)
      obtain ⟨z12, e12, hF⟩ := o_l hF
      have hP : va_P G vwCl (mW a cy z12) H := by rw [e12]; exact hP
      have hD : va_D A (mW a cy z12) := by rw [e12]; exact hD
      refine lv_aload_n hx hb dX2_passBridge_42 rfl (lv_at hl 1 rfl) ?_
      refine lv_iload_n hx hb dX2_passBridge_43 rfl (lv_at hl 2 rfl) ?_
      obtain ⟨r13, z13, hG13, hF⟩ := o_b hF
      refine cl_V (C := RX2) (rest := []) X hK hN hA hP hD hS (kX2_let l G cy cyO a z12 x1 r13 z13 hG13) (cwV 1 hts gX2_passBridge_X2_let rfl rfl rfl (by decide +kernel) ⟨Nat.le_of_ble_eq_true rfl, Nat.le_of_ble_eq_true rfl⟩) (va_recv hK hP (ci := 2) (q0 := 0) rfl rfl) rfl hl.1 rfl (Nat.le_of_ble_eq_true rfl) dX2_passBridge_44 ⟨Nat.zero_le _, Nat.zero_le _⟩ (fun H locs hP hD hS => ?_)
      refine W.eq (g2 := F0 m 47 ls []) rfl ?_
      refine lv_iload_n hx hb dX2_passBridge_47 rfl (lv_at hl 0 rfl) ?_
      obtain ⟨rfl, rfl⟩ := o_s hF
      exact rt_i X hr hlocks hP hD hS dX2_passBridge_48
def fX2_pass_j43 (z0 : SM) (t0 : Int32) : Option (Int32 × SM) := (if t0 = 0 then let_ ((z0.1, z0.2.1, z0.2.2.1, z0.2.2.2.1, z0.2.2.2.2.1, z0.2.2.2.2.2.1, z0.2.2.2.2.2.2.1, z0.2.2.2.2.2.2.2.1, z0.2.2.2.2.2.2.2.2.1, z0.2.2.2.2.2.2.2.2.2.1, (z0.2.2.2.2.2.2.2.2.2.2 + 1)) : SM) (fun z3 => some (t0, z3)) else let_ ((z0.1, z0.2.1, z0.2.2.1, z0.2.2.2.1, z0.2.2.2.2.1, z0.2.2.2.2.2.1, z0.2.2.2.2.2.2.1, z0.2.2.2.2.2.2.2.1, z0.2.2.2.2.2.2.2.2.1, z0.2.2.2.2.2.2.2.2.2.1, (z0.2.2.2.2.2.2.2.2.2.2 + 0)) : SM) (fun z2 => some (t0, z2)))
set_option maxRecDepth 100000 in
set_option maxHeartbeats 4000000 in
theorem jX2_pass_43 {p : Program} {l : Launch} {e : Env} {s : State} {m : MethodId} {args : Array Value} {below : List Frame} {meth : Method} {c : Code} {G : va_G} {cy cyO : ClassId} {a : Nat → Nat} {A : Nat → Prop} {r : Int32} {u : SM} (X : CallFix p m c cX2_pass 4 s args wsX2_pass RX2) (hr : meth.sig.returnType = (some .int)) (hlocks : meth.locks = false) (hK : va_K G vwCl (tys_ cy cyO) s) (hN : nw s) (hA : ∀ q, s.heap.size ≤ q → A q) : ∀ (z0 : SM) (t0 : Int32), fX2_pass_j43 z0 t0 = some (r, u) → ∀ (H : Heap) (locs : List Loc), va_P G vwCl (mW a cy z0) H → va_D A (mW a cy z0) → va_S A s.heap H locs → ∀ (ls : Array Slot), lv_has ls 4 [(0, .ref (a 0))] → W p l e ({ frames := 5, cells := 0, slots := 0, locals := 111 } : Room) s m args below meth c H locs 0 0 (MQ below (qg (some (.int r)) (fun t => wPost G A (mW a cy u) t) A) args s 0 0 A) (F0 m 43 ls [.int t0]) := by
  obtain ⟨hx, hb, hml, hown, hts⟩ := id X
  have hin2 : ∀ w ∈ wsX20, w ∈ wsX2_pass := by decide +kernel
  intro z0 t0 hF H locs hP hD hS ls hl
  unfold fX2_pass_j43 at hF
  refine lv_istore_n (lv' := [(3, .int t0), (0, .ref (a 0))]) hx hb dX2_pass_43 rfl hl (by decide) rfl (fun ls hl => ?_)
  refine lv_aload_n hx hb dX2_pass_44 rfl (lv_at hl 1 rfl) ?_
  refine lv_dup hx hb dX2_pass_45 rfl ?_
  refine va_get (D := G) (ci := 2) (v := .int z0.2.2.2.2.2.2.2.2.2.2) (C := RX2) (T := TX2) (N := 18) hx hb hts hin2 hown hK hP 0 rfl rfl 14 (by decide) (hts (.fieldLink RX2 85 "SignalBoxModel" "passed" "I") (by decide +kernel)) (fun _ h9 => h9) rfl dX2_pass_46 ?_
  refine lv_iload_n hx hb dX2_pass_49 rfl (lv_at hl 0 rfl) ?_
  refine lv_if_ne (tgt := 57) hx hb dX2_pass_50 (by decide) (fun c1 => ?_) (fun c1 => ?_)
  · have hF := o_f c1 hF
    refine lv_iconst (v := 0) hx hb dX2_pass_57 (by decide) ?_
    refine lv_iadd hx hb dX2_pass_58 ?_
    refine va_put (D := G) (ci := 2) (v := .int (z0.2.2.2.2.2.2.2.2.2.2 + 0)) (ty := .int) (C := RX2) (T := TX2) (N := 18) hx hb hts hin2 tyX2 tyX2_ok nmX2 hown hK hP hD hS 0 rfl rfl 14 (by decide) (hts (.fieldLink RX2 85 "SignalBoxModel" "passed" "I") (by decide +kernel)) (fun _ h9 => h9) rfl (by decide +kernel) rfl rfl (Nat.le_of_ble_eq_true rfl) dX2_pass_59 (fun H locs hP hD hS => ?_)
    obtain ⟨z2, e2, hF⟩ := o_l hF
    have hP : va_P G vwCl (mW a cy z2) H := by rw [e2]; exact hP
    have hD : va_D A (mW a cy z2) := by rw [e2]; exact hD
    refine lv_iload_n hx hb dX2_pass_62 rfl (lv_at hl 0 rfl) ?_
    obtain ⟨rfl, rfl⟩ := o_s hF
    exact rt_i X hr hlocks hP hD hS dX2_pass_63
  · have hF := o_t c1 hF
    refine lv_iconst (v := 1) hx hb dX2_pass_53 (by decide) ?_
    refine lv_goto (tgt := 58) hx hb dX2_pass_54 (by decide) ?_
    refine lv_iadd hx hb dX2_pass_58 ?_
    refine va_put (D := G) (ci := 2) (v := .int (z0.2.2.2.2.2.2.2.2.2.2 + 1)) (ty := .int) (C := RX2) (T := TX2) (N := 18) hx hb hts hin2 tyX2 tyX2_ok nmX2 hown hK hP hD hS 0 rfl rfl 14 (by decide) (hts (.fieldLink RX2 85 "SignalBoxModel" "passed" "I") (by decide +kernel)) (fun _ h9 => h9) rfl (by decide +kernel) rfl rfl (Nat.le_of_ble_eq_true rfl) dX2_pass_59 (fun H locs hP hD hS => ?_)
    obtain ⟨z3, e3, hF⟩ := o_l hF
    have hP : va_P G vwCl (mW a cy z3) H := by rw [e3]; exact hP
    have hD : va_D A (mW a cy z3) := by rw [e3]; exact hD
    refine lv_iload_n hx hb dX2_pass_62 rfl (lv_at hl 0 rfl) ?_
    obtain ⟨rfl, rfl⟩ := o_s hF
    exact rt_i X hr hlocks hP hD hS dX2_pass_63
def fX2_pass (z0 : SM) (x1 : Int32) (x2 : Int32) : Option (Int32 × SM) := if x1 < 0 ∨ 640 ≤ x1.toNatClampNeg then none else let_ ((z0.1 1) x1.toNatClampNeg) (fun v1 => (if v1 = 0 then bd_ (fX2_passPlain z0 x1 x2) (fun r7 z7 => (fX2_pass_j43 z7 r7)) else if x1 < 0 ∨ 640 ≤ x1.toNatClampNeg then none else let_ ((z0.1 1) x1.toNatClampNeg) (fun v3 => (if v3 = 1 then bd_ (fX2_passPoints z0 x1 x2) (fun r6 z6 => (fX2_pass_j43 z6 r6)) else bd_ (fX2_passBridge z0 x1 x2) (fun r5 z5 => (fX2_pass_j43 z5 r5))))))
set_option maxRecDepth 100000 in
set_option maxHeartbeats 4000000 in
theorem kX2_pass (l : Launch) (G : va_G) (cy cyO : ClassId) (a : Nat → Nat) (z0 : SM) (x1 : Int32) (x2 : Int32) (r : Int32) (u : SM) (hF : fX2_pass z0 x1 x2 = some (r, u)) : Ct l G (tys_ cy cyO) yX2_pass wsX2_pass ({ frames := 5, cells := 0, slots := 0, locals := 111 } : Room) [.ref (a 0), .int x1, .int x2] (mW a cy z0) (some (.int r)) (mW a cy u) := by
  unfold fX2_pass at hF
  refine ct_of (cc := cX2_pass) (maxL := 4) (ret := (some .int)) (own := RX2) (by decide) rfl (Nat.le_of_ble_eq_true rfl) rfl ?_
  intro p e s m below meth c A ls X hr hlocks _ hK hN hA hP hD hl
  have hS : va_S A s.heap s.heap [] := va_S.rf
  have hl : lv_has ls 4 [(0, .ref (a 0)), (1, .int x1), (2, .int x2)] := hl
  obtain ⟨hx, hb, hml, hown, hts⟩ := id X
  have hin2 : ∀ w ∈ wsX20, w ∈ wsX2_pass := by decide +kernel
  refine lv_aload_n hx hb dX2_pass_0 rfl (lv_at hl 0 rfl) ?_
  refine va_get (D := G) (ci := 2) (v := .ref (a 1)) (C := RX2) (T := TX2) (N := 18) hx hb hts hin2 hown hK hP 0 rfl rfl 1 (by decide) (hts (.fieldLink RX2 7 "SignalBoxModel" "kinds" "[I") (by decide +kernel)) (fun _ h9 => h9) rfl dX2_pass_1 ?_
  refine lv_iload_n hx hb dX2_pass_4 rfl (lv_at hl 1 rfl) ?_
  obtain ⟨h1, hF⟩ := o_n hF
  refine va_iald (n := 640) (f := (z0.1 1)) (cA := cy) hx hb hK hP 1 0 rfl rfl h1 dX2_pass_5 ?_
  obtain ⟨v1, e1, hF⟩ := o_l hF
  refine w_top e1 ?_
  refine lv_if_ne (tgt := 18) hx hb dX2_pass_6 (by decide) (fun c2 => ?_) (fun c2 => ?_)
  · have hF := o_f c2 hF
    refine lv_aload_n hx hb dX2_pass_18 rfl (lv_at hl 0 rfl) ?_
    refine va_get (D := G) (ci := 2) (v := .ref (a 1)) (C := RX2) (T := TX2) (N := 18) hx hb hts hin2 hown hK hP 0 rfl rfl 1 (by decide) (hts (.fieldLink RX2 7 "SignalBoxModel" "kinds" "[I") (by decide +kernel)) (fun _ h9 => h9) rfl dX2_pass_19 ?_
    refine lv_iload_n hx hb dX2_pass_22 rfl (lv_at hl 1 rfl) ?_
    obtain ⟨h3, hF⟩ := o_n hF
    refine va_iald (n := 640) (f := (z0.1 1)) (cA := cy) hx hb hK hP 1 0 rfl rfl h3 dX2_pass_23 ?_
    obtain ⟨v3, e3, hF⟩ := o_l hF
    refine w_top e3 ?_
    refine lv_iconst (v := 1) hx hb dX2_pass_24 (by decide) ?_
    refine lv_icmp_ne (tgt := 37) hx hb dX2_pass_25 (by decide) (fun c4 => ?_) (fun c4 => ?_)
    · have hF := o_f c4 hF
      refine lv_aload_n hx hb dX2_pass_37 rfl (lv_at hl 0 rfl) ?_
      refine lv_iload_n hx hb dX2_pass_38 rfl (lv_at hl 1 rfl) ?_
      refine lv_iload_n hx hb dX2_pass_39 rfl (lv_at hl 2 rfl) ?_
      obtain ⟨r5, z5, hG5, hF⟩ := o_b hF
      refine cl_V (C := RX2) (rest := []) X hK hN hA hP hD hS (kX2_passBridge l G cy cyO a z0 x1 x2 r5 z5 hG5) (cwV 2 hts gX2_pass_X2_passBridge rfl rfl rfl (by decide +kernel) ⟨Nat.le_of_ble_eq_true rfl, Nat.le_of_ble_eq_true rfl⟩) (va_recv hK hP (ci := 2) (q0 := 0) rfl rfl) rfl hl.1 rfl (Nat.le_of_ble_eq_true rfl) dX2_pass_40 ⟨Nat.zero_le _, Nat.zero_le _⟩ (fun H locs hP hD hS => ?_)
      refine W.eq (g2 := F0 m 43 ls [.int r5]) rfl ?_
      exact jX2_pass_43 X hr hlocks hK hN hA z5 r5 hF H locs hP hD hS ls (lv_sub hl [0] rfl)
    · have hF := o_t c4 hF
      refine lv_aload_n hx hb dX2_pass_28 rfl (lv_at hl 0 rfl) ?_
      refine lv_iload_n hx hb dX2_pass_29 rfl (lv_at hl 1 rfl) ?_
      refine lv_iload_n hx hb dX2_pass_30 rfl (lv_at hl 2 rfl) ?_
      obtain ⟨r6, z6, hG6, hF⟩ := o_b hF
      refine cl_V (C := RX2) (rest := []) X hK hN hA hP hD hS (kX2_passPoints l G cy cyO a z0 x1 x2 r6 z6 hG6) (cwV 2 hts gX2_pass_X2_passPoints rfl rfl rfl (by decide +kernel) ⟨Nat.le_of_ble_eq_true rfl, Nat.le_of_ble_eq_true rfl⟩) (va_recv hK hP (ci := 2) (q0 := 0) rfl rfl) rfl hl.1 rfl (Nat.le_of_ble_eq_true rfl) dX2_pass_31 ⟨Nat.zero_le _, Nat.zero_le _⟩ (fun H locs hP hD hS => ?_)
      refine W.eq (g2 := F0 m 34 ls [.int r6]) rfl ?_
      refine lv_goto (tgt := 43) hx hb dX2_pass_34 (by decide) ?_
      exact jX2_pass_43 X hr hlocks hK hN hA z6 r6 hF H locs hP hD hS ls (lv_sub hl [0] rfl)
  · have hF := o_t c2 hF
    refine lv_aload_n hx hb dX2_pass_9 rfl (lv_at hl 0 rfl) ?_
    refine lv_iload_n hx hb dX2_pass_10 rfl (lv_at hl 1 rfl) ?_
    refine lv_iload_n hx hb dX2_pass_11 rfl (lv_at hl 2 rfl) ?_
    obtain ⟨r7, z7, hG7, hF⟩ := o_b hF
    refine cl_V (C := RX2) (rest := []) X hK hN hA hP hD hS (kX2_passPlain l G cy cyO a z0 x1 x2 r7 z7 hG7) (cwV 2 hts gX2_pass_X2_passPlain rfl rfl rfl (by decide +kernel) ⟨Nat.le_of_ble_eq_true rfl, Nat.le_of_ble_eq_true rfl⟩) (va_recv hK hP (ci := 2) (q0 := 0) rfl rfl) rfl hl.1 rfl (Nat.le_of_ble_eq_true rfl) dX2_pass_12 ⟨Nat.zero_le _, Nat.zero_le _⟩ (fun H locs hP hD hS => ?_)
    refine W.eq (g2 := F0 m 15 ls [.int r7]) rfl ?_
    refine lv_goto (tgt := 43) hx hb dX2_pass_15 (by decide) ?_
    exact jX2_pass_43 X hr hlocks hK hN hA z7 r7 hF H locs hP hD hS ls (lv_sub hl [0] rfl)
def fX2_sectionOf (z0 : SM) (x1 : Int32) (x2 : Int32) : Option (Int32 × SM) := if ((8 * x1) + x2) < 0 ∨ 48 ≤ ((8 * x1) + x2).toNatClampNeg then none else let_ (z0.2.2.1 ((8 * x1) + x2).toNatClampNeg) (fun v1 => if v1 < 0 ∨ 12 ≤ v1.toNatClampNeg then none else let_ (z0.2.1 v1.toNatClampNeg) (fun v2 => some (v2, z0)))
set_option maxRecDepth 100000 in
set_option maxHeartbeats 4000000 in
theorem kX2_sectionOf (l : Launch) (G : va_G) (cy cyO : ClassId) (a : Nat → Nat) (z0 : SM) (x1 : Int32) (x2 : Int32) (r : Int32) (u : SM) (hF : fX2_sectionOf z0 x1 x2 = some (r, u)) : Ct l G (tys_ cy cyO) yX2_sectionOf wsX2_sectionOf ({ frames := 0, cells := 0, slots := 0, locals := 0 } : Room) [.ref (a 0), .int x1, .int x2] (mW a cy z0) (some (.int r)) (mW a cy u) := by
  unfold fX2_sectionOf at hF
  refine ct_of (cc := cX2_sectionOf) (maxL := 3) (ret := (some .int)) (own := RX2) (by decide) rfl (Nat.le_of_ble_eq_true rfl) rfl ?_
  intro p e s m below meth c A ls X hr hlocks _ hK hN hA hP hD hl
  have hS : va_S A s.heap s.heap [] := va_S.rf
  have hl : lv_has ls 3 [(0, .ref (a 0)), (1, .int x1), (2, .int x2)] := hl
  obtain ⟨hx, hb, hml, hown, hts⟩ := id X
  have hin2 : ∀ w ∈ wsX20, w ∈ wsX2_sectionOf := by decide +kernel
  refine lv_aload_n hx hb dX2_sectionOf_0 rfl (lv_at hl 0 rfl) ?_
  refine va_get (D := G) (ci := 2) (v := .ref (a 9)) (C := RX2) (T := TX2) (N := 18) hx hb hts hin2 hown hK hP 0 rfl rfl 9 (by decide) (hts (.fieldLink RX2 34 "SignalBoxModel" "at" "[I") (by decide +kernel)) (fun _ h9 => h9) rfl dX2_sectionOf_1 ?_
  refine lv_aload_n hx hb dX2_sectionOf_4 rfl (lv_at hl 0 rfl) ?_
  refine va_get (D := G) (ci := 2) (v := .ref (a 10)) (C := RX2) (T := TX2) (N := 18) hx hb hts hin2 hown hK hP 0 rfl rfl 10 (by decide) (hts (.fieldLink RX2 37 "SignalBoxModel" "routes" "[I") (by decide +kernel)) (fun _ h9 => h9) rfl dX2_sectionOf_5 ?_
  refine lv_bipush (v := 8) hx hb dX2_sectionOf_8 (by decide) ?_
  refine lv_iload_n hx hb dX2_sectionOf_10 rfl (lv_at hl 1 rfl) ?_
  refine lv_imul hx hb dX2_sectionOf_11 ?_
  refine lv_iload_n hx hb dX2_sectionOf_12 rfl (lv_at hl 2 rfl) ?_
  refine lv_iadd hx hb dX2_sectionOf_13 ?_
  obtain ⟨h1, hF⟩ := o_n hF
  refine va_iald (n := 48) (f := z0.2.2.1) (cA := cy) hx hb hK hP 10 0 rfl rfl h1 dX2_sectionOf_14 ?_
  obtain ⟨v1, e1, hF⟩ := o_l hF
  refine w_top e1 ?_
  obtain ⟨h2, hF⟩ := o_n hF
  refine va_iald (n := 12) (f := z0.2.1) (cA := cy) hx hb hK hP 9 0 rfl rfl h2 dX2_sectionOf_15 ?_
  obtain ⟨v2, e2, hF⟩ := o_l hF
  refine w_top e2 ?_
  obtain ⟨rfl, rfl⟩ := o_s hF
  exact rt_i X hr hlocks hP hD hS dX2_sectionOf_16
def fX2_alone_j5 : Nat → SM → Int32 → Int32 → Int32 → Int32 → Option (Int32 × SM)
  | 0, _, _, _, _, _ => none
  | n + 1, z0, y1, y2, y3, y4 => if y1 < 0 ∨ 6 ≤ y1.toNatClampNeg then none else let_ (z0.2.2.2.1 y1.toNatClampNeg) (fun v1 => (if v1 ≤ y4 then some (y3, z0) else (if y3 = 0 then bd_ (fX2_sectionOf z0 y1 y4) (fun r4 z4 => (if 0 ≤ r4 then bd_ (fX2_claim z4 r4) (fun r6 z6 => bd_ (fX2_pass z6 r4 y2) (fun r7 z7 => bd_ (fX2_ended z7 r7 y4) (fun r8 z8 => bd_ (fX2_let z8 r4) (fun r9 z9 => (fX2_alone_j5 n z9 y1 y2 r8 (y4 + 1)))))) else some ((-11), z4))) else some (y3, z0))))
set_option maxRecDepth 100000 in
set_option maxHeartbeats 4000000 in
theorem jX2_alone_5 {p : Program} {l : Launch} {e : Env} {s : State} {m : MethodId} {args : Array Value} {below : List Frame} {meth : Method} {c : Code} {G : va_G} {cy cyO : ClassId} {a : Nat → Nat} {A : Nat → Prop} {r : Int32} {u : SM} (X : CallFix p m c cX2_alone 6 s args wsX2_alone RX2) (hr : meth.sig.returnType = (some .int)) (hlocks : meth.locks = false) (hK : va_K G vwCl (tys_ cy cyO) s) (hN : nw s) (hA : ∀ q, s.heap.size ≤ q → A q) : ∀ n : Nat, ∀ (z0 : SM) (y1 : Int32) (y2 : Int32) (y3 : Int32) (y4 : Int32), fX2_alone_j5 n z0 y1 y2 y3 y4 = some (r, u) → ∀ (H : Heap) (locs : List Loc), va_P G vwCl (mW a cy z0) H → va_D A (mW a cy z0) → va_S A s.heap H locs → ∀ (ls : Array Slot), lv_has ls 6 [(0, .ref (a 0)), (1, .int y1), (2, .int y2), (3, .int y3), (4, .int y4)] → W p l e ({ frames := 6, cells := 0, slots := 0, locals := 134 } : Room) s m args below meth c H locs 0 0 (MQ below (qg (some (.int r)) (fun t => wPost G A (mW a cy u) t) A) args s 0 0 A) (F0 m 5 ls []) := by
  obtain ⟨hx, hb, hml, hown, hts⟩ := id X
  have hin2 : ∀ w ∈ wsX20, w ∈ wsX2_alone := by decide +kernel
  intro n
  induction n with
  | zero => intro z0 y1 y2 y3 y4 hF; cases hF
  | succ n ih =>
    intro z0 y1 y2 y3 y4 hF H locs hP hD hS ls hl
    rw [fX2_alone_j5] at hF
    refine lv_iload hx hb dX2_alone_5 (lv_at hl 4 rfl) ?_
    refine lv_aload_n hx hb dX2_alone_7 rfl (lv_at hl 0 rfl) ?_
    refine va_get (D := G) (ci := 2) (v := .ref (a 11)) (C := RX2) (T := TX2) (N := 18) hx hb hts hin2 hown hK hP 0 rfl rfl 11 (by decide) (hts (.fieldLink RX2 40 "SignalBoxModel" "lengths" "[I") (by decide +kernel)) (fun _ h9 => h9) rfl dX2_alone_8 ?_
    refine lv_iload_n hx hb dX2_alone_11 rfl (lv_at hl 1 rfl) ?_
    obtain ⟨h1, hF⟩ := o_n hF
    refine va_iald (n := 6) (f := z0.2.2.2.1) (cA := cy) hx hb hK hP 11 0 rfl rfl h1 dX2_alone_12 ?_
    obtain ⟨v1, e1, hF⟩ := o_l hF
    refine w_top e1 ?_
    refine lv_icmp_ge (tgt := 68) hx hb dX2_alone_13 (by decide) (fun c2 => ?_) (fun c2 => ?_)
    · have hF := o_t c2 hF
      refine lv_iload_n hx hb dX2_alone_68 rfl (lv_at hl 3 rfl) ?_
      obtain ⟨rfl, rfl⟩ := o_s hF
      exact rt_i X hr hlocks hP hD hS dX2_alone_69
    · have hF := o_f c2 hF
      refine lv_iload_n hx hb dX2_alone_16 rfl (lv_at hl 3 rfl) ?_
      refine lv_if_ne (tgt := 68) hx hb dX2_alone_17 (by decide) (fun c3 => ?_) (fun c3 => ?_)
      · have hF := o_f c3 hF
        refine lv_iload_n hx hb dX2_alone_68 rfl (lv_at hl 3 rfl) ?_
        obtain ⟨rfl, rfl⟩ := o_s hF
        exact rt_i X hr hlocks hP hD hS dX2_alone_69
      · have hF := o_t c3 hF
        refine lv_aload_n hx hb dX2_alone_20 rfl (lv_at hl 0 rfl) ?_
        refine lv_iload_n hx hb dX2_alone_21 rfl (lv_at hl 1 rfl) ?_
        refine lv_iload hx hb dX2_alone_22 (lv_at hl 4 rfl) ?_
        obtain ⟨r4, z4, hG4, hF⟩ := o_b hF
        refine cl_V (C := RX2) (rest := []) X hK hN hA hP hD hS (kX2_sectionOf l G cy cyO a z0 y1 y4 r4 z4 hG4) (cwV 2 hts gX2_alone_X2_sectionOf rfl rfl rfl (by decide +kernel) ⟨Nat.le_of_ble_eq_true rfl, Nat.le_of_ble_eq_true rfl⟩) (va_recv hK hP (ci := 2) (q0 := 0) rfl rfl) rfl hl.1 rfl (Nat.le_of_ble_eq_true rfl) dX2_alone_24 ⟨Nat.zero_le _, Nat.zero_le _⟩ (fun H locs hP hD hS => ?_)
        refine W.eq (g2 := F0 m 27 ls [.int r4]) rfl ?_
        refine lv_istore (lv' := [(5, .int r4), (0, .ref (a 0)), (1, .int y1), (2, .int y2), (3, .int y3), (4, .int y4)]) hx hb dX2_alone_27 hl (by decide) rfl (fun ls hl => ?_)
        refine lv_iload hx hb dX2_alone_29 (lv_at hl 0 rfl) ?_
        refine lv_if_ge (tgt := 37) hx hb dX2_alone_31 (by decide) (fun c5 => ?_) (fun c5 => ?_)
        · have hF := o_t c5 hF
          refine lv_aload_n hx hb dX2_alone_37 rfl (lv_at hl 1 rfl) ?_
          refine lv_iload hx hb dX2_alone_38 (lv_at hl 0 rfl) ?_
          obtain ⟨r6, z6, hG6, hF⟩ := o_b hF
          refine cl_V (C := RX2) (rest := []) X hK hN hA hP hD hS (kX2_claim l G cy cyO a z4 r4 r6 z6 hG6) (cwV 1 hts gX2_alone_X2_claim rfl rfl rfl (by decide +kernel) ⟨Nat.le_of_ble_eq_true rfl, Nat.le_of_ble_eq_true rfl⟩) (va_recv hK hP (ci := 2) (q0 := 0) rfl rfl) rfl hl.1 rfl (Nat.le_of_ble_eq_true rfl) dX2_alone_40 ⟨Nat.zero_le _, Nat.zero_le _⟩ (fun H locs hP hD hS => ?_)
          refine W.eq (g2 := F0 m 43 ls []) rfl ?_
          refine lv_aload_n hx hb dX2_alone_43 rfl (lv_at hl 1 rfl) ?_
          refine lv_iload hx hb dX2_alone_44 (lv_at hl 0 rfl) ?_
          refine lv_iload_n hx hb dX2_alone_46 rfl (lv_at hl 3 rfl) ?_
          obtain ⟨r7, z7, hG7, hF⟩ := o_b hF
          refine cl_V (C := RX2) (rest := []) X hK hN hA hP hD hS (kX2_pass l G cy cyO a z6 r4 y2 r7 z7 hG7) (cwV 2 hts gX2_alone_X2_pass rfl rfl rfl (by decide +kernel) ⟨Nat.le_of_ble_eq_true rfl, Nat.le_of_ble_eq_true rfl⟩) (va_recv hK hP (ci := 2) (q0 := 0) rfl rfl) rfl hl.1 rfl (Nat.le_of_ble_eq_true rfl) dX2_alone_47 ⟨Nat.zero_le _, Nat.zero_le _⟩ (fun H locs hP hD hS => ?_)
          refine W.eq (g2 := F0 m 50 ls [.int r7]) rfl ?_
          refine lv_iload hx hb dX2_alone_50 (lv_at hl 5 rfl) ?_
          obtain ⟨r8, z8, hG8, hF⟩ := o_b hF
          refine cl_S (rest := []) X hK hN hA hP hD hS (kX2_ended l G cy cyO a z7 r7 y4 r8 z8 hG8) (va_cwS 2 hts gX2_alone_X2_ended rfl rfl rfl (by decide +kernel) ⟨Nat.le_of_ble_eq_true rfl, Nat.le_of_ble_eq_true rfl⟩) rfl hl.1 rfl (Nat.le_of_ble_eq_true rfl) dX2_alone_52 ⟨Nat.zero_le _, Nat.zero_le _⟩ (fun H locs hP hD hS => ?_)
          refine W.eq (g2 := F0 m 55 ls [.int r8]) rfl ?_
          refine lv_istore_n (lv' := [(3, .int r8), (5, .int r4), (0, .ref (a 0)), (1, .int y1), (2, .int y2), (4, .int y4)]) hx hb dX2_alone_55 rfl hl (by decide) rfl (fun ls hl => ?_)
          refine lv_aload_n hx hb dX2_alone_56 rfl (lv_at hl 2 rfl) ?_
          refine lv_iload hx hb dX2_alone_57 (lv_at hl 1 rfl) ?_
          obtain ⟨r9, z9, hG9, hF⟩ := o_b hF
          refine cl_V (C := RX2) (rest := []) X hK hN hA hP hD hS (kX2_let l G cy cyO a z8 r4 r9 z9 hG9) (cwV 1 hts gX2_alone_X2_let rfl rfl rfl (by decide +kernel) ⟨Nat.le_of_ble_eq_true rfl, Nat.le_of_ble_eq_true rfl⟩) (va_recv hK hP (ci := 2) (q0 := 0) rfl rfl) rfl hl.1 rfl (Nat.le_of_ble_eq_true rfl) dX2_alone_59 ⟨Nat.zero_le _, Nat.zero_le _⟩ (fun H locs hP hD hS => ?_)
          refine W.eq (g2 := F0 m 62 ls []) rfl ?_
          refine lv_iinc (v := y4 + 1) (lv' := [(4, .int (y4 + 1)), (3, .int r8), (5, .int r4), (0, .ref (a 0)), (1, .int y1), (2, .int y2)]) hx hb dX2_alone_62 hl (k := 5) rfl rfl (by decide) rfl (fun ls hl => ?_)
          refine lv_goto (tgt := 5) hx hb dX2_alone_65 (by decide) ?_
          exact ih z9 y1 y2 r8 (y4 + 1) hF H locs hP hD hS ls (lv_sub hl [3, 4, 5, 1, 0] rfl)
        · have hF := o_f c5 hF
          refine lv_bipush (v := (-11)) hx hb dX2_alone_34 (by decide) ?_
          obtain ⟨rfl, rfl⟩ := o_s hF
          exact rt_i X hr hlocks hP hD hS dX2_alone_36
def fX2_alone (z0 : SM) (x1 : Int32) (x2 : Int32) : Option (Int32 × SM) := (fX2_alone_j5 20 z0 x1 x2 0 0)
set_option maxRecDepth 100000 in
set_option maxHeartbeats 4000000 in
theorem kX2_alone (l : Launch) (G : va_G) (cy cyO : ClassId) (a : Nat → Nat) (z0 : SM) (x1 : Int32) (x2 : Int32) (r : Int32) (u : SM) (hF : fX2_alone z0 x1 x2 = some (r, u)) : Ct l G (tys_ cy cyO) yX2_alone wsX2_alone ({ frames := 6, cells := 0, slots := 0, locals := 134 } : Room) [.ref (a 0), .int x1, .int x2] (mW a cy z0) (some (.int r)) (mW a cy u) := by
  unfold fX2_alone at hF
  refine ct_of (cc := cX2_alone) (maxL := 6) (ret := (some .int)) (own := RX2) (by decide) rfl (Nat.le_of_ble_eq_true rfl) rfl ?_
  intro p e s m below meth c A ls X hr hlocks _ hK hN hA hP hD hl
  have hS : va_S A s.heap s.heap [] := va_S.rf
  have hl : lv_has ls 6 [(0, .ref (a 0)), (1, .int x1), (2, .int x2)] := hl
  obtain ⟨hx, hb, hml, hown, hts⟩ := id X
  have hin2 : ∀ w ∈ wsX20, w ∈ wsX2_alone := by decide +kernel
  refine lv_iconst (v := 0) hx hb dX2_alone_0 (by decide) ?_
  refine lv_istore_n (lv' := [(3, .int 0), (0, .ref (a 0)), (1, .int x1), (2, .int x2)]) hx hb dX2_alone_1 rfl hl (by decide) rfl (fun ls hl => ?_)
  refine lv_iconst (v := 0) hx hb dX2_alone_2 (by decide) ?_
  refine lv_istore (lv' := [(4, .int 0), (3, .int 0), (0, .ref (a 0)), (1, .int x1), (2, .int x2)]) hx hb dX2_alone_3 hl (by decide) rfl (fun ls hl => ?_)
  exact jX2_alone_5 X hr hlocks hK hN hA 20 z0 x1 x2 0 0 hF s.heap [] hP hD hS ls (lv_sub hl [2, 3, 4, 1, 0] rfl)
def fX2_round_j5 : Nat → SM → Int32 → Int32 → Int32 → Int32 → Option (Int32 × SM)
  | 0, _, _, _, _, _ => none
  | n + 1, z0, y1, y2, y3, y4 => (if 10 ≤ y4 then some (y3, z0) else (if y3 = 0 then bd_ (fX2_alone z0 y1 y2) (fun r3 z3 => (fX2_round_j5 n z3 y1 y2 r3 (y4 + 1))) else some (y3, z0)))
set_option maxRecDepth 100000 in
set_option maxHeartbeats 4000000 in
theorem jX2_round_5 {p : Program} {l : Launch} {e : Env} {s : State} {m : MethodId} {args : Array Value} {below : List Frame} {meth : Method} {c : Code} {G : va_G} {cy cyO : ClassId} {a : Nat → Nat} {A : Nat → Prop} {r : Int32} {u : SM} (X : CallFix p m c cX2_round 5 s args wsX2_round RX2) (hr : meth.sig.returnType = (some .int)) (hlocks : meth.locks = false) (hK : va_K G vwCl (tys_ cy cyO) s) (hN : nw s) (hA : ∀ q, s.heap.size ≤ q → A q) : ∀ n : Nat, ∀ (z0 : SM) (y1 : Int32) (y2 : Int32) (y3 : Int32) (y4 : Int32), fX2_round_j5 n z0 y1 y2 y3 y4 = some (r, u) → ∀ (H : Heap) (locs : List Loc), va_P G vwCl (mW a cy z0) H → va_D A (mW a cy z0) → va_S A s.heap H locs → ∀ (ls : Array Slot), lv_has ls 5 [(0, .ref (a 0)), (1, .int y1), (2, .int y2), (3, .int y3), (4, .int y4)] → W p l e ({ frames := 7, cells := 0, slots := 0, locals := 159 } : Room) s m args below meth c H locs 0 0 (MQ below (qg (some (.int r)) (fun t => wPost G A (mW a cy u) t) A) args s 0 0 A) (F0 m 5 ls []) := by
  obtain ⟨hx, hb, hml, hown, hts⟩ := id X
  intro n
  induction n with
  | zero => intro z0 y1 y2 y3 y4 hF; cases hF
  | succ n ih =>
    intro z0 y1 y2 y3 y4 hF H locs hP hD hS ls hl
    rw [fX2_round_j5] at hF
    refine lv_iload hx hb dX2_round_5 (lv_at hl 4 rfl) ?_
    refine lv_bipush (v := 10) hx hb dX2_round_7 (by decide) ?_
    refine lv_icmp_ge (tgt := 29) hx hb dX2_round_9 (by decide) (fun c1 => ?_) (fun c1 => ?_)
    · have hF := o_t c1 hF
      refine lv_iload_n hx hb dX2_round_29 rfl (lv_at hl 3 rfl) ?_
      obtain ⟨rfl, rfl⟩ := o_s hF
      exact rt_i X hr hlocks hP hD hS dX2_round_30
    · have hF := o_f c1 hF
      refine lv_iload_n hx hb dX2_round_12 rfl (lv_at hl 3 rfl) ?_
      refine lv_if_ne (tgt := 29) hx hb dX2_round_13 (by decide) (fun c2 => ?_) (fun c2 => ?_)
      · have hF := o_f c2 hF
        refine lv_iload_n hx hb dX2_round_29 rfl (lv_at hl 3 rfl) ?_
        obtain ⟨rfl, rfl⟩ := o_s hF
        exact rt_i X hr hlocks hP hD hS dX2_round_30
      · have hF := o_t c2 hF
        refine lv_aload_n hx hb dX2_round_16 rfl (lv_at hl 0 rfl) ?_
        refine lv_iload_n hx hb dX2_round_17 rfl (lv_at hl 1 rfl) ?_
        refine lv_iload_n hx hb dX2_round_18 rfl (lv_at hl 2 rfl) ?_
        obtain ⟨r3, z3, hG3, hF⟩ := o_b hF
        refine cl_V (C := RX2) (rest := []) X hK hN hA hP hD hS (kX2_alone l G cy cyO a z0 y1 y2 r3 z3 hG3) (cwV 2 hts gX2_round_X2_alone rfl rfl rfl (by decide +kernel) ⟨Nat.le_of_ble_eq_true rfl, Nat.le_of_ble_eq_true rfl⟩) (va_recv hK hP (ci := 2) (q0 := 0) rfl rfl) rfl hl.1 rfl (Nat.le_of_ble_eq_true rfl) dX2_round_19 ⟨Nat.zero_le _, Nat.zero_le _⟩ (fun H locs hP hD hS => ?_)
        refine W.eq (g2 := F0 m 22 ls [.int r3]) rfl ?_
        refine lv_istore_n (lv' := [(3, .int r3), (0, .ref (a 0)), (1, .int y1), (2, .int y2), (4, .int y4)]) hx hb dX2_round_22 rfl hl (by decide) rfl (fun ls hl => ?_)
        refine lv_iinc (v := y4 + 1) (lv' := [(4, .int (y4 + 1)), (3, .int r3), (0, .ref (a 0)), (1, .int y1), (2, .int y2)]) hx hb dX2_round_23 hl (k := 4) rfl rfl (by decide) rfl (fun ls hl => ?_)
        refine lv_goto (tgt := 5) hx hb dX2_round_26 (by decide) ?_
        exact ih z3 y1 y2 r3 (y4 + 1) hF H locs hP hD hS ls (lv_sub hl [2, 3, 4, 1, 0] rfl)
def fX2_round (z0 : SM) (x1 : Int32) (x2 : Int32) : Option (Int32 × SM) := (fX2_round_j5 20 z0 x1 x2 0 0)
set_option maxRecDepth 100000 in
set_option maxHeartbeats 4000000 in
theorem kX2_round (l : Launch) (G : va_G) (cy cyO : ClassId) (a : Nat → Nat) (z0 : SM) (x1 : Int32) (x2 : Int32) (r : Int32) (u : SM) (hF : fX2_round z0 x1 x2 = some (r, u)) : Ct l G (tys_ cy cyO) yX2_round wsX2_round ({ frames := 7, cells := 0, slots := 0, locals := 159 } : Room) [.ref (a 0), .int x1, .int x2] (mW a cy z0) (some (.int r)) (mW a cy u) := by
  unfold fX2_round at hF
  refine ct_of (cc := cX2_round) (maxL := 5) (ret := (some .int)) (own := RX2) (by decide) rfl (Nat.le_of_ble_eq_true rfl) rfl ?_
  intro p e s m below meth c A ls X hr hlocks _ hK hN hA hP hD hl
  have hS : va_S A s.heap s.heap [] := va_S.rf
  have hl : lv_has ls 5 [(0, .ref (a 0)), (1, .int x1), (2, .int x2)] := hl
  obtain ⟨hx, hb, hml, hown, hts⟩ := id X
  refine lv_iconst (v := 0) hx hb dX2_round_0 (by decide) ?_
  refine lv_istore_n (lv' := [(3, .int 0), (0, .ref (a 0)), (1, .int x1), (2, .int x2)]) hx hb dX2_round_1 rfl hl (by decide) rfl (fun ls hl => ?_)
  refine lv_iconst (v := 0) hx hb dX2_round_2 (by decide) ?_
  refine lv_istore (lv' := [(4, .int 0), (3, .int 0), (0, .ref (a 0)), (1, .int x1), (2, .int x2)]) hx hb dX2_round_3 hl (by decide) rfl (fun ls hl => ?_)
  exact jX2_round_5 X hr hlocks hK hN hA 20 z0 x1 x2 0 0 hF s.heap [] hP hD hS ls (lv_sub hl [2, 3, 4, 1, 0] rfl)
end
section
def fX2_twoByTwo_j134 (K5 : SM → Int32 → Int32 → Int32 → Int32 → Option (Int32 × SM)) (z0 : SM) (y1 : Int32) (y2 : Int32) (y3 : Int32) (y4 : Int32) (y5 : Int32) : Option (Int32 × SM) := bd_ (fX2_let z0 y5) (fun r1 z1 => (K5 z1 y1 y2 y3 (y4 + 1)))
set_option maxRecDepth 100000 in
set_option maxHeartbeats 4000000 in
theorem jX2_twoByTwo_134 {p : Program} {l : Launch} {e : Env} {s : State} {m : MethodId} {args : Array Value} {below : List Frame} {meth : Method} {c : Code} {G : va_G} {cy cyO : ClassId} {a : Nat → Nat} {A : Nat → Prop} {r : Int32} {u : SM} (X : CallFix p m c cX2_twoByTwo 8 s args wsX2_twoByTwo RX2) (hr : meth.sig.returnType = (some .int)) (hlocks : meth.locks = false) (hK : va_K G vwCl (tys_ cy cyO) s) (hN : nw s) (hA : ∀ q, s.heap.size ≤ q → A q) (K5 : SM → Int32 → Int32 → Int32 → Int32 → Option (Int32 × SM)) (hK5 : ∀ (z0 : SM) (y1 : Int32) (y2 : Int32) (y3 : Int32) (y4 : Int32), K5 z0 y1 y2 y3 y4 = some (r, u) → ∀ (H : Heap) (locs : List Loc), va_P G vwCl (mW a cy z0) H → va_D A (mW a cy z0) → va_S A s.heap H locs → ∀ (ls : Array Slot), lv_has ls 8 [(0, .ref (a 0)), (1, .int y1), (2, .int y2), (3, .int y3), (4, .int y4)] → W p l e ({ frames := 6, cells := 0, slots := 0, locals := 134 } : Room) s m args below meth c H locs 0 0 (MQ below (qg (some (.int r)) (fun t => wPost G A (mW a cy u) t) A) args s 0 0 A) (F0 m 5 ls [])) : ∀ (z0 : SM) (y1 : Int32) (y2 : Int32) (y3 : Int32) (y4 : Int32) (y5 : Int32), fX2_twoByTwo_j134 K5 z0 y1 y2 y3 y4 y5 = some (r, u) → ∀ (H : Heap) (locs : List Loc), va_P G vwCl (mW a cy z0) H → va_D A (mW a cy z0) → va_S A s.heap H locs → ∀ (ls : Array Slot), lv_has ls 8 [(0, .ref (a 0)), (1, .int y1), (2, .int y2), (3, .int y3), (4, .int y4), (5, .int y5)] → W p l e ({ frames := 6, cells := 0, slots := 0, locals := 134 } : Room) s m args below meth c H locs 0 0 (MQ below (qg (some (.int r)) (fun t => wPost G A (mW a cy u) t) A) args s 0 0 A) (F0 m 134 ls []) := by
  obtain ⟨hx, hb, hml, hown, hts⟩ := id X
  have hin2 : ∀ w ∈ wsX20, w ∈ wsX2_twoByTwo := by decide +kernel
  intro z0 y1 y2 y3 y4 y5 hF H locs hP hD hS ls hl
  unfold fX2_twoByTwo_j134 at hF
  refine lv_aload_n hx hb dX2_twoByTwo_134 rfl (lv_at hl 0 rfl) ?_
  refine lv_iload hx hb dX2_twoByTwo_135 (lv_at hl 5 rfl) ?_
  obtain ⟨r1, z1, hG1, hF⟩ := o_b hF
  refine cl_V (C := RX2) (rest := []) X hK hN hA hP hD hS (kX2_let l G cy cyO a z0 y5 r1 z1 hG1) (cwV 1 hts gX2_twoByTwo_X2_let rfl rfl rfl (by decide +kernel) ⟨Nat.le_of_ble_eq_true rfl, Nat.le_of_ble_eq_true rfl⟩) (va_recv hK hP (ci := 2) (q0 := 0) rfl rfl) rfl hl.1 rfl (Nat.le_of_ble_eq_true rfl) dX2_twoByTwo_137 ⟨Nat.zero_le _, Nat.zero_le _⟩ (fun H locs hP hD hS => ?_)
  refine W.eq (g2 := F0 m 140 ls []) rfl ?_
  refine lv_iinc (v := y4 + 1) (lv' := [(4, .int (y4 + 1)), (0, .ref (a 0)), (1, .int y1), (2, .int y2), (3, .int y3), (5, .int y5)]) hx hb dX2_twoByTwo_140 hl (k := 4) rfl rfl (by decide) rfl (fun ls hl => ?_)
  refine lv_goto (tgt := 5) hx hb dX2_twoByTwo_143 (by decide) ?_
  exact hK5 z1 y1 y2 y3 (y4 + 1) hF H locs hP hD hS ls (lv_sub hl [1, 2, 3, 4, 0] rfl)
def fX2_twoByTwo_j110 (K5 : SM → Int32 → Int32 → Int32 → Int32 → Option (Int32 × SM)) (z0 : SM) (y1 : Int32) (y2 : Int32) (y4 : Int32) (y5 : Int32) (y6 : Int32) (y7 : Int32) : Option (Int32 × SM) := bd_ (fX2_pass z0 y5 y2) (fun r1 z1 => bd_ (fX2_ended z1 r1 y4) (fun r2 z2 => (if y6 = 0 then (fX2_twoByTwo_j134 K5 z2 y1 y2 r2 y4 y5) else bd_ (fX2_let z2 y7) (fun r4 z4 => (fX2_twoByTwo_j134 K5 z4 y1 y2 r2 y4 y5)))))
set_option maxRecDepth 100000 in
set_option maxHeartbeats 4000000 in
theorem jX2_twoByTwo_110 {p : Program} {l : Launch} {e : Env} {s : State} {m : MethodId} {args : Array Value} {below : List Frame} {meth : Method} {c : Code} {G : va_G} {cy cyO : ClassId} {a : Nat → Nat} {A : Nat → Prop} {r : Int32} {u : SM} (X : CallFix p m c cX2_twoByTwo 8 s args wsX2_twoByTwo RX2) (hr : meth.sig.returnType = (some .int)) (hlocks : meth.locks = false) (hK : va_K G vwCl (tys_ cy cyO) s) (hN : nw s) (hA : ∀ q, s.heap.size ≤ q → A q) (K5 : SM → Int32 → Int32 → Int32 → Int32 → Option (Int32 × SM)) (hK5 : ∀ (z0 : SM) (y1 : Int32) (y2 : Int32) (y3 : Int32) (y4 : Int32), K5 z0 y1 y2 y3 y4 = some (r, u) → ∀ (H : Heap) (locs : List Loc), va_P G vwCl (mW a cy z0) H → va_D A (mW a cy z0) → va_S A s.heap H locs → ∀ (ls : Array Slot), lv_has ls 8 [(0, .ref (a 0)), (1, .int y1), (2, .int y2), (3, .int y3), (4, .int y4)] → W p l e ({ frames := 6, cells := 0, slots := 0, locals := 134 } : Room) s m args below meth c H locs 0 0 (MQ below (qg (some (.int r)) (fun t => wPost G A (mW a cy u) t) A) args s 0 0 A) (F0 m 5 ls [])) : ∀ (z0 : SM) (y1 : Int32) (y2 : Int32) (y4 : Int32) (y5 : Int32) (y6 : Int32) (y7 : Int32), fX2_twoByTwo_j110 K5 z0 y1 y2 y4 y5 y6 y7 = some (r, u) → ∀ (H : Heap) (locs : List Loc), va_P G vwCl (mW a cy z0) H → va_D A (mW a cy z0) → va_S A s.heap H locs → ∀ (ls : Array Slot), lv_has ls 8 [(0, .ref (a 0)), (1, .int y1), (2, .int y2), (4, .int y4), (5, .int y5), (6, .int y6), (7, .int y7)] → W p l e ({ frames := 6, cells := 0, slots := 0, locals := 134 } : Room) s m args below meth c H locs 0 0 (MQ below (qg (some (.int r)) (fun t => wPost G A (mW a cy u) t) A) args s 0 0 A) (F0 m 110 ls []) := by
  obtain ⟨hx, hb, hml, hown, hts⟩ := id X
  have hin2 : ∀ w ∈ wsX20, w ∈ wsX2_twoByTwo := by decide +kernel
  intro z0 y1 y2 y4 y5 y6 y7 hF H locs hP hD hS ls hl
  unfold fX2_twoByTwo_j110 at hF
  refine lv_aload_n hx hb dX2_twoByTwo_110 rfl (lv_at hl 0 rfl) ?_
  refine lv_iload hx hb dX2_twoByTwo_111 (lv_at hl 4 rfl) ?_
  refine lv_iload_n hx hb dX2_twoByTwo_113 rfl (lv_at hl 2 rfl) ?_
  obtain ⟨r1, z1, hG1, hF⟩ := o_b hF
  refine cl_V (C := RX2) (rest := []) X hK hN hA hP hD hS (kX2_pass l G cy cyO a z0 y5 y2 r1 z1 hG1) (cwV 2 hts gX2_twoByTwo_X2_pass rfl rfl rfl (by decide +kernel) ⟨Nat.le_of_ble_eq_true rfl, Nat.le_of_ble_eq_true rfl⟩) (va_recv hK hP (ci := 2) (q0 := 0) rfl rfl) rfl hl.1 rfl (Nat.le_of_ble_eq_true rfl) dX2_twoByTwo_114 ⟨Nat.zero_le _, Nat.zero_le _⟩ (fun H locs hP hD hS => ?_)
  refine W.eq (g2 := F0 m 117 ls [.int r1]) rfl ?_
  refine lv_iload hx hb dX2_twoByTwo_117 (lv_at hl 3 rfl) ?_
  obtain ⟨r2, z2, hG2, hF⟩ := o_b hF
  refine cl_S (rest := []) X hK hN hA hP hD hS (kX2_ended l G cy cyO a z1 r1 y4 r2 z2 hG2) (va_cwS 2 hts gX2_twoByTwo_X2_ended rfl rfl rfl (by decide +kernel) ⟨Nat.le_of_ble_eq_true rfl, Nat.le_of_ble_eq_true rfl⟩) rfl hl.1 rfl (Nat.le_of_ble_eq_true rfl) dX2_twoByTwo_119 ⟨Nat.zero_le _, Nat.zero_le _⟩ (fun H locs hP hD hS => ?_)
  refine W.eq (g2 := F0 m 122 ls [.int r2]) rfl ?_
  refine lv_istore_n (lv' := [(3, .int r2), (0, .ref (a 0)), (1, .int y1), (2, .int y2), (4, .int y4), (5, .int y5), (6, .int y6), (7, .int y7)]) hx hb dX2_twoByTwo_122 rfl hl (by decide) rfl (fun ls hl => ?_)
  refine lv_iload hx hb dX2_twoByTwo_123 (lv_at hl 6 rfl) ?_
  refine lv_if_eq (tgt := 134) hx hb dX2_twoByTwo_125 (by decide) (fun c3 => ?_) (fun c3 => ?_)
  · have hF := o_t c3 hF
    exact jX2_twoByTwo_134 X hr hlocks hK hN hA K5 hK5 z2 y1 y2 r2 y4 y5 hF H locs hP hD hS ls (lv_sub hl [1, 2, 3, 0, 4, 5] rfl)
  · have hF := o_f c3 hF
    refine lv_aload_n hx hb dX2_twoByTwo_128 rfl (lv_at hl 1 rfl) ?_
    refine lv_iload hx hb dX2_twoByTwo_129 (lv_at hl 7 rfl) ?_
    obtain ⟨r4, z4, hG4, hF⟩ := o_b hF
    refine cl_V (C := RX2) (rest := []) X hK hN hA hP hD hS (kX2_let l G cy cyO a z2 y7 r4 z4 hG4) (cwV 1 hts gX2_twoByTwo_X2_let rfl rfl rfl (by decide +kernel) ⟨Nat.le_of_ble_eq_true rfl, Nat.le_of_ble_eq_true rfl⟩) (va_recv hK hP (ci := 2) (q0 := 0) rfl rfl) rfl hl.1 rfl (Nat.le_of_ble_eq_true rfl) dX2_twoByTwo_131 ⟨Nat.zero_le _, Nat.zero_le _⟩ (fun H locs hP hD hS => ?_)
    refine W.eq (g2 := F0 m 134 ls []) rfl ?_
    exact jX2_twoByTwo_134 X hr hlocks hK hN hA K5 hK5 z4 y1 y2 r2 y4 y5 hF H locs hP hD hS ls (lv_sub hl [1, 2, 3, 0, 4, 5] rfl)
def fX2_twoByTwo_j99 (K5 : SM → Int32 → Int32 → Int32 → Int32 → Option (Int32 × SM)) (z0 : SM) (y1 : Int32) (y2 : Int32) (y4 : Int32) (y5 : Int32) (y6 : Int32) (y7 : Int32) : Option (Int32 × SM) := (if y6 = 0 then (fX2_twoByTwo_j110 K5 z0 y1 y2 y4 y5 y6 y7) else bd_ (fX2_claim z0 y7) (fun r2 z2 => (fX2_twoByTwo_j110 K5 z2 y1 y2 y4 y5 y6 y7)))
set_option maxRecDepth 100000 in
set_option maxHeartbeats 4000000 in
theorem jX2_twoByTwo_99 {p : Program} {l : Launch} {e : Env} {s : State} {m : MethodId} {args : Array Value} {below : List Frame} {meth : Method} {c : Code} {G : va_G} {cy cyO : ClassId} {a : Nat → Nat} {A : Nat → Prop} {r : Int32} {u : SM} (X : CallFix p m c cX2_twoByTwo 8 s args wsX2_twoByTwo RX2) (hr : meth.sig.returnType = (some .int)) (hlocks : meth.locks = false) (hK : va_K G vwCl (tys_ cy cyO) s) (hN : nw s) (hA : ∀ q, s.heap.size ≤ q → A q) (K5 : SM → Int32 → Int32 → Int32 → Int32 → Option (Int32 × SM)) (hK5 : ∀ (z0 : SM) (y1 : Int32) (y2 : Int32) (y3 : Int32) (y4 : Int32), K5 z0 y1 y2 y3 y4 = some (r, u) → ∀ (H : Heap) (locs : List Loc), va_P G vwCl (mW a cy z0) H → va_D A (mW a cy z0) → va_S A s.heap H locs → ∀ (ls : Array Slot), lv_has ls 8 [(0, .ref (a 0)), (1, .int y1), (2, .int y2), (3, .int y3), (4, .int y4)] → W p l e ({ frames := 6, cells := 0, slots := 0, locals := 134 } : Room) s m args below meth c H locs 0 0 (MQ below (qg (some (.int r)) (fun t => wPost G A (mW a cy u) t) A) args s 0 0 A) (F0 m 5 ls [])) : ∀ (z0 : SM) (y1 : Int32) (y2 : Int32) (y4 : Int32) (y5 : Int32) (y6 : Int32) (y7 : Int32), fX2_twoByTwo_j99 K5 z0 y1 y2 y4 y5 y6 y7 = some (r, u) → ∀ (H : Heap) (locs : List Loc), va_P G vwCl (mW a cy z0) H → va_D A (mW a cy z0) → va_S A s.heap H locs → ∀ (ls : Array Slot), lv_has ls 8 [(0, .ref (a 0)), (1, .int y1), (2, .int y2), (4, .int y4), (5, .int y5), (6, .int y6), (7, .int y7)] → W p l e ({ frames := 6, cells := 0, slots := 0, locals := 134 } : Room) s m args below meth c H locs 0 0 (MQ below (qg (some (.int r)) (fun t => wPost G A (mW a cy u) t) A) args s 0 0 A) (F0 m 99 ls []) := by
  obtain ⟨hx, hb, hml, hown, hts⟩ := id X
  have hin2 : ∀ w ∈ wsX20, w ∈ wsX2_twoByTwo := by decide +kernel
  intro z0 y1 y2 y4 y5 y6 y7 hF H locs hP hD hS ls hl
  unfold fX2_twoByTwo_j99 at hF
  refine lv_iload hx hb dX2_twoByTwo_99 (lv_at hl 5 rfl) ?_
  refine lv_if_eq (tgt := 110) hx hb dX2_twoByTwo_101 (by decide) (fun c1 => ?_) (fun c1 => ?_)
  · have hF := o_t c1 hF
    exact jX2_twoByTwo_110 X hr hlocks hK hN hA K5 hK5 z0 y1 y2 y4 y5 y6 y7 hF H locs hP hD hS ls (lv_sub hl [0, 1, 2, 3, 4, 5, 6] rfl)
  · have hF := o_f c1 hF
    refine lv_aload_n hx hb dX2_twoByTwo_104 rfl (lv_at hl 0 rfl) ?_
    refine lv_iload hx hb dX2_twoByTwo_105 (lv_at hl 6 rfl) ?_
    obtain ⟨r2, z2, hG2, hF⟩ := o_b hF
    refine cl_V (C := RX2) (rest := []) X hK hN hA hP hD hS (kX2_claim l G cy cyO a z0 y7 r2 z2 hG2) (cwV 1 hts gX2_twoByTwo_X2_claim rfl rfl rfl (by decide +kernel) ⟨Nat.le_of_ble_eq_true rfl, Nat.le_of_ble_eq_true rfl⟩) (va_recv hK hP (ci := 2) (q0 := 0) rfl rfl) rfl hl.1 rfl (Nat.le_of_ble_eq_true rfl) dX2_twoByTwo_107 ⟨Nat.zero_le _, Nat.zero_le _⟩ (fun H locs hP hD hS => ?_)
    refine W.eq (g2 := F0 m 110 ls []) rfl ?_
    exact jX2_twoByTwo_110 X hr hlocks hK hN hA K5 hK5 z2 y1 y2 y4 y5 y6 y7 hF H locs hP hD hS ls (lv_sub hl [0, 1, 2, 3, 4, 5, 6] rfl)
def fX2_twoByTwo_j81 (K5 : SM → Int32 → Int32 → Int32 → Int32 → Option (Int32 × SM)) (z0 : SM) (y1 : Int32) (y2 : Int32) (y4 : Int32) (y5 : Int32) (y6 : Int32) (t0 : Int32) : Option (Int32 × SM) := (if y6 = 0 then (fX2_twoByTwo_j99 K5 z0 y1 y2 y4 y5 y6 t0) else (if 0 ≤ t0 then (fX2_twoByTwo_j99 K5 z0 y1 y2 y4 y5 y6 t0) else (fX2_twoByTwo_j134 K5 z0 y1 y2 (-11) y4 y5)))
set_option maxRecDepth 100000 in
set_option maxHeartbeats 4000000 in
theorem jX2_twoByTwo_81 {p : Program} {l : Launch} {e : Env} {s : State} {m : MethodId} {args : Array Value} {below : List Frame} {meth : Method} {c : Code} {G : va_G} {cy cyO : ClassId} {a : Nat → Nat} {A : Nat → Prop} {r : Int32} {u : SM} (X : CallFix p m c cX2_twoByTwo 8 s args wsX2_twoByTwo RX2) (hr : meth.sig.returnType = (some .int)) (hlocks : meth.locks = false) (hK : va_K G vwCl (tys_ cy cyO) s) (hN : nw s) (hA : ∀ q, s.heap.size ≤ q → A q) (K5 : SM → Int32 → Int32 → Int32 → Int32 → Option (Int32 × SM)) (hK5 : ∀ (z0 : SM) (y1 : Int32) (y2 : Int32) (y3 : Int32) (y4 : Int32), K5 z0 y1 y2 y3 y4 = some (r, u) → ∀ (H : Heap) (locs : List Loc), va_P G vwCl (mW a cy z0) H → va_D A (mW a cy z0) → va_S A s.heap H locs → ∀ (ls : Array Slot), lv_has ls 8 [(0, .ref (a 0)), (1, .int y1), (2, .int y2), (3, .int y3), (4, .int y4)] → W p l e ({ frames := 6, cells := 0, slots := 0, locals := 134 } : Room) s m args below meth c H locs 0 0 (MQ below (qg (some (.int r)) (fun t => wPost G A (mW a cy u) t) A) args s 0 0 A) (F0 m 5 ls [])) : ∀ (z0 : SM) (y1 : Int32) (y2 : Int32) (y4 : Int32) (y5 : Int32) (y6 : Int32) (t0 : Int32), fX2_twoByTwo_j81 K5 z0 y1 y2 y4 y5 y6 t0 = some (r, u) → ∀ (H : Heap) (locs : List Loc), va_P G vwCl (mW a cy z0) H → va_D A (mW a cy z0) → va_S A s.heap H locs → ∀ (ls : Array Slot), lv_has ls 8 [(0, .ref (a 0)), (1, .int y1), (2, .int y2), (4, .int y4), (5, .int y5), (6, .int y6)] → W p l e ({ frames := 6, cells := 0, slots := 0, locals := 134 } : Room) s m args below meth c H locs 0 0 (MQ below (qg (some (.int r)) (fun t => wPost G A (mW a cy u) t) A) args s 0 0 A) (F0 m 81 ls [.int t0]) := by
  obtain ⟨hx, hb, hml, hown, hts⟩ := id X
  have hin2 : ∀ w ∈ wsX20, w ∈ wsX2_twoByTwo := by decide +kernel
  intro z0 y1 y2 y4 y5 y6 t0 hF H locs hP hD hS ls hl
  unfold fX2_twoByTwo_j81 at hF
  refine lv_istore (lv' := [(7, .int t0), (0, .ref (a 0)), (1, .int y1), (2, .int y2), (4, .int y4), (5, .int y5), (6, .int y6)]) hx hb dX2_twoByTwo_81 hl (by decide) rfl (fun ls hl => ?_)
  refine lv_iload hx hb dX2_twoByTwo_83 (lv_at hl 6 rfl) ?_
  refine lv_if_eq (tgt := 99) hx hb dX2_twoByTwo_85 (by decide) (fun c1 => ?_) (fun c1 => ?_)
  · have hF := o_t c1 hF
    exact jX2_twoByTwo_99 X hr hlocks hK hN hA K5 hK5 z0 y1 y2 y4 y5 y6 t0 hF H locs hP hD hS ls (lv_sub hl [1, 2, 3, 4, 5, 6, 0] rfl)
  · have hF := o_f c1 hF
    refine lv_iload hx hb dX2_twoByTwo_88 (lv_at hl 0 rfl) ?_
    refine lv_if_ge (tgt := 99) hx hb dX2_twoByTwo_90 (by decide) (fun c2 => ?_) (fun c2 => ?_)
    · have hF := o_t c2 hF
      exact jX2_twoByTwo_99 X hr hlocks hK hN hA K5 hK5 z0 y1 y2 y4 y5 y6 t0 hF H locs hP hD hS ls (lv_sub hl [1, 2, 3, 4, 5, 6, 0] rfl)
    · have hF := o_f c2 hF
      refine lv_bipush (v := (-11)) hx hb dX2_twoByTwo_93 (by decide) ?_
      refine lv_istore_n (lv' := [(3, .int (-11)), (7, .int t0), (0, .ref (a 0)), (1, .int y1), (2, .int y2), (4, .int y4), (5, .int y5), (6, .int y6)]) hx hb dX2_twoByTwo_95 rfl hl (by decide) rfl (fun ls hl => ?_)
      refine lv_goto (tgt := 134) hx hb dX2_twoByTwo_96 (by decide) ?_
      exact jX2_twoByTwo_134 X hr hlocks hK hN hA K5 hK5 z0 y1 y2 (-11) y4 y5 hF H locs hP hD hS ls (lv_sub hl [2, 3, 4, 0, 5, 6] rfl)
def fX2_twoByTwo_j61 (K5 : SM → Int32 → Int32 → Int32 → Int32 → Option (Int32 × SM)) (z0 : SM) (y1 : Int32) (y2 : Int32) (y4 : Int32) (y5 : Int32) (t0 : Int32) : Option (Int32 × SM) := (if t0 = 0 then (fX2_twoByTwo_j81 K5 z0 y1 y2 y4 y5 t0 (-1)) else bd_ (fX2_sectionOf z0 y1 (y4 + 1)) (fun r2 z2 => (fX2_twoByTwo_j81 K5 z2 y1 y2 y4 y5 t0 r2)))
set_option maxRecDepth 100000 in
set_option maxHeartbeats 4000000 in
theorem jX2_twoByTwo_61 {p : Program} {l : Launch} {e : Env} {s : State} {m : MethodId} {args : Array Value} {below : List Frame} {meth : Method} {c : Code} {G : va_G} {cy cyO : ClassId} {a : Nat → Nat} {A : Nat → Prop} {r : Int32} {u : SM} (X : CallFix p m c cX2_twoByTwo 8 s args wsX2_twoByTwo RX2) (hr : meth.sig.returnType = (some .int)) (hlocks : meth.locks = false) (hK : va_K G vwCl (tys_ cy cyO) s) (hN : nw s) (hA : ∀ q, s.heap.size ≤ q → A q) (K5 : SM → Int32 → Int32 → Int32 → Int32 → Option (Int32 × SM)) (hK5 : ∀ (z0 : SM) (y1 : Int32) (y2 : Int32) (y3 : Int32) (y4 : Int32), K5 z0 y1 y2 y3 y4 = some (r, u) → ∀ (H : Heap) (locs : List Loc), va_P G vwCl (mW a cy z0) H → va_D A (mW a cy z0) → va_S A s.heap H locs → ∀ (ls : Array Slot), lv_has ls 8 [(0, .ref (a 0)), (1, .int y1), (2, .int y2), (3, .int y3), (4, .int y4)] → W p l e ({ frames := 6, cells := 0, slots := 0, locals := 134 } : Room) s m args below meth c H locs 0 0 (MQ below (qg (some (.int r)) (fun t => wPost G A (mW a cy u) t) A) args s 0 0 A) (F0 m 5 ls [])) : ∀ (z0 : SM) (y1 : Int32) (y2 : Int32) (y4 : Int32) (y5 : Int32) (t0 : Int32), fX2_twoByTwo_j61 K5 z0 y1 y2 y4 y5 t0 = some (r, u) → ∀ (H : Heap) (locs : List Loc), va_P G vwCl (mW a cy z0) H → va_D A (mW a cy z0) → va_S A s.heap H locs → ∀ (ls : Array Slot), lv_has ls 8 [(0, .ref (a 0)), (1, .int y1), (2, .int y2), (4, .int y4), (5, .int y5)] → W p l e ({ frames := 6, cells := 0, slots := 0, locals := 134 } : Room) s m args below meth c H locs 0 0 (MQ below (qg (some (.int r)) (fun t => wPost G A (mW a cy u) t) A) args s 0 0 A) (F0 m 61 ls [.int t0]) := by
  obtain ⟨hx, hb, hml, hown, hts⟩ := id X
  have hin2 : ∀ w ∈ wsX20, w ∈ wsX2_twoByTwo := by decide +kernel
  intro z0 y1 y2 y4 y5 t0 hF H locs hP hD hS ls hl
  unfold fX2_twoByTwo_j61 at hF
  refine lv_istore (lv' := [(6, .int t0), (0, .ref (a 0)), (1, .int y1), (2, .int y2), (4, .int y4), (5, .int y5)]) hx hb dX2_twoByTwo_61 hl (by decide) rfl (fun ls hl => ?_)
  refine lv_iload hx hb dX2_twoByTwo_63 (lv_at hl 0 rfl) ?_
  refine lv_if_eq (tgt := 80) hx hb dX2_twoByTwo_65 (by decide) (fun c1 => ?_) (fun c1 => ?_)
  · have hF := o_t c1 hF
    refine lv_iconst (v := (-1)) hx hb dX2_twoByTwo_80 (by decide) ?_
    exact jX2_twoByTwo_81 X hr hlocks hK hN hA K5 hK5 z0 y1 y2 y4 y5 t0 (-1) hF H locs hP hD hS ls (lv_sub hl [1, 2, 3, 4, 5, 0] rfl)
  · have hF := o_f c1 hF
    refine lv_aload_n hx hb dX2_twoByTwo_68 rfl (lv_at hl 1 rfl) ?_
    refine lv_iload_n hx hb dX2_twoByTwo_69 rfl (lv_at hl 2 rfl) ?_
    refine lv_iload hx hb dX2_twoByTwo_70 (lv_at hl 4 rfl) ?_
    refine lv_iconst (v := 1) hx hb dX2_twoByTwo_72 (by decide) ?_
    refine lv_iadd hx hb dX2_twoByTwo_73 ?_
    obtain ⟨r2, z2, hG2, hF⟩ := o_b hF
    refine cl_V (C := RX2) (rest := []) X hK hN hA hP hD hS (kX2_sectionOf l G cy cyO a z0 y1 (y4 + 1) r2 z2 hG2) (cwV 2 hts gX2_twoByTwo_X2_sectionOf rfl rfl rfl (by decide +kernel) ⟨Nat.le_of_ble_eq_true rfl, Nat.le_of_ble_eq_true rfl⟩) (va_recv hK hP (ci := 2) (q0 := 0) rfl rfl) rfl hl.1 rfl (Nat.le_of_ble_eq_true rfl) dX2_twoByTwo_74 ⟨Nat.zero_le _, Nat.zero_le _⟩ (fun H locs hP hD hS => ?_)
    refine W.eq (g2 := F0 m 77 ls [.int r2]) rfl ?_
    refine lv_goto (tgt := 81) hx hb dX2_twoByTwo_77 (by decide) ?_
    exact jX2_twoByTwo_81 X hr hlocks hK hN hA K5 hK5 z2 y1 y2 y4 y5 t0 r2 hF H locs hP hD hS ls (lv_sub hl [1, 2, 3, 4, 5, 0] rfl)
def fX2_twoByTwo_j5 : Nat → SM → Int32 → Int32 → Int32 → Int32 → Option (Int32 × SM)
  | 0, _, _, _, _, _ => none
  | n + 1, z0, y1, y2, y3, y4 => if y1 < 0 ∨ 6 ≤ y1.toNatClampNeg then none else let_ (z0.2.2.2.1 y1.toNatClampNeg) (fun v1 => (if v1 ≤ y4 then some (y3, z0) else (if y3 = 0 then bd_ (fX2_sectionOf z0 y1 y4) (fun r4 z4 => (if 0 ≤ r4 then bd_ (fX2_claim z4 r4) (fun r6 z6 => if y1 < 0 ∨ 6 ≤ y1.toNatClampNeg then none else let_ (z6.2.2.2.1 y1.toNatClampNeg) (fun v7 => (if v7 ≤ (y4 + 1) then (fX2_twoByTwo_j61 (fX2_twoByTwo_j5 n) z6 y1 y2 y4 r4 0) else (fX2_twoByTwo_j61 (fX2_twoByTwo_j5 n) z6 y1 y2 y4 r4 1)))) else some ((-11), z4))) else some (y3, z0))))
set_option maxRecDepth 100000 in
set_option maxHeartbeats 4000000 in
theorem jX2_twoByTwo_5 {p : Program} {l : Launch} {e : Env} {s : State} {m : MethodId} {args : Array Value} {below : List Frame} {meth : Method} {c : Code} {G : va_G} {cy cyO : ClassId} {a : Nat → Nat} {A : Nat → Prop} {r : Int32} {u : SM} (X : CallFix p m c cX2_twoByTwo 8 s args wsX2_twoByTwo RX2) (hr : meth.sig.returnType = (some .int)) (hlocks : meth.locks = false) (hK : va_K G vwCl (tys_ cy cyO) s) (hN : nw s) (hA : ∀ q, s.heap.size ≤ q → A q) : ∀ n : Nat, ∀ (z0 : SM) (y1 : Int32) (y2 : Int32) (y3 : Int32) (y4 : Int32), fX2_twoByTwo_j5 n z0 y1 y2 y3 y4 = some (r, u) → ∀ (H : Heap) (locs : List Loc), va_P G vwCl (mW a cy z0) H → va_D A (mW a cy z0) → va_S A s.heap H locs → ∀ (ls : Array Slot), lv_has ls 8 [(0, .ref (a 0)), (1, .int y1), (2, .int y2), (3, .int y3), (4, .int y4)] → W p l e ({ frames := 6, cells := 0, slots := 0, locals := 134 } : Room) s m args below meth c H locs 0 0 (MQ below (qg (some (.int r)) (fun t => wPost G A (mW a cy u) t) A) args s 0 0 A) (F0 m 5 ls []) := by
  obtain ⟨hx, hb, hml, hown, hts⟩ := id X
  have hin2 : ∀ w ∈ wsX20, w ∈ wsX2_twoByTwo := by decide +kernel
  intro n
  induction n with
  | zero => intro z0 y1 y2 y3 y4 hF; cases hF
  | succ n ih =>
    intro z0 y1 y2 y3 y4 hF H locs hP hD hS ls hl
    rw [fX2_twoByTwo_j5] at hF
    refine lv_iload hx hb dX2_twoByTwo_5 (lv_at hl 4 rfl) ?_
    refine lv_aload_n hx hb dX2_twoByTwo_7 rfl (lv_at hl 0 rfl) ?_
    refine va_get (D := G) (ci := 2) (v := .ref (a 11)) (C := RX2) (T := TX2) (N := 18) hx hb hts hin2 hown hK hP 0 rfl rfl 11 (by decide) (hts (.fieldLink RX2 40 "SignalBoxModel" "lengths" "[I") (by decide +kernel)) (fun _ h9 => h9) rfl dX2_twoByTwo_8 ?_
    refine lv_iload_n hx hb dX2_twoByTwo_11 rfl (lv_at hl 1 rfl) ?_
    obtain ⟨h1, hF⟩ := o_n hF
    refine va_iald (n := 6) (f := z0.2.2.2.1) (cA := cy) hx hb hK hP 11 0 rfl rfl h1 dX2_twoByTwo_12 ?_
    obtain ⟨v1, e1, hF⟩ := o_l hF
    refine w_top e1 ?_
    refine lv_icmp_ge (tgt := 146) hx hb dX2_twoByTwo_13 (by decide) (fun c2 => ?_) (fun c2 => ?_)
    · have hF := o_t c2 hF
      refine lv_iload_n hx hb dX2_twoByTwo_146 rfl (lv_at hl 3 rfl) ?_
      obtain ⟨rfl, rfl⟩ := o_s hF
      exact rt_i X hr hlocks hP hD hS dX2_twoByTwo_147
    · have hF := o_f c2 hF
      refine lv_iload_n hx hb dX2_twoByTwo_16 rfl (lv_at hl 3 rfl) ?_
      refine lv_if_ne (tgt := 146) hx hb dX2_twoByTwo_17 (by decide) (fun c3 => ?_) (fun c3 => ?_)
      · have hF := o_f c3 hF
        refine lv_iload_n hx hb dX2_twoByTwo_146 rfl (lv_at hl 3 rfl) ?_
        obtain ⟨rfl, rfl⟩ := o_s hF
        exact rt_i X hr hlocks hP hD hS dX2_twoByTwo_147
      · have hF := o_t c3 hF
        refine lv_aload_n hx hb dX2_twoByTwo_20 rfl (lv_at hl 0 rfl) ?_
        refine lv_iload_n hx hb dX2_twoByTwo_21 rfl (lv_at hl 1 rfl) ?_
        refine lv_iload hx hb dX2_twoByTwo_22 (lv_at hl 4 rfl) ?_
        obtain ⟨r4, z4, hG4, hF⟩ := o_b hF
        refine cl_V (C := RX2) (rest := []) X hK hN hA hP hD hS (kX2_sectionOf l G cy cyO a z0 y1 y4 r4 z4 hG4) (cwV 2 hts gX2_twoByTwo_X2_sectionOf rfl rfl rfl (by decide +kernel) ⟨Nat.le_of_ble_eq_true rfl, Nat.le_of_ble_eq_true rfl⟩) (va_recv hK hP (ci := 2) (q0 := 0) rfl rfl) rfl hl.1 rfl (Nat.le_of_ble_eq_true rfl) dX2_twoByTwo_24 ⟨Nat.zero_le _, Nat.zero_le _⟩ (fun H locs hP hD hS => ?_)
        refine W.eq (g2 := F0 m 27 ls [.int r4]) rfl ?_
        refine lv_istore (lv' := [(5, .int r4), (0, .ref (a 0)), (1, .int y1), (2, .int y2), (3, .int y3), (4, .int y4)]) hx hb dX2_twoByTwo_27 hl (by decide) rfl (fun ls hl => ?_)
        refine lv_iload hx hb dX2_twoByTwo_29 (lv_at hl 0 rfl) ?_
        refine lv_if_ge (tgt := 37) hx hb dX2_twoByTwo_31 (by decide) (fun c5 => ?_) (fun c5 => ?_)
        · have hF := o_t c5 hF
          refine lv_aload_n hx hb dX2_twoByTwo_37 rfl (lv_at hl 1 rfl) ?_
          refine lv_iload hx hb dX2_twoByTwo_38 (lv_at hl 0 rfl) ?_
          obtain ⟨r6, z6, hG6, hF⟩ := o_b hF
          refine cl_V (C := RX2) (rest := []) X hK hN hA hP hD hS (kX2_claim l G cy cyO a z4 r4 r6 z6 hG6) (cwV 1 hts gX2_twoByTwo_X2_claim rfl rfl rfl (by decide +kernel) ⟨Nat.le_of_ble_eq_true rfl, Nat.le_of_ble_eq_true rfl⟩) (va_recv hK hP (ci := 2) (q0 := 0) rfl rfl) rfl hl.1 rfl (Nat.le_of_ble_eq_true rfl) dX2_twoByTwo_40 ⟨Nat.zero_le _, Nat.zero_le _⟩ (fun H locs hP hD hS => ?_)
          refine W.eq (g2 := F0 m 43 ls []) rfl ?_
          refine lv_iload hx hb dX2_twoByTwo_43 (lv_at hl 5 rfl) ?_
          refine lv_iconst (v := 1) hx hb dX2_twoByTwo_45 (by decide) ?_
          refine lv_iadd hx hb dX2_twoByTwo_46 ?_
          refine lv_aload_n hx hb dX2_twoByTwo_47 rfl (lv_at hl 1 rfl) ?_
          refine va_get (D := G) (ci := 2) (v := .ref (a 11)) (C := RX2) (T := TX2) (N := 18) hx hb hts hin2 hown hK hP 0 rfl rfl 11 (by decide) (hts (.fieldLink RX2 40 "SignalBoxModel" "lengths" "[I") (by decide +kernel)) (fun _ h9 => h9) rfl dX2_twoByTwo_48 ?_
          refine lv_iload_n hx hb dX2_twoByTwo_51 rfl (lv_at hl 2 rfl) ?_
          obtain ⟨h7, hF⟩ := o_n hF
          refine va_iald (n := 6) (f := z6.2.2.2.1) (cA := cy) hx hb hK hP 11 0 rfl rfl h7 dX2_twoByTwo_52 ?_
          obtain ⟨v7, e7, hF⟩ := o_l hF
          refine w_top e7 ?_
          refine lv_icmp_ge (tgt := 60) hx hb dX2_twoByTwo_53 (by decide) (fun c8 => ?_) (fun c8 => ?_)
          · have hF := o_t c8 hF
            refine lv_iconst (v := 0) hx hb dX2_twoByTwo_60 (by decide) ?_
            exact jX2_twoByTwo_61 X hr hlocks hK hN hA (fX2_twoByTwo_j5 n) ih z6 y1 y2 y4 r4 0 hF H locs hP hD hS ls (lv_sub hl [1, 2, 3, 5, 0] rfl)
          · have hF := o_f c8 hF
            refine lv_iconst (v := 1) hx hb dX2_twoByTwo_56 (by decide) ?_
            refine lv_goto (tgt := 61) hx hb dX2_twoByTwo_57 (by decide) ?_
            exact jX2_twoByTwo_61 X hr hlocks hK hN hA (fX2_twoByTwo_j5 n) ih z6 y1 y2 y4 r4 1 hF H locs hP hD hS ls (lv_sub hl [1, 2, 3, 5, 0] rfl)
        · have hF := o_f c5 hF
          refine lv_bipush (v := (-11)) hx hb dX2_twoByTwo_34 (by decide) ?_
          obtain ⟨rfl, rfl⟩ := o_s hF
          exact rt_i X hr hlocks hP hD hS dX2_twoByTwo_36
def fX2_twoByTwo (z0 : SM) (x1 : Int32) (x2 : Int32) : Option (Int32 × SM) := (fX2_twoByTwo_j5 20 z0 x1 x2 0 0)
set_option maxRecDepth 100000 in
set_option maxHeartbeats 4000000 in
theorem kX2_twoByTwo (l : Launch) (G : va_G) (cy cyO : ClassId) (a : Nat → Nat) (z0 : SM) (x1 : Int32) (x2 : Int32) (r : Int32) (u : SM) (hF : fX2_twoByTwo z0 x1 x2 = some (r, u)) : Ct l G (tys_ cy cyO) yX2_twoByTwo wsX2_twoByTwo ({ frames := 6, cells := 0, slots := 0, locals := 134 } : Room) [.ref (a 0), .int x1, .int x2] (mW a cy z0) (some (.int r)) (mW a cy u) := by
  unfold fX2_twoByTwo at hF
  refine ct_of (cc := cX2_twoByTwo) (maxL := 8) (ret := (some .int)) (own := RX2) (by decide) rfl (Nat.le_of_ble_eq_true rfl) rfl ?_
  intro p e s m below meth c A ls X hr hlocks _ hK hN hA hP hD hl
  have hS : va_S A s.heap s.heap [] := va_S.rf
  have hl : lv_has ls 8 [(0, .ref (a 0)), (1, .int x1), (2, .int x2)] := hl
  obtain ⟨hx, hb, hml, hown, hts⟩ := id X
  have hin2 : ∀ w ∈ wsX20, w ∈ wsX2_twoByTwo := by decide +kernel
  refine lv_iconst (v := 0) hx hb dX2_twoByTwo_0 (by decide) ?_
  refine lv_istore_n (lv' := [(3, .int 0), (0, .ref (a 0)), (1, .int x1), (2, .int x2)]) hx hb dX2_twoByTwo_1 rfl hl (by decide) rfl (fun ls hl => ?_)
  refine lv_iconst (v := 0) hx hb dX2_twoByTwo_2 (by decide) ?_
  refine lv_istore (lv' := [(4, .int 0), (3, .int 0), (0, .ref (a 0)), (1, .int x1), (2, .int x2)]) hx hb dX2_twoByTwo_3 hl (by decide) rfl (fun ls hl => ?_)
  exact jX2_twoByTwo_5 X hr hlocks hK hN hA 20 z0 x1 x2 0 0 hF s.heap [] hP hD hS ls (lv_sub hl [2, 3, 4, 1, 0] rfl)
def fX2_all_j99 : Nat → SM → Int32 → Int32 → Int32 → Option (Int32 × SM)
  | 0, _, _, _, _ => none
  | n + 1, z0, y1, y4, y5 => (if y5 < 0 then some (y4, z0) else bd_ (fX2_sectionOf z0 y1 y5) (fun r2 z2 => bd_ (fX2_let z2 r2) (fun r3 z3 => (fX2_all_j99 n z3 y1 y4 (y5 + (-1))))))
set_option maxRecDepth 100000 in
set_option maxHeartbeats 4000000 in
theorem jX2_all_99 {p : Program} {l : Launch} {e : Env} {s : State} {m : MethodId} {args : Array Value} {below : List Frame} {meth : Method} {c : Code} {G : va_G} {cy cyO : ClassId} {a : Nat → Nat} {A : Nat → Prop} {r : Int32} {u : SM} (X : CallFix p m c cX2_all 6 s args wsX2_all RX2) (hr : meth.sig.returnType = (some .int)) (hlocks : meth.locks = false) (hK : va_K G vwCl (tys_ cy cyO) s) (hN : nw s) (hA : ∀ q, s.heap.size ≤ q → A q) : ∀ n : Nat, ∀ (z0 : SM) (y1 : Int32) (y4 : Int32) (y5 : Int32), fX2_all_j99 n z0 y1 y4 y5 = some (r, u) → ∀ (H : Heap) (locs : List Loc), va_P G vwCl (mW a cy z0) H → va_D A (mW a cy z0) → va_S A s.heap H locs → ∀ (ls : Array Slot), lv_has ls 6 [(0, .ref (a 0)), (1, .int y1), (4, .int y4), (5, .int y5)] → W p l e ({ frames := 6, cells := 0, slots := 0, locals := 134 } : Room) s m args below meth c H locs 0 0 (MQ below (qg (some (.int r)) (fun t => wPost G A (mW a cy u) t) A) args s 0 0 A) (F0 m 99 ls []) := by
  obtain ⟨hx, hb, hml, hown, hts⟩ := id X
  have hin2 : ∀ w ∈ wsX20, w ∈ wsX2_all := by decide +kernel
  intro n
  induction n with
  | zero => intro z0 y1 y4 y5 hF; cases hF
  | succ n ih =>
    intro z0 y1 y4 y5 hF H locs hP hD hS ls hl
    rw [fX2_all_j99] at hF
    refine lv_iload hx hb dX2_all_99 (lv_at hl 3 rfl) ?_
    refine lv_if_lt (tgt := 121) hx hb dX2_all_101 (by decide) (fun c1 => ?_) (fun c1 => ?_)
    · have hF := o_t c1 hF
      refine lv_iload hx hb dX2_all_121 (lv_at hl 2 rfl) ?_
      obtain ⟨rfl, rfl⟩ := o_s hF
      exact rt_i X hr hlocks hP hD hS dX2_all_123
    · have hF := o_f c1 hF
      refine lv_aload_n hx hb dX2_all_104 rfl (lv_at hl 0 rfl) ?_
      refine lv_aload_n hx hb dX2_all_105 rfl (lv_at hl 0 rfl) ?_
      refine lv_iload_n hx hb dX2_all_106 rfl (lv_at hl 1 rfl) ?_
      refine lv_iload hx hb dX2_all_107 (lv_at hl 3 rfl) ?_
      obtain ⟨r2, z2, hG2, hF⟩ := o_b hF
      refine cl_V (C := RX2) (rest := [.ref (a 0)]) X hK hN hA hP hD hS (kX2_sectionOf l G cy cyO a z0 y1 y5 r2 z2 hG2) (cwV 2 hts gX2_all_X2_sectionOf rfl rfl rfl (by decide +kernel) ⟨Nat.le_of_ble_eq_true rfl, Nat.le_of_ble_eq_true rfl⟩) (va_recv hK hP (ci := 2) (q0 := 0) rfl rfl) rfl hl.1 rfl (Nat.le_of_ble_eq_true rfl) dX2_all_109 ⟨Nat.zero_le _, Nat.zero_le _⟩ (fun H locs hP hD hS => ?_)
      refine W.eq (g2 := F0 m 112 ls [.int r2, .ref (a 0)]) rfl ?_
      obtain ⟨r3, z3, hG3, hF⟩ := o_b hF
      refine cl_V (C := RX2) (rest := []) X hK hN hA hP hD hS (kX2_let l G cy cyO a z2 r2 r3 z3 hG3) (cwV 1 hts gX2_all_X2_let rfl rfl rfl (by decide +kernel) ⟨Nat.le_of_ble_eq_true rfl, Nat.le_of_ble_eq_true rfl⟩) (va_recv hK hP (ci := 2) (q0 := 0) rfl rfl) rfl hl.1 rfl (Nat.le_of_ble_eq_true rfl) dX2_all_112 ⟨Nat.zero_le _, Nat.zero_le _⟩ (fun H locs hP hD hS => ?_)
      refine W.eq (g2 := F0 m 115 ls []) rfl ?_
      refine lv_iinc (v := y5 + (-1)) (lv' := [(5, .int (y5 + (-1))), (0, .ref (a 0)), (1, .int y1), (4, .int y4)]) hx hb dX2_all_115 hl (k := 3) rfl rfl (by decide) rfl (fun ls hl => ?_)
      refine lv_goto (tgt := 99) hx hb dX2_all_118 (by decide) ?_
      exact ih z3 y1 y4 (y5 + (-1)) hF H locs hP hD hS ls (lv_sub hl [1, 2, 3, 0] rfl)
def fX2_all_j94 (z0 : SM) (y1 : Int32) (y3 : Int32) (y4 : Int32) : Option (Int32 × SM) := (fX2_all_j99 20 z0 y1 y4 (y3 - 1))
set_option maxRecDepth 100000 in
set_option maxHeartbeats 4000000 in
theorem jX2_all_94 {p : Program} {l : Launch} {e : Env} {s : State} {m : MethodId} {args : Array Value} {below : List Frame} {meth : Method} {c : Code} {G : va_G} {cy cyO : ClassId} {a : Nat → Nat} {A : Nat → Prop} {r : Int32} {u : SM} (X : CallFix p m c cX2_all 6 s args wsX2_all RX2) (hr : meth.sig.returnType = (some .int)) (hlocks : meth.locks = false) (hK : va_K G vwCl (tys_ cy cyO) s) (hN : nw s) (hA : ∀ q, s.heap.size ≤ q → A q) : ∀ (z0 : SM) (y1 : Int32) (y3 : Int32) (y4 : Int32), fX2_all_j94 z0 y1 y3 y4 = some (r, u) → ∀ (H : Heap) (locs : List Loc), va_P G vwCl (mW a cy z0) H → va_D A (mW a cy z0) → va_S A s.heap H locs → ∀ (ls : Array Slot), lv_has ls 6 [(0, .ref (a 0)), (1, .int y1), (3, .int y3), (4, .int y4)] → W p l e ({ frames := 6, cells := 0, slots := 0, locals := 134 } : Room) s m args below meth c H locs 0 0 (MQ below (qg (some (.int r)) (fun t => wPost G A (mW a cy u) t) A) args s 0 0 A) (F0 m 94 ls []) := by
  obtain ⟨hx, hb, hml, hown, hts⟩ := id X
  have hin2 : ∀ w ∈ wsX20, w ∈ wsX2_all := by decide +kernel
  intro z0 y1 y3 y4 hF H locs hP hD hS ls hl
  unfold fX2_all_j94 at hF
  refine lv_iload_n hx hb dX2_all_94 rfl (lv_at hl 2 rfl) ?_
  refine lv_iconst (v := 1) hx hb dX2_all_95 (by decide) ?_
  refine lv_isub hx hb dX2_all_96 ?_
  refine lv_istore (lv' := [(5, .int (y3 - 1)), (0, .ref (a 0)), (1, .int y1), (3, .int y3), (4, .int y4)]) hx hb dX2_all_97 hl (by decide) rfl (fun ls hl => ?_)
  exact jX2_all_99 X hr hlocks hK hN hA 20 z0 y1 y4 (y3 - 1) hF H locs hP hD hS ls (lv_sub hl [1, 2, 4, 0] rfl)
def fX2_all_j58 : Nat → SM → Int32 → Int32 → Int32 → Int32 → Int32 → Option (Int32 × SM)
  | 0, _, _, _, _, _, _ => none
  | n + 1, z0, y1, y2, y3, y4, y5 => (if y3 ≤ y5 then (fX2_all_j94 z0 y1 y3 y4) else (if y4 = 0 then bd_ (fX2_sectionOf z0 y1 y5) (fun r3 z3 => bd_ (fX2_pass z3 r3 y2) (fun r4 z4 => bd_ (fX2_ended z4 r4 y5) (fun r5 z5 => (fX2_all_j58 n z5 y1 y2 y3 r5 (y5 + 1))))) else (fX2_all_j94 z0 y1 y3 y4)))
set_option maxRecDepth 100000 in
set_option maxHeartbeats 4000000 in
theorem jX2_all_58 {p : Program} {l : Launch} {e : Env} {s : State} {m : MethodId} {args : Array Value} {below : List Frame} {meth : Method} {c : Code} {G : va_G} {cy cyO : ClassId} {a : Nat → Nat} {A : Nat → Prop} {r : Int32} {u : SM} (X : CallFix p m c cX2_all 6 s args wsX2_all RX2) (hr : meth.sig.returnType = (some .int)) (hlocks : meth.locks = false) (hK : va_K G vwCl (tys_ cy cyO) s) (hN : nw s) (hA : ∀ q, s.heap.size ≤ q → A q) : ∀ n : Nat, ∀ (z0 : SM) (y1 : Int32) (y2 : Int32) (y3 : Int32) (y4 : Int32) (y5 : Int32), fX2_all_j58 n z0 y1 y2 y3 y4 y5 = some (r, u) → ∀ (H : Heap) (locs : List Loc), va_P G vwCl (mW a cy z0) H → va_D A (mW a cy z0) → va_S A s.heap H locs → ∀ (ls : Array Slot), lv_has ls 6 [(0, .ref (a 0)), (1, .int y1), (2, .int y2), (3, .int y3), (4, .int y4), (5, .int y5)] → W p l e ({ frames := 6, cells := 0, slots := 0, locals := 134 } : Room) s m args below meth c H locs 0 0 (MQ below (qg (some (.int r)) (fun t => wPost G A (mW a cy u) t) A) args s 0 0 A) (F0 m 58 ls []) := by
  obtain ⟨hx, hb, hml, hown, hts⟩ := id X
  have hin2 : ∀ w ∈ wsX20, w ∈ wsX2_all := by decide +kernel
  intro n
  induction n with
  | zero => intro z0 y1 y2 y3 y4 y5 hF; cases hF
  | succ n ih =>
    intro z0 y1 y2 y3 y4 y5 hF H locs hP hD hS ls hl
    rw [fX2_all_j58] at hF
    refine lv_iload hx hb dX2_all_58 (lv_at hl 5 rfl) ?_
    refine lv_iload_n hx hb dX2_all_60 rfl (lv_at hl 3 rfl) ?_
    refine lv_icmp_ge (tgt := 94) hx hb dX2_all_61 (by decide) (fun c1 => ?_) (fun c1 => ?_)
    · have hF := o_t c1 hF
      exact jX2_all_94 X hr hlocks hK hN hA z0 y1 y3 y4 hF H locs hP hD hS ls (lv_sub hl [0, 1, 3, 4] rfl)
    · have hF := o_f c1 hF
      refine lv_iload hx hb dX2_all_64 (lv_at hl 4 rfl) ?_
      refine lv_if_ne (tgt := 94) hx hb dX2_all_66 (by decide) (fun c2 => ?_) (fun c2 => ?_)
      · have hF := o_f c2 hF
        exact jX2_all_94 X hr hlocks hK hN hA z0 y1 y3 y4 hF H locs hP hD hS ls (lv_sub hl [0, 1, 3, 4] rfl)
      · have hF := o_t c2 hF
        refine lv_aload_n hx hb dX2_all_69 rfl (lv_at hl 0 rfl) ?_
        refine lv_aload_n hx hb dX2_all_70 rfl (lv_at hl 0 rfl) ?_
        refine lv_iload_n hx hb dX2_all_71 rfl (lv_at hl 1 rfl) ?_
        refine lv_iload hx hb dX2_all_72 (lv_at hl 5 rfl) ?_
        obtain ⟨r3, z3, hG3, hF⟩ := o_b hF
        refine cl_V (C := RX2) (rest := [.ref (a 0)]) X hK hN hA hP hD hS (kX2_sectionOf l G cy cyO a z0 y1 y5 r3 z3 hG3) (cwV 2 hts gX2_all_X2_sectionOf rfl rfl rfl (by decide +kernel) ⟨Nat.le_of_ble_eq_true rfl, Nat.le_of_ble_eq_true rfl⟩) (va_recv hK hP (ci := 2) (q0 := 0) rfl rfl) rfl hl.1 rfl (Nat.le_of_ble_eq_true rfl) dX2_all_74 ⟨Nat.zero_le _, Nat.zero_le _⟩ (fun H locs hP hD hS => ?_)
        refine W.eq (g2 := F0 m 77 ls [.int r3, .ref (a 0)]) rfl ?_
        refine lv_iload_n hx hb dX2_all_77 rfl (lv_at hl 2 rfl) ?_
        obtain ⟨r4, z4, hG4, hF⟩ := o_b hF
        refine cl_V (C := RX2) (rest := []) X hK hN hA hP hD hS (kX2_pass l G cy cyO a z3 r3 y2 r4 z4 hG4) (cwV 2 hts gX2_all_X2_pass rfl rfl rfl (by decide +kernel) ⟨Nat.le_of_ble_eq_true rfl, Nat.le_of_ble_eq_true rfl⟩) (va_recv hK hP (ci := 2) (q0 := 0) rfl rfl) rfl hl.1 rfl (Nat.le_of_ble_eq_true rfl) dX2_all_78 ⟨Nat.zero_le _, Nat.zero_le _⟩ (fun H locs hP hD hS => ?_)
        refine W.eq (g2 := F0 m 81 ls [.int r4]) rfl ?_
        refine lv_iload hx hb dX2_all_81 (lv_at hl 5 rfl) ?_
        obtain ⟨r5, z5, hG5, hF⟩ := o_b hF
        refine cl_S (rest := []) X hK hN hA hP hD hS (kX2_ended l G cy cyO a z4 r4 y5 r5 z5 hG5) (va_cwS 2 hts gX2_all_X2_ended rfl rfl rfl (by decide +kernel) ⟨Nat.le_of_ble_eq_true rfl, Nat.le_of_ble_eq_true rfl⟩) rfl hl.1 rfl (Nat.le_of_ble_eq_true rfl) dX2_all_83 ⟨Nat.zero_le _, Nat.zero_le _⟩ (fun H locs hP hD hS => ?_)
        refine W.eq (g2 := F0 m 86 ls [.int r5]) rfl ?_
        refine lv_istore (lv' := [(4, .int r5), (0, .ref (a 0)), (1, .int y1), (2, .int y2), (3, .int y3), (5, .int y5)]) hx hb dX2_all_86 hl (by decide) rfl (fun ls hl => ?_)
        refine lv_iinc (v := y5 + 1) (lv' := [(5, .int (y5 + 1)), (4, .int r5), (0, .ref (a 0)), (1, .int y1), (2, .int y2), (3, .int y3)]) hx hb dX2_all_88 hl (k := 5) rfl rfl (by decide) rfl (fun ls hl => ?_)
        refine lv_goto (tgt := 58) hx hb dX2_all_91 (by decide) ?_
        exact ih z5 y1 y2 y3 r5 (y5 + 1) hF H locs hP hD hS ls (lv_sub hl [2, 3, 4, 5, 1, 0] rfl)
def fX2_all_j53 (z0 : SM) (y1 : Int32) (y2 : Int32) (y3 : Int32) (t0 : Int32) : Option (Int32 × SM) := (fX2_all_j58 20 z0 y1 y2 y3 t0 0)
set_option maxRecDepth 100000 in
set_option maxHeartbeats 4000000 in
theorem jX2_all_53 {p : Program} {l : Launch} {e : Env} {s : State} {m : MethodId} {args : Array Value} {below : List Frame} {meth : Method} {c : Code} {G : va_G} {cy cyO : ClassId} {a : Nat → Nat} {A : Nat → Prop} {r : Int32} {u : SM} (X : CallFix p m c cX2_all 6 s args wsX2_all RX2) (hr : meth.sig.returnType = (some .int)) (hlocks : meth.locks = false) (hK : va_K G vwCl (tys_ cy cyO) s) (hN : nw s) (hA : ∀ q, s.heap.size ≤ q → A q) : ∀ (z0 : SM) (y1 : Int32) (y2 : Int32) (y3 : Int32) (t0 : Int32), fX2_all_j53 z0 y1 y2 y3 t0 = some (r, u) → ∀ (H : Heap) (locs : List Loc), va_P G vwCl (mW a cy z0) H → va_D A (mW a cy z0) → va_S A s.heap H locs → ∀ (ls : Array Slot), lv_has ls 6 [(0, .ref (a 0)), (1, .int y1), (2, .int y2), (3, .int y3)] → W p l e ({ frames := 6, cells := 0, slots := 0, locals := 134 } : Room) s m args below meth c H locs 0 0 (MQ below (qg (some (.int r)) (fun t => wPost G A (mW a cy u) t) A) args s 0 0 A) (F0 m 53 ls [.int t0]) := by
  obtain ⟨hx, hb, hml, hown, hts⟩ := id X
  have hin2 : ∀ w ∈ wsX20, w ∈ wsX2_all := by decide +kernel
  intro z0 y1 y2 y3 t0 hF H locs hP hD hS ls hl
  unfold fX2_all_j53 at hF
  refine lv_istore (lv' := [(4, .int t0), (0, .ref (a 0)), (1, .int y1), (2, .int y2), (3, .int y3)]) hx hb dX2_all_53 hl (by decide) rfl (fun ls hl => ?_)
  refine lv_iconst (v := 0) hx hb dX2_all_55 (by decide) ?_
  refine lv_istore (lv' := [(5, .int 0), (4, .int t0), (0, .ref (a 0)), (1, .int y1), (2, .int y2), (3, .int y3)]) hx hb dX2_all_56 hl (by decide) rfl (fun ls hl => ?_)
  exact jX2_all_58 X hr hlocks hK hN hA 20 z0 y1 y2 y3 t0 0 hF H locs hP hD hS ls (lv_sub hl [2, 3, 4, 5, 1, 0] rfl)
def fX2_all_j37 (z0 : SM) (y1 : Int32) (y2 : Int32) (y3 : Int32) : Option (Int32 × SM) := if y1 < 0 ∨ 6 ≤ y1.toNatClampNeg then none else let_ (z0.2.2.2.1 y1.toNatClampNeg) (fun v1 => (if v1 ≤ y3 then (fX2_all_j53 z0 y1 y2 y3 0) else (fX2_all_j53 z0 y1 y2 y3 (-11))))
set_option maxRecDepth 100000 in
set_option maxHeartbeats 4000000 in
theorem jX2_all_37 {p : Program} {l : Launch} {e : Env} {s : State} {m : MethodId} {args : Array Value} {below : List Frame} {meth : Method} {c : Code} {G : va_G} {cy cyO : ClassId} {a : Nat → Nat} {A : Nat → Prop} {r : Int32} {u : SM} (X : CallFix p m c cX2_all 6 s args wsX2_all RX2) (hr : meth.sig.returnType = (some .int)) (hlocks : meth.locks = false) (hK : va_K G vwCl (tys_ cy cyO) s) (hN : nw s) (hA : ∀ q, s.heap.size ≤ q → A q) : ∀ (z0 : SM) (y1 : Int32) (y2 : Int32) (y3 : Int32), fX2_all_j37 z0 y1 y2 y3 = some (r, u) → ∀ (H : Heap) (locs : List Loc), va_P G vwCl (mW a cy z0) H → va_D A (mW a cy z0) → va_S A s.heap H locs → ∀ (ls : Array Slot), lv_has ls 6 [(0, .ref (a 0)), (1, .int y1), (2, .int y2), (3, .int y3)] → W p l e ({ frames := 6, cells := 0, slots := 0, locals := 134 } : Room) s m args below meth c H locs 0 0 (MQ below (qg (some (.int r)) (fun t => wPost G A (mW a cy u) t) A) args s 0 0 A) (F0 m 37 ls []) := by
  obtain ⟨hx, hb, hml, hown, hts⟩ := id X
  have hin2 : ∀ w ∈ wsX20, w ∈ wsX2_all := by decide +kernel
  intro z0 y1 y2 y3 hF H locs hP hD hS ls hl
  unfold fX2_all_j37 at hF
  refine lv_iload_n hx hb dX2_all_37 rfl (lv_at hl 3 rfl) ?_
  refine lv_aload_n hx hb dX2_all_38 rfl (lv_at hl 0 rfl) ?_
  refine va_get (D := G) (ci := 2) (v := .ref (a 11)) (C := RX2) (T := TX2) (N := 18) hx hb hts hin2 hown hK hP 0 rfl rfl 11 (by decide) (hts (.fieldLink RX2 40 "SignalBoxModel" "lengths" "[I") (by decide +kernel)) (fun _ h9 => h9) rfl dX2_all_39 ?_
  refine lv_iload_n hx hb dX2_all_42 rfl (lv_at hl 1 rfl) ?_
  obtain ⟨h1, hF⟩ := o_n hF
  refine va_iald (n := 6) (f := z0.2.2.2.1) (cA := cy) hx hb hK hP 11 0 rfl rfl h1 dX2_all_43 ?_
  obtain ⟨v1, e1, hF⟩ := o_l hF
  refine w_top e1 ?_
  refine lv_icmp_ge (tgt := 52) hx hb dX2_all_44 (by decide) (fun c2 => ?_) (fun c2 => ?_)
  · have hF := o_t c2 hF
    refine lv_iconst (v := 0) hx hb dX2_all_52 (by decide) ?_
    exact jX2_all_53 X hr hlocks hK hN hA z0 y1 y2 y3 0 hF H locs hP hD hS ls (lv_sub hl [0, 1, 2, 3] rfl)
  · have hF := o_f c2 hF
    refine lv_bipush (v := (-11)) hx hb dX2_all_47 (by decide) ?_
    refine lv_goto (tgt := 53) hx hb dX2_all_49 (by decide) ?_
    exact jX2_all_53 X hr hlocks hK hN hA z0 y1 y2 y3 (-11) hF H locs hP hD hS ls (lv_sub hl [0, 1, 2, 3] rfl)
def fX2_all_j2 : Nat → SM → Int32 → Int32 → Int32 → Option (Int32 × SM)
  | 0, _, _, _, _ => none
  | n + 1, z0, y1, y2, y3 => if y1 < 0 ∨ 6 ≤ y1.toNatClampNeg then none else let_ (z0.2.2.2.1 y1.toNatClampNeg) (fun v1 => (if v1 ≤ y3 then (fX2_all_j37 z0 y1 y2 y3) else bd_ (fX2_sectionOf z0 y1 y3) (fun r3 z3 => (if r3 < 0 then (fX2_all_j37 z3 y1 y2 y3) else bd_ (fX2_sectionOf z3 y1 y3) (fun r5 z5 => bd_ (fX2_claim z5 r5) (fun r6 z6 => (fX2_all_j2 n z6 y1 y2 (y3 + 1))))))))
set_option maxRecDepth 100000 in
set_option maxHeartbeats 4000000 in
theorem jX2_all_2 {p : Program} {l : Launch} {e : Env} {s : State} {m : MethodId} {args : Array Value} {below : List Frame} {meth : Method} {c : Code} {G : va_G} {cy cyO : ClassId} {a : Nat → Nat} {A : Nat → Prop} {r : Int32} {u : SM} (X : CallFix p m c cX2_all 6 s args wsX2_all RX2) (hr : meth.sig.returnType = (some .int)) (hlocks : meth.locks = false) (hK : va_K G vwCl (tys_ cy cyO) s) (hN : nw s) (hA : ∀ q, s.heap.size ≤ q → A q) : ∀ n : Nat, ∀ (z0 : SM) (y1 : Int32) (y2 : Int32) (y3 : Int32), fX2_all_j2 n z0 y1 y2 y3 = some (r, u) → ∀ (H : Heap) (locs : List Loc), va_P G vwCl (mW a cy z0) H → va_D A (mW a cy z0) → va_S A s.heap H locs → ∀ (ls : Array Slot), lv_has ls 6 [(0, .ref (a 0)), (1, .int y1), (2, .int y2), (3, .int y3)] → W p l e ({ frames := 6, cells := 0, slots := 0, locals := 134 } : Room) s m args below meth c H locs 0 0 (MQ below (qg (some (.int r)) (fun t => wPost G A (mW a cy u) t) A) args s 0 0 A) (F0 m 2 ls []) := by
  obtain ⟨hx, hb, hml, hown, hts⟩ := id X
  have hin2 : ∀ w ∈ wsX20, w ∈ wsX2_all := by decide +kernel
  intro n
  induction n with
  | zero => intro z0 y1 y2 y3 hF; cases hF
  | succ n ih =>
    intro z0 y1 y2 y3 hF H locs hP hD hS ls hl
    rw [fX2_all_j2] at hF
    refine lv_iload_n hx hb dX2_all_2 rfl (lv_at hl 3 rfl) ?_
    refine lv_aload_n hx hb dX2_all_3 rfl (lv_at hl 0 rfl) ?_
    refine va_get (D := G) (ci := 2) (v := .ref (a 11)) (C := RX2) (T := TX2) (N := 18) hx hb hts hin2 hown hK hP 0 rfl rfl 11 (by decide) (hts (.fieldLink RX2 40 "SignalBoxModel" "lengths" "[I") (by decide +kernel)) (fun _ h9 => h9) rfl dX2_all_4 ?_
    refine lv_iload_n hx hb dX2_all_7 rfl (lv_at hl 1 rfl) ?_
    obtain ⟨h1, hF⟩ := o_n hF
    refine va_iald (n := 6) (f := z0.2.2.2.1) (cA := cy) hx hb hK hP 11 0 rfl rfl h1 dX2_all_8 ?_
    obtain ⟨v1, e1, hF⟩ := o_l hF
    refine w_top e1 ?_
    refine lv_icmp_ge (tgt := 37) hx hb dX2_all_9 (by decide) (fun c2 => ?_) (fun c2 => ?_)
    · have hF := o_t c2 hF
      exact jX2_all_37 X hr hlocks hK hN hA z0 y1 y2 y3 hF H locs hP hD hS ls (lv_sub hl [0, 1, 2, 3] rfl)
    · have hF := o_f c2 hF
      refine lv_aload_n hx hb dX2_all_12 rfl (lv_at hl 0 rfl) ?_
      refine lv_iload_n hx hb dX2_all_13 rfl (lv_at hl 1 rfl) ?_
      refine lv_iload_n hx hb dX2_all_14 rfl (lv_at hl 3 rfl) ?_
      obtain ⟨r3, z3, hG3, hF⟩ := o_b hF
      refine cl_V (C := RX2) (rest := []) X hK hN hA hP hD hS (kX2_sectionOf l G cy cyO a z0 y1 y3 r3 z3 hG3) (cwV 2 hts gX2_all_X2_sectionOf rfl rfl rfl (by decide +kernel) ⟨Nat.le_of_ble_eq_true rfl, Nat.le_of_ble_eq_true rfl⟩) (va_recv hK hP (ci := 2) (q0 := 0) rfl rfl) rfl hl.1 rfl (Nat.le_of_ble_eq_true rfl) dX2_all_15 ⟨Nat.zero_le _, Nat.zero_le _⟩ (fun H locs hP hD hS => ?_)
      refine W.eq (g2 := F0 m 18 ls [.int r3]) rfl ?_
      refine lv_if_lt (tgt := 37) hx hb dX2_all_18 (by decide) (fun c4 => ?_) (fun c4 => ?_)
      · have hF := o_t c4 hF
        exact jX2_all_37 X hr hlocks hK hN hA z3 y1 y2 y3 hF H locs hP hD hS ls (lv_sub hl [0, 1, 2, 3] rfl)
      · have hF := o_f c4 hF
        refine lv_aload_n hx hb dX2_all_21 rfl (lv_at hl 0 rfl) ?_
        refine lv_aload_n hx hb dX2_all_22 rfl (lv_at hl 0 rfl) ?_
        refine lv_iload_n hx hb dX2_all_23 rfl (lv_at hl 1 rfl) ?_
        refine lv_iload_n hx hb dX2_all_24 rfl (lv_at hl 3 rfl) ?_
        obtain ⟨r5, z5, hG5, hF⟩ := o_b hF
        refine cl_V (C := RX2) (rest := [.ref (a 0)]) X hK hN hA hP hD hS (kX2_sectionOf l G cy cyO a z3 y1 y3 r5 z5 hG5) (cwV 2 hts gX2_all_X2_sectionOf rfl rfl rfl (by decide +kernel) ⟨Nat.le_of_ble_eq_true rfl, Nat.le_of_ble_eq_true rfl⟩) (va_recv hK hP (ci := 2) (q0 := 0) rfl rfl) rfl hl.1 rfl (Nat.le_of_ble_eq_true rfl) dX2_all_25 ⟨Nat.zero_le _, Nat.zero_le _⟩ (fun H locs hP hD hS => ?_)
        refine W.eq (g2 := F0 m 28 ls [.int r5, .ref (a 0)]) rfl ?_
        obtain ⟨r6, z6, hG6, hF⟩ := o_b hF
        refine cl_V (C := RX2) (rest := []) X hK hN hA hP hD hS (kX2_claim l G cy cyO a z5 r5 r6 z6 hG6) (cwV 1 hts gX2_all_X2_claim rfl rfl rfl (by decide +kernel) ⟨Nat.le_of_ble_eq_true rfl, Nat.le_of_ble_eq_true rfl⟩) (va_recv hK hP (ci := 2) (q0 := 0) rfl rfl) rfl hl.1 rfl (Nat.le_of_ble_eq_true rfl) dX2_all_28 ⟨Nat.zero_le _, Nat.zero_le _⟩ (fun H locs hP hD hS => ?_)
        refine W.eq (g2 := F0 m 31 ls []) rfl ?_
        refine lv_iinc (v := y3 + 1) (lv' := [(3, .int (y3 + 1)), (0, .ref (a 0)), (1, .int y1), (2, .int y2)]) hx hb dX2_all_31 hl (k := 3) rfl rfl (by decide) rfl (fun ls hl => ?_)
        refine lv_goto (tgt := 2) hx hb dX2_all_34 (by decide) ?_
        exact ih z6 y1 y2 (y3 + 1) hF H locs hP hD hS ls (lv_sub hl [1, 2, 3, 0] rfl)
def fX2_all (z0 : SM) (x1 : Int32) (x2 : Int32) : Option (Int32 × SM) := (fX2_all_j2 20 z0 x1 x2 0)
set_option maxRecDepth 100000 in
set_option maxHeartbeats 4000000 in
theorem kX2_all (l : Launch) (G : va_G) (cy cyO : ClassId) (a : Nat → Nat) (z0 : SM) (x1 : Int32) (x2 : Int32) (r : Int32) (u : SM) (hF : fX2_all z0 x1 x2 = some (r, u)) : Ct l G (tys_ cy cyO) yX2_all wsX2_all ({ frames := 6, cells := 0, slots := 0, locals := 134 } : Room) [.ref (a 0), .int x1, .int x2] (mW a cy z0) (some (.int r)) (mW a cy u) := by
  unfold fX2_all at hF
  refine ct_of (cc := cX2_all) (maxL := 6) (ret := (some .int)) (own := RX2) (by decide) rfl (Nat.le_of_ble_eq_true rfl) rfl ?_
  intro p e s m below meth c A ls X hr hlocks _ hK hN hA hP hD hl
  have hS : va_S A s.heap s.heap [] := va_S.rf
  have hl : lv_has ls 6 [(0, .ref (a 0)), (1, .int x1), (2, .int x2)] := hl
  obtain ⟨hx, hb, hml, hown, hts⟩ := id X
  have hin2 : ∀ w ∈ wsX20, w ∈ wsX2_all := by decide +kernel
  refine lv_iconst (v := 0) hx hb dX2_all_0 (by decide) ?_
  refine lv_istore_n (lv' := [(3, .int 0), (0, .ref (a 0)), (1, .int x1), (2, .int x2)]) hx hb dX2_all_1 rfl hl (by decide) rfl (fun ls hl => ?_)
  exact jX2_all_2 X hr hlocks hK hN hA 20 z0 x1 x2 0 hF s.heap [] hP hD hS ls (lv_sub hl [1, 2, 3, 0] rfl)
def fX2_first_j110 (K2 : SM → Int32 → Int32 → Int32 → Option (Int32 × SM)) (z0 : SM) (y1 : Int32) (y2 : Int32) (y3 : Int32) : Option (Int32 × SM) := (K2 z0 y1 y2 (y3 + 1))
set_option maxRecDepth 100000 in
set_option maxHeartbeats 4000000 in
theorem jX2_first_110 {p : Program} {l : Launch} {e : Env} {s : State} {m : MethodId} {args : Array Value} {below : List Frame} {meth : Method} {c : Code} {G : va_G} {cy cyO : ClassId} {a : Nat → Nat} {A : Nat → Prop} {r : Int32} {u : SM} (X : CallFix p m c cX2_first 7 s args wsX2_first RX2) (hr : meth.sig.returnType = (some .int)) (hlocks : meth.locks = false) (hK : va_K G vwCl (tys_ cy cyO) s) (hN : nw s) (hA : ∀ q, s.heap.size ≤ q → A q) (K2 : SM → Int32 → Int32 → Int32 → Option (Int32 × SM)) (hK2 : ∀ (z0 : SM) (y1 : Int32) (y2 : Int32) (y3 : Int32), K2 z0 y1 y2 y3 = some (r, u) → ∀ (H : Heap) (locs : List Loc), va_P G vwCl (mW a cy z0) H → va_D A (mW a cy z0) → va_S A s.heap H locs → ∀ (ls : Array Slot), lv_has ls 7 [(0, .ref (a 0)), (1, .int y1), (2, .int y2), (3, .int y3)] → W p l e ({ frames := 6, cells := 0, slots := 0, locals := 134 } : Room) s m args below meth c H locs 0 0 (MQ below (qg (some (.int r)) (fun t => wPost G A (mW a cy u) t) A) args s 0 0 A) (F0 m 2 ls [])) : ∀ (z0 : SM) (y1 : Int32) (y2 : Int32) (y3 : Int32), fX2_first_j110 K2 z0 y1 y2 y3 = some (r, u) → ∀ (H : Heap) (locs : List Loc), va_P G vwCl (mW a cy z0) H → va_D A (mW a cy z0) → va_S A s.heap H locs → ∀ (ls : Array Slot), lv_has ls 7 [(0, .ref (a 0)), (1, .int y1), (2, .int y2), (3, .int y3)] → W p l e ({ frames := 6, cells := 0, slots := 0, locals := 134 } : Room) s m args below meth c H locs 0 0 (MQ below (qg (some (.int r)) (fun t => wPost G A (mW a cy u) t) A) args s 0 0 A) (F0 m 110 ls []) := by
  obtain ⟨hx, hb, hml, hown, hts⟩ := id X
  have hin2 : ∀ w ∈ wsX20, w ∈ wsX2_first := by decide +kernel
  intro z0 y1 y2 y3 hF H locs hP hD hS ls hl
  unfold fX2_first_j110 at hF
  refine lv_iinc (v := y3 + 1) (lv' := [(3, .int (y3 + 1)), (0, .ref (a 0)), (1, .int y1), (2, .int y2)]) hx hb dX2_first_110 hl (k := 3) rfl rfl (by decide) rfl (fun ls hl => ?_)
  refine lv_goto (tgt := 2) hx hb dX2_first_113 (by decide) ?_
  exact hK2 z0 y1 y2 (y3 + 1) hF H locs hP hD hS ls (lv_sub hl [1, 2, 3, 0] rfl)
def fX2_first_j94 (K2 : SM → Int32 → Int32 → Int32 → Option (Int32 × SM)) (z0 : SM) (y1 : Int32) (y2 : Int32) (y3 : Int32) (y4 : Int32) (y5 : Int32) (t0 : Int32) : Option (Int32 × SM) := bd_ (fX2_let z0 y4) (fun r1 z1 => (if y5 = 0 then (fX2_first_j110 K2 z1 y1 y2 y3) else some (t0, z1)))
set_option maxRecDepth 100000 in
set_option maxHeartbeats 4000000 in
theorem jX2_first_94 {p : Program} {l : Launch} {e : Env} {s : State} {m : MethodId} {args : Array Value} {below : List Frame} {meth : Method} {c : Code} {G : va_G} {cy cyO : ClassId} {a : Nat → Nat} {A : Nat → Prop} {r : Int32} {u : SM} (X : CallFix p m c cX2_first 7 s args wsX2_first RX2) (hr : meth.sig.returnType = (some .int)) (hlocks : meth.locks = false) (hK : va_K G vwCl (tys_ cy cyO) s) (hN : nw s) (hA : ∀ q, s.heap.size ≤ q → A q) (K2 : SM → Int32 → Int32 → Int32 → Option (Int32 × SM)) (hK2 : ∀ (z0 : SM) (y1 : Int32) (y2 : Int32) (y3 : Int32), K2 z0 y1 y2 y3 = some (r, u) → ∀ (H : Heap) (locs : List Loc), va_P G vwCl (mW a cy z0) H → va_D A (mW a cy z0) → va_S A s.heap H locs → ∀ (ls : Array Slot), lv_has ls 7 [(0, .ref (a 0)), (1, .int y1), (2, .int y2), (3, .int y3)] → W p l e ({ frames := 6, cells := 0, slots := 0, locals := 134 } : Room) s m args below meth c H locs 0 0 (MQ below (qg (some (.int r)) (fun t => wPost G A (mW a cy u) t) A) args s 0 0 A) (F0 m 2 ls [])) : ∀ (z0 : SM) (y1 : Int32) (y2 : Int32) (y3 : Int32) (y4 : Int32) (y5 : Int32) (t0 : Int32), fX2_first_j94 K2 z0 y1 y2 y3 y4 y5 t0 = some (r, u) → ∀ (H : Heap) (locs : List Loc), va_P G vwCl (mW a cy z0) H → va_D A (mW a cy z0) → va_S A s.heap H locs → ∀ (ls : Array Slot), lv_has ls 7 [(0, .ref (a 0)), (1, .int y1), (2, .int y2), (3, .int y3), (4, .int y4), (5, .int y5)] → W p l e ({ frames := 6, cells := 0, slots := 0, locals := 134 } : Room) s m args below meth c H locs 0 0 (MQ below (qg (some (.int r)) (fun t => wPost G A (mW a cy u) t) A) args s 0 0 A) (F0 m 94 ls [.int t0]) := by
  obtain ⟨hx, hb, hml, hown, hts⟩ := id X
  have hin2 : ∀ w ∈ wsX20, w ∈ wsX2_first := by decide +kernel
  intro z0 y1 y2 y3 y4 y5 t0 hF H locs hP hD hS ls hl
  unfold fX2_first_j94 at hF
  refine lv_istore (lv' := [(6, .int t0), (0, .ref (a 0)), (1, .int y1), (2, .int y2), (3, .int y3), (4, .int y4), (5, .int y5)]) hx hb dX2_first_94 hl (by decide) rfl (fun ls hl => ?_)
  refine lv_aload_n hx hb dX2_first_96 rfl (lv_at hl 1 rfl) ?_
  refine lv_iload hx hb dX2_first_97 (lv_at hl 5 rfl) ?_
  obtain ⟨r1, z1, hG1, hF⟩ := o_b hF
  refine cl_V (C := RX2) (rest := []) X hK hN hA hP hD hS (kX2_let l G cy cyO a z0 y4 r1 z1 hG1) (cwV 1 hts gX2_first_X2_let rfl rfl rfl (by decide +kernel) ⟨Nat.le_of_ble_eq_true rfl, Nat.le_of_ble_eq_true rfl⟩) (va_recv hK hP (ci := 2) (q0 := 0) rfl rfl) rfl hl.1 rfl (Nat.le_of_ble_eq_true rfl) dX2_first_99 ⟨Nat.zero_le _, Nat.zero_le _⟩ (fun H locs hP hD hS => ?_)
  refine W.eq (g2 := F0 m 102 ls []) rfl ?_
  refine lv_iload hx hb dX2_first_102 (lv_at hl 6 rfl) ?_
  refine lv_if_eq (tgt := 110) hx hb dX2_first_104 (by decide) (fun c2 => ?_) (fun c2 => ?_)
  · have hF := o_t c2 hF
    exact jX2_first_110 X hr hlocks hK hN hA K2 hK2 z1 y1 y2 y3 hF H locs hP hD hS ls (lv_sub hl [1, 2, 3, 4] rfl)
  · have hF := o_f c2 hF
    refine lv_iload hx hb dX2_first_107 (lv_at hl 0 rfl) ?_
    obtain ⟨rfl, rfl⟩ := o_s hF
    exact rt_i X hr hlocks hP hD hS dX2_first_109
def fX2_first_j72 (K2 : SM → Int32 → Int32 → Int32 → Option (Int32 × SM)) (z0 : SM) (y1 : Int32) (y2 : Int32) (y3 : Int32) (y4 : Int32) (t0 : Int32) : Option (Int32 × SM) := (if t0 = 0 then (fX2_first_j94 K2 z0 y1 y2 y3 y4 t0 0) else bd_ (fX2_pass z0 y4 y2) (fun r2 z2 => bd_ (fX2_ended z2 r2 y3) (fun r3 z3 => (fX2_first_j94 K2 z3 y1 y2 y3 y4 t0 r3))))
set_option maxRecDepth 100000 in
set_option maxHeartbeats 4000000 in
theorem jX2_first_72 {p : Program} {l : Launch} {e : Env} {s : State} {m : MethodId} {args : Array Value} {below : List Frame} {meth : Method} {c : Code} {G : va_G} {cy cyO : ClassId} {a : Nat → Nat} {A : Nat → Prop} {r : Int32} {u : SM} (X : CallFix p m c cX2_first 7 s args wsX2_first RX2) (hr : meth.sig.returnType = (some .int)) (hlocks : meth.locks = false) (hK : va_K G vwCl (tys_ cy cyO) s) (hN : nw s) (hA : ∀ q, s.heap.size ≤ q → A q) (K2 : SM → Int32 → Int32 → Int32 → Option (Int32 × SM)) (hK2 : ∀ (z0 : SM) (y1 : Int32) (y2 : Int32) (y3 : Int32), K2 z0 y1 y2 y3 = some (r, u) → ∀ (H : Heap) (locs : List Loc), va_P G vwCl (mW a cy z0) H → va_D A (mW a cy z0) → va_S A s.heap H locs → ∀ (ls : Array Slot), lv_has ls 7 [(0, .ref (a 0)), (1, .int y1), (2, .int y2), (3, .int y3)] → W p l e ({ frames := 6, cells := 0, slots := 0, locals := 134 } : Room) s m args below meth c H locs 0 0 (MQ below (qg (some (.int r)) (fun t => wPost G A (mW a cy u) t) A) args s 0 0 A) (F0 m 2 ls [])) : ∀ (z0 : SM) (y1 : Int32) (y2 : Int32) (y3 : Int32) (y4 : Int32) (t0 : Int32), fX2_first_j72 K2 z0 y1 y2 y3 y4 t0 = some (r, u) → ∀ (H : Heap) (locs : List Loc), va_P G vwCl (mW a cy z0) H → va_D A (mW a cy z0) → va_S A s.heap H locs → ∀ (ls : Array Slot), lv_has ls 7 [(0, .ref (a 0)), (1, .int y1), (2, .int y2), (3, .int y3), (4, .int y4)] → W p l e ({ frames := 6, cells := 0, slots := 0, locals := 134 } : Room) s m args below meth c H locs 0 0 (MQ below (qg (some (.int r)) (fun t => wPost G A (mW a cy u) t) A) args s 0 0 A) (F0 m 72 ls [.int t0]) := by
  obtain ⟨hx, hb, hml, hown, hts⟩ := id X
  have hin2 : ∀ w ∈ wsX20, w ∈ wsX2_first := by decide +kernel
  intro z0 y1 y2 y3 y4 t0 hF H locs hP hD hS ls hl
  unfold fX2_first_j72 at hF
  refine lv_istore (lv' := [(5, .int t0), (0, .ref (a 0)), (1, .int y1), (2, .int y2), (3, .int y3), (4, .int y4)]) hx hb dX2_first_72 hl (by decide) rfl (fun ls hl => ?_)
  refine lv_iload hx hb dX2_first_74 (lv_at hl 0 rfl) ?_
  refine lv_if_eq (tgt := 93) hx hb dX2_first_76 (by decide) (fun c1 => ?_) (fun c1 => ?_)
  · have hF := o_t c1 hF
    refine lv_iconst (v := 0) hx hb dX2_first_93 (by decide) ?_
    exact jX2_first_94 X hr hlocks hK hN hA K2 hK2 z0 y1 y2 y3 y4 t0 0 hF H locs hP hD hS ls (lv_sub hl [1, 2, 3, 4, 5, 0] rfl)
  · have hF := o_f c1 hF
    refine lv_aload_n hx hb dX2_first_79 rfl (lv_at hl 1 rfl) ?_
    refine lv_iload hx hb dX2_first_80 (lv_at hl 5 rfl) ?_
    refine lv_iload_n hx hb dX2_first_82 rfl (lv_at hl 3 rfl) ?_
    obtain ⟨r2, z2, hG2, hF⟩ := o_b hF
    refine cl_V (C := RX2) (rest := []) X hK hN hA hP hD hS (kX2_pass l G cy cyO a z0 y4 y2 r2 z2 hG2) (cwV 2 hts gX2_first_X2_pass rfl rfl rfl (by decide +kernel) ⟨Nat.le_of_ble_eq_true rfl, Nat.le_of_ble_eq_true rfl⟩) (va_recv hK hP (ci := 2) (q0 := 0) rfl rfl) rfl hl.1 rfl (Nat.le_of_ble_eq_true rfl) dX2_first_83 ⟨Nat.zero_le _, Nat.zero_le _⟩ (fun H locs hP hD hS => ?_)
    refine W.eq (g2 := F0 m 86 ls [.int r2]) rfl ?_
    refine lv_iload_n hx hb dX2_first_86 rfl (lv_at hl 4 rfl) ?_
    obtain ⟨r3, z3, hG3, hF⟩ := o_b hF
    refine cl_S (rest := []) X hK hN hA hP hD hS (kX2_ended l G cy cyO a z2 r2 y3 r3 z3 hG3) (va_cwS 2 hts gX2_first_X2_ended rfl rfl rfl (by decide +kernel) ⟨Nat.le_of_ble_eq_true rfl, Nat.le_of_ble_eq_true rfl⟩) rfl hl.1 rfl (Nat.le_of_ble_eq_true rfl) dX2_first_87 ⟨Nat.zero_le _, Nat.zero_le _⟩ (fun H locs hP hD hS => ?_)
    refine W.eq (g2 := F0 m 90 ls [.int r3]) rfl ?_
    refine lv_goto (tgt := 94) hx hb dX2_first_90 (by decide) ?_
    exact jX2_first_94 X hr hlocks hK hN hA K2 hK2 z3 y1 y2 y3 y4 t0 r3 hF H locs hP hD hS ls (lv_sub hl [1, 2, 3, 4, 5, 0] rfl)
def fX2_first_j71 (K2 : SM → Int32 → Int32 → Int32 → Option (Int32 × SM)) (z0 : SM) (y1 : Int32) (y2 : Int32) (y3 : Int32) (y4 : Int32) : Option (Int32 × SM) := (fX2_first_j72 K2 z0 y1 y2 y3 y4 0)
set_option maxRecDepth 100000 in
set_option maxHeartbeats 4000000 in
theorem jX2_first_71 {p : Program} {l : Launch} {e : Env} {s : State} {m : MethodId} {args : Array Value} {below : List Frame} {meth : Method} {c : Code} {G : va_G} {cy cyO : ClassId} {a : Nat → Nat} {A : Nat → Prop} {r : Int32} {u : SM} (X : CallFix p m c cX2_first 7 s args wsX2_first RX2) (hr : meth.sig.returnType = (some .int)) (hlocks : meth.locks = false) (hK : va_K G vwCl (tys_ cy cyO) s) (hN : nw s) (hA : ∀ q, s.heap.size ≤ q → A q) (K2 : SM → Int32 → Int32 → Int32 → Option (Int32 × SM)) (hK2 : ∀ (z0 : SM) (y1 : Int32) (y2 : Int32) (y3 : Int32), K2 z0 y1 y2 y3 = some (r, u) → ∀ (H : Heap) (locs : List Loc), va_P G vwCl (mW a cy z0) H → va_D A (mW a cy z0) → va_S A s.heap H locs → ∀ (ls : Array Slot), lv_has ls 7 [(0, .ref (a 0)), (1, .int y1), (2, .int y2), (3, .int y3)] → W p l e ({ frames := 6, cells := 0, slots := 0, locals := 134 } : Room) s m args below meth c H locs 0 0 (MQ below (qg (some (.int r)) (fun t => wPost G A (mW a cy u) t) A) args s 0 0 A) (F0 m 2 ls [])) : ∀ (z0 : SM) (y1 : Int32) (y2 : Int32) (y3 : Int32) (y4 : Int32), fX2_first_j71 K2 z0 y1 y2 y3 y4 = some (r, u) → ∀ (H : Heap) (locs : List Loc), va_P G vwCl (mW a cy z0) H → va_D A (mW a cy z0) → va_S A s.heap H locs → ∀ (ls : Array Slot), lv_has ls 7 [(0, .ref (a 0)), (1, .int y1), (2, .int y2), (3, .int y3), (4, .int y4)] → W p l e ({ frames := 6, cells := 0, slots := 0, locals := 134 } : Room) s m args below meth c H locs 0 0 (MQ below (qg (some (.int r)) (fun t => wPost G A (mW a cy u) t) A) args s 0 0 A) (F0 m 71 ls []) := by
  obtain ⟨hx, hb, hml, hown, hts⟩ := id X
  have hin2 : ∀ w ∈ wsX20, w ∈ wsX2_first := by decide +kernel
  intro z0 y1 y2 y3 y4 hF H locs hP hD hS ls hl
  unfold fX2_first_j71 at hF
  refine lv_iconst (v := 0) hx hb dX2_first_71 (by decide) ?_
  exact jX2_first_72 X hr hlocks hK hN hA K2 hK2 z0 y1 y2 y3 y4 0 hF H locs hP hD hS ls (lv_sub hl [0, 1, 2, 3, 4] rfl)
def fX2_first_j2 : Nat → SM → Int32 → Int32 → Int32 → Option (Int32 × SM)
  | 0, _, _, _, _ => none
  | n + 1, z0, y1, y2, y3 => if y1 < 0 ∨ 6 ≤ y1.toNatClampNeg then none else let_ (z0.2.2.2.1 y1.toNatClampNeg) (fun v1 => (if v1 ≤ y3 then some (0, z0) else bd_ (fX2_sectionOf z0 y1 y3) (fun r3 z3 => (if 0 ≤ r3 then bd_ (fX2_claim z3 r3) (fun r5 z5 => if r3 < 0 ∨ 640 ≤ r3.toNatClampNeg then none else let_ ((z5.1 4) r3.toNatClampNeg) (fun v6 => if r3 < 0 ∨ 640 ≤ r3.toNatClampNeg then none else let_ ((z5.1 2) r3.toNatClampNeg) (fun v7 => (if 0 < (lg_cmp (v6.toInt64 + y2.toInt64) v7.toInt64) then (fX2_first_j71 (fX2_first_j2 n) z5 y1 y2 y3 r3) else if r3 < 0 ∨ 640 ≤ r3.toNatClampNeg then none else let_ ((z5.1 5) r3.toNatClampNeg) (fun v9 => (if v9 = 0 then (fX2_first_j72 (fX2_first_j2 n) z5 y1 y2 y3 r3 1) else (fX2_first_j71 (fX2_first_j2 n) z5 y1 y2 y3 r3))))))) else (fX2_first_j110 (fX2_first_j2 n) z3 y1 y2 y3)))))
set_option maxRecDepth 100000 in
set_option maxHeartbeats 4000000 in
theorem jX2_first_2 {p : Program} {l : Launch} {e : Env} {s : State} {m : MethodId} {args : Array Value} {below : List Frame} {meth : Method} {c : Code} {G : va_G} {cy cyO : ClassId} {a : Nat → Nat} {A : Nat → Prop} {r : Int32} {u : SM} (X : CallFix p m c cX2_first 7 s args wsX2_first RX2) (hr : meth.sig.returnType = (some .int)) (hlocks : meth.locks = false) (hK : va_K G vwCl (tys_ cy cyO) s) (hN : nw s) (hA : ∀ q, s.heap.size ≤ q → A q) : ∀ n : Nat, ∀ (z0 : SM) (y1 : Int32) (y2 : Int32) (y3 : Int32), fX2_first_j2 n z0 y1 y2 y3 = some (r, u) → ∀ (H : Heap) (locs : List Loc), va_P G vwCl (mW a cy z0) H → va_D A (mW a cy z0) → va_S A s.heap H locs → ∀ (ls : Array Slot), lv_has ls 7 [(0, .ref (a 0)), (1, .int y1), (2, .int y2), (3, .int y3)] → W p l e ({ frames := 6, cells := 0, slots := 0, locals := 134 } : Room) s m args below meth c H locs 0 0 (MQ below (qg (some (.int r)) (fun t => wPost G A (mW a cy u) t) A) args s 0 0 A) (F0 m 2 ls []) := by
  obtain ⟨hx, hb, hml, hown, hts⟩ := id X
  have hin2 : ∀ w ∈ wsX20, w ∈ wsX2_first := by decide +kernel
  intro n
  induction n with
  | zero => intro z0 y1 y2 y3 hF; cases hF
  | succ n ih =>
    intro z0 y1 y2 y3 hF H locs hP hD hS ls hl
    rw [fX2_first_j2] at hF
    refine lv_iload_n hx hb dX2_first_2 rfl (lv_at hl 3 rfl) ?_
    refine lv_aload_n hx hb dX2_first_3 rfl (lv_at hl 0 rfl) ?_
    refine va_get (D := G) (ci := 2) (v := .ref (a 11)) (C := RX2) (T := TX2) (N := 18) hx hb hts hin2 hown hK hP 0 rfl rfl 11 (by decide) (hts (.fieldLink RX2 40 "SignalBoxModel" "lengths" "[I") (by decide +kernel)) (fun _ h9 => h9) rfl dX2_first_4 ?_
    refine lv_iload_n hx hb dX2_first_7 rfl (lv_at hl 1 rfl) ?_
    obtain ⟨h1, hF⟩ := o_n hF
    refine va_iald (n := 6) (f := z0.2.2.2.1) (cA := cy) hx hb hK hP 11 0 rfl rfl h1 dX2_first_8 ?_
    obtain ⟨v1, e1, hF⟩ := o_l hF
    refine w_top e1 ?_
    refine lv_icmp_ge (tgt := 116) hx hb dX2_first_9 (by decide) (fun c2 => ?_) (fun c2 => ?_)
    · have hF := o_t c2 hF
      refine lv_iconst (v := 0) hx hb dX2_first_116 (by decide) ?_
      obtain ⟨rfl, rfl⟩ := o_s hF
      exact rt_i X hr hlocks hP hD hS dX2_first_117
    · have hF := o_f c2 hF
      refine lv_aload_n hx hb dX2_first_12 rfl (lv_at hl 0 rfl) ?_
      refine lv_iload_n hx hb dX2_first_13 rfl (lv_at hl 1 rfl) ?_
      refine lv_iload_n hx hb dX2_first_14 rfl (lv_at hl 3 rfl) ?_
      obtain ⟨r3, z3, hG3, hF⟩ := o_b hF
      refine cl_V (C := RX2) (rest := []) X hK hN hA hP hD hS (kX2_sectionOf l G cy cyO a z0 y1 y3 r3 z3 hG3) (cwV 2 hts gX2_first_X2_sectionOf rfl rfl rfl (by decide +kernel) ⟨Nat.le_of_ble_eq_true rfl, Nat.le_of_ble_eq_true rfl⟩) (va_recv hK hP (ci := 2) (q0 := 0) rfl rfl) rfl hl.1 rfl (Nat.le_of_ble_eq_true rfl) dX2_first_15 ⟨Nat.zero_le _, Nat.zero_le _⟩ (fun H locs hP hD hS => ?_)
      refine W.eq (g2 := F0 m 18 ls [.int r3]) rfl ?_
      refine lv_istore (lv' := [(4, .int r3), (0, .ref (a 0)), (1, .int y1), (2, .int y2), (3, .int y3)]) hx hb dX2_first_18 hl (by decide) rfl (fun ls hl => ?_)
      refine lv_iload hx hb dX2_first_20 (lv_at hl 0 rfl) ?_
      refine lv_if_ge (tgt := 28) hx hb dX2_first_22 (by decide) (fun c4 => ?_) (fun c4 => ?_)
      · have hF := o_t c4 hF
        refine lv_aload_n hx hb dX2_first_28 rfl (lv_at hl 1 rfl) ?_
        refine lv_iload hx hb dX2_first_29 (lv_at hl 0 rfl) ?_
        obtain ⟨r5, z5, hG5, hF⟩ := o_b hF
        refine cl_V (C := RX2) (rest := []) X hK hN hA hP hD hS (kX2_claim l G cy cyO a z3 r3 r5 z5 hG5) (cwV 1 hts gX2_first_X2_claim rfl rfl rfl (by decide +kernel) ⟨Nat.le_of_ble_eq_true rfl, Nat.le_of_ble_eq_true rfl⟩) (va_recv hK hP (ci := 2) (q0 := 0) rfl rfl) rfl hl.1 rfl (Nat.le_of_ble_eq_true rfl) dX2_first_31 ⟨Nat.zero_le _, Nat.zero_le _⟩ (fun H locs hP hD hS => ?_)
        refine W.eq (g2 := F0 m 34 ls []) rfl ?_
        refine lv_aload_n hx hb dX2_first_34 rfl (lv_at hl 1 rfl) ?_
        refine va_get (D := G) (ci := 2) (v := .ref (a 4)) (C := RX2) (T := TX2) (N := 18) hx hb hts hin2 hown hK hP 0 rfl rfl 4 (by decide) (hts (.fieldLink RX2 19 "SignalBoxModel" "axles" "[I") (by decide +kernel)) (fun _ h9 => h9) rfl dX2_first_35 ?_
        refine lv_iload hx hb dX2_first_38 (lv_at hl 0 rfl) ?_
        obtain ⟨h6, hF⟩ := o_n hF
        refine va_iald (n := 640) (f := (z5.1 4)) (cA := cy) hx hb hK hP 4 0 rfl rfl h6 dX2_first_40 ?_
        obtain ⟨v6, e6, hF⟩ := o_l hF
        refine w_top e6 ?_
        refine lv_i2l hx hb dX2_first_41 rfl ?_
        refine lv_iload_n hx hb dX2_first_42 rfl (lv_at hl 3 rfl) ?_
        refine lv_i2l hx hb dX2_first_43 rfl ?_
        refine lv_ladd hx hb dX2_first_44 ?_
        refine lv_aload_n hx hb dX2_first_45 rfl (lv_at hl 1 rfl) ?_
        refine va_get (D := G) (ci := 2) (v := .ref (a 2)) (C := RX2) (T := TX2) (N := 18) hx hb hts hin2 hown hK hP 0 rfl rfl 2 (by decide) (hts (.fieldLink RX2 13 "SignalBoxModel" "limits" "[I") (by decide +kernel)) (fun _ h9 => h9) rfl dX2_first_46 ?_
        refine lv_iload hx hb dX2_first_49 (lv_at hl 0 rfl) ?_
        obtain ⟨h7, hF⟩ := o_n hF
        refine va_iald (n := 640) (f := (z5.1 2)) (cA := cy) hx hb hK hP 2 0 rfl rfl h7 dX2_first_51 ?_
        obtain ⟨v7, e7, hF⟩ := o_l hF
        refine w_top e7 ?_
        refine lv_i2l hx hb dX2_first_52 rfl ?_
        refine W.lcmp hx hb dX2_first_53 ?_
        refine lv_if_gt (tgt := 71) hx hb dX2_first_54 (by decide) (fun c8 => ?_) (fun c8 => ?_)
        · have hF := o_t c8 hF
          exact jX2_first_71 X hr hlocks hK hN hA (fX2_first_j2 n) ih z5 y1 y2 y3 r3 hF H locs hP hD hS ls (lv_sub hl [1, 2, 3, 4, 0] rfl)
        · have hF := o_f c8 hF
          refine lv_aload_n hx hb dX2_first_57 rfl (lv_at hl 1 rfl) ?_
          refine va_get (D := G) (ci := 2) (v := .ref (a 5)) (C := RX2) (T := TX2) (N := 18) hx hb hts hin2 hown hK hP 0 rfl rfl 5 (by decide) (hts (.fieldLink RX2 22 "SignalBoxModel" "legs" "[I") (by decide +kernel)) (fun _ h9 => h9) rfl dX2_first_58 ?_
          refine lv_iload hx hb dX2_first_61 (lv_at hl 0 rfl) ?_
          obtain ⟨h9, hF⟩ := o_n hF
          refine va_iald (n := 640) (f := (z5.1 5)) (cA := cy) hx hb hK hP 5 0 rfl rfl h9 dX2_first_63 ?_
          obtain ⟨v9, e9, hF⟩ := o_l hF
          refine w_top e9 ?_
          refine lv_if_ne (tgt := 71) hx hb dX2_first_64 (by decide) (fun c10 => ?_) (fun c10 => ?_)
          · have hF := o_f c10 hF
            exact jX2_first_71 X hr hlocks hK hN hA (fX2_first_j2 n) ih z5 y1 y2 y3 r3 hF H locs hP hD hS ls (lv_sub hl [1, 2, 3, 4, 0] rfl)
          · have hF := o_t c10 hF
            refine lv_iconst (v := 1) hx hb dX2_first_67 (by decide) ?_
            refine lv_goto (tgt := 72) hx hb dX2_first_68 (by decide) ?_
            exact jX2_first_72 X hr hlocks hK hN hA (fX2_first_j2 n) ih z5 y1 y2 y3 r3 1 hF H locs hP hD hS ls (lv_sub hl [1, 2, 3, 4, 0] rfl)
      · have hF := o_f c4 hF
        refine lv_goto (tgt := 110) hx hb dX2_first_25 (by decide) ?_
        exact jX2_first_110 X hr hlocks hK hN hA (fX2_first_j2 n) ih z3 y1 y2 y3 hF H locs hP hD hS ls (lv_sub hl [1, 2, 3, 4] rfl)
def fX2_first (z0 : SM) (x1 : Int32) (x2 : Int32) : Option (Int32 × SM) := (fX2_first_j2 20 z0 x1 x2 0)
set_option maxRecDepth 100000 in
set_option maxHeartbeats 4000000 in
theorem kX2_first (l : Launch) (G : va_G) (cy cyO : ClassId) (a : Nat → Nat) (z0 : SM) (x1 : Int32) (x2 : Int32) (r : Int32) (u : SM) (hF : fX2_first z0 x1 x2 = some (r, u)) : Ct l G (tys_ cy cyO) yX2_first wsX2_first ({ frames := 6, cells := 0, slots := 0, locals := 134 } : Room) [.ref (a 0), .int x1, .int x2] (mW a cy z0) (some (.int r)) (mW a cy u) := by
  unfold fX2_first at hF
  refine ct_of (cc := cX2_first) (maxL := 7) (ret := (some .int)) (own := RX2) (by decide) rfl (Nat.le_of_ble_eq_true rfl) rfl ?_
  intro p e s m below meth c A ls X hr hlocks _ hK hN hA hP hD hl
  have hS : va_S A s.heap s.heap [] := va_S.rf
  have hl : lv_has ls 7 [(0, .ref (a 0)), (1, .int x1), (2, .int x2)] := hl
  obtain ⟨hx, hb, hml, hown, hts⟩ := id X
  have hin2 : ∀ w ∈ wsX20, w ∈ wsX2_first := by decide +kernel
  refine lv_iconst (v := 0) hx hb dX2_first_0 (by decide) ?_
  refine lv_istore_n (lv' := [(3, .int 0), (0, .ref (a 0)), (1, .int x1), (2, .int x2)]) hx hb dX2_first_1 rfl hl (by decide) rfl (fun ls hl => ?_)
  exact jX2_first_2 X hr hlocks hK hN hA 20 z0 x1 x2 0 hF s.heap [] hP hD hS ls (lv_sub hl [1, 2, 3, 0] rfl)
def fX2_run_j150 (z0 : SM) (y4 : Int32) (t0 : Int32) (t1 : Int32) : Option (Int32 × SM) := let_ ((z0.1, z0.2.1, z0.2.2.1, z0.2.2.2.1, z0.2.2.2.2.1, z0.2.2.2.2.2.1, z0.2.2.2.2.2.2.1, z0.2.2.2.2.2.2.2.1, z0.2.2.2.2.2.2.2.2.1, (t1 + t0), z0.2.2.2.2.2.2.2.2.2.2) : SM) (fun z1 => (if y4 < 0 then some (y4, z1) else some (z1.2.2.2.2.2.2.2.2.2.2, z1)))
set_option maxRecDepth 100000 in
set_option maxHeartbeats 4000000 in
theorem jX2_run_150 {p : Program} {l : Launch} {e : Env} {s : State} {m : MethodId} {args : Array Value} {below : List Frame} {meth : Method} {c : Code} {G : va_G} {cy cyO : ClassId} {a : Nat → Nat} {A : Nat → Prop} {r : Int32} {u : SM} (X : CallFix p m c cX2_run 5 s args wsX2_run RX2) (hr : meth.sig.returnType = (some .int)) (hlocks : meth.locks = false) (hK : va_K G vwCl (tys_ cy cyO) s) (hN : nw s) (hA : ∀ q, s.heap.size ≤ q → A q) : ∀ (z0 : SM) (y4 : Int32) (t0 : Int32) (t1 : Int32), fX2_run_j150 z0 y4 t0 t1 = some (r, u) → ∀ (H : Heap) (locs : List Loc), va_P G vwCl (mW a cy z0) H → va_D A (mW a cy z0) → va_S A s.heap H locs → ∀ (ls : Array Slot), lv_has ls 5 [(0, .ref (a 0)), (4, .int y4)] → W p l e ({ frames := 8, cells := 0, slots := 0, locals := 183 } : Room) s m args below meth c H locs 0 0 (MQ below (qg (some (.int r)) (fun t => wPost G A (mW a cy u) t) A) args s 0 0 A) (F0 m 150 ls [.int t0, .int t1, .ref (a 0)]) := by
  obtain ⟨hx, hb, hml, hown, hts⟩ := id X
  have hin2 : ∀ w ∈ wsX20, w ∈ wsX2_run := by decide +kernel
  intro z0 y4 t0 t1 hF H locs hP hD hS ls hl
  unfold fX2_run_j150 at hF
  refine lv_iadd hx hb dX2_run_150 ?_
  refine va_put (D := G) (ci := 2) (v := .int (t1 + t0)) (ty := .int) (C := RX2) (T := TX2) (N := 18) hx hb hts hin2 tyX2 tyX2_ok nmX2 hown hK hP hD hS 0 rfl rfl 17 (by decide) (hts (.fieldLink RX2 118 "SignalBoxModel" "fulls" "I") (by decide +kernel)) (fun _ h9 => h9) rfl (by decide +kernel) rfl rfl (Nat.le_of_ble_eq_true rfl) dX2_run_151 (fun H locs hP hD hS => ?_)
  obtain ⟨z1, e1, hF⟩ := o_l hF
  have hP : va_P G vwCl (mW a cy z1) H := by rw [e1]; exact hP
  have hD : va_D A (mW a cy z1) := by rw [e1]; exact hD
  refine lv_iload hx hb dX2_run_154 (lv_at hl 1 rfl) ?_
  refine lv_if_lt (tgt := 166) hx hb dX2_run_156 (by decide) (fun c2 => ?_) (fun c2 => ?_)
  · have hF := o_t c2 hF
    refine lv_iload hx hb dX2_run_166 (lv_at hl 1 rfl) ?_
    obtain ⟨rfl, rfl⟩ := o_s hF
    exact rt_i X hr hlocks hP hD hS dX2_run_168
  · have hF := o_f c2 hF
    refine lv_aload_n hx hb dX2_run_159 rfl (lv_at hl 0 rfl) ?_
    refine va_get (D := G) (ci := 2) (v := .int z1.2.2.2.2.2.2.2.2.2.2) (C := RX2) (T := TX2) (N := 18) hx hb hts hin2 hown hK hP 0 rfl rfl 14 (by decide) (hts (.fieldLink RX2 85 "SignalBoxModel" "passed" "I") (by decide +kernel)) (fun _ h9 => h9) rfl dX2_run_160 ?_
    refine lv_goto (tgt := 168) hx hb dX2_run_163 (by decide) ?_
    obtain ⟨rfl, rfl⟩ := o_s hF
    exact rt_i X hr hlocks hP hD hS dX2_run_168
def fX2_run_j129 (z0 : SM) (y4 : Int32) (t0 : Int32) (t1 : Int32) : Option (Int32 × SM) := let_ ((z0.1, z0.2.1, z0.2.2.1, z0.2.2.2.1, z0.2.2.2.2.1, z0.2.2.2.2.2.1, z0.2.2.2.2.2.2.1, z0.2.2.2.2.2.2.2.1, (t1 + t0), z0.2.2.2.2.2.2.2.2.2) : SM) (fun z1 => (if y4 = (-30) then (fX2_run_j150 z1 y4 1 z1.2.2.2.2.2.2.2.2.2.1) else (fX2_run_j150 z1 y4 0 z1.2.2.2.2.2.2.2.2.2.1)))
set_option maxRecDepth 100000 in
set_option maxHeartbeats 4000000 in
theorem jX2_run_129 {p : Program} {l : Launch} {e : Env} {s : State} {m : MethodId} {args : Array Value} {below : List Frame} {meth : Method} {c : Code} {G : va_G} {cy cyO : ClassId} {a : Nat → Nat} {A : Nat → Prop} {r : Int32} {u : SM} (X : CallFix p m c cX2_run 5 s args wsX2_run RX2) (hr : meth.sig.returnType = (some .int)) (hlocks : meth.locks = false) (hK : va_K G vwCl (tys_ cy cyO) s) (hN : nw s) (hA : ∀ q, s.heap.size ≤ q → A q) : ∀ (z0 : SM) (y4 : Int32) (t0 : Int32) (t1 : Int32), fX2_run_j129 z0 y4 t0 t1 = some (r, u) → ∀ (H : Heap) (locs : List Loc), va_P G vwCl (mW a cy z0) H → va_D A (mW a cy z0) → va_S A s.heap H locs → ∀ (ls : Array Slot), lv_has ls 5 [(0, .ref (a 0)), (4, .int y4)] → W p l e ({ frames := 8, cells := 0, slots := 0, locals := 183 } : Room) s m args below meth c H locs 0 0 (MQ below (qg (some (.int r)) (fun t => wPost G A (mW a cy u) t) A) args s 0 0 A) (F0 m 129 ls [.int t0, .int t1, .ref (a 0)]) := by
  obtain ⟨hx, hb, hml, hown, hts⟩ := id X
  have hin2 : ∀ w ∈ wsX20, w ∈ wsX2_run := by decide +kernel
  intro z0 y4 t0 t1 hF H locs hP hD hS ls hl
  unfold fX2_run_j129 at hF
  refine lv_iadd hx hb dX2_run_129 ?_
  refine va_put (D := G) (ci := 2) (v := .int (t1 + t0)) (ty := .int) (C := RX2) (T := TX2) (N := 18) hx hb hts hin2 tyX2 tyX2_ok nmX2 hown hK hP hD hS 0 rfl rfl 16 (by decide) (hts (.fieldLink RX2 115 "SignalBoxModel" "nulls" "I") (by decide +kernel)) (fun _ h9 => h9) rfl (by decide +kernel) rfl rfl (Nat.le_of_ble_eq_true rfl) dX2_run_130 (fun H locs hP hD hS => ?_)
  obtain ⟨z1, e1, hF⟩ := o_l hF
  have hP : va_P G vwCl (mW a cy z1) H := by rw [e1]; exact hP
  have hD : va_D A (mW a cy z1) := by rw [e1]; exact hD
  refine lv_aload_n hx hb dX2_run_133 rfl (lv_at hl 0 rfl) ?_
  refine lv_dup hx hb dX2_run_134 rfl ?_
  refine va_get (D := G) (ci := 2) (v := .int z1.2.2.2.2.2.2.2.2.2.1) (C := RX2) (T := TX2) (N := 18) hx hb hts hin2 hown hK hP 0 rfl rfl 17 (by decide) (hts (.fieldLink RX2 118 "SignalBoxModel" "fulls" "I") (by decide +kernel)) (fun _ h9 => h9) rfl dX2_run_135 ?_
  refine lv_iload hx hb dX2_run_138 (lv_at hl 1 rfl) ?_
  refine lv_bipush (v := (-30)) hx hb dX2_run_140 (by decide) ?_
  refine lv_icmp_ne (tgt := 149) hx hb dX2_run_142 (by decide) (fun c2 => ?_) (fun c2 => ?_)
  · have hF := o_f c2 hF
    refine lv_iconst (v := 0) hx hb dX2_run_149 (by decide) ?_
    exact jX2_run_150 X hr hlocks hK hN hA z1 y4 0 z1.2.2.2.2.2.2.2.2.2.1 hF H locs hP hD hS ls (lv_sub hl [0, 1] rfl)
  · have hF := o_t c2 hF
    refine lv_iconst (v := 1) hx hb dX2_run_145 (by decide) ?_
    refine lv_goto (tgt := 150) hx hb dX2_run_146 (by decide) ?_
    exact jX2_run_150 X hr hlocks hK hN hA z1 y4 1 z1.2.2.2.2.2.2.2.2.2.1 hF H locs hP hD hS ls (lv_sub hl [0, 1] rfl)
def fX2_run_j110 (z0 : SM) (t0 : Int32) : Option (Int32 × SM) := (if t0 = (-11) then (fX2_run_j129 z0 t0 1 z0.2.2.2.2.2.2.2.2.1) else (fX2_run_j129 z0 t0 0 z0.2.2.2.2.2.2.2.2.1))
set_option maxRecDepth 100000 in
set_option maxHeartbeats 4000000 in
theorem jX2_run_110 {p : Program} {l : Launch} {e : Env} {s : State} {m : MethodId} {args : Array Value} {below : List Frame} {meth : Method} {c : Code} {G : va_G} {cy cyO : ClassId} {a : Nat → Nat} {A : Nat → Prop} {r : Int32} {u : SM} (X : CallFix p m c cX2_run 5 s args wsX2_run RX2) (hr : meth.sig.returnType = (some .int)) (hlocks : meth.locks = false) (hK : va_K G vwCl (tys_ cy cyO) s) (hN : nw s) (hA : ∀ q, s.heap.size ≤ q → A q) : ∀ (z0 : SM) (t0 : Int32), fX2_run_j110 z0 t0 = some (r, u) → ∀ (H : Heap) (locs : List Loc), va_P G vwCl (mW a cy z0) H → va_D A (mW a cy z0) → va_S A s.heap H locs → ∀ (ls : Array Slot), lv_has ls 5 [(0, .ref (a 0))] → W p l e ({ frames := 8, cells := 0, slots := 0, locals := 183 } : Room) s m args below meth c H locs 0 0 (MQ below (qg (some (.int r)) (fun t => wPost G A (mW a cy u) t) A) args s 0 0 A) (F0 m 110 ls [.int t0]) := by
  obtain ⟨hx, hb, hml, hown, hts⟩ := id X
  have hin2 : ∀ w ∈ wsX20, w ∈ wsX2_run := by decide +kernel
  intro z0 t0 hF H locs hP hD hS ls hl
  unfold fX2_run_j110 at hF
  refine lv_istore (lv' := [(4, .int t0), (0, .ref (a 0))]) hx hb dX2_run_110 hl (by decide) rfl (fun ls hl => ?_)
  refine lv_aload_n hx hb dX2_run_112 rfl (lv_at hl 1 rfl) ?_
  refine lv_dup hx hb dX2_run_113 rfl ?_
  refine va_get (D := G) (ci := 2) (v := .int z0.2.2.2.2.2.2.2.2.1) (C := RX2) (T := TX2) (N := 18) hx hb hts hin2 hown hK hP 0 rfl rfl 16 (by decide) (hts (.fieldLink RX2 115 "SignalBoxModel" "nulls" "I") (by decide +kernel)) (fun _ h9 => h9) rfl dX2_run_114 ?_
  refine lv_iload hx hb dX2_run_117 (lv_at hl 0 rfl) ?_
  refine lv_bipush (v := (-11)) hx hb dX2_run_119 (by decide) ?_
  refine lv_icmp_ne (tgt := 128) hx hb dX2_run_121 (by decide) (fun c1 => ?_) (fun c1 => ?_)
  · have hF := o_f c1 hF
    refine lv_iconst (v := 0) hx hb dX2_run_128 (by decide) ?_
    exact jX2_run_129 X hr hlocks hK hN hA z0 t0 0 z0.2.2.2.2.2.2.2.2.1 hF H locs hP hD hS ls (lv_sub hl [1, 0] rfl)
  · have hF := o_t c1 hF
    refine lv_iconst (v := 1) hx hb dX2_run_124 (by decide) ?_
    refine lv_goto (tgt := 129) hx hb dX2_run_125 (by decide) ?_
    exact jX2_run_129 X hr hlocks hK hN hA z0 t0 1 z0.2.2.2.2.2.2.2.2.1 hF H locs hP hD hS ls (lv_sub hl [1, 0] rfl)
def fX2_run (z0 : SM) (x1 : Int32) (x2 : Int32) (x3 : Int32) : Option (Int32 × SM) := bd_ (fX2_isRoute z0 x1) (fun r1 z1 => (if r1 = 0 then some ((-1), z1) else bd_ (fX2_in z1 x2 0 4) (fun r3 z3 => (if r3 = 0 then some ((-1), z3) else bd_ (fX2_in z3 x3 0 1000) (fun r5 z5 => (if r5 = 0 then some ((-1), z5) else let_ ((z5.1, z5.2.1, z5.2.2.1, z5.2.2.2.1, z5.2.2.2.2.1, z5.2.2.2.2.2.1, z5.2.2.2.2.2.2.1, (z5.2.2.2.2.2.2.2.1 + 1), z5.2.2.2.2.2.2.2.2) : SM) (fun z7 => let_ ((z7.1, z7.2.1, z7.2.2.1, z7.2.2.2.1, z7.2.2.2.2.1, 0, z7.2.2.2.2.2.2) : SM) (fun z8 => let_ ((z8.1, z8.2.1, z8.2.2.1, z8.2.2.2.1, z8.2.2.2.2.1, z8.2.2.2.2.2.1, z8.2.2.2.2.2.2.1, z8.2.2.2.2.2.2.2.1, z8.2.2.2.2.2.2.2.2.1, z8.2.2.2.2.2.2.2.2.2.1, 0) : SM) (fun z9 => (if x2 = 0 then bd_ (fX2_alone z9 x1 x3) (fun r18 z18 => (fX2_run_j110 z18 r18)) else (if x2 = 1 then bd_ (fX2_twoByTwo z9 x1 x3) (fun r17 z17 => (fX2_run_j110 z17 r17)) else (if x2 = 2 then bd_ (fX2_all z9 x1 x3) (fun r16 z16 => (fX2_run_j110 z16 r16)) else (if x2 = 3 then bd_ (fX2_first z9 x1 x3) (fun r15 z15 => (fX2_run_j110 z15 r15)) else bd_ (fX2_round z9 x1 x3) (fun r14 z14 => (fX2_run_j110 z14 r14)))))))))))))))
set_option maxRecDepth 100000 in
set_option maxHeartbeats 4000000 in
theorem kX2_run (l : Launch) (G : va_G) (cy cyO : ClassId) (a : Nat → Nat) (z0 : SM) (x1 : Int32) (x2 : Int32) (x3 : Int32) (r : Int32) (u : SM) (hF : fX2_run z0 x1 x2 x3 = some (r, u)) : Ct l G (tys_ cy cyO) yX2_run wsX2_run ({ frames := 8, cells := 0, slots := 0, locals := 183 } : Room) [.ref (a 0), .int x1, .int x2, .int x3] (mW a cy z0) (some (.int r)) (mW a cy u) := by
  unfold fX2_run at hF
  refine ct_of (cc := cX2_run) (maxL := 5) (ret := (some .int)) (own := RX2) (by decide) rfl (Nat.le_of_ble_eq_true rfl) rfl ?_
  intro p e s m below meth c A ls X hr hlocks _ hK hN hA hP hD hl
  have hS : va_S A s.heap s.heap [] := va_S.rf
  have hl : lv_has ls 5 [(0, .ref (a 0)), (1, .int x1), (2, .int x2), (3, .int x3)] := hl
  obtain ⟨hx, hb, hml, hown, hts⟩ := id X
  have hin2 : ∀ w ∈ wsX20, w ∈ wsX2_run := by decide +kernel
  refine lv_iload_n hx hb dX2_run_0 rfl (lv_at hl 1 rfl) ?_
  obtain ⟨r1, z1, hG1, hF⟩ := o_b hF
  refine cl_S (rest := []) X hK hN hA hP hD hS (kX2_isRoute l G cy cyO a z0 x1 r1 z1 hG1) (va_cwS 1 hts gX2_run_X2_isRoute rfl rfl rfl (by decide +kernel) ⟨Nat.le_of_ble_eq_true rfl, Nat.le_of_ble_eq_true rfl⟩) rfl hl.1 rfl (Nat.le_of_ble_eq_true rfl) dX2_run_1 ⟨Nat.zero_le _, Nat.zero_le _⟩ (fun H locs hP hD hS => ?_)
  refine W.eq (g2 := F0 m 4 ls [.int r1]) rfl ?_
  refine lv_if_eq (tgt := 27) hx hb dX2_run_4 (by decide) (fun c2 => ?_) (fun c2 => ?_)
  · have hF := o_t c2 hF
    refine lv_iconst (v := (-1)) hx hb dX2_run_27 (by decide) ?_
    obtain ⟨rfl, rfl⟩ := o_s hF
    exact rt_i X hr hlocks hP hD hS dX2_run_28
  · have hF := o_f c2 hF
    refine lv_iload_n hx hb dX2_run_7 rfl (lv_at hl 2 rfl) ?_
    refine lv_iconst (v := 0) hx hb dX2_run_8 (by decide) ?_
    refine lv_iconst (v := 4) hx hb dX2_run_9 (by decide) ?_
    obtain ⟨r3, z3, hG3, hF⟩ := o_b hF
    refine cl_S (rest := []) X hK hN hA hP hD hS (kX2_in l G cy cyO a z1 x2 0 4 r3 z3 hG3) (va_cwS 3 hts gX2_run_X2_in rfl rfl rfl (by decide +kernel) ⟨Nat.le_of_ble_eq_true rfl, Nat.le_of_ble_eq_true rfl⟩) rfl hl.1 rfl (Nat.le_of_ble_eq_true rfl) dX2_run_10 ⟨Nat.zero_le _, Nat.zero_le _⟩ (fun H locs hP hD hS => ?_)
    refine W.eq (g2 := F0 m 13 ls [.int r3]) rfl ?_
    refine lv_if_eq (tgt := 27) hx hb dX2_run_13 (by decide) (fun c4 => ?_) (fun c4 => ?_)
    · have hF := o_t c4 hF
      refine lv_iconst (v := (-1)) hx hb dX2_run_27 (by decide) ?_
      obtain ⟨rfl, rfl⟩ := o_s hF
      exact rt_i X hr hlocks hP hD hS dX2_run_28
    · have hF := o_f c4 hF
      refine lv_iload_n hx hb dX2_run_16 rfl (lv_at hl 3 rfl) ?_
      refine lv_iconst (v := 0) hx hb dX2_run_17 (by decide) ?_
      refine lv_sipush (v := 1000) hx hb dX2_run_18 (by decide) ?_
      obtain ⟨r5, z5, hG5, hF⟩ := o_b hF
      refine cl_S (rest := []) X hK hN hA hP hD hS (kX2_in l G cy cyO a z3 x3 0 1000 r5 z5 hG5) (va_cwS 3 hts gX2_run_X2_in rfl rfl rfl (by decide +kernel) ⟨Nat.le_of_ble_eq_true rfl, Nat.le_of_ble_eq_true rfl⟩) rfl hl.1 rfl (Nat.le_of_ble_eq_true rfl) dX2_run_21 ⟨Nat.zero_le _, Nat.zero_le _⟩ (fun H locs hP hD hS => ?_)
      refine W.eq (g2 := F0 m 24 ls [.int r5]) rfl ?_
      refine lv_if_ne (tgt := 29) hx hb dX2_run_24 (by decide) (fun c6 => ?_) (fun c6 => ?_)
      · have hF := o_f c6 hF
        refine lv_aload_n hx hb dX2_run_29 rfl (lv_at hl 0 rfl) ?_
        refine lv_dup hx hb dX2_run_30 rfl ?_
        refine va_get (D := G) (ci := 2) (v := .int z5.2.2.2.2.2.2.2.1) (C := RX2) (T := TX2) (N := 18) hx hb hts hin2 hown hK hP 0 rfl rfl 15 (by decide) (hts (.fieldLink RX2 100 "SignalBoxModel" "runs" "I") (by decide +kernel)) (fun _ h9 => h9) rfl dX2_run_31 ?_
        refine lv_iconst (v := 1) hx hb dX2_run_34 (by decide) ?_
        refine lv_iadd hx hb dX2_run_35 ?_
        refine va_put (D := G) (ci := 2) (v := .int (z5.2.2.2.2.2.2.2.1 + 1)) (ty := .int) (C := RX2) (T := TX2) (N := 18) hx hb hts hin2 tyX2 tyX2_ok nmX2 hown hK hP hD hS 0 rfl rfl 15 (by decide) (hts (.fieldLink RX2 100 "SignalBoxModel" "runs" "I") (by decide +kernel)) (fun _ h9 => h9) rfl (by decide +kernel) rfl rfl (Nat.le_of_ble_eq_true rfl) dX2_run_36 (fun H locs hP hD hS => ?_)
        obtain ⟨z7, e7, hF⟩ := o_l hF
        have hP : va_P G vwCl (mW a cy z7) H := by rw [e7]; exact hP
        have hD : va_D A (mW a cy z7) := by rw [e7]; exact hD
        refine lv_aload_n hx hb dX2_run_39 rfl (lv_at hl 0 rfl) ?_
        refine lv_iconst (v := 0) hx hb dX2_run_40 (by decide) ?_
        refine va_put (D := G) (ci := 2) (v := .int 0) (ty := .int) (C := RX2) (T := TX2) (N := 18) hx hb hts hin2 tyX2 tyX2_ok nmX2 hown hK hP hD hS 0 rfl rfl 13 (by decide) (hts (.fieldLink RX2 62 "SignalBoxModel" "traced" "I") (by decide +kernel)) (fun _ h9 => h9) rfl (by decide +kernel) rfl rfl (Nat.le_of_ble_eq_true rfl) dX2_run_41 (fun H locs hP hD hS => ?_)
        obtain ⟨z8, e8, hF⟩ := o_l hF
        have hP : va_P G vwCl (mW a cy z8) H := by rw [e8]; exact hP
        have hD : va_D A (mW a cy z8) := by rw [e8]; exact hD
        refine lv_aload_n hx hb dX2_run_44 rfl (lv_at hl 0 rfl) ?_
        refine lv_iconst (v := 0) hx hb dX2_run_45 (by decide) ?_
        refine va_put (D := G) (ci := 2) (v := .int 0) (ty := .int) (C := RX2) (T := TX2) (N := 18) hx hb hts hin2 tyX2 tyX2_ok nmX2 hown hK hP hD hS 0 rfl rfl 14 (by decide) (hts (.fieldLink RX2 85 "SignalBoxModel" "passed" "I") (by decide +kernel)) (fun _ h9 => h9) rfl (by decide +kernel) rfl rfl (Nat.le_of_ble_eq_true rfl) dX2_run_46 (fun H locs hP hD hS => ?_)
        obtain ⟨z9, e9, hF⟩ := o_l hF
        have hP : va_P G vwCl (mW a cy z9) H := by rw [e9]; exact hP
        have hD : va_D A (mW a cy z9) := by rw [e9]; exact hD
        refine lv_iload_n hx hb dX2_run_49 rfl (lv_at hl 2 rfl) ?_
        refine lv_if_ne (tgt := 62) hx hb dX2_run_50 (by decide) (fun c10 => ?_) (fun c10 => ?_)
        · have hF := o_f c10 hF
          refine lv_iload_n hx hb dX2_run_62 rfl (lv_at hl 2 rfl) ?_
          refine lv_iconst (v := 1) hx hb dX2_run_63 (by decide) ?_
          refine lv_icmp_ne (tgt := 76) hx hb dX2_run_64 (by decide) (fun c11 => ?_) (fun c11 => ?_)
          · have hF := o_f c11 hF
            refine lv_iload_n hx hb dX2_run_76 rfl (lv_at hl 2 rfl) ?_
            refine lv_iconst (v := 2) hx hb dX2_run_77 (by decide) ?_
            refine lv_icmp_ne (tgt := 90) hx hb dX2_run_78 (by decide) (fun c12 => ?_) (fun c12 => ?_)
            · have hF := o_f c12 hF
              refine lv_iload_n hx hb dX2_run_90 rfl (lv_at hl 2 rfl) ?_
              refine lv_iconst (v := 3) hx hb dX2_run_91 (by decide) ?_
              refine lv_icmp_ne (tgt := 104) hx hb dX2_run_92 (by decide) (fun c13 => ?_) (fun c13 => ?_)
              · have hF := o_f c13 hF
                refine lv_aload_n hx hb dX2_run_104 rfl (lv_at hl 0 rfl) ?_
                refine lv_iload_n hx hb dX2_run_105 rfl (lv_at hl 1 rfl) ?_
                refine lv_iload_n hx hb dX2_run_106 rfl (lv_at hl 3 rfl) ?_
                obtain ⟨r14, z14, hG14, hF⟩ := o_b hF
                refine cl_V (C := RX2) (rest := []) X hK hN hA hP hD hS (kX2_round l G cy cyO a z9 x1 x3 r14 z14 hG14) (cwV 2 hts gX2_run_X2_round rfl rfl rfl (by decide +kernel) ⟨Nat.le_of_ble_eq_true rfl, Nat.le_of_ble_eq_true rfl⟩) (va_recv hK hP (ci := 2) (q0 := 0) rfl rfl) rfl hl.1 rfl (Nat.le_of_ble_eq_true rfl) dX2_run_107 ⟨Nat.zero_le _, Nat.zero_le _⟩ (fun H locs hP hD hS => ?_)
                refine W.eq (g2 := F0 m 110 ls [.int r14]) rfl ?_
                exact jX2_run_110 X hr hlocks hK hN hA z14 r14 hF H locs hP hD hS ls (lv_sub hl [0] rfl)
              · have hF := o_t c13 hF
                refine lv_aload_n hx hb dX2_run_95 rfl (lv_at hl 0 rfl) ?_
                refine lv_iload_n hx hb dX2_run_96 rfl (lv_at hl 1 rfl) ?_
                refine lv_iload_n hx hb dX2_run_97 rfl (lv_at hl 3 rfl) ?_
                obtain ⟨r15, z15, hG15, hF⟩ := o_b hF
                refine cl_V (C := RX2) (rest := []) X hK hN hA hP hD hS (kX2_first l G cy cyO a z9 x1 x3 r15 z15 hG15) (cwV 2 hts gX2_run_X2_first rfl rfl rfl (by decide +kernel) ⟨Nat.le_of_ble_eq_true rfl, Nat.le_of_ble_eq_true rfl⟩) (va_recv hK hP (ci := 2) (q0 := 0) rfl rfl) rfl hl.1 rfl (Nat.le_of_ble_eq_true rfl) dX2_run_98 ⟨Nat.zero_le _, Nat.zero_le _⟩ (fun H locs hP hD hS => ?_)
                refine W.eq (g2 := F0 m 101 ls [.int r15]) rfl ?_
                refine lv_goto (tgt := 110) hx hb dX2_run_101 (by decide) ?_
                exact jX2_run_110 X hr hlocks hK hN hA z15 r15 hF H locs hP hD hS ls (lv_sub hl [0] rfl)
            · have hF := o_t c12 hF
              refine lv_aload_n hx hb dX2_run_81 rfl (lv_at hl 0 rfl) ?_
              refine lv_iload_n hx hb dX2_run_82 rfl (lv_at hl 1 rfl) ?_
              refine lv_iload_n hx hb dX2_run_83 rfl (lv_at hl 3 rfl) ?_
              obtain ⟨r16, z16, hG16, hF⟩ := o_b hF
              refine cl_V (C := RX2) (rest := []) X hK hN hA hP hD hS (kX2_all l G cy cyO a z9 x1 x3 r16 z16 hG16) (cwV 2 hts gX2_run_X2_all rfl rfl rfl (by decide +kernel) ⟨Nat.le_of_ble_eq_true rfl, Nat.le_of_ble_eq_true rfl⟩) (va_recv hK hP (ci := 2) (q0 := 0) rfl rfl) rfl hl.1 rfl (Nat.le_of_ble_eq_true rfl) dX2_run_84 ⟨Nat.zero_le _, Nat.zero_le _⟩ (fun H locs hP hD hS => ?_)
              refine W.eq (g2 := F0 m 87 ls [.int r16]) rfl ?_
              refine lv_goto (tgt := 110) hx hb dX2_run_87 (by decide) ?_
              exact jX2_run_110 X hr hlocks hK hN hA z16 r16 hF H locs hP hD hS ls (lv_sub hl [0] rfl)
          · have hF := o_t c11 hF
            refine lv_aload_n hx hb dX2_run_67 rfl (lv_at hl 0 rfl) ?_
            refine lv_iload_n hx hb dX2_run_68 rfl (lv_at hl 1 rfl) ?_
            refine lv_iload_n hx hb dX2_run_69 rfl (lv_at hl 3 rfl) ?_
            obtain ⟨r17, z17, hG17, hF⟩ := o_b hF
            refine cl_V (C := RX2) (rest := []) X hK hN hA hP hD hS (kX2_twoByTwo l G cy cyO a z9 x1 x3 r17 z17 hG17) (cwV 2 hts gX2_run_X2_twoByTwo rfl rfl rfl (by decide +kernel) ⟨Nat.le_of_ble_eq_true rfl, Nat.le_of_ble_eq_true rfl⟩) (va_recv hK hP (ci := 2) (q0 := 0) rfl rfl) rfl hl.1 rfl (Nat.le_of_ble_eq_true rfl) dX2_run_70 ⟨Nat.zero_le _, Nat.zero_le _⟩ (fun H locs hP hD hS => ?_)
            refine W.eq (g2 := F0 m 73 ls [.int r17]) rfl ?_
            refine lv_goto (tgt := 110) hx hb dX2_run_73 (by decide) ?_
            exact jX2_run_110 X hr hlocks hK hN hA z17 r17 hF H locs hP hD hS ls (lv_sub hl [0] rfl)
        · have hF := o_t c10 hF
          refine lv_aload_n hx hb dX2_run_53 rfl (lv_at hl 0 rfl) ?_
          refine lv_iload_n hx hb dX2_run_54 rfl (lv_at hl 1 rfl) ?_
          refine lv_iload_n hx hb dX2_run_55 rfl (lv_at hl 3 rfl) ?_
          obtain ⟨r18, z18, hG18, hF⟩ := o_b hF
          refine cl_V (C := RX2) (rest := []) X hK hN hA hP hD hS (kX2_alone l G cy cyO a z9 x1 x3 r18 z18 hG18) (cwV 2 hts gX2_run_X2_alone rfl rfl rfl (by decide +kernel) ⟨Nat.le_of_ble_eq_true rfl, Nat.le_of_ble_eq_true rfl⟩) (va_recv hK hP (ci := 2) (q0 := 0) rfl rfl) rfl hl.1 rfl (Nat.le_of_ble_eq_true rfl) dX2_run_56 ⟨Nat.zero_le _, Nat.zero_le _⟩ (fun H locs hP hD hS => ?_)
          refine W.eq (g2 := F0 m 59 ls [.int r18]) rfl ?_
          refine lv_goto (tgt := 110) hx hb dX2_run_59 (by decide) ?_
          exact jX2_run_110 X hr hlocks hK hN hA z18 r18 hF H locs hP hD hS ls (lv_sub hl [0] rfl)
      · have hF := o_t c6 hF
        refine lv_iconst (v := (-1)) hx hb dX2_run_27 (by decide) ?_
        obtain ⟨rfl, rfl⟩ := o_s hF
        exact rt_i X hr hlocks hP hD hS dX2_run_28
def fX2_shunt_j165 (z0 : SM) (y4 : Int32) (y5 : Int32) (y6 : Int32) (t0 : Int32) (t1 : Int32) (t2 : Int32) : Option (Int32 × SM) := if t2 < 0 ∨ 640 ≤ t2.toNatClampNeg then none else let_ ((setA z0.1 4 (upd (z0.1 4) t2.toNatClampNeg (t1 + t0)), z0.2) : SM) (fun z2 => bd_ (fX2_let z2 y5) (fun r3 z3 => bd_ (fX2_let z3 y4) (fun r4 z4 => some (y6, z4))))
set_option maxRecDepth 100000 in
set_option maxHeartbeats 4000000 in
theorem jX2_shunt_165 {p : Program} {l : Launch} {e : Env} {s : State} {m : MethodId} {args : Array Value} {below : List Frame} {meth : Method} {c : Code} {G : va_G} {cy cyO : ClassId} {a : Nat → Nat} {A : Nat → Prop} {r : Int32} {u : SM} (X : CallFix p m c cX2_shunt 7 s args wsX2_shunt RX2) (hr : meth.sig.returnType = (some .int)) (hlocks : meth.locks = false) (hK : va_K G vwCl (tys_ cy cyO) s) (hN : nw s) (hA : ∀ q, s.heap.size ≤ q → A q) : ∀ (z0 : SM) (y4 : Int32) (y5 : Int32) (y6 : Int32) (t0 : Int32) (t1 : Int32) (t2 : Int32), fX2_shunt_j165 z0 y4 y5 y6 t0 t1 t2 = some (r, u) → ∀ (H : Heap) (locs : List Loc), va_P G vwCl (mW a cy z0) H → va_D A (mW a cy z0) → va_S A s.heap H locs → ∀ (ls : Array Slot), lv_has ls 7 [(0, .ref (a 0)), (4, .int y4), (5, .int y5), (6, .int y6)] → W p l e ({ frames := 2, cells := 0, slots := 0, locals := 42 } : Room) s m args below meth c H locs 0 0 (MQ below (qg (some (.int r)) (fun t => wPost G A (mW a cy u) t) A) args s 0 0 A) (F0 m 165 ls [.int t0, .int t1, .int t2, .ref (a 4)]) := by
  obtain ⟨hx, hb, hml, hown, hts⟩ := id X
  have hin2 : ∀ w ∈ wsX20, w ∈ wsX2_shunt := by decide +kernel
  intro z0 y4 y5 y6 t0 t1 t2 hF H locs hP hD hS ls hl
  unfold fX2_shunt_j165 at hF
  refine lv_iadd hx hb dX2_shunt_165 ?_
  obtain ⟨h1, hF⟩ := o_n hF
  refine va_iast (n := 640) (f := (z0.1 4)) (cA := cy) hx hb hK hP hD hS 4 0 rfl rfl h1 dX2_shunt_166 (fun H locs hP hD hS => ?_)
  obtain ⟨z2, e2, hF⟩ := o_l hF
  have hP : va_P G vwCl (mW a cy z2) H := by rw [e2]; exact hP
  have hD : va_D A (mW a cy z2) := by rw [e2]; exact hD
  refine lv_aload_n hx hb dX2_shunt_167 rfl (lv_at hl 0 rfl) ?_
  refine lv_iload hx hb dX2_shunt_168 (lv_at hl 2 rfl) ?_
  obtain ⟨r3, z3, hG3, hF⟩ := o_b hF
  refine cl_V (C := RX2) (rest := []) X hK hN hA hP hD hS (kX2_let l G cy cyO a z2 y5 r3 z3 hG3) (cwV 1 hts gX2_shunt_X2_let rfl rfl rfl (by decide +kernel) ⟨Nat.le_of_ble_eq_true rfl, Nat.le_of_ble_eq_true rfl⟩) (va_recv hK hP (ci := 2) (q0 := 0) rfl rfl) rfl hl.1 rfl (Nat.le_of_ble_eq_true rfl) dX2_shunt_170 ⟨Nat.zero_le _, Nat.zero_le _⟩ (fun H locs hP hD hS => ?_)
  refine W.eq (g2 := F0 m 173 ls []) rfl ?_
  refine lv_aload_n hx hb dX2_shunt_173 rfl (lv_at hl 0 rfl) ?_
  refine lv_iload hx hb dX2_shunt_174 (lv_at hl 1 rfl) ?_
  obtain ⟨r4, z4, hG4, hF⟩ := o_b hF
  refine cl_V (C := RX2) (rest := []) X hK hN hA hP hD hS (kX2_let l G cy cyO a z3 y4 r4 z4 hG4) (cwV 1 hts gX2_shunt_X2_let rfl rfl rfl (by decide +kernel) ⟨Nat.le_of_ble_eq_true rfl, Nat.le_of_ble_eq_true rfl⟩) (va_recv hK hP (ci := 2) (q0 := 0) rfl rfl) rfl hl.1 rfl (Nat.le_of_ble_eq_true rfl) dX2_shunt_176 ⟨Nat.zero_le _, Nat.zero_le _⟩ (fun H locs hP hD hS => ?_)
  refine W.eq (g2 := F0 m 179 ls []) rfl ?_
  refine lv_iload hx hb dX2_shunt_179 (lv_at hl 3 rfl) ?_
  obtain ⟨rfl, rfl⟩ := o_s hF
  exact rt_i X hr hlocks hP hD hS dX2_shunt_181
def fX2_shunt_j144 (z0 : SM) (y3 : Int32) (y4 : Int32) (y5 : Int32) (y6 : Int32) (t0 : Int32) (t1 : Int32) (t2 : Int32) : Option (Int32 × SM) := if t2 < 0 ∨ 640 ≤ t2.toNatClampNeg then none else let_ ((setA z0.1 4 (upd (z0.1 4) t2.toNatClampNeg (t1 - t0)), z0.2) : SM) (fun z2 => if y5 < 0 ∨ 640 ≤ y5.toNatClampNeg then none else let_ ((z2.1 4) y5.toNatClampNeg) (fun v3 => (if y6 = 1 then (fX2_shunt_j165 z2 y4 y5 y6 y3 v3 y5) else (fX2_shunt_j165 z2 y4 y5 y6 0 v3 y5))))
set_option maxRecDepth 100000 in
set_option maxHeartbeats 4000000 in
theorem jX2_shunt_144 {p : Program} {l : Launch} {e : Env} {s : State} {m : MethodId} {args : Array Value} {below : List Frame} {meth : Method} {c : Code} {G : va_G} {cy cyO : ClassId} {a : Nat → Nat} {A : Nat → Prop} {r : Int32} {u : SM} (X : CallFix p m c cX2_shunt 7 s args wsX2_shunt RX2) (hr : meth.sig.returnType = (some .int)) (hlocks : meth.locks = false) (hK : va_K G vwCl (tys_ cy cyO) s) (hN : nw s) (hA : ∀ q, s.heap.size ≤ q → A q) : ∀ (z0 : SM) (y3 : Int32) (y4 : Int32) (y5 : Int32) (y6 : Int32) (t0 : Int32) (t1 : Int32) (t2 : Int32), fX2_shunt_j144 z0 y3 y4 y5 y6 t0 t1 t2 = some (r, u) → ∀ (H : Heap) (locs : List Loc), va_P G vwCl (mW a cy z0) H → va_D A (mW a cy z0) → va_S A s.heap H locs → ∀ (ls : Array Slot), lv_has ls 7 [(0, .ref (a 0)), (3, .int y3), (4, .int y4), (5, .int y5), (6, .int y6)] → W p l e ({ frames := 2, cells := 0, slots := 0, locals := 42 } : Room) s m args below meth c H locs 0 0 (MQ below (qg (some (.int r)) (fun t => wPost G A (mW a cy u) t) A) args s 0 0 A) (F0 m 144 ls [.int t0, .int t1, .int t2, .ref (a 4)]) := by
  obtain ⟨hx, hb, hml, hown, hts⟩ := id X
  have hin2 : ∀ w ∈ wsX20, w ∈ wsX2_shunt := by decide +kernel
  intro z0 y3 y4 y5 y6 t0 t1 t2 hF H locs hP hD hS ls hl
  unfold fX2_shunt_j144 at hF
  refine lv_isub hx hb dX2_shunt_144 ?_
  obtain ⟨h1, hF⟩ := o_n hF
  refine va_iast (n := 640) (f := (z0.1 4)) (cA := cy) hx hb hK hP hD hS 4 0 rfl rfl h1 dX2_shunt_145 (fun H locs hP hD hS => ?_)
  obtain ⟨z2, e2, hF⟩ := o_l hF
  have hP : va_P G vwCl (mW a cy z2) H := by rw [e2]; exact hP
  have hD : va_D A (mW a cy z2) := by rw [e2]; exact hD
  refine lv_aload_n hx hb dX2_shunt_146 rfl (lv_at hl 0 rfl) ?_
  refine va_get (D := G) (ci := 2) (v := .ref (a 4)) (C := RX2) (T := TX2) (N := 18) hx hb hts hin2 hown hK hP 0 rfl rfl 4 (by decide) (hts (.fieldLink RX2 19 "SignalBoxModel" "axles" "[I") (by decide +kernel)) (fun _ h9 => h9) rfl dX2_shunt_147 ?_
  refine lv_iload hx hb dX2_shunt_150 (lv_at hl 3 rfl) ?_
  refine lv_dup2_11 hx hb dX2_shunt_152 rfl rfl ?_
  obtain ⟨h3, hF⟩ := o_n hF
  refine va_iald (n := 640) (f := (z2.1 4)) (cA := cy) hx hb hK hP 4 0 rfl rfl h3 dX2_shunt_153 ?_
  obtain ⟨v3, e3, hF⟩ := o_l hF
  refine w_top e3 ?_
  refine lv_iload hx hb dX2_shunt_154 (lv_at hl 4 rfl) ?_
  refine lv_iconst (v := 1) hx hb dX2_shunt_156 (by decide) ?_
  refine lv_icmp_ne (tgt := 164) hx hb dX2_shunt_157 (by decide) (fun c4 => ?_) (fun c4 => ?_)
  · have hF := o_f c4 hF
    refine lv_iconst (v := 0) hx hb dX2_shunt_164 (by decide) ?_
    exact jX2_shunt_165 X hr hlocks hK hN hA z2 y4 y5 y6 0 v3 y5 hF H locs hP hD hS ls (lv_sub hl [0, 2, 3, 4] rfl)
  · have hF := o_t c4 hF
    refine lv_iload_n hx hb dX2_shunt_160 rfl (lv_at hl 1 rfl) ?_
    refine lv_goto (tgt := 165) hx hb dX2_shunt_161 (by decide) ?_
    exact jX2_shunt_165 X hr hlocks hK hN hA z2 y4 y5 y6 y3 v3 y5 hF H locs hP hD hS ls (lv_sub hl [0, 2, 3, 4] rfl)
def fX2_shunt_j123 (z0 : SM) (y3 : Int32) (y4 : Int32) (y5 : Int32) (t0 : Int32) : Option (Int32 × SM) := if y4 < 0 ∨ 640 ≤ y4.toNatClampNeg then none else let_ ((z0.1 4) y4.toNatClampNeg) (fun v1 => (if t0 = 1 then (fX2_shunt_j144 z0 y3 y4 y5 t0 y3 v1 y4) else (fX2_shunt_j144 z0 y3 y4 y5 t0 0 v1 y4)))
set_option maxRecDepth 100000 in
set_option maxHeartbeats 4000000 in
theorem jX2_shunt_123 {p : Program} {l : Launch} {e : Env} {s : State} {m : MethodId} {args : Array Value} {below : List Frame} {meth : Method} {c : Code} {G : va_G} {cy cyO : ClassId} {a : Nat → Nat} {A : Nat → Prop} {r : Int32} {u : SM} (X : CallFix p m c cX2_shunt 7 s args wsX2_shunt RX2) (hr : meth.sig.returnType = (some .int)) (hlocks : meth.locks = false) (hK : va_K G vwCl (tys_ cy cyO) s) (hN : nw s) (hA : ∀ q, s.heap.size ≤ q → A q) : ∀ (z0 : SM) (y3 : Int32) (y4 : Int32) (y5 : Int32) (t0 : Int32), fX2_shunt_j123 z0 y3 y4 y5 t0 = some (r, u) → ∀ (H : Heap) (locs : List Loc), va_P G vwCl (mW a cy z0) H → va_D A (mW a cy z0) → va_S A s.heap H locs → ∀ (ls : Array Slot), lv_has ls 7 [(0, .ref (a 0)), (3, .int y3), (4, .int y4), (5, .int y5)] → W p l e ({ frames := 2, cells := 0, slots := 0, locals := 42 } : Room) s m args below meth c H locs 0 0 (MQ below (qg (some (.int r)) (fun t => wPost G A (mW a cy u) t) A) args s 0 0 A) (F0 m 123 ls [.int t0]) := by
  obtain ⟨hx, hb, hml, hown, hts⟩ := id X
  have hin2 : ∀ w ∈ wsX20, w ∈ wsX2_shunt := by decide +kernel
  intro z0 y3 y4 y5 t0 hF H locs hP hD hS ls hl
  unfold fX2_shunt_j123 at hF
  refine lv_istore (lv' := [(6, .int t0), (0, .ref (a 0)), (3, .int y3), (4, .int y4), (5, .int y5)]) hx hb dX2_shunt_123 hl (by decide) rfl (fun ls hl => ?_)
  refine lv_aload_n hx hb dX2_shunt_125 rfl (lv_at hl 1 rfl) ?_
  refine va_get (D := G) (ci := 2) (v := .ref (a 4)) (C := RX2) (T := TX2) (N := 18) hx hb hts hin2 hown hK hP 0 rfl rfl 4 (by decide) (hts (.fieldLink RX2 19 "SignalBoxModel" "axles" "[I") (by decide +kernel)) (fun _ h9 => h9) rfl dX2_shunt_126 ?_
  refine lv_iload hx hb dX2_shunt_129 (lv_at hl 3 rfl) ?_
  refine lv_dup2_11 hx hb dX2_shunt_131 rfl rfl ?_
  obtain ⟨h1, hF⟩ := o_n hF
  refine va_iald (n := 640) (f := (z0.1 4)) (cA := cy) hx hb hK hP 4 0 rfl rfl h1 dX2_shunt_132 ?_
  obtain ⟨v1, e1, hF⟩ := o_l hF
  refine w_top e1 ?_
  refine lv_iload hx hb dX2_shunt_133 (lv_at hl 0 rfl) ?_
  refine lv_iconst (v := 1) hx hb dX2_shunt_135 (by decide) ?_
  refine lv_icmp_ne (tgt := 143) hx hb dX2_shunt_136 (by decide) (fun c2 => ?_) (fun c2 => ?_)
  · have hF := o_f c2 hF
    refine lv_iconst (v := 0) hx hb dX2_shunt_143 (by decide) ?_
    exact jX2_shunt_144 X hr hlocks hK hN hA z0 y3 y4 y5 t0 0 v1 y4 hF H locs hP hD hS ls (lv_sub hl [1, 2, 3, 4, 0] rfl)
  · have hF := o_t c2 hF
    refine lv_iload_n hx hb dX2_shunt_139 rfl (lv_at hl 2 rfl) ?_
    refine lv_goto (tgt := 144) hx hb dX2_shunt_140 (by decide) ?_
    exact jX2_shunt_144 X hr hlocks hK hN hA z0 y3 y4 y5 t0 y3 v1 y4 hF H locs hP hD hS ls (lv_sub hl [1, 2, 3, 4, 0] rfl)
def fX2_shunt_j122 (z0 : SM) (y3 : Int32) (y4 : Int32) (y5 : Int32) : Option (Int32 × SM) := (fX2_shunt_j123 z0 y3 y4 y5 0)
set_option maxRecDepth 100000 in
set_option maxHeartbeats 4000000 in
theorem jX2_shunt_122 {p : Program} {l : Launch} {e : Env} {s : State} {m : MethodId} {args : Array Value} {below : List Frame} {meth : Method} {c : Code} {G : va_G} {cy cyO : ClassId} {a : Nat → Nat} {A : Nat → Prop} {r : Int32} {u : SM} (X : CallFix p m c cX2_shunt 7 s args wsX2_shunt RX2) (hr : meth.sig.returnType = (some .int)) (hlocks : meth.locks = false) (hK : va_K G vwCl (tys_ cy cyO) s) (hN : nw s) (hA : ∀ q, s.heap.size ≤ q → A q) : ∀ (z0 : SM) (y3 : Int32) (y4 : Int32) (y5 : Int32), fX2_shunt_j122 z0 y3 y4 y5 = some (r, u) → ∀ (H : Heap) (locs : List Loc), va_P G vwCl (mW a cy z0) H → va_D A (mW a cy z0) → va_S A s.heap H locs → ∀ (ls : Array Slot), lv_has ls 7 [(0, .ref (a 0)), (3, .int y3), (4, .int y4), (5, .int y5)] → W p l e ({ frames := 2, cells := 0, slots := 0, locals := 42 } : Room) s m args below meth c H locs 0 0 (MQ below (qg (some (.int r)) (fun t => wPost G A (mW a cy u) t) A) args s 0 0 A) (F0 m 122 ls []) := by
  obtain ⟨hx, hb, hml, hown, hts⟩ := id X
  have hin2 : ∀ w ∈ wsX20, w ∈ wsX2_shunt := by decide +kernel
  intro z0 y3 y4 y5 hF H locs hP hD hS ls hl
  unfold fX2_shunt_j122 at hF
  refine lv_iconst (v := 0) hx hb dX2_shunt_122 (by decide) ?_
  exact jX2_shunt_123 X hr hlocks hK hN hA z0 y3 y4 y5 0 hF H locs hP hD hS ls (lv_sub hl [0, 1, 2, 3] rfl)
def fX2_shunt_j118 (z0 : SM) (y3 : Int32) (y4 : Int32) (y5 : Int32) : Option (Int32 × SM) := (fX2_shunt_j123 z0 y3 y4 y5 1)
set_option maxRecDepth 100000 in
set_option maxHeartbeats 4000000 in
theorem jX2_shunt_118 {p : Program} {l : Launch} {e : Env} {s : State} {m : MethodId} {args : Array Value} {below : List Frame} {meth : Method} {c : Code} {G : va_G} {cy cyO : ClassId} {a : Nat → Nat} {A : Nat → Prop} {r : Int32} {u : SM} (X : CallFix p m c cX2_shunt 7 s args wsX2_shunt RX2) (hr : meth.sig.returnType = (some .int)) (hlocks : meth.locks = false) (hK : va_K G vwCl (tys_ cy cyO) s) (hN : nw s) (hA : ∀ q, s.heap.size ≤ q → A q) : ∀ (z0 : SM) (y3 : Int32) (y4 : Int32) (y5 : Int32), fX2_shunt_j118 z0 y3 y4 y5 = some (r, u) → ∀ (H : Heap) (locs : List Loc), va_P G vwCl (mW a cy z0) H → va_D A (mW a cy z0) → va_S A s.heap H locs → ∀ (ls : Array Slot), lv_has ls 7 [(0, .ref (a 0)), (3, .int y3), (4, .int y4), (5, .int y5)] → W p l e ({ frames := 2, cells := 0, slots := 0, locals := 42 } : Room) s m args below meth c H locs 0 0 (MQ below (qg (some (.int r)) (fun t => wPost G A (mW a cy u) t) A) args s 0 0 A) (F0 m 118 ls []) := by
  obtain ⟨hx, hb, hml, hown, hts⟩ := id X
  have hin2 : ∀ w ∈ wsX20, w ∈ wsX2_shunt := by decide +kernel
  intro z0 y3 y4 y5 hF H locs hP hD hS ls hl
  unfold fX2_shunt_j118 at hF
  refine lv_iconst (v := 1) hx hb dX2_shunt_118 (by decide) ?_
  refine lv_goto (tgt := 123) hx hb dX2_shunt_119 (by decide) ?_
  exact jX2_shunt_123 X hr hlocks hK hN hA z0 y3 y4 y5 1 hF H locs hP hD hS ls (lv_sub hl [0, 1, 2, 3] rfl)
def fX2_shunt (z0 : SM) (x1 : Int32) (x2 : Int32) (x3 : Int32) : Option (Int32 × SM) := bd_ (fX2_isPlace z0 x1) (fun r1 z1 => (if r1 = 0 then some ((-1), z1) else bd_ (fX2_isPlace z1 x2) (fun r3 z3 => (if r3 = 0 then some ((-1), z3) else bd_ (fX2_in z3 x3 0 1000) (fun r5 z5 => (if r5 = 0 then some ((-1), z5) else let_ ((z5.1, z5.2.1, z5.2.2.1, z5.2.2.2.1, z5.2.2.2.2.1, 0, z5.2.2.2.2.2.2) : SM) (fun z7 => if x1 < 0 ∨ 12 ≤ x1.toNatClampNeg then none else let_ (z7.2.1 x1.toNatClampNeg) (fun v8 => if x2 < 0 ∨ 12 ≤ x2.toNatClampNeg then none else let_ (z7.2.1 x2.toNatClampNeg) (fun v9 => (if 0 ≤ v8 then bd_ (fX2_claim z7 v8) (fun r11 z11 => (if v9 < 0 then bd_ (fX2_let z11 v8) (fun r13 z13 => some ((-11), z13)) else bd_ (fX2_claim z11 v9) (fun r14 z14 => if v8 < 0 ∨ 640 ≤ v8.toNatClampNeg then none else let_ ((z14.1 4) v8.toNatClampNeg) (fun v15 => (if v15 < x3 then (fX2_shunt_j122 z14 x3 v8 v9) else (if v8 = v9 then (fX2_shunt_j118 z14 x3 v8 v9) else if v9 < 0 ∨ 640 ≤ v9.toNatClampNeg then none else let_ ((z14.1 4) v9.toNatClampNeg) (fun v18 => if v9 < 0 ∨ 640 ≤ v9.toNatClampNeg then none else let_ ((z14.1 2) v9.toNatClampNeg) (fun v19 => (if 0 < (lg_cmp (v18.toInt64 + x3.toInt64) v19.toInt64) then (fX2_shunt_j122 z14 x3 v8 v9) else (fX2_shunt_j118 z14 x3 v8 v9)))))))))) else some ((-11), z7)))))))))))
set_option maxRecDepth 100000 in
set_option maxHeartbeats 4000000 in
theorem kX2_shunt (l : Launch) (G : va_G) (cy cyO : ClassId) (a : Nat → Nat) (z0 : SM) (x1 : Int32) (x2 : Int32) (x3 : Int32) (r : Int32) (u : SM) (hF : fX2_shunt z0 x1 x2 x3 = some (r, u)) : Ct l G (tys_ cy cyO) yX2_shunt wsX2_shunt ({ frames := 2, cells := 0, slots := 0, locals := 42 } : Room) [.ref (a 0), .int x1, .int x2, .int x3] (mW a cy z0) (some (.int r)) (mW a cy u) := by
  unfold fX2_shunt at hF
  refine ct_of (cc := cX2_shunt) (maxL := 7) (ret := (some .int)) (own := RX2) (by decide) rfl (Nat.le_of_ble_eq_true rfl) rfl ?_
  intro p e s m below meth c A ls X hr hlocks _ hK hN hA hP hD hl
  have hS : va_S A s.heap s.heap [] := va_S.rf
  have hl : lv_has ls 7 [(0, .ref (a 0)), (1, .int x1), (2, .int x2), (3, .int x3)] := hl
  obtain ⟨hx, hb, hml, hown, hts⟩ := id X
  have hin2 : ∀ w ∈ wsX20, w ∈ wsX2_shunt := by decide +kernel
  refine lv_iload_n hx hb dX2_shunt_0 rfl (lv_at hl 1 rfl) ?_
  obtain ⟨r1, z1, hG1, hF⟩ := o_b hF
  refine cl_S (rest := []) X hK hN hA hP hD hS (kX2_isPlace l G cy cyO a z0 x1 r1 z1 hG1) (va_cwS 1 hts gX2_shunt_X2_isPlace rfl rfl rfl (by decide +kernel) ⟨Nat.le_of_ble_eq_true rfl, Nat.le_of_ble_eq_true rfl⟩) rfl hl.1 rfl (Nat.le_of_ble_eq_true rfl) dX2_shunt_1 ⟨Nat.zero_le _, Nat.zero_le _⟩ (fun H locs hP hD hS => ?_)
  refine W.eq (g2 := F0 m 4 ls [.int r1]) rfl ?_
  refine lv_if_eq (tgt := 25) hx hb dX2_shunt_4 (by decide) (fun c2 => ?_) (fun c2 => ?_)
  · have hF := o_t c2 hF
    refine lv_iconst (v := (-1)) hx hb dX2_shunt_25 (by decide) ?_
    obtain ⟨rfl, rfl⟩ := o_s hF
    exact rt_i X hr hlocks hP hD hS dX2_shunt_26
  · have hF := o_f c2 hF
    refine lv_iload_n hx hb dX2_shunt_7 rfl (lv_at hl 2 rfl) ?_
    obtain ⟨r3, z3, hG3, hF⟩ := o_b hF
    refine cl_S (rest := []) X hK hN hA hP hD hS (kX2_isPlace l G cy cyO a z1 x2 r3 z3 hG3) (va_cwS 1 hts gX2_shunt_X2_isPlace rfl rfl rfl (by decide +kernel) ⟨Nat.le_of_ble_eq_true rfl, Nat.le_of_ble_eq_true rfl⟩) rfl hl.1 rfl (Nat.le_of_ble_eq_true rfl) dX2_shunt_8 ⟨Nat.zero_le _, Nat.zero_le _⟩ (fun H locs hP hD hS => ?_)
    refine W.eq (g2 := F0 m 11 ls [.int r3]) rfl ?_
    refine lv_if_eq (tgt := 25) hx hb dX2_shunt_11 (by decide) (fun c4 => ?_) (fun c4 => ?_)
    · have hF := o_t c4 hF
      refine lv_iconst (v := (-1)) hx hb dX2_shunt_25 (by decide) ?_
      obtain ⟨rfl, rfl⟩ := o_s hF
      exact rt_i X hr hlocks hP hD hS dX2_shunt_26
    · have hF := o_f c4 hF
      refine lv_iload_n hx hb dX2_shunt_14 rfl (lv_at hl 3 rfl) ?_
      refine lv_iconst (v := 0) hx hb dX2_shunt_15 (by decide) ?_
      refine lv_sipush (v := 1000) hx hb dX2_shunt_16 (by decide) ?_
      obtain ⟨r5, z5, hG5, hF⟩ := o_b hF
      refine cl_S (rest := []) X hK hN hA hP hD hS (kX2_in l G cy cyO a z3 x3 0 1000 r5 z5 hG5) (va_cwS 3 hts gX2_shunt_X2_in rfl rfl rfl (by decide +kernel) ⟨Nat.le_of_ble_eq_true rfl, Nat.le_of_ble_eq_true rfl⟩) rfl hl.1 rfl (Nat.le_of_ble_eq_true rfl) dX2_shunt_19 ⟨Nat.zero_le _, Nat.zero_le _⟩ (fun H locs hP hD hS => ?_)
      refine W.eq (g2 := F0 m 22 ls [.int r5]) rfl ?_
      refine lv_if_ne (tgt := 27) hx hb dX2_shunt_22 (by decide) (fun c6 => ?_) (fun c6 => ?_)
      · have hF := o_f c6 hF
        refine lv_aload_n hx hb dX2_shunt_27 rfl (lv_at hl 0 rfl) ?_
        refine lv_iconst (v := 0) hx hb dX2_shunt_28 (by decide) ?_
        refine va_put (D := G) (ci := 2) (v := .int 0) (ty := .int) (C := RX2) (T := TX2) (N := 18) hx hb hts hin2 tyX2 tyX2_ok nmX2 hown hK hP hD hS 0 rfl rfl 13 (by decide) (hts (.fieldLink RX2 62 "SignalBoxModel" "traced" "I") (by decide +kernel)) (fun _ h9 => h9) rfl (by decide +kernel) rfl rfl (Nat.le_of_ble_eq_true rfl) dX2_shunt_29 (fun H locs hP hD hS => ?_)
        obtain ⟨z7, e7, hF⟩ := o_l hF
        have hP : va_P G vwCl (mW a cy z7) H := by rw [e7]; exact hP
        have hD : va_D A (mW a cy z7) := by rw [e7]; exact hD
        refine lv_aload_n hx hb dX2_shunt_32 rfl (lv_at hl 0 rfl) ?_
        refine va_get (D := G) (ci := 2) (v := .ref (a 9)) (C := RX2) (T := TX2) (N := 18) hx hb hts hin2 hown hK hP 0 rfl rfl 9 (by decide) (hts (.fieldLink RX2 34 "SignalBoxModel" "at" "[I") (by decide +kernel)) (fun _ h9 => h9) rfl dX2_shunt_33 ?_
        refine lv_iload_n hx hb dX2_shunt_36 rfl (lv_at hl 1 rfl) ?_
        obtain ⟨h8, hF⟩ := o_n hF
        refine va_iald (n := 12) (f := z7.2.1) (cA := cy) hx hb hK hP 9 0 rfl rfl h8 dX2_shunt_37 ?_
        obtain ⟨v8, e8, hF⟩ := o_l hF
        refine w_top e8 ?_
        refine lv_istore (lv' := [(4, .int v8), (0, .ref (a 0)), (1, .int x1), (2, .int x2), (3, .int x3)]) hx hb dX2_shunt_38 hl (by decide) rfl (fun ls hl => ?_)
        refine lv_aload_n hx hb dX2_shunt_40 rfl (lv_at hl 1 rfl) ?_
        refine va_get (D := G) (ci := 2) (v := .ref (a 9)) (C := RX2) (T := TX2) (N := 18) hx hb hts hin2 hown hK hP 0 rfl rfl 9 (by decide) (hts (.fieldLink RX2 34 "SignalBoxModel" "at" "[I") (by decide +kernel)) (fun _ h9 => h9) rfl dX2_shunt_41 ?_
        refine lv_iload_n hx hb dX2_shunt_44 rfl (lv_at hl 3 rfl) ?_
        obtain ⟨h9, hF⟩ := o_n hF
        refine va_iald (n := 12) (f := z7.2.1) (cA := cy) hx hb hK hP 9 0 rfl rfl h9 dX2_shunt_45 ?_
        obtain ⟨v9, e9, hF⟩ := o_l hF
        refine w_top e9 ?_
        refine lv_istore (lv' := [(5, .int v9), (4, .int v8), (0, .ref (a 0)), (1, .int x1), (2, .int x2), (3, .int x3)]) hx hb dX2_shunt_46 hl (by decide) rfl (fun ls hl => ?_)
        refine lv_iload hx hb dX2_shunt_48 (lv_at hl 1 rfl) ?_
        refine lv_if_ge (tgt := 56) hx hb dX2_shunt_50 (by decide) (fun c10 => ?_) (fun c10 => ?_)
        · have hF := o_t c10 hF
          refine lv_aload_n hx hb dX2_shunt_56 rfl (lv_at hl 2 rfl) ?_
          refine lv_iload hx hb dX2_shunt_57 (lv_at hl 1 rfl) ?_
          obtain ⟨r11, z11, hG11, hF⟩ := o_b hF
          refine cl_V (C := RX2) (rest := []) X hK hN hA hP hD hS (kX2_claim l G cy cyO a z7 v8 r11 z11 hG11) (cwV 1 hts gX2_shunt_X2_claim rfl rfl rfl (by decide +kernel) ⟨Nat.le_of_ble_eq_true rfl, Nat.le_of_ble_eq_true rfl⟩) (va_recv hK hP (ci := 2) (q0 := 0) rfl rfl) rfl hl.1 rfl (Nat.le_of_ble_eq_true rfl) dX2_shunt_59 ⟨Nat.zero_le _, Nat.zero_le _⟩ (fun H locs hP hD hS => ?_)
          refine W.eq (g2 := F0 m 62 ls []) rfl ?_
          refine lv_bipush (v := (-11)) hx hb dX2_shunt_62 (by decide) ?_
          refine lv_istore (lv' := [(6, .int (-11)), (5, .int v9), (4, .int v8), (0, .ref (a 0)), (1, .int x1), (2, .int x2), (3, .int x3)]) hx hb dX2_shunt_64 hl (by decide) rfl (fun ls hl => ?_)
          refine lv_iload hx hb dX2_shunt_66 (lv_at hl 1 rfl) ?_
          refine lv_if_lt (tgt := 173) hx hb dX2_shunt_68 (by decide) (fun c12 => ?_) (fun c12 => ?_)
          · have hF := o_t c12 hF
            refine lv_aload_n hx hb dX2_shunt_173 rfl (lv_at hl 3 rfl) ?_
            refine lv_iload hx hb dX2_shunt_174 (lv_at hl 2 rfl) ?_
            obtain ⟨r13, z13, hG13, hF⟩ := o_b hF
            refine cl_V (C := RX2) (rest := []) X hK hN hA hP hD hS (kX2_let l G cy cyO a z11 v8 r13 z13 hG13) (cwV 1 hts gX2_shunt_X2_let rfl rfl rfl (by decide +kernel) ⟨Nat.le_of_ble_eq_true rfl, Nat.le_of_ble_eq_true rfl⟩) (va_recv hK hP (ci := 2) (q0 := 0) rfl rfl) rfl hl.1 rfl (Nat.le_of_ble_eq_true rfl) dX2_shunt_176 ⟨Nat.zero_le _, Nat.zero_le _⟩ (fun H locs hP hD hS => ?_)
            refine W.eq (g2 := F0 m 179 ls []) rfl ?_
            refine lv_iload hx hb dX2_shunt_179 (lv_at hl 0 rfl) ?_
            obtain ⟨rfl, rfl⟩ := o_s hF
            exact rt_i X hr hlocks hP hD hS dX2_shunt_181
          · have hF := o_f c12 hF
            refine lv_aload_n hx hb dX2_shunt_71 rfl (lv_at hl 3 rfl) ?_
            refine lv_iload hx hb dX2_shunt_72 (lv_at hl 1 rfl) ?_
            obtain ⟨r14, z14, hG14, hF⟩ := o_b hF
            refine cl_V (C := RX2) (rest := []) X hK hN hA hP hD hS (kX2_claim l G cy cyO a z11 v9 r14 z14 hG14) (cwV 1 hts gX2_shunt_X2_claim rfl rfl rfl (by decide +kernel) ⟨Nat.le_of_ble_eq_true rfl, Nat.le_of_ble_eq_true rfl⟩) (va_recv hK hP (ci := 2) (q0 := 0) rfl rfl) rfl hl.1 rfl (Nat.le_of_ble_eq_true rfl) dX2_shunt_74 ⟨Nat.zero_le _, Nat.zero_le _⟩ (fun H locs hP hD hS => ?_)
            refine W.eq (g2 := F0 m 77 ls []) rfl ?_
            refine lv_aload_n hx hb dX2_shunt_77 rfl (lv_at hl 3 rfl) ?_
            refine va_get (D := G) (ci := 2) (v := .ref (a 4)) (C := RX2) (T := TX2) (N := 18) hx hb hts hin2 hown hK hP 0 rfl rfl 4 (by decide) (hts (.fieldLink RX2 19 "SignalBoxModel" "axles" "[I") (by decide +kernel)) (fun _ h9 => h9) rfl dX2_shunt_78 ?_
            refine lv_iload hx hb dX2_shunt_81 (lv_at hl 2 rfl) ?_
            obtain ⟨h15, hF⟩ := o_n hF
            refine va_iald (n := 640) (f := (z14.1 4)) (cA := cy) hx hb hK hP 4 0 rfl rfl h15 dX2_shunt_83 ?_
            obtain ⟨v15, e15, hF⟩ := o_l hF
            refine w_top e15 ?_
            refine lv_iload_n hx hb dX2_shunt_84 rfl (lv_at hl 6 rfl) ?_
            refine lv_icmp_lt (tgt := 122) hx hb dX2_shunt_85 (by decide) (fun c16 => ?_) (fun c16 => ?_)
            · have hF := o_t c16 hF
              exact jX2_shunt_122 X hr hlocks hK hN hA z14 x3 v8 v9 hF H locs hP hD hS ls (lv_sub hl [3, 6, 2, 1] rfl)
            · have hF := o_f c16 hF
              refine lv_iload hx hb dX2_shunt_88 (lv_at hl 2 rfl) ?_
              refine lv_iload hx hb dX2_shunt_90 (lv_at hl 1 rfl) ?_
              refine lv_icmp_eq (tgt := 118) hx hb dX2_shunt_92 (by decide) (fun c17 => ?_) (fun c17 => ?_)
              · have hF := o_t c17 hF
                exact jX2_shunt_118 X hr hlocks hK hN hA z14 x3 v8 v9 hF H locs hP hD hS ls (lv_sub hl [3, 6, 2, 1] rfl)
              · have hF := o_f c17 hF
                refine lv_aload_n hx hb dX2_shunt_95 rfl (lv_at hl 3 rfl) ?_
                refine va_get (D := G) (ci := 2) (v := .ref (a 4)) (C := RX2) (T := TX2) (N := 18) hx hb hts hin2 hown hK hP 0 rfl rfl 4 (by decide) (hts (.fieldLink RX2 19 "SignalBoxModel" "axles" "[I") (by decide +kernel)) (fun _ h9 => h9) rfl dX2_shunt_96 ?_
                refine lv_iload hx hb dX2_shunt_99 (lv_at hl 1 rfl) ?_
                obtain ⟨h18, hF⟩ := o_n hF
                refine va_iald (n := 640) (f := (z14.1 4)) (cA := cy) hx hb hK hP 4 0 rfl rfl h18 dX2_shunt_101 ?_
                obtain ⟨v18, e18, hF⟩ := o_l hF
                refine w_top e18 ?_
                refine lv_i2l hx hb dX2_shunt_102 rfl ?_
                refine lv_iload_n hx hb dX2_shunt_103 rfl (lv_at hl 6 rfl) ?_
                refine lv_i2l hx hb dX2_shunt_104 rfl ?_
                refine lv_ladd hx hb dX2_shunt_105 ?_
                refine lv_aload_n hx hb dX2_shunt_106 rfl (lv_at hl 3 rfl) ?_
                refine va_get (D := G) (ci := 2) (v := .ref (a 2)) (C := RX2) (T := TX2) (N := 18) hx hb hts hin2 hown hK hP 0 rfl rfl 2 (by decide) (hts (.fieldLink RX2 13 "SignalBoxModel" "limits" "[I") (by decide +kernel)) (fun _ h9 => h9) rfl dX2_shunt_107 ?_
                refine lv_iload hx hb dX2_shunt_110 (lv_at hl 1 rfl) ?_
                obtain ⟨h19, hF⟩ := o_n hF
                refine va_iald (n := 640) (f := (z14.1 2)) (cA := cy) hx hb hK hP 2 0 rfl rfl h19 dX2_shunt_112 ?_
                obtain ⟨v19, e19, hF⟩ := o_l hF
                refine w_top e19 ?_
                refine lv_i2l hx hb dX2_shunt_113 rfl ?_
                refine W.lcmp hx hb dX2_shunt_114 ?_
                refine lv_if_gt (tgt := 122) hx hb dX2_shunt_115 (by decide) (fun c20 => ?_) (fun c20 => ?_)
                · have hF := o_t c20 hF
                  exact jX2_shunt_122 X hr hlocks hK hN hA z14 x3 v8 v9 hF H locs hP hD hS ls (lv_sub hl [3, 6, 2, 1] rfl)
                · have hF := o_f c20 hF
                  exact jX2_shunt_118 X hr hlocks hK hN hA z14 x3 v8 v9 hF H locs hP hD hS ls (lv_sub hl [3, 6, 2, 1] rfl)
        · have hF := o_f c10 hF
          refine lv_bipush (v := (-11)) hx hb dX2_shunt_53 (by decide) ?_
          obtain ⟨rfl, rfl⟩ := o_s hF
          exact rt_i X hr hlocks hP hD hS dX2_shunt_55
      · have hF := o_t c6 hF
        refine lv_iconst (v := (-1)) hx hb dX2_shunt_25 (by decide) ?_
        obtain ⟨rfl, rfl⟩ := o_s hF
        exact rt_i X hr hlocks hP hD hS dX2_shunt_26
end
section
def fX2_section (z0 : SM) (x1 : Int32) (x2 : Int32) (x3 : Int32) (x4 : Int32) : Option (Int32 × SM) := bd_ (fX2_isPlace z0 x1) (fun r1 z1 => (if r1 = 0 then some ((-1), z1) else bd_ (fX2_in z1 x2 0 2) (fun r3 z3 => (if r3 = 0 then some ((-1), z3) else bd_ (fX2_in z3 x3 0 100000) (fun r5 z5 => (if r5 = 0 then some ((-1), z5) else bd_ (fX2_in z5 x4 0 100000) (fun r7 z7 => (if r7 = 0 then some ((-1), z7) else if z7.2.2.2.2.2.2.1 < 0 ∨ 640 ≤ z7.2.2.2.2.2.2.1.toNatClampNeg then none else let_ ((setA z7.1 1 (upd (z7.1 1) z7.2.2.2.2.2.2.1.toNatClampNeg x2), z7.2) : SM) (fun z10 => if z10.2.2.2.2.2.2.1 < 0 ∨ 640 ≤ z10.2.2.2.2.2.2.1.toNatClampNeg then none else let_ ((setA z10.1 2 (upd (z10.1 2) z10.2.2.2.2.2.2.1.toNatClampNeg x3), z10.2) : SM) (fun z12 => if z12.2.2.2.2.2.2.1 < 0 ∨ 640 ≤ z12.2.2.2.2.2.2.1.toNatClampNeg then none else let_ ((setA z12.1 3 (upd (z12.1 3) z12.2.2.2.2.2.2.1.toNatClampNeg x4), z12.2) : SM) (fun z14 => if x1 < 0 ∨ 12 ≤ x1.toNatClampNeg then none else let_ ((z14.1, (upd z14.2.1 x1.toNatClampNeg z14.2.2.2.2.2.2.1), z14.2.2) : SM) (fun z16 => let_ ((z16.1, z16.2.1, z16.2.2.1, z16.2.2.2.1, z16.2.2.2.2.1, z16.2.2.2.2.2.1, (z16.2.2.2.2.2.2.1 + 1), z16.2.2.2.2.2.2.2) : SM) (fun z17 => some ((z17.2.2.2.2.2.2.1 - 1), z17))))))))))))))
set_option maxRecDepth 100000 in
set_option maxHeartbeats 4000000 in
theorem kX2_section (l : Launch) (G : va_G) (cy cyO : ClassId) (a : Nat → Nat) (z0 : SM) (x1 : Int32) (x2 : Int32) (x3 : Int32) (x4 : Int32) (r : Int32) (u : SM) (hF : fX2_section z0 x1 x2 x3 x4 = some (r, u)) : Ct l G (tys_ cy cyO) yX2_section wsX2_section ({ frames := 2, cells := 0, slots := 0, locals := 42 } : Room) [.ref (a 0), .int x1, .int x2, .int x3, .int x4] (mW a cy z0) (some (.int r)) (mW a cy u) := by
  unfold fX2_section at hF
  refine ct_of (cc := cX2_section) (maxL := 5) (ret := (some .int)) (own := RX2) (by decide) rfl (Nat.le_of_ble_eq_true rfl) rfl ?_
  intro p e s m below meth c A ls X hr hlocks _ hK hN hA hP hD hl
  have hS : va_S A s.heap s.heap [] := va_S.rf
  have hl : lv_has ls 5 [(0, .ref (a 0)), (1, .int x1), (2, .int x2), (3, .int x3), (4, .int x4)] := hl
  obtain ⟨hx, hb, hml, hown, hts⟩ := id X
  have hin2 : ∀ w ∈ wsX20, w ∈ wsX2_section := by decide +kernel
  refine lv_iload_n hx hb dX2_section_0 rfl (lv_at hl 1 rfl) ?_
  obtain ⟨r1, z1, hG1, hF⟩ := o_b hF
  refine cl_S (rest := []) X hK hN hA hP hD hS (kX2_isPlace l G cy cyO a z0 x1 r1 z1 hG1) (va_cwS 1 hts gX2_section_X2_isPlace rfl rfl rfl (by decide +kernel) ⟨Nat.le_of_ble_eq_true rfl, Nat.le_of_ble_eq_true rfl⟩) rfl hl.1 rfl (Nat.le_of_ble_eq_true rfl) dX2_section_1 ⟨Nat.zero_le _, Nat.zero_le _⟩ (fun H locs hP hD hS => ?_)
  refine W.eq (g2 := F0 m 4 ls [.int r1]) rfl ?_
  refine lv_if_eq (tgt := 37) hx hb dX2_section_4 (by decide) (fun c2 => ?_) (fun c2 => ?_)
  · have hF := o_t c2 hF
    refine lv_iconst (v := (-1)) hx hb dX2_section_37 (by decide) ?_
    obtain ⟨rfl, rfl⟩ := o_s hF
    exact rt_i X hr hlocks hP hD hS dX2_section_38
  · have hF := o_f c2 hF
    refine lv_iload_n hx hb dX2_section_7 rfl (lv_at hl 2 rfl) ?_
    refine lv_iconst (v := 0) hx hb dX2_section_8 (by decide) ?_
    refine lv_iconst (v := 2) hx hb dX2_section_9 (by decide) ?_
    obtain ⟨r3, z3, hG3, hF⟩ := o_b hF
    refine cl_S (rest := []) X hK hN hA hP hD hS (kX2_in l G cy cyO a z1 x2 0 2 r3 z3 hG3) (va_cwS 3 hts gX2_section_X2_in rfl rfl rfl (by decide +kernel) ⟨Nat.le_of_ble_eq_true rfl, Nat.le_of_ble_eq_true rfl⟩) rfl hl.1 rfl (Nat.le_of_ble_eq_true rfl) dX2_section_10 ⟨Nat.zero_le _, Nat.zero_le _⟩ (fun H locs hP hD hS => ?_)
    refine W.eq (g2 := F0 m 13 ls [.int r3]) rfl ?_
    refine lv_if_eq (tgt := 37) hx hb dX2_section_13 (by decide) (fun c4 => ?_) (fun c4 => ?_)
    · have hF := o_t c4 hF
      refine lv_iconst (v := (-1)) hx hb dX2_section_37 (by decide) ?_
      obtain ⟨rfl, rfl⟩ := o_s hF
      exact rt_i X hr hlocks hP hD hS dX2_section_38
    · have hF := o_f c4 hF
      refine lv_iload_n hx hb dX2_section_16 rfl (lv_at hl 3 rfl) ?_
      refine lv_iconst (v := 0) hx hb dX2_section_17 (by decide) ?_
      refine lv_ldc (v := 100000) hx hb hown (hts (.constant RX2 54 (100000)) (by decide +kernel)) dX2_section_18 ?_
      obtain ⟨r5, z5, hG5, hF⟩ := o_b hF
      refine cl_S (rest := []) X hK hN hA hP hD hS (kX2_in l G cy cyO a z3 x3 0 100000 r5 z5 hG5) (va_cwS 3 hts gX2_section_X2_in rfl rfl rfl (by decide +kernel) ⟨Nat.le_of_ble_eq_true rfl, Nat.le_of_ble_eq_true rfl⟩) rfl hl.1 rfl (Nat.le_of_ble_eq_true rfl) dX2_section_20 ⟨Nat.zero_le _, Nat.zero_le _⟩ (fun H locs hP hD hS => ?_)
      refine W.eq (g2 := F0 m 23 ls [.int r5]) rfl ?_
      refine lv_if_eq (tgt := 37) hx hb dX2_section_23 (by decide) (fun c6 => ?_) (fun c6 => ?_)
      · have hF := o_t c6 hF
        refine lv_iconst (v := (-1)) hx hb dX2_section_37 (by decide) ?_
        obtain ⟨rfl, rfl⟩ := o_s hF
        exact rt_i X hr hlocks hP hD hS dX2_section_38
      · have hF := o_f c6 hF
        refine lv_iload hx hb dX2_section_26 (lv_at hl 4 rfl) ?_
        refine lv_iconst (v := 0) hx hb dX2_section_28 (by decide) ?_
        refine lv_ldc (v := 100000) hx hb hown (hts (.constant RX2 54 (100000)) (by decide +kernel)) dX2_section_29 ?_
        obtain ⟨r7, z7, hG7, hF⟩ := o_b hF
        refine cl_S (rest := []) X hK hN hA hP hD hS (kX2_in l G cy cyO a z5 x4 0 100000 r7 z7 hG7) (va_cwS 3 hts gX2_section_X2_in rfl rfl rfl (by decide +kernel) ⟨Nat.le_of_ble_eq_true rfl, Nat.le_of_ble_eq_true rfl⟩) rfl hl.1 rfl (Nat.le_of_ble_eq_true rfl) dX2_section_31 ⟨Nat.zero_le _, Nat.zero_le _⟩ (fun H locs hP hD hS => ?_)
        refine W.eq (g2 := F0 m 34 ls [.int r7]) rfl ?_
        refine lv_if_ne (tgt := 39) hx hb dX2_section_34 (by decide) (fun c8 => ?_) (fun c8 => ?_)
        · have hF := o_f c8 hF
          refine lv_aload_n hx hb dX2_section_39 rfl (lv_at hl 0 rfl) ?_
          refine va_get (D := G) (ci := 2) (v := .ref (a 1)) (C := RX2) (T := TX2) (N := 18) hx hb hts hin2 hown hK hP 0 rfl rfl 1 (by decide) (hts (.fieldLink RX2 7 "SignalBoxModel" "kinds" "[I") (by decide +kernel)) (fun _ h9 => h9) rfl dX2_section_40 ?_
          refine lv_aload_n hx hb dX2_section_43 rfl (lv_at hl 0 rfl) ?_
          refine va_get (D := G) (ci := 2) (v := .int z7.2.2.2.2.2.2.1) (C := RX2) (T := TX2) (N := 18) hx hb hts hin2 hown hK hP 0 rfl rfl 0 (by decide) (hts (.fieldLink RX2 55 "SignalBoxModel" "made" "I") (by decide +kernel)) (fun _ h9 => h9) rfl dX2_section_44 ?_
          refine lv_iload_n hx hb dX2_section_47 rfl (lv_at hl 2 rfl) ?_
          obtain ⟨h9, hF⟩ := o_n hF
          refine va_iast (n := 640) (f := (z7.1 1)) (cA := cy) hx hb hK hP hD hS 1 0 rfl rfl h9 dX2_section_48 (fun H locs hP hD hS => ?_)
          obtain ⟨z10, e10, hF⟩ := o_l hF
          have hP : va_P G vwCl (mW a cy z10) H := by rw [e10]; exact hP
          have hD : va_D A (mW a cy z10) := by rw [e10]; exact hD
          refine lv_aload_n hx hb dX2_section_49 rfl (lv_at hl 0 rfl) ?_
          refine va_get (D := G) (ci := 2) (v := .ref (a 2)) (C := RX2) (T := TX2) (N := 18) hx hb hts hin2 hown hK hP 0 rfl rfl 2 (by decide) (hts (.fieldLink RX2 13 "SignalBoxModel" "limits" "[I") (by decide +kernel)) (fun _ h9 => h9) rfl dX2_section_50 ?_
          refine lv_aload_n hx hb dX2_section_53 rfl (lv_at hl 0 rfl) ?_
          refine va_get (D := G) (ci := 2) (v := .int z10.2.2.2.2.2.2.1) (C := RX2) (T := TX2) (N := 18) hx hb hts hin2 hown hK hP 0 rfl rfl 0 (by decide) (hts (.fieldLink RX2 55 "SignalBoxModel" "made" "I") (by decide +kernel)) (fun _ h9 => h9) rfl dX2_section_54 ?_
          refine lv_iload_n hx hb dX2_section_57 rfl (lv_at hl 3 rfl) ?_
          obtain ⟨h11, hF⟩ := o_n hF
          refine va_iast (n := 640) (f := (z10.1 2)) (cA := cy) hx hb hK hP hD hS 2 0 rfl rfl h11 dX2_section_58 (fun H locs hP hD hS => ?_)
          obtain ⟨z12, e12, hF⟩ := o_l hF
          have hP : va_P G vwCl (mW a cy z12) H := by rw [e12]; exact hP
          have hD : va_D A (mW a cy z12) := by rw [e12]; exact hD
          refine lv_aload_n hx hb dX2_section_59 rfl (lv_at hl 0 rfl) ?_
          refine va_get (D := G) (ci := 2) (v := .ref (a 3)) (C := RX2) (T := TX2) (N := 18) hx hb hts hin2 hown hK hP 0 rfl rfl 3 (by decide) (hts (.fieldLink RX2 16 "SignalBoxModel" "marks" "[I") (by decide +kernel)) (fun _ h9 => h9) rfl dX2_section_60 ?_
          refine lv_aload_n hx hb dX2_section_63 rfl (lv_at hl 0 rfl) ?_
          refine va_get (D := G) (ci := 2) (v := .int z12.2.2.2.2.2.2.1) (C := RX2) (T := TX2) (N := 18) hx hb hts hin2 hown hK hP 0 rfl rfl 0 (by decide) (hts (.fieldLink RX2 55 "SignalBoxModel" "made" "I") (by decide +kernel)) (fun _ h9 => h9) rfl dX2_section_64 ?_
          refine lv_iload hx hb dX2_section_67 (lv_at hl 4 rfl) ?_
          obtain ⟨h13, hF⟩ := o_n hF
          refine va_iast (n := 640) (f := (z12.1 3)) (cA := cy) hx hb hK hP hD hS 3 0 rfl rfl h13 dX2_section_69 (fun H locs hP hD hS => ?_)
          obtain ⟨z14, e14, hF⟩ := o_l hF
          have hP : va_P G vwCl (mW a cy z14) H := by rw [e14]; exact hP
          have hD : va_D A (mW a cy z14) := by rw [e14]; exact hD
          refine lv_aload_n hx hb dX2_section_70 rfl (lv_at hl 0 rfl) ?_
          refine va_get (D := G) (ci := 2) (v := .ref (a 9)) (C := RX2) (T := TX2) (N := 18) hx hb hts hin2 hown hK hP 0 rfl rfl 9 (by decide) (hts (.fieldLink RX2 34 "SignalBoxModel" "at" "[I") (by decide +kernel)) (fun _ h9 => h9) rfl dX2_section_71 ?_
          refine lv_iload_n hx hb dX2_section_74 rfl (lv_at hl 1 rfl) ?_
          refine lv_aload_n hx hb dX2_section_75 rfl (lv_at hl 0 rfl) ?_
          refine va_get (D := G) (ci := 2) (v := .int z14.2.2.2.2.2.2.1) (C := RX2) (T := TX2) (N := 18) hx hb hts hin2 hown hK hP 0 rfl rfl 0 (by decide) (hts (.fieldLink RX2 55 "SignalBoxModel" "made" "I") (by decide +kernel)) (fun _ h9 => h9) rfl dX2_section_76 ?_
          obtain ⟨h15, hF⟩ := o_n hF
          refine va_iast (n := 12) (f := z14.2.1) (cA := cy) hx hb hK hP hD hS 9 0 rfl rfl h15 dX2_section_79 (fun H locs hP hD hS => ?_)
          obtain ⟨z16, e16, hF⟩ := o_l hF
          have hP : va_P G vwCl (mW a cy z16) H := by rw [e16]; exact hP
          have hD : va_D A (mW a cy z16) := by rw [e16]; exact hD
          refine lv_aload_n hx hb dX2_section_80 rfl (lv_at hl 0 rfl) ?_
          refine lv_dup hx hb dX2_section_81 rfl ?_
          refine va_get (D := G) (ci := 2) (v := .int z16.2.2.2.2.2.2.1) (C := RX2) (T := TX2) (N := 18) hx hb hts hin2 hown hK hP 0 rfl rfl 0 (by decide) (hts (.fieldLink RX2 55 "SignalBoxModel" "made" "I") (by decide +kernel)) (fun _ h9 => h9) rfl dX2_section_82 ?_
          refine lv_iconst (v := 1) hx hb dX2_section_85 (by decide) ?_
          refine lv_iadd hx hb dX2_section_86 ?_
          refine va_put (D := G) (ci := 2) (v := .int (z16.2.2.2.2.2.2.1 + 1)) (ty := .int) (C := RX2) (T := TX2) (N := 18) hx hb hts hin2 tyX2 tyX2_ok nmX2 hown hK hP hD hS 0 rfl rfl 0 (by decide) (hts (.fieldLink RX2 55 "SignalBoxModel" "made" "I") (by decide +kernel)) (fun _ h9 => h9) rfl (by decide +kernel) rfl rfl (Nat.le_of_ble_eq_true rfl) dX2_section_87 (fun H locs hP hD hS => ?_)
          obtain ⟨z17, e17, hF⟩ := o_l hF
          have hP : va_P G vwCl (mW a cy z17) H := by rw [e17]; exact hP
          have hD : va_D A (mW a cy z17) := by rw [e17]; exact hD
          refine lv_aload_n hx hb dX2_section_90 rfl (lv_at hl 0 rfl) ?_
          refine va_get (D := G) (ci := 2) (v := .int z17.2.2.2.2.2.2.1) (C := RX2) (T := TX2) (N := 18) hx hb hts hin2 hown hK hP 0 rfl rfl 0 (by decide) (hts (.fieldLink RX2 55 "SignalBoxModel" "made" "I") (by decide +kernel)) (fun _ h9 => h9) rfl dX2_section_91 ?_
          refine lv_iconst (v := 1) hx hb dX2_section_94 (by decide) ?_
          refine lv_isub hx hb dX2_section_95 ?_
          obtain ⟨rfl, rfl⟩ := o_s hF
          exact rt_i X hr hlocks hP hD hS dX2_section_96
        · have hF := o_t c8 hF
          refine lv_iconst (v := (-1)) hx hb dX2_section_37 (by decide) ?_
          obtain ⟨rfl, rfl⟩ := o_s hF
          exact rt_i X hr hlocks hP hD hS dX2_section_38
def fX2_share (z0 : SM) (x1 : Int32) (x2 : Int32) : Option (Int32 × SM) := bd_ (fX2_isPlace z0 x1) (fun r1 z1 => (if r1 = 0 then some ((-1), z1) else bd_ (fX2_isPlace z1 x2) (fun r3 z3 => (if r3 = 0 then some ((-1), z3) else if x1 < 0 ∨ 12 ≤ x1.toNatClampNeg then none else let_ (z3.2.1 x1.toNatClampNeg) (fun v5 => if x2 < 0 ∨ 12 ≤ x2.toNatClampNeg then none else let_ ((z3.1, (upd z3.2.1 x2.toNatClampNeg v5), z3.2.2) : SM) (fun z7 => if x2 < 0 ∨ 12 ≤ x2.toNatClampNeg then none else let_ (z7.2.1 x2.toNatClampNeg) (fun v8 => (if 0 ≤ v8 then some (1, z7) else some (0, z7)))))))))
set_option maxRecDepth 100000 in
set_option maxHeartbeats 4000000 in
theorem kX2_share (l : Launch) (G : va_G) (cy cyO : ClassId) (a : Nat → Nat) (z0 : SM) (x1 : Int32) (x2 : Int32) (r : Int32) (u : SM) (hF : fX2_share z0 x1 x2 = some (r, u)) : Ct l G (tys_ cy cyO) yX2_share wsX2_share ({ frames := 2, cells := 0, slots := 0, locals := 42 } : Room) [.ref (a 0), .int x1, .int x2] (mW a cy z0) (some (.int r)) (mW a cy u) := by
  unfold fX2_share at hF
  refine ct_of (cc := cX2_share) (maxL := 3) (ret := (some .int)) (own := RX2) (by decide) rfl (Nat.le_of_ble_eq_true rfl) rfl ?_
  intro p e s m below meth c A ls X hr hlocks _ hK hN hA hP hD hl
  have hS : va_S A s.heap s.heap [] := va_S.rf
  have hl : lv_has ls 3 [(0, .ref (a 0)), (1, .int x1), (2, .int x2)] := hl
  obtain ⟨hx, hb, hml, hown, hts⟩ := id X
  have hin2 : ∀ w ∈ wsX20, w ∈ wsX2_share := by decide +kernel
  refine lv_iload_n hx hb dX2_share_0 rfl (lv_at hl 1 rfl) ?_
  obtain ⟨r1, z1, hG1, hF⟩ := o_b hF
  refine cl_S (rest := []) X hK hN hA hP hD hS (kX2_isPlace l G cy cyO a z0 x1 r1 z1 hG1) (va_cwS 1 hts gX2_share_X2_isPlace rfl rfl rfl (by decide +kernel) ⟨Nat.le_of_ble_eq_true rfl, Nat.le_of_ble_eq_true rfl⟩) rfl hl.1 rfl (Nat.le_of_ble_eq_true rfl) dX2_share_1 ⟨Nat.zero_le _, Nat.zero_le _⟩ (fun H locs hP hD hS => ?_)
  refine W.eq (g2 := F0 m 4 ls [.int r1]) rfl ?_
  refine lv_if_eq (tgt := 14) hx hb dX2_share_4 (by decide) (fun c2 => ?_) (fun c2 => ?_)
  · have hF := o_t c2 hF
    refine lv_iconst (v := (-1)) hx hb dX2_share_14 (by decide) ?_
    obtain ⟨rfl, rfl⟩ := o_s hF
    exact rt_i X hr hlocks hP hD hS dX2_share_15
  · have hF := o_f c2 hF
    refine lv_iload_n hx hb dX2_share_7 rfl (lv_at hl 2 rfl) ?_
    obtain ⟨r3, z3, hG3, hF⟩ := o_b hF
    refine cl_S (rest := []) X hK hN hA hP hD hS (kX2_isPlace l G cy cyO a z1 x2 r3 z3 hG3) (va_cwS 1 hts gX2_share_X2_isPlace rfl rfl rfl (by decide +kernel) ⟨Nat.le_of_ble_eq_true rfl, Nat.le_of_ble_eq_true rfl⟩) rfl hl.1 rfl (Nat.le_of_ble_eq_true rfl) dX2_share_8 ⟨Nat.zero_le _, Nat.zero_le _⟩ (fun H locs hP hD hS => ?_)
    refine W.eq (g2 := F0 m 11 ls [.int r3]) rfl ?_
    refine lv_if_ne (tgt := 16) hx hb dX2_share_11 (by decide) (fun c4 => ?_) (fun c4 => ?_)
    · have hF := o_f c4 hF
      refine lv_aload_n hx hb dX2_share_16 rfl (lv_at hl 0 rfl) ?_
      refine va_get (D := G) (ci := 2) (v := .ref (a 9)) (C := RX2) (T := TX2) (N := 18) hx hb hts hin2 hown hK hP 0 rfl rfl 9 (by decide) (hts (.fieldLink RX2 34 "SignalBoxModel" "at" "[I") (by decide +kernel)) (fun _ h9 => h9) rfl dX2_share_17 ?_
      refine lv_iload_n hx hb dX2_share_20 rfl (lv_at hl 2 rfl) ?_
      refine lv_aload_n hx hb dX2_share_21 rfl (lv_at hl 0 rfl) ?_
      refine va_get (D := G) (ci := 2) (v := .ref (a 9)) (C := RX2) (T := TX2) (N := 18) hx hb hts hin2 hown hK hP 0 rfl rfl 9 (by decide) (hts (.fieldLink RX2 34 "SignalBoxModel" "at" "[I") (by decide +kernel)) (fun _ h9 => h9) rfl dX2_share_22 ?_
      refine lv_iload_n hx hb dX2_share_25 rfl (lv_at hl 1 rfl) ?_
      obtain ⟨h5, hF⟩ := o_n hF
      refine va_iald (n := 12) (f := z3.2.1) (cA := cy) hx hb hK hP 9 0 rfl rfl h5 dX2_share_26 ?_
      obtain ⟨v5, e5, hF⟩ := o_l hF
      refine w_top e5 ?_
      obtain ⟨h6, hF⟩ := o_n hF
      refine va_iast (n := 12) (f := z3.2.1) (cA := cy) hx hb hK hP hD hS 9 0 rfl rfl h6 dX2_share_27 (fun H locs hP hD hS => ?_)
      obtain ⟨z7, e7, hF⟩ := o_l hF
      have hP : va_P G vwCl (mW a cy z7) H := by rw [e7]; exact hP
      have hD : va_D A (mW a cy z7) := by rw [e7]; exact hD
      refine lv_aload_n hx hb dX2_share_28 rfl (lv_at hl 0 rfl) ?_
      refine va_get (D := G) (ci := 2) (v := .ref (a 9)) (C := RX2) (T := TX2) (N := 18) hx hb hts hin2 hown hK hP 0 rfl rfl 9 (by decide) (hts (.fieldLink RX2 34 "SignalBoxModel" "at" "[I") (by decide +kernel)) (fun _ h9 => h9) rfl dX2_share_29 ?_
      refine lv_iload_n hx hb dX2_share_32 rfl (lv_at hl 2 rfl) ?_
      obtain ⟨h8, hF⟩ := o_n hF
      refine va_iald (n := 12) (f := z7.2.1) (cA := cy) hx hb hK hP 9 0 rfl rfl h8 dX2_share_33 ?_
      obtain ⟨v8, e8, hF⟩ := o_l hF
      refine w_top e8 ?_
      refine lv_if_ge (tgt := 41) hx hb dX2_share_34 (by decide) (fun c9 => ?_) (fun c9 => ?_)
      · have hF := o_t c9 hF
        refine lv_iconst (v := 1) hx hb dX2_share_41 (by decide) ?_
        obtain ⟨rfl, rfl⟩ := o_s hF
        exact rt_i X hr hlocks hP hD hS dX2_share_42
      · have hF := o_f c9 hF
        refine lv_iconst (v := 0) hx hb dX2_share_37 (by decide) ?_
        refine lv_goto (tgt := 42) hx hb dX2_share_38 (by decide) ?_
        obtain ⟨rfl, rfl⟩ := o_s hF
        exact rt_i X hr hlocks hP hD hS dX2_share_42
    · have hF := o_t c4 hF
      refine lv_iconst (v := (-1)) hx hb dX2_share_14 (by decide) ?_
      obtain ⟨rfl, rfl⟩ := o_s hF
      exact rt_i X hr hlocks hP hD hS dX2_share_15
def fX2_remove_j23 (z0 : SM) (y1 : Int32) (t0 : Int32) : Option (Int32 × SM) := if y1 < 0 ∨ 12 ≤ y1.toNatClampNeg then none else let_ ((z0.1, (upd z0.2.1 y1.toNatClampNeg (-1)), z0.2.2) : SM) (fun z2 => some (t0, z2))
set_option maxRecDepth 100000 in
set_option maxHeartbeats 4000000 in
theorem jX2_remove_23 {p : Program} {l : Launch} {e : Env} {s : State} {m : MethodId} {args : Array Value} {below : List Frame} {meth : Method} {c : Code} {G : va_G} {cy cyO : ClassId} {a : Nat → Nat} {A : Nat → Prop} {r : Int32} {u : SM} (X : CallFix p m c cX2_remove 3 s args wsX2_remove RX2) (hr : meth.sig.returnType = (some .int)) (hlocks : meth.locks = false) (hK : va_K G vwCl (tys_ cy cyO) s) (hN : nw s) (hA : ∀ q, s.heap.size ≤ q → A q) : ∀ (z0 : SM) (y1 : Int32) (t0 : Int32), fX2_remove_j23 z0 y1 t0 = some (r, u) → ∀ (H : Heap) (locs : List Loc), va_P G vwCl (mW a cy z0) H → va_D A (mW a cy z0) → va_S A s.heap H locs → ∀ (ls : Array Slot), lv_has ls 3 [(0, .ref (a 0)), (1, .int y1)] → W p l e ({ frames := 2, cells := 0, slots := 0, locals := 42 } : Room) s m args below meth c H locs 0 0 (MQ below (qg (some (.int r)) (fun t => wPost G A (mW a cy u) t) A) args s 0 0 A) (F0 m 23 ls [.int t0]) := by
  obtain ⟨hx, hb, hml, hown, hts⟩ := id X
  have hin2 : ∀ w ∈ wsX20, w ∈ wsX2_remove := by decide +kernel
  intro z0 y1 t0 hF H locs hP hD hS ls hl
  unfold fX2_remove_j23 at hF
  refine lv_istore_n (lv' := [(2, .int t0), (0, .ref (a 0)), (1, .int y1)]) hx hb dX2_remove_23 rfl hl (by decide) rfl (fun ls hl => ?_)
  refine lv_aload_n hx hb dX2_remove_24 rfl (lv_at hl 1 rfl) ?_
  refine va_get (D := G) (ci := 2) (v := .ref (a 9)) (C := RX2) (T := TX2) (N := 18) hx hb hts hin2 hown hK hP 0 rfl rfl 9 (by decide) (hts (.fieldLink RX2 34 "SignalBoxModel" "at" "[I") (by decide +kernel)) (fun _ h9 => h9) rfl dX2_remove_25 ?_
  refine lv_iload_n hx hb dX2_remove_28 rfl (lv_at hl 2 rfl) ?_
  refine lv_iconst (v := (-1)) hx hb dX2_remove_29 (by decide) ?_
  obtain ⟨h1, hF⟩ := o_n hF
  refine va_iast (n := 12) (f := z0.2.1) (cA := cy) hx hb hK hP hD hS 9 0 rfl rfl h1 dX2_remove_30 (fun H locs hP hD hS => ?_)
  obtain ⟨z2, e2, hF⟩ := o_l hF
  have hP : va_P G vwCl (mW a cy z2) H := by rw [e2]; exact hP
  have hD : va_D A (mW a cy z2) := by rw [e2]; exact hD
  refine lv_iload_n hx hb dX2_remove_31 rfl (lv_at hl 0 rfl) ?_
  obtain ⟨rfl, rfl⟩ := o_s hF
  exact rt_i X hr hlocks hP hD hS dX2_remove_32
def fX2_remove (z0 : SM) (x1 : Int32) : Option (Int32 × SM) := bd_ (fX2_isPlace z0 x1) (fun r1 z1 => (if r1 = 0 then some ((-1), z1) else if x1 < 0 ∨ 12 ≤ x1.toNatClampNeg then none else let_ (z1.2.1 x1.toNatClampNeg) (fun v3 => (if 0 ≤ v3 then (fX2_remove_j23 z1 x1 1) else (fX2_remove_j23 z1 x1 0)))))
set_option maxRecDepth 100000 in
set_option maxHeartbeats 4000000 in
theorem kX2_remove (l : Launch) (G : va_G) (cy cyO : ClassId) (a : Nat → Nat) (z0 : SM) (x1 : Int32) (r : Int32) (u : SM) (hF : fX2_remove z0 x1 = some (r, u)) : Ct l G (tys_ cy cyO) yX2_remove wsX2_remove ({ frames := 2, cells := 0, slots := 0, locals := 42 } : Room) [.ref (a 0), .int x1] (mW a cy z0) (some (.int r)) (mW a cy u) := by
  unfold fX2_remove at hF
  refine ct_of (cc := cX2_remove) (maxL := 3) (ret := (some .int)) (own := RX2) (by decide) rfl (Nat.le_of_ble_eq_true rfl) rfl ?_
  intro p e s m below meth c A ls X hr hlocks _ hK hN hA hP hD hl
  have hS : va_S A s.heap s.heap [] := va_S.rf
  have hl : lv_has ls 3 [(0, .ref (a 0)), (1, .int x1)] := hl
  obtain ⟨hx, hb, hml, hown, hts⟩ := id X
  have hin2 : ∀ w ∈ wsX20, w ∈ wsX2_remove := by decide +kernel
  refine lv_iload_n hx hb dX2_remove_0 rfl (lv_at hl 1 rfl) ?_
  obtain ⟨r1, z1, hG1, hF⟩ := o_b hF
  refine cl_S (rest := []) X hK hN hA hP hD hS (kX2_isPlace l G cy cyO a z0 x1 r1 z1 hG1) (va_cwS 1 hts gX2_remove_X2_isPlace rfl rfl rfl (by decide +kernel) ⟨Nat.le_of_ble_eq_true rfl, Nat.le_of_ble_eq_true rfl⟩) rfl hl.1 rfl (Nat.le_of_ble_eq_true rfl) dX2_remove_1 ⟨Nat.zero_le _, Nat.zero_le _⟩ (fun H locs hP hD hS => ?_)
  refine W.eq (g2 := F0 m 4 ls [.int r1]) rfl ?_
  refine lv_if_ne (tgt := 9) hx hb dX2_remove_4 (by decide) (fun c2 => ?_) (fun c2 => ?_)
  · have hF := o_f c2 hF
    refine lv_aload_n hx hb dX2_remove_9 rfl (lv_at hl 0 rfl) ?_
    refine va_get (D := G) (ci := 2) (v := .ref (a 9)) (C := RX2) (T := TX2) (N := 18) hx hb hts hin2 hown hK hP 0 rfl rfl 9 (by decide) (hts (.fieldLink RX2 34 "SignalBoxModel" "at" "[I") (by decide +kernel)) (fun _ h9 => h9) rfl dX2_remove_10 ?_
    refine lv_iload_n hx hb dX2_remove_13 rfl (lv_at hl 1 rfl) ?_
    obtain ⟨h3, hF⟩ := o_n hF
    refine va_iald (n := 12) (f := z1.2.1) (cA := cy) hx hb hK hP 9 0 rfl rfl h3 dX2_remove_14 ?_
    obtain ⟨v3, e3, hF⟩ := o_l hF
    refine w_top e3 ?_
    refine lv_if_ge (tgt := 22) hx hb dX2_remove_15 (by decide) (fun c4 => ?_) (fun c4 => ?_)
    · have hF := o_t c4 hF
      refine lv_iconst (v := 1) hx hb dX2_remove_22 (by decide) ?_
      exact jX2_remove_23 X hr hlocks hK hN hA z1 x1 1 hF H locs hP hD hS ls (lv_sub hl [0, 1] rfl)
    · have hF := o_f c4 hF
      refine lv_iconst (v := 0) hx hb dX2_remove_18 (by decide) ?_
      refine lv_goto (tgt := 23) hx hb dX2_remove_19 (by decide) ?_
      exact jX2_remove_23 X hr hlocks hK hN hA z1 x1 0 hF H locs hP hD hS ls (lv_sub hl [0, 1] rfl)
  · have hF := o_t c2 hF
    refine lv_iconst (v := (-1)) hx hb dX2_remove_7 (by decide) ?_
    obtain ⟨rfl, rfl⟩ := o_s hF
    exact rt_i X hr hlocks hP hD hS dX2_remove_8
def fX2_same (z0 : SM) (x1 : Int32) (x2 : Int32) : Option (Int32 × SM) := bd_ (fX2_isPlace z0 x1) (fun r1 z1 => (if r1 = 0 then some ((-1), z1) else bd_ (fX2_isPlace z1 x2) (fun r3 z3 => (if r3 = 0 then some ((-1), z3) else if x1 < 0 ∨ 12 ≤ x1.toNatClampNeg then none else let_ (z3.2.1 x1.toNatClampNeg) (fun v5 => if x2 < 0 ∨ 12 ≤ x2.toNatClampNeg then none else let_ (z3.2.1 x2.toNatClampNeg) (fun v6 => (if v5 = v6 then some (1, z3) else some (0, z3))))))))
set_option maxRecDepth 100000 in
set_option maxHeartbeats 4000000 in
theorem kX2_same (l : Launch) (G : va_G) (cy cyO : ClassId) (a : Nat → Nat) (z0 : SM) (x1 : Int32) (x2 : Int32) (r : Int32) (u : SM) (hF : fX2_same z0 x1 x2 = some (r, u)) : Ct l G (tys_ cy cyO) yX2_same wsX2_same ({ frames := 2, cells := 0, slots := 0, locals := 42 } : Room) [.ref (a 0), .int x1, .int x2] (mW a cy z0) (some (.int r)) (mW a cy u) := by
  unfold fX2_same at hF
  refine ct_of (cc := cX2_same) (maxL := 3) (ret := (some .int)) (own := RX2) (by decide) rfl (Nat.le_of_ble_eq_true rfl) rfl ?_
  intro p e s m below meth c A ls X hr hlocks _ hK hN hA hP hD hl
  have hS : va_S A s.heap s.heap [] := va_S.rf
  have hl : lv_has ls 3 [(0, .ref (a 0)), (1, .int x1), (2, .int x2)] := hl
  obtain ⟨hx, hb, hml, hown, hts⟩ := id X
  have hin2 : ∀ w ∈ wsX20, w ∈ wsX2_same := by decide +kernel
  refine lv_iload_n hx hb dX2_same_0 rfl (lv_at hl 1 rfl) ?_
  obtain ⟨r1, z1, hG1, hF⟩ := o_b hF
  refine cl_S (rest := []) X hK hN hA hP hD hS (kX2_isPlace l G cy cyO a z0 x1 r1 z1 hG1) (va_cwS 1 hts gX2_same_X2_isPlace rfl rfl rfl (by decide +kernel) ⟨Nat.le_of_ble_eq_true rfl, Nat.le_of_ble_eq_true rfl⟩) rfl hl.1 rfl (Nat.le_of_ble_eq_true rfl) dX2_same_1 ⟨Nat.zero_le _, Nat.zero_le _⟩ (fun H locs hP hD hS => ?_)
  refine W.eq (g2 := F0 m 4 ls [.int r1]) rfl ?_
  refine lv_if_eq (tgt := 14) hx hb dX2_same_4 (by decide) (fun c2 => ?_) (fun c2 => ?_)
  · have hF := o_t c2 hF
    refine lv_iconst (v := (-1)) hx hb dX2_same_14 (by decide) ?_
    refine lv_goto (tgt := 38) hx hb dX2_same_15 (by decide) ?_
    obtain ⟨rfl, rfl⟩ := o_s hF
    exact rt_i X hr hlocks hP hD hS dX2_same_38
  · have hF := o_f c2 hF
    refine lv_iload_n hx hb dX2_same_7 rfl (lv_at hl 2 rfl) ?_
    obtain ⟨r3, z3, hG3, hF⟩ := o_b hF
    refine cl_S (rest := []) X hK hN hA hP hD hS (kX2_isPlace l G cy cyO a z1 x2 r3 z3 hG3) (va_cwS 1 hts gX2_same_X2_isPlace rfl rfl rfl (by decide +kernel) ⟨Nat.le_of_ble_eq_true rfl, Nat.le_of_ble_eq_true rfl⟩) rfl hl.1 rfl (Nat.le_of_ble_eq_true rfl) dX2_same_8 ⟨Nat.zero_le _, Nat.zero_le _⟩ (fun H locs hP hD hS => ?_)
    refine W.eq (g2 := F0 m 11 ls [.int r3]) rfl ?_
    refine lv_if_ne (tgt := 18) hx hb dX2_same_11 (by decide) (fun c4 => ?_) (fun c4 => ?_)
    · have hF := o_f c4 hF
      refine lv_aload_n hx hb dX2_same_18 rfl (lv_at hl 0 rfl) ?_
      refine va_get (D := G) (ci := 2) (v := .ref (a 9)) (C := RX2) (T := TX2) (N := 18) hx hb hts hin2 hown hK hP 0 rfl rfl 9 (by decide) (hts (.fieldLink RX2 34 "SignalBoxModel" "at" "[I") (by decide +kernel)) (fun _ h9 => h9) rfl dX2_same_19 ?_
      refine lv_iload_n hx hb dX2_same_22 rfl (lv_at hl 1 rfl) ?_
      obtain ⟨h5, hF⟩ := o_n hF
      refine va_iald (n := 12) (f := z3.2.1) (cA := cy) hx hb hK hP 9 0 rfl rfl h5 dX2_same_23 ?_
      obtain ⟨v5, e5, hF⟩ := o_l hF
      refine w_top e5 ?_
      refine lv_aload_n hx hb dX2_same_24 rfl (lv_at hl 0 rfl) ?_
      refine va_get (D := G) (ci := 2) (v := .ref (a 9)) (C := RX2) (T := TX2) (N := 18) hx hb hts hin2 hown hK hP 0 rfl rfl 9 (by decide) (hts (.fieldLink RX2 34 "SignalBoxModel" "at" "[I") (by decide +kernel)) (fun _ h9 => h9) rfl dX2_same_25 ?_
      refine lv_iload_n hx hb dX2_same_28 rfl (lv_at hl 2 rfl) ?_
      obtain ⟨h6, hF⟩ := o_n hF
      refine va_iald (n := 12) (f := z3.2.1) (cA := cy) hx hb hK hP 9 0 rfl rfl h6 dX2_same_29 ?_
      obtain ⟨v6, e6, hF⟩ := o_l hF
      refine w_top e6 ?_
      refine lv_icmp_ne (tgt := 37) hx hb dX2_same_30 (by decide) (fun c7 => ?_) (fun c7 => ?_)
      · have hF := o_f c7 hF
        refine lv_iconst (v := 0) hx hb dX2_same_37 (by decide) ?_
        obtain ⟨rfl, rfl⟩ := o_s hF
        exact rt_i X hr hlocks hP hD hS dX2_same_38
      · have hF := o_t c7 hF
        refine lv_iconst (v := 1) hx hb dX2_same_33 (by decide) ?_
        refine lv_goto (tgt := 38) hx hb dX2_same_34 (by decide) ?_
        obtain ⟨rfl, rfl⟩ := o_s hF
        exact rt_i X hr hlocks hP hD hS dX2_same_38
    · have hF := o_t c4 hF
      refine lv_iconst (v := (-1)) hx hb dX2_same_14 (by decide) ?_
      refine lv_goto (tgt := 38) hx hb dX2_same_15 (by decide) ?_
      obtain ⟨rfl, rfl⟩ := o_s hF
      exact rt_i X hr hlocks hP hD hS dX2_same_38
def fX2_lead (z0 : SM) (x1 : Int32) (x2 : Int32) : Option (Int32 × SM) := bd_ (fX2_isRoute z0 x1) (fun r1 z1 => (if r1 = 0 then some ((-1), z1) else bd_ (fX2_isPlace z1 x2) (fun r3 z3 => (if r3 = 0 then some ((-1), z3) else if x1 < 0 ∨ 6 ≤ x1.toNatClampNeg then none else let_ (z3.2.2.2.1 x1.toNatClampNeg) (fun v5 => (if v5 = 8 then some ((-2), z3) else if x1 < 0 ∨ 6 ≤ x1.toNatClampNeg then none else let_ (z3.2.2.2.1 x1.toNatClampNeg) (fun v7 => if ((8 * x1) + v7) < 0 ∨ 48 ≤ ((8 * x1) + v7).toNatClampNeg then none else let_ ((z3.1, z3.2.1, (upd z3.2.2.1 ((8 * x1) + v7).toNatClampNeg x2), z3.2.2.2) : SM) (fun z9 => if x1 < 0 ∨ 6 ≤ x1.toNatClampNeg then none else let_ (z9.2.2.2.1 x1.toNatClampNeg) (fun v10 => if x1 < 0 ∨ 6 ≤ x1.toNatClampNeg then none else let_ ((z9.1, z9.2.1, z9.2.2.1, (upd z9.2.2.2.1 x1.toNatClampNeg (v10 + 1)), z9.2.2.2.2) : SM) (fun z12 => if x1 < 0 ∨ 6 ≤ x1.toNatClampNeg then none else let_ (z12.2.2.2.1 x1.toNatClampNeg) (fun v13 => some (v13, z12))))))))))))
set_option maxRecDepth 100000 in
set_option maxHeartbeats 4000000 in
theorem kX2_lead (l : Launch) (G : va_G) (cy cyO : ClassId) (a : Nat → Nat) (z0 : SM) (x1 : Int32) (x2 : Int32) (r : Int32) (u : SM) (hF : fX2_lead z0 x1 x2 = some (r, u)) : Ct l G (tys_ cy cyO) yX2_lead wsX2_lead ({ frames := 2, cells := 0, slots := 0, locals := 42 } : Room) [.ref (a 0), .int x1, .int x2] (mW a cy z0) (some (.int r)) (mW a cy u) := by
  unfold fX2_lead at hF
  refine ct_of (cc := cX2_lead) (maxL := 3) (ret := (some .int)) (own := RX2) (by decide) rfl (Nat.le_of_ble_eq_true rfl) rfl ?_
  intro p e s m below meth c A ls X hr hlocks _ hK hN hA hP hD hl
  have hS : va_S A s.heap s.heap [] := va_S.rf
  have hl : lv_has ls 3 [(0, .ref (a 0)), (1, .int x1), (2, .int x2)] := hl
  obtain ⟨hx, hb, hml, hown, hts⟩ := id X
  have hin2 : ∀ w ∈ wsX20, w ∈ wsX2_lead := by decide +kernel
  refine lv_iload_n hx hb dX2_lead_0 rfl (lv_at hl 1 rfl) ?_
  obtain ⟨r1, z1, hG1, hF⟩ := o_b hF
  refine cl_S (rest := []) X hK hN hA hP hD hS (kX2_isRoute l G cy cyO a z0 x1 r1 z1 hG1) (va_cwS 1 hts gX2_lead_X2_isRoute rfl rfl rfl (by decide +kernel) ⟨Nat.le_of_ble_eq_true rfl, Nat.le_of_ble_eq_true rfl⟩) rfl hl.1 rfl (Nat.le_of_ble_eq_true rfl) dX2_lead_1 ⟨Nat.zero_le _, Nat.zero_le _⟩ (fun H locs hP hD hS => ?_)
  refine W.eq (g2 := F0 m 4 ls [.int r1]) rfl ?_
  refine lv_if_eq (tgt := 14) hx hb dX2_lead_4 (by decide) (fun c2 => ?_) (fun c2 => ?_)
  · have hF := o_t c2 hF
    refine lv_iconst (v := (-1)) hx hb dX2_lead_14 (by decide) ?_
    obtain ⟨rfl, rfl⟩ := o_s hF
    exact rt_i X hr hlocks hP hD hS dX2_lead_15
  · have hF := o_f c2 hF
    refine lv_iload_n hx hb dX2_lead_7 rfl (lv_at hl 2 rfl) ?_
    obtain ⟨r3, z3, hG3, hF⟩ := o_b hF
    refine cl_S (rest := []) X hK hN hA hP hD hS (kX2_isPlace l G cy cyO a z1 x2 r3 z3 hG3) (va_cwS 1 hts gX2_lead_X2_isPlace rfl rfl rfl (by decide +kernel) ⟨Nat.le_of_ble_eq_true rfl, Nat.le_of_ble_eq_true rfl⟩) rfl hl.1 rfl (Nat.le_of_ble_eq_true rfl) dX2_lead_8 ⟨Nat.zero_le _, Nat.zero_le _⟩ (fun H locs hP hD hS => ?_)
    refine W.eq (g2 := F0 m 11 ls [.int r3]) rfl ?_
    refine lv_if_ne (tgt := 16) hx hb dX2_lead_11 (by decide) (fun c4 => ?_) (fun c4 => ?_)
    · have hF := o_f c4 hF
      refine lv_aload_n hx hb dX2_lead_16 rfl (lv_at hl 0 rfl) ?_
      refine va_get (D := G) (ci := 2) (v := .ref (a 11)) (C := RX2) (T := TX2) (N := 18) hx hb hts hin2 hown hK hP 0 rfl rfl 11 (by decide) (hts (.fieldLink RX2 40 "SignalBoxModel" "lengths" "[I") (by decide +kernel)) (fun _ h9 => h9) rfl dX2_lead_17 ?_
      refine lv_iload_n hx hb dX2_lead_20 rfl (lv_at hl 1 rfl) ?_
      obtain ⟨h5, hF⟩ := o_n hF
      refine va_iald (n := 6) (f := z3.2.2.2.1) (cA := cy) hx hb hK hP 11 0 rfl rfl h5 dX2_lead_21 ?_
      obtain ⟨v5, e5, hF⟩ := o_l hF
      refine w_top e5 ?_
      refine lv_bipush (v := 8) hx hb dX2_lead_22 (by decide) ?_
      refine lv_icmp_ne (tgt := 30) hx hb dX2_lead_24 (by decide) (fun c6 => ?_) (fun c6 => ?_)
      · have hF := o_f c6 hF
        refine lv_aload_n hx hb dX2_lead_30 rfl (lv_at hl 0 rfl) ?_
        refine va_get (D := G) (ci := 2) (v := .ref (a 10)) (C := RX2) (T := TX2) (N := 18) hx hb hts hin2 hown hK hP 0 rfl rfl 10 (by decide) (hts (.fieldLink RX2 37 "SignalBoxModel" "routes" "[I") (by decide +kernel)) (fun _ h9 => h9) rfl dX2_lead_31 ?_
        refine lv_bipush (v := 8) hx hb dX2_lead_34 (by decide) ?_
        refine lv_iload_n hx hb dX2_lead_36 rfl (lv_at hl 1 rfl) ?_
        refine lv_imul hx hb dX2_lead_37 ?_
        refine lv_aload_n hx hb dX2_lead_38 rfl (lv_at hl 0 rfl) ?_
        refine va_get (D := G) (ci := 2) (v := .ref (a 11)) (C := RX2) (T := TX2) (N := 18) hx hb hts hin2 hown hK hP 0 rfl rfl 11 (by decide) (hts (.fieldLink RX2 40 "SignalBoxModel" "lengths" "[I") (by decide +kernel)) (fun _ h9 => h9) rfl dX2_lead_39 ?_
        refine lv_iload_n hx hb dX2_lead_42 rfl (lv_at hl 1 rfl) ?_
        obtain ⟨h7, hF⟩ := o_n hF
        refine va_iald (n := 6) (f := z3.2.2.2.1) (cA := cy) hx hb hK hP 11 0 rfl rfl h7 dX2_lead_43 ?_
        obtain ⟨v7, e7, hF⟩ := o_l hF
        refine w_top e7 ?_
        refine lv_iadd hx hb dX2_lead_44 ?_
        refine lv_iload_n hx hb dX2_lead_45 rfl (lv_at hl 2 rfl) ?_
        obtain ⟨h8, hF⟩ := o_n hF
        refine va_iast (n := 48) (f := z3.2.2.1) (cA := cy) hx hb hK hP hD hS 10 0 rfl rfl h8 dX2_lead_46 (fun H locs hP hD hS => ?_)
        obtain ⟨z9, e9, hF⟩ := o_l hF
        have hP : va_P G vwCl (mW a cy z9) H := by rw [e9]; exact hP
        have hD : va_D A (mW a cy z9) := by rw [e9]; exact hD
        refine lv_aload_n hx hb dX2_lead_47 rfl (lv_at hl 0 rfl) ?_
        refine va_get (D := G) (ci := 2) (v := .ref (a 11)) (C := RX2) (T := TX2) (N := 18) hx hb hts hin2 hown hK hP 0 rfl rfl 11 (by decide) (hts (.fieldLink RX2 40 "SignalBoxModel" "lengths" "[I") (by decide +kernel)) (fun _ h9 => h9) rfl dX2_lead_48 ?_
        refine lv_iload_n hx hb dX2_lead_51 rfl (lv_at hl 1 rfl) ?_
        refine lv_dup2_11 hx hb dX2_lead_52 rfl rfl ?_
        obtain ⟨h10, hF⟩ := o_n hF
        refine va_iald (n := 6) (f := z9.2.2.2.1) (cA := cy) hx hb hK hP 11 0 rfl rfl h10 dX2_lead_53 ?_
        obtain ⟨v10, e10, hF⟩ := o_l hF
        refine w_top e10 ?_
        refine lv_iconst (v := 1) hx hb dX2_lead_54 (by decide) ?_
        refine lv_iadd hx hb dX2_lead_55 ?_
        obtain ⟨h11, hF⟩ := o_n hF
        refine va_iast (n := 6) (f := z9.2.2.2.1) (cA := cy) hx hb hK hP hD hS 11 0 rfl rfl h11 dX2_lead_56 (fun H locs hP hD hS => ?_)
        obtain ⟨z12, e12, hF⟩ := o_l hF
        have hP : va_P G vwCl (mW a cy z12) H := by rw [e12]; exact hP
        have hD : va_D A (mW a cy z12) := by rw [e12]; exact hD
        refine lv_aload_n hx hb dX2_lead_57 rfl (lv_at hl 0 rfl) ?_
        refine va_get (D := G) (ci := 2) (v := .ref (a 11)) (C := RX2) (T := TX2) (N := 18) hx hb hts hin2 hown hK hP 0 rfl rfl 11 (by decide) (hts (.fieldLink RX2 40 "SignalBoxModel" "lengths" "[I") (by decide +kernel)) (fun _ h9 => h9) rfl dX2_lead_58 ?_
        refine lv_iload_n hx hb dX2_lead_61 rfl (lv_at hl 1 rfl) ?_
        obtain ⟨h13, hF⟩ := o_n hF
        refine va_iald (n := 6) (f := z12.2.2.2.1) (cA := cy) hx hb hK hP 11 0 rfl rfl h13 dX2_lead_62 ?_
        obtain ⟨v13, e13, hF⟩ := o_l hF
        refine w_top e13 ?_
        obtain ⟨rfl, rfl⟩ := o_s hF
        exact rt_i X hr hlocks hP hD hS dX2_lead_63
      · have hF := o_t c6 hF
        refine lv_bipush (v := (-2)) hx hb dX2_lead_27 (by decide) ?_
        obtain ⟨rfl, rfl⟩ := o_s hF
        exact rt_i X hr hlocks hP hD hS dX2_lead_29
    · have hF := o_t c4 hF
      refine lv_iconst (v := (-1)) hx hb dX2_lead_14 (by decide) ?_
      obtain ⟨rfl, rfl⟩ := o_s hF
      exact rt_i X hr hlocks hP hD hS dX2_lead_15
def fX2_unlead (z0 : SM) (x1 : Int32) : Option (Int32 × SM) := bd_ (fX2_isRoute z0 x1) (fun r1 z1 => (if r1 = 0 then some ((-1), z1) else if x1 < 0 ∨ 6 ≤ x1.toNatClampNeg then none else let_ (z1.2.2.2.1 x1.toNatClampNeg) (fun v3 => if x1 < 0 ∨ 6 ≤ x1.toNatClampNeg then none else let_ ((z1.1, z1.2.1, z1.2.2.1, (upd z1.2.2.2.1 x1.toNatClampNeg 0), z1.2.2.2.2) : SM) (fun z5 => some (v3, z5)))))
set_option maxRecDepth 100000 in
set_option maxHeartbeats 4000000 in
theorem kX2_unlead (l : Launch) (G : va_G) (cy cyO : ClassId) (a : Nat → Nat) (z0 : SM) (x1 : Int32) (r : Int32) (u : SM) (hF : fX2_unlead z0 x1 = some (r, u)) : Ct l G (tys_ cy cyO) yX2_unlead wsX2_unlead ({ frames := 2, cells := 0, slots := 0, locals := 42 } : Room) [.ref (a 0), .int x1] (mW a cy z0) (some (.int r)) (mW a cy u) := by
  unfold fX2_unlead at hF
  refine ct_of (cc := cX2_unlead) (maxL := 3) (ret := (some .int)) (own := RX2) (by decide) rfl (Nat.le_of_ble_eq_true rfl) rfl ?_
  intro p e s m below meth c A ls X hr hlocks _ hK hN hA hP hD hl
  have hS : va_S A s.heap s.heap [] := va_S.rf
  have hl : lv_has ls 3 [(0, .ref (a 0)), (1, .int x1)] := hl
  obtain ⟨hx, hb, hml, hown, hts⟩ := id X
  have hin2 : ∀ w ∈ wsX20, w ∈ wsX2_unlead := by decide +kernel
  refine lv_iload_n hx hb dX2_unlead_0 rfl (lv_at hl 1 rfl) ?_
  obtain ⟨r1, z1, hG1, hF⟩ := o_b hF
  refine cl_S (rest := []) X hK hN hA hP hD hS (kX2_isRoute l G cy cyO a z0 x1 r1 z1 hG1) (va_cwS 1 hts gX2_unlead_X2_isRoute rfl rfl rfl (by decide +kernel) ⟨Nat.le_of_ble_eq_true rfl, Nat.le_of_ble_eq_true rfl⟩) rfl hl.1 rfl (Nat.le_of_ble_eq_true rfl) dX2_unlead_1 ⟨Nat.zero_le _, Nat.zero_le _⟩ (fun H locs hP hD hS => ?_)
  refine W.eq (g2 := F0 m 4 ls [.int r1]) rfl ?_
  refine lv_if_ne (tgt := 9) hx hb dX2_unlead_4 (by decide) (fun c2 => ?_) (fun c2 => ?_)
  · have hF := o_f c2 hF
    refine lv_aload_n hx hb dX2_unlead_9 rfl (lv_at hl 0 rfl) ?_
    refine va_get (D := G) (ci := 2) (v := .ref (a 11)) (C := RX2) (T := TX2) (N := 18) hx hb hts hin2 hown hK hP 0 rfl rfl 11 (by decide) (hts (.fieldLink RX2 40 "SignalBoxModel" "lengths" "[I") (by decide +kernel)) (fun _ h9 => h9) rfl dX2_unlead_10 ?_
    refine lv_iload_n hx hb dX2_unlead_13 rfl (lv_at hl 1 rfl) ?_
    obtain ⟨h3, hF⟩ := o_n hF
    refine va_iald (n := 6) (f := z1.2.2.2.1) (cA := cy) hx hb hK hP 11 0 rfl rfl h3 dX2_unlead_14 ?_
    obtain ⟨v3, e3, hF⟩ := o_l hF
    refine w_top e3 ?_
    refine lv_istore_n (lv' := [(2, .int v3), (0, .ref (a 0)), (1, .int x1)]) hx hb dX2_unlead_15 rfl hl (by decide) rfl (fun ls hl => ?_)
    refine lv_aload_n hx hb dX2_unlead_16 rfl (lv_at hl 1 rfl) ?_
    refine va_get (D := G) (ci := 2) (v := .ref (a 11)) (C := RX2) (T := TX2) (N := 18) hx hb hts hin2 hown hK hP 0 rfl rfl 11 (by decide) (hts (.fieldLink RX2 40 "SignalBoxModel" "lengths" "[I") (by decide +kernel)) (fun _ h9 => h9) rfl dX2_unlead_17 ?_
    refine lv_iload_n hx hb dX2_unlead_20 rfl (lv_at hl 2 rfl) ?_
    refine lv_iconst (v := 0) hx hb dX2_unlead_21 (by decide) ?_
    obtain ⟨h4, hF⟩ := o_n hF
    refine va_iast (n := 6) (f := z1.2.2.2.1) (cA := cy) hx hb hK hP hD hS 11 0 rfl rfl h4 dX2_unlead_22 (fun H locs hP hD hS => ?_)
    obtain ⟨z5, e5, hF⟩ := o_l hF
    have hP : va_P G vwCl (mW a cy z5) H := by rw [e5]; exact hP
    have hD : va_D A (mW a cy z5) := by rw [e5]; exact hD
    refine lv_iload_n hx hb dX2_unlead_23 rfl (lv_at hl 0 rfl) ?_
    obtain ⟨rfl, rfl⟩ := o_s hF
    exact rt_i X hr hlocks hP hD hS dX2_unlead_24
  · have hF := o_t c2 hF
    refine lv_iconst (v := (-1)) hx hb dX2_unlead_7 (by decide) ?_
    obtain ⟨rfl, rfl⟩ := o_s hF
    exact rt_i X hr hlocks hP hD hS dX2_unlead_8
def fX2_passed (z0 : SM) : Option (Int32 × SM) := some (z0.2.2.2.2.2.2.2.2.2.2, z0)
set_option maxRecDepth 100000 in
set_option maxHeartbeats 4000000 in
theorem kX2_passed (l : Launch) (G : va_G) (cy cyO : ClassId) (a : Nat → Nat) (z0 : SM) (r : Int32) (u : SM) (hF : fX2_passed z0 = some (r, u)) : Ct l G (tys_ cy cyO) yX2_passed wsX2_passed ({ frames := 0, cells := 0, slots := 0, locals := 0 } : Room) [.ref (a 0)] (mW a cy z0) (some (.int r)) (mW a cy u) := by
  unfold fX2_passed at hF
  refine ct_of (cc := cX2_passed) (maxL := 1) (ret := (some .int)) (own := RX2) (by decide) rfl (Nat.le_of_ble_eq_true rfl) rfl ?_
  intro p e s m below meth c A ls X hr hlocks _ hK hN hA hP hD hl
  have hS : va_S A s.heap s.heap [] := va_S.rf
  have hl : lv_has ls 1 [(0, .ref (a 0))] := hl
  obtain ⟨hx, hb, hml, hown, hts⟩ := id X
  have hin2 : ∀ w ∈ wsX20, w ∈ wsX2_passed := by decide +kernel
  refine lv_aload_n hx hb dX2_passed_0 rfl (lv_at hl 0 rfl) ?_
  refine va_get (D := G) (ci := 2) (v := .int z0.2.2.2.2.2.2.2.2.2.2) (C := RX2) (T := TX2) (N := 18) hx hb hts hin2 hown hK hP 0 rfl rfl 14 (by decide) (hts (.fieldLink RX2 85 "SignalBoxModel" "passed" "I") (by decide +kernel)) (fun _ h9 => h9) rfl dX2_passed_1 ?_
  obtain ⟨rfl, rfl⟩ := o_s hF
  exact rt_i X hr hlocks hP hD hS dX2_passed_4
def fX2_trace (z0 : SM) (x1 : Int32) : Option (Int32 × SM) := (if x1 = (-1) then some (z0.2.2.2.2.2.1, z0) else bd_ (fX2_in z0 x1 0 (z0.2.2.2.2.2.1 - 1)) (fun r2 z2 => (if r2 = 0 then some ((-1), z2) else if x1 < 0 ∨ 150 ≤ x1.toNatClampNeg then none else let_ (z2.2.2.2.2.1 x1.toNatClampNeg) (fun v4 => some (v4, z2)))))
set_option maxRecDepth 100000 in
set_option maxHeartbeats 4000000 in
theorem kX2_trace (l : Launch) (G : va_G) (cy cyO : ClassId) (a : Nat → Nat) (z0 : SM) (x1 : Int32) (r : Int32) (u : SM) (hF : fX2_trace z0 x1 = some (r, u)) : Ct l G (tys_ cy cyO) yX2_trace wsX2_trace ({ frames := 1, cells := 0, slots := 0, locals := 22 } : Room) [.ref (a 0), .int x1] (mW a cy z0) (some (.int r)) (mW a cy u) := by
  unfold fX2_trace at hF
  refine ct_of (cc := cX2_trace) (maxL := 2) (ret := (some .int)) (own := RX2) (by decide) rfl (Nat.le_of_ble_eq_true rfl) rfl ?_
  intro p e s m below meth c A ls X hr hlocks _ hK hN hA hP hD hl
  have hS : va_S A s.heap s.heap [] := va_S.rf
  have hl : lv_has ls 2 [(0, .ref (a 0)), (1, .int x1)] := hl
  obtain ⟨hx, hb, hml, hown, hts⟩ := id X
  have hin2 : ∀ w ∈ wsX20, w ∈ wsX2_trace := by decide +kernel
  refine lv_iload_n hx hb dX2_trace_0 rfl (lv_at hl 1 rfl) ?_
  refine lv_iconst (v := (-1)) hx hb dX2_trace_1 (by decide) ?_
  refine lv_icmp_ne (tgt := 12) hx hb dX2_trace_2 (by decide) (fun c1 => ?_) (fun c1 => ?_)
  · have hF := o_f c1 hF
    refine lv_iload_n hx hb dX2_trace_12 rfl (lv_at hl 1 rfl) ?_
    refine lv_iconst (v := 0) hx hb dX2_trace_13 (by decide) ?_
    refine lv_aload_n hx hb dX2_trace_14 rfl (lv_at hl 0 rfl) ?_
    refine va_get (D := G) (ci := 2) (v := .int z0.2.2.2.2.2.1) (C := RX2) (T := TX2) (N := 18) hx hb hts hin2 hown hK hP 0 rfl rfl 13 (by decide) (hts (.fieldLink RX2 62 "SignalBoxModel" "traced" "I") (by decide +kernel)) (fun _ h9 => h9) rfl dX2_trace_15 ?_
    refine lv_iconst (v := 1) hx hb dX2_trace_18 (by decide) ?_
    refine lv_isub hx hb dX2_trace_19 ?_
    obtain ⟨r2, z2, hG2, hF⟩ := o_b hF
    refine cl_S (rest := []) X hK hN hA hP hD hS (kX2_in l G cy cyO a z0 x1 0 (z0.2.2.2.2.2.1 - 1) r2 z2 hG2) (va_cwS 3 hts gX2_trace_X2_in rfl rfl rfl (by decide +kernel) ⟨Nat.le_of_ble_eq_true rfl, Nat.le_of_ble_eq_true rfl⟩) rfl hl.1 rfl (Nat.le_of_ble_eq_true rfl) dX2_trace_20 ⟨Nat.zero_le _, Nat.zero_le _⟩ (fun H locs hP hD hS => ?_)
    refine W.eq (g2 := F0 m 23 ls [.int r2]) rfl ?_
    refine lv_if_eq (tgt := 35) hx hb dX2_trace_23 (by decide) (fun c3 => ?_) (fun c3 => ?_)
    · have hF := o_t c3 hF
      refine lv_iconst (v := (-1)) hx hb dX2_trace_35 (by decide) ?_
      obtain ⟨rfl, rfl⟩ := o_s hF
      exact rt_i X hr hlocks hP hD hS dX2_trace_36
    · have hF := o_f c3 hF
      refine lv_aload_n hx hb dX2_trace_26 rfl (lv_at hl 0 rfl) ?_
      refine va_get (D := G) (ci := 2) (v := .ref (a 12)) (C := RX2) (T := TX2) (N := 18) hx hb hts hin2 hown hK hP 0 rfl rfl 12 (by decide) (hts (.fieldLink RX2 43 "SignalBoxModel" "trace" "[I") (by decide +kernel)) (fun _ h9 => h9) rfl dX2_trace_27 ?_
      refine lv_iload_n hx hb dX2_trace_30 rfl (lv_at hl 1 rfl) ?_
      obtain ⟨h4, hF⟩ := o_n hF
      refine va_iald (n := 150) (f := z2.2.2.2.2.1) (cA := cy) hx hb hK hP 12 0 rfl rfl h4 dX2_trace_31 ?_
      obtain ⟨v4, e4, hF⟩ := o_l hF
      refine w_top e4 ?_
      refine lv_goto (tgt := 36) hx hb dX2_trace_32 (by decide) ?_
      obtain ⟨rfl, rfl⟩ := o_s hF
      exact rt_i X hr hlocks hP hD hS dX2_trace_36
  · have hF := o_t c1 hF
    refine lv_aload_n hx hb dX2_trace_5 rfl (lv_at hl 0 rfl) ?_
    refine va_get (D := G) (ci := 2) (v := .int z0.2.2.2.2.2.1) (C := RX2) (T := TX2) (N := 18) hx hb hts hin2 hown hK hP 0 rfl rfl 13 (by decide) (hts (.fieldLink RX2 62 "SignalBoxModel" "traced" "I") (by decide +kernel)) (fun _ h9 => h9) rfl dX2_trace_6 ?_
    refine lv_goto (tgt := 36) hx hb dX2_trace_9 (by decide) ?_
    obtain ⟨rfl, rfl⟩ := o_s hF
    exact rt_i X hr hlocks hP hD hS dX2_trace_36
def fX2_told (z0 : SM) (x1 : Int32) (x2 : Int32) : Option (Int32 × SM) := bd_ (fX2_isPlace z0 x1) (fun r1 z1 => (if r1 = 0 then some ((-1), z1) else if x1 < 0 ∨ 12 ≤ x1.toNatClampNeg then none else let_ (z1.2.1 x1.toNatClampNeg) (fun v3 => (if 0 ≤ v3 then if x1 < 0 ∨ 12 ≤ x1.toNatClampNeg then none else let_ (z1.2.1 x1.toNatClampNeg) (fun v5 => (if x2 = 0 then some (v5, z1) else (if x2 = 1 then if v5 < 0 ∨ 640 ≤ v5.toNatClampNeg then none else let_ ((z1.1 1) v5.toNatClampNeg) (fun v15 => some (v15, z1)) else (if x2 = 2 then if v5 < 0 ∨ 640 ≤ v5.toNatClampNeg then none else let_ ((z1.1 2) v5.toNatClampNeg) (fun v16 => some (v16, z1)) else (if x2 = 3 then if v5 < 0 ∨ 640 ≤ v5.toNatClampNeg then none else let_ ((z1.1 3) v5.toNatClampNeg) (fun v17 => some (v17, z1)) else (if x2 = 4 then if v5 < 0 ∨ 640 ≤ v5.toNatClampNeg then none else let_ ((z1.1 4) v5.toNatClampNeg) (fun v18 => some (v18, z1)) else (if x2 = 5 then if v5 < 0 ∨ 640 ≤ v5.toNatClampNeg then none else let_ ((z1.1 5) v5.toNatClampNeg) (fun v19 => some (v19, z1)) else (if x2 = 6 then if v5 < 0 ∨ 640 ≤ v5.toNatClampNeg then none else let_ ((z1.1 6) v5.toNatClampNeg) (fun v20 => some (v20, z1)) else (if x2 = 7 then if v5 < 0 ∨ 640 ≤ v5.toNatClampNeg then none else let_ ((z1.1 7) v5.toNatClampNeg) (fun v21 => some (v21, z1)) else (if x2 = 8 then if v5 < 0 ∨ 640 ≤ v5.toNatClampNeg then none else let_ ((z1.1 8) v5.toNatClampNeg) (fun v22 => some (v22, z1)) else some ((-1), z1))))))))))) else some ((-1), z1)))))
set_option maxRecDepth 100000 in
set_option maxHeartbeats 4000000 in
theorem kX2_told (l : Launch) (G : va_G) (cy cyO : ClassId) (a : Nat → Nat) (z0 : SM) (x1 : Int32) (x2 : Int32) (r : Int32) (u : SM) (hF : fX2_told z0 x1 x2 = some (r, u)) : Ct l G (tys_ cy cyO) yX2_told wsX2_told ({ frames := 2, cells := 0, slots := 0, locals := 42 } : Room) [.ref (a 0), .int x1, .int x2] (mW a cy z0) (some (.int r)) (mW a cy u) := by
  unfold fX2_told at hF
  refine ct_of (cc := cX2_told) (maxL := 4) (ret := (some .int)) (own := RX2) (by decide) rfl (Nat.le_of_ble_eq_true rfl) rfl ?_
  intro p e s m below meth c A ls X hr hlocks _ hK hN hA hP hD hl
  have hS : va_S A s.heap s.heap [] := va_S.rf
  have hl : lv_has ls 4 [(0, .ref (a 0)), (1, .int x1), (2, .int x2)] := hl
  obtain ⟨hx, hb, hml, hown, hts⟩ := id X
  have hin2 : ∀ w ∈ wsX20, w ∈ wsX2_told := by decide +kernel
  refine lv_iload_n hx hb dX2_told_0 rfl (lv_at hl 1 rfl) ?_
  obtain ⟨r1, z1, hG1, hF⟩ := o_b hF
  refine cl_S (rest := []) X hK hN hA hP hD hS (kX2_isPlace l G cy cyO a z0 x1 r1 z1 hG1) (va_cwS 1 hts gX2_told_X2_isPlace rfl rfl rfl (by decide +kernel) ⟨Nat.le_of_ble_eq_true rfl, Nat.le_of_ble_eq_true rfl⟩) rfl hl.1 rfl (Nat.le_of_ble_eq_true rfl) dX2_told_1 ⟨Nat.zero_le _, Nat.zero_le _⟩ (fun H locs hP hD hS => ?_)
  refine W.eq (g2 := F0 m 4 ls [.int r1]) rfl ?_
  refine lv_if_eq (tgt := 16) hx hb dX2_told_4 (by decide) (fun c2 => ?_) (fun c2 => ?_)
  · have hF := o_t c2 hF
    refine lv_iconst (v := (-1)) hx hb dX2_told_16 (by decide) ?_
    obtain ⟨rfl, rfl⟩ := o_s hF
    exact rt_i X hr hlocks hP hD hS dX2_told_17
  · have hF := o_f c2 hF
    refine lv_aload_n hx hb dX2_told_7 rfl (lv_at hl 0 rfl) ?_
    refine va_get (D := G) (ci := 2) (v := .ref (a 9)) (C := RX2) (T := TX2) (N := 18) hx hb hts hin2 hown hK hP 0 rfl rfl 9 (by decide) (hts (.fieldLink RX2 34 "SignalBoxModel" "at" "[I") (by decide +kernel)) (fun _ h9 => h9) rfl dX2_told_8 ?_
    refine lv_iload_n hx hb dX2_told_11 rfl (lv_at hl 1 rfl) ?_
    obtain ⟨h3, hF⟩ := o_n hF
    refine va_iald (n := 12) (f := z1.2.1) (cA := cy) hx hb hK hP 9 0 rfl rfl h3 dX2_told_12 ?_
    obtain ⟨v3, e3, hF⟩ := o_l hF
    refine w_top e3 ?_
    refine lv_if_ge (tgt := 18) hx hb dX2_told_13 (by decide) (fun c4 => ?_) (fun c4 => ?_)
    · have hF := o_t c4 hF
      refine lv_aload_n hx hb dX2_told_18 rfl (lv_at hl 0 rfl) ?_
      refine va_get (D := G) (ci := 2) (v := .ref (a 9)) (C := RX2) (T := TX2) (N := 18) hx hb hts hin2 hown hK hP 0 rfl rfl 9 (by decide) (hts (.fieldLink RX2 34 "SignalBoxModel" "at" "[I") (by decide +kernel)) (fun _ h9 => h9) rfl dX2_told_19 ?_
      refine lv_iload_n hx hb dX2_told_22 rfl (lv_at hl 1 rfl) ?_
      obtain ⟨h5, hF⟩ := o_n hF
      refine va_iald (n := 12) (f := z1.2.1) (cA := cy) hx hb hK hP 9 0 rfl rfl h5 dX2_told_23 ?_
      obtain ⟨v5, e5, hF⟩ := o_l hF
      refine w_top e5 ?_
      refine lv_istore_n (lv' := [(3, .int v5), (0, .ref (a 0)), (1, .int x1), (2, .int x2)]) hx hb dX2_told_24 rfl hl (by decide) rfl (fun ls hl => ?_)
      refine lv_iload_n hx hb dX2_told_25 rfl (lv_at hl 3 rfl) ?_
      by_cases c6 : x2 = 0
      · have hF := o_t c6 hF
        refine lv_tableIn (off := 50) (tgt := 76) hx hb dX2_told_26 (by rw [c6]; decide) (by rw [c6]; decide) (by rw [c6]; rfl) (by decide) ?_
        refine lv_iload_n hx hb dX2_told_76 rfl (lv_at hl 0 rfl) ?_
        obtain ⟨rfl, rfl⟩ := o_s hF
        exact rt_i X hr hlocks hP hD hS dX2_told_77
      · have hF := o_f c6 hF
        by_cases c7 : x2 = 1
        · have hF := o_t c7 hF
          refine lv_tableIn (off := 52) (tgt := 78) hx hb dX2_told_26 (by rw [c7]; decide) (by rw [c7]; decide) (by rw [c7]; rfl) (by decide) ?_
          refine lv_aload_n hx hb dX2_told_78 rfl (lv_at hl 1 rfl) ?_
          refine va_get (D := G) (ci := 2) (v := .ref (a 1)) (C := RX2) (T := TX2) (N := 18) hx hb hts hin2 hown hK hP 0 rfl rfl 1 (by decide) (hts (.fieldLink RX2 7 "SignalBoxModel" "kinds" "[I") (by decide +kernel)) (fun _ h9 => h9) rfl dX2_told_79 ?_
          refine lv_iload_n hx hb dX2_told_82 rfl (lv_at hl 0 rfl) ?_
          obtain ⟨h15, hF⟩ := o_n hF
          refine va_iald (n := 640) (f := (z1.1 1)) (cA := cy) hx hb hK hP 1 0 rfl rfl h15 dX2_told_83 ?_
          obtain ⟨v15, e15, hF⟩ := o_l hF
          refine w_top e15 ?_
          obtain ⟨rfl, rfl⟩ := o_s hF
          exact rt_i X hr hlocks hP hD hS dX2_told_84
        · have hF := o_f c7 hF
          by_cases c8 : x2 = 2
          · have hF := o_t c8 hF
            refine lv_tableIn (off := 59) (tgt := 85) hx hb dX2_told_26 (by rw [c8]; decide) (by rw [c8]; decide) (by rw [c8]; rfl) (by decide) ?_
            refine lv_aload_n hx hb dX2_told_85 rfl (lv_at hl 1 rfl) ?_
            refine va_get (D := G) (ci := 2) (v := .ref (a 2)) (C := RX2) (T := TX2) (N := 18) hx hb hts hin2 hown hK hP 0 rfl rfl 2 (by decide) (hts (.fieldLink RX2 13 "SignalBoxModel" "limits" "[I") (by decide +kernel)) (fun _ h9 => h9) rfl dX2_told_86 ?_
            refine lv_iload_n hx hb dX2_told_89 rfl (lv_at hl 0 rfl) ?_
            obtain ⟨h16, hF⟩ := o_n hF
            refine va_iald (n := 640) (f := (z1.1 2)) (cA := cy) hx hb hK hP 2 0 rfl rfl h16 dX2_told_90 ?_
            obtain ⟨v16, e16, hF⟩ := o_l hF
            refine w_top e16 ?_
            obtain ⟨rfl, rfl⟩ := o_s hF
            exact rt_i X hr hlocks hP hD hS dX2_told_91
          · have hF := o_f c8 hF
            by_cases c9 : x2 = 3
            · have hF := o_t c9 hF
              refine lv_tableIn (off := 66) (tgt := 92) hx hb dX2_told_26 (by rw [c9]; decide) (by rw [c9]; decide) (by rw [c9]; rfl) (by decide) ?_
              refine lv_aload_n hx hb dX2_told_92 rfl (lv_at hl 1 rfl) ?_
              refine va_get (D := G) (ci := 2) (v := .ref (a 3)) (C := RX2) (T := TX2) (N := 18) hx hb hts hin2 hown hK hP 0 rfl rfl 3 (by decide) (hts (.fieldLink RX2 16 "SignalBoxModel" "marks" "[I") (by decide +kernel)) (fun _ h9 => h9) rfl dX2_told_93 ?_
              refine lv_iload_n hx hb dX2_told_96 rfl (lv_at hl 0 rfl) ?_
              obtain ⟨h17, hF⟩ := o_n hF
              refine va_iald (n := 640) (f := (z1.1 3)) (cA := cy) hx hb hK hP 3 0 rfl rfl h17 dX2_told_97 ?_
              obtain ⟨v17, e17, hF⟩ := o_l hF
              refine w_top e17 ?_
              obtain ⟨rfl, rfl⟩ := o_s hF
              exact rt_i X hr hlocks hP hD hS dX2_told_98
            · have hF := o_f c9 hF
              by_cases c10 : x2 = 4
              · have hF := o_t c10 hF
                refine lv_tableIn (off := 73) (tgt := 99) hx hb dX2_told_26 (by rw [c10]; decide) (by rw [c10]; decide) (by rw [c10]; rfl) (by decide) ?_
                refine lv_aload_n hx hb dX2_told_99 rfl (lv_at hl 1 rfl) ?_
                refine va_get (D := G) (ci := 2) (v := .ref (a 4)) (C := RX2) (T := TX2) (N := 18) hx hb hts hin2 hown hK hP 0 rfl rfl 4 (by decide) (hts (.fieldLink RX2 19 "SignalBoxModel" "axles" "[I") (by decide +kernel)) (fun _ h9 => h9) rfl dX2_told_100 ?_
                refine lv_iload_n hx hb dX2_told_103 rfl (lv_at hl 0 rfl) ?_
                obtain ⟨h18, hF⟩ := o_n hF
                refine va_iald (n := 640) (f := (z1.1 4)) (cA := cy) hx hb hK hP 4 0 rfl rfl h18 dX2_told_104 ?_
                obtain ⟨v18, e18, hF⟩ := o_l hF
                refine w_top e18 ?_
                obtain ⟨rfl, rfl⟩ := o_s hF
                exact rt_i X hr hlocks hP hD hS dX2_told_105
              · have hF := o_f c10 hF
                by_cases c11 : x2 = 5
                · have hF := o_t c11 hF
                  refine lv_tableIn (off := 80) (tgt := 106) hx hb dX2_told_26 (by rw [c11]; decide) (by rw [c11]; decide) (by rw [c11]; rfl) (by decide) ?_
                  refine lv_aload_n hx hb dX2_told_106 rfl (lv_at hl 1 rfl) ?_
                  refine va_get (D := G) (ci := 2) (v := .ref (a 5)) (C := RX2) (T := TX2) (N := 18) hx hb hts hin2 hown hK hP 0 rfl rfl 5 (by decide) (hts (.fieldLink RX2 22 "SignalBoxModel" "legs" "[I") (by decide +kernel)) (fun _ h9 => h9) rfl dX2_told_107 ?_
                  refine lv_iload_n hx hb dX2_told_110 rfl (lv_at hl 0 rfl) ?_
                  obtain ⟨h19, hF⟩ := o_n hF
                  refine va_iald (n := 640) (f := (z1.1 5)) (cA := cy) hx hb hK hP 5 0 rfl rfl h19 dX2_told_111 ?_
                  obtain ⟨v19, e19, hF⟩ := o_l hF
                  refine w_top e19 ?_
                  obtain ⟨rfl, rfl⟩ := o_s hF
                  exact rt_i X hr hlocks hP hD hS dX2_told_112
                · have hF := o_f c11 hF
                  by_cases c12 : x2 = 6
                  · have hF := o_t c12 hF
                    refine lv_tableIn (off := 87) (tgt := 113) hx hb dX2_told_26 (by rw [c12]; decide) (by rw [c12]; decide) (by rw [c12]; rfl) (by decide) ?_
                    refine lv_aload_n hx hb dX2_told_113 rfl (lv_at hl 1 rfl) ?_
                    refine va_get (D := G) (ci := 2) (v := .ref (a 6)) (C := RX2) (T := TX2) (N := 18) hx hb hts hin2 hown hK hP 0 rfl rfl 6 (by decide) (hts (.fieldLink RX2 25 "SignalBoxModel" "claims" "[I") (by decide +kernel)) (fun _ h9 => h9) rfl dX2_told_114 ?_
                    refine lv_iload_n hx hb dX2_told_117 rfl (lv_at hl 0 rfl) ?_
                    obtain ⟨h20, hF⟩ := o_n hF
                    refine va_iald (n := 640) (f := (z1.1 6)) (cA := cy) hx hb hK hP 6 0 rfl rfl h20 dX2_told_118 ?_
                    obtain ⟨v20, e20, hF⟩ := o_l hF
                    refine w_top e20 ?_
                    obtain ⟨rfl, rfl⟩ := o_s hF
                    exact rt_i X hr hlocks hP hD hS dX2_told_119
                  · have hF := o_f c12 hF
                    by_cases c13 : x2 = 7
                    · have hF := o_t c13 hF
                      refine lv_tableIn (off := 94) (tgt := 120) hx hb dX2_told_26 (by rw [c13]; decide) (by rw [c13]; decide) (by rw [c13]; rfl) (by decide) ?_
                      refine lv_aload_n hx hb dX2_told_120 rfl (lv_at hl 1 rfl) ?_
                      refine va_get (D := G) (ci := 2) (v := .ref (a 7)) (C := RX2) (T := TX2) (N := 18) hx hb hts hin2 hown hK hP 0 rfl rfl 7 (by decide) (hts (.fieldLink RX2 28 "SignalBoxModel" "held" "[I") (by decide +kernel)) (fun _ h9 => h9) rfl dX2_told_121 ?_
                      refine lv_iload_n hx hb dX2_told_124 rfl (lv_at hl 0 rfl) ?_
                      obtain ⟨h21, hF⟩ := o_n hF
                      refine va_iald (n := 640) (f := (z1.1 7)) (cA := cy) hx hb hK hP 7 0 rfl rfl h21 dX2_told_125 ?_
                      obtain ⟨v21, e21, hF⟩ := o_l hF
                      refine w_top e21 ?_
                      obtain ⟨rfl, rfl⟩ := o_s hF
                      exact rt_i X hr hlocks hP hD hS dX2_told_126
                    · have hF := o_f c13 hF
                      by_cases c14 : x2 = 8
                      · have hF := o_t c14 hF
                        refine lv_tableIn (off := 101) (tgt := 127) hx hb dX2_told_26 (by rw [c14]; decide) (by rw [c14]; decide) (by rw [c14]; rfl) (by decide) ?_
                        refine lv_aload_n hx hb dX2_told_127 rfl (lv_at hl 1 rfl) ?_
                        refine va_get (D := G) (ci := 2) (v := .ref (a 8)) (C := RX2) (T := TX2) (N := 18) hx hb hts hin2 hown hK hP 0 rfl rfl 8 (by decide) (hts (.fieldLink RX2 31 "SignalBoxModel" "most" "[I") (by decide +kernel)) (fun _ h9 => h9) rfl dX2_told_128 ?_
                        refine lv_iload_n hx hb dX2_told_131 rfl (lv_at hl 0 rfl) ?_
                        obtain ⟨h22, hF⟩ := o_n hF
                        refine va_iald (n := 640) (f := (z1.1 8)) (cA := cy) hx hb hK hP 8 0 rfl rfl h22 dX2_told_132 ?_
                        obtain ⟨v22, e22, hF⟩ := o_l hF
                        refine w_top e22 ?_
                        obtain ⟨rfl, rfl⟩ := o_s hF
                        exact rt_i X hr hlocks hP hD hS dX2_told_133
                      · have hF := o_f c14 hF
                        refine lv_tableOut (tgt := 134) hx hb dX2_told_26 (by have g6 := lv_neT c6 (a := 0) rfl; have g7 := lv_neT c7 (a := 1) rfl; have g8 := lv_neT c8 (a := 2) rfl; have g9 := lv_neT c9 (a := 3) rfl; have g10 := lv_neT c10 (a := 4) rfl; have g11 := lv_neT c11 (a := 5) rfl; have g12 := lv_neT c12 (a := 6) rfl; have g13 := lv_neT c13 (a := 7) rfl; have g14 := lv_neT c14 (a := 8) rfl; omega) (by decide) ?_
                        refine lv_iconst (v := (-1)) hx hb dX2_told_134 (by decide) ?_
                        obtain ⟨rfl, rfl⟩ := o_s hF
                        exact rt_i X hr hlocks hP hD hS dX2_told_135
    · have hF := o_f c4 hF
      refine lv_iconst (v := (-1)) hx hb dX2_told_16 (by decide) ?_
      obtain ⟨rfl, rfl⟩ := o_s hF
      exact rt_i X hr hlocks hP hD hS dX2_told_17
def fX2_count_j44 (K23 : SM → Int32 → Int32 → Int32 → Option (Int32 × SM)) (z0 : SM) (y1 : Int32) (y3 : Int32) (t0 : Int32) (t1 : Int32) : Option (Int32 × SM) := (K23 z0 y1 (t1 + t0) (y3 + 1))
set_option maxRecDepth 100000 in
set_option maxHeartbeats 4000000 in
theorem jX2_count_44 {p : Program} {l : Launch} {e : Env} {s : State} {m : MethodId} {args : Array Value} {below : List Frame} {meth : Method} {c : Code} {G : va_G} {cy cyO : ClassId} {a : Nat → Nat} {A : Nat → Prop} {r : Int32} {u : SM} (X : CallFix p m c cX2_count 4 s args wsX2_count RX2) (hr : meth.sig.returnType = (some .int)) (hlocks : meth.locks = false) (hK : va_K G vwCl (tys_ cy cyO) s) (hN : nw s) (hA : ∀ q, s.heap.size ≤ q → A q) (K23 : SM → Int32 → Int32 → Int32 → Option (Int32 × SM)) (hK23 : ∀ (z0 : SM) (y1 : Int32) (y2 : Int32) (y3 : Int32), K23 z0 y1 y2 y3 = some (r, u) → ∀ (H : Heap) (locs : List Loc), va_P G vwCl (mW a cy z0) H → va_D A (mW a cy z0) → va_S A s.heap H locs → ∀ (ls : Array Slot), lv_has ls 4 [(0, .ref (a 0)), (1, .int y1), (2, .int y2), (3, .int y3)] → W p l e ({ frames := 1, cells := 0, slots := 0, locals := 22 } : Room) s m args below meth c H locs 0 0 (MQ below (qg (some (.int r)) (fun t => wPost G A (mW a cy u) t) A) args s 0 0 A) (F0 m 23 ls [])) : ∀ (z0 : SM) (y1 : Int32) (y3 : Int32) (t0 : Int32) (t1 : Int32), fX2_count_j44 K23 z0 y1 y3 t0 t1 = some (r, u) → ∀ (H : Heap) (locs : List Loc), va_P G vwCl (mW a cy z0) H → va_D A (mW a cy z0) → va_S A s.heap H locs → ∀ (ls : Array Slot), lv_has ls 4 [(0, .ref (a 0)), (1, .int y1), (3, .int y3)] → W p l e ({ frames := 1, cells := 0, slots := 0, locals := 22 } : Room) s m args below meth c H locs 0 0 (MQ below (qg (some (.int r)) (fun t => wPost G A (mW a cy u) t) A) args s 0 0 A) (F0 m 44 ls [.int t0, .int t1]) := by
  obtain ⟨hx, hb, hml, hown, hts⟩ := id X
  have hin2 : ∀ w ∈ wsX20, w ∈ wsX2_count := by decide +kernel
  intro z0 y1 y3 t0 t1 hF H locs hP hD hS ls hl
  unfold fX2_count_j44 at hF
  refine lv_iadd hx hb dX2_count_44 ?_
  refine lv_istore_n (lv' := [(2, .int (t1 + t0)), (0, .ref (a 0)), (1, .int y1), (3, .int y3)]) hx hb dX2_count_45 rfl hl (by decide) rfl (fun ls hl => ?_)
  refine lv_iinc (v := y3 + 1) (lv' := [(3, .int (y3 + 1)), (2, .int (t1 + t0)), (0, .ref (a 0)), (1, .int y1)]) hx hb dX2_count_46 hl (k := 3) rfl rfl (by decide) rfl (fun ls hl => ?_)
  refine lv_goto (tgt := 23) hx hb dX2_count_49 (by decide) ?_
  exact hK23 z0 y1 (t1 + t0) (y3 + 1) hF H locs hP hD hS ls (lv_sub hl [2, 3, 1, 0] rfl)
def fX2_count_j23 : Nat → SM → Int32 → Int32 → Int32 → Option (Int32 × SM)
  | 0, _, _, _, _ => none
  | n + 1, z0, y1, y2, y3 => (if 12 ≤ y3 then (if y1 = 0 then some (z0.2.2.2.2.2.2.1, z0) else (if y1 = 1 then some (y2, z0) else (if y1 = 2 then some (z0.2.2.2.2.2.2.2.1, z0) else (if y1 = 3 then some (z0.2.2.2.2.2.2.2.2.1, z0) else (if y1 = 4 then some (z0.2.2.2.2.2.2.2.2.2.1, z0) else some ((-1), z0)))))) else if y3 < 0 ∨ 12 ≤ y3.toNatClampNeg then none else let_ (z0.2.1 y3.toNatClampNeg) (fun v7 => (if 0 ≤ v7 then (fX2_count_j44 (fX2_count_j23 n) z0 y1 y3 1 y2) else (fX2_count_j44 (fX2_count_j23 n) z0 y1 y3 0 y2))))
set_option maxRecDepth 100000 in
set_option maxHeartbeats 4000000 in
theorem jX2_count_23 {p : Program} {l : Launch} {e : Env} {s : State} {m : MethodId} {args : Array Value} {below : List Frame} {meth : Method} {c : Code} {G : va_G} {cy cyO : ClassId} {a : Nat → Nat} {A : Nat → Prop} {r : Int32} {u : SM} (X : CallFix p m c cX2_count 4 s args wsX2_count RX2) (hr : meth.sig.returnType = (some .int)) (hlocks : meth.locks = false) (hK : va_K G vwCl (tys_ cy cyO) s) (hN : nw s) (hA : ∀ q, s.heap.size ≤ q → A q) : ∀ n : Nat, ∀ (z0 : SM) (y1 : Int32) (y2 : Int32) (y3 : Int32), fX2_count_j23 n z0 y1 y2 y3 = some (r, u) → ∀ (H : Heap) (locs : List Loc), va_P G vwCl (mW a cy z0) H → va_D A (mW a cy z0) → va_S A s.heap H locs → ∀ (ls : Array Slot), lv_has ls 4 [(0, .ref (a 0)), (1, .int y1), (2, .int y2), (3, .int y3)] → W p l e ({ frames := 1, cells := 0, slots := 0, locals := 22 } : Room) s m args below meth c H locs 0 0 (MQ below (qg (some (.int r)) (fun t => wPost G A (mW a cy u) t) A) args s 0 0 A) (F0 m 23 ls []) := by
  obtain ⟨hx, hb, hml, hown, hts⟩ := id X
  have hin2 : ∀ w ∈ wsX20, w ∈ wsX2_count := by decide +kernel
  intro n
  induction n with
  | zero => intro z0 y1 y2 y3 hF; cases hF
  | succ n ih =>
    intro z0 y1 y2 y3 hF H locs hP hD hS ls hl
    rw [fX2_count_j23] at hF
    refine lv_iload_n hx hb dX2_count_23 rfl (lv_at hl 3 rfl) ?_
    refine lv_bipush (v := 12) hx hb dX2_count_24 (by decide) ?_
    refine lv_icmp_ge (tgt := 52) hx hb dX2_count_26 (by decide) (fun c1 => ?_) (fun c1 => ?_)
    · have hF := o_t c1 hF
      refine lv_iload_n hx hb dX2_count_52 rfl (lv_at hl 1 rfl) ?_
      refine lv_if_ne (tgt := 63) hx hb dX2_count_53 (by decide) (fun c2 => ?_) (fun c2 => ?_)
      · have hF := o_f c2 hF
        refine lv_iload_n hx hb dX2_count_63 rfl (lv_at hl 1 rfl) ?_
        refine lv_iconst (v := 1) hx hb dX2_count_64 (by decide) ?_
        refine lv_icmp_ne (tgt := 72) hx hb dX2_count_65 (by decide) (fun c3 => ?_) (fun c3 => ?_)
        · have hF := o_f c3 hF
          refine lv_iload_n hx hb dX2_count_72 rfl (lv_at hl 1 rfl) ?_
          refine lv_iconst (v := 2) hx hb dX2_count_73 (by decide) ?_
          refine lv_icmp_ne (tgt := 84) hx hb dX2_count_74 (by decide) (fun c4 => ?_) (fun c4 => ?_)
          · have hF := o_f c4 hF
            refine lv_iload_n hx hb dX2_count_84 rfl (lv_at hl 1 rfl) ?_
            refine lv_iconst (v := 3) hx hb dX2_count_85 (by decide) ?_
            refine lv_icmp_ne (tgt := 96) hx hb dX2_count_86 (by decide) (fun c5 => ?_) (fun c5 => ?_)
            · have hF := o_f c5 hF
              refine lv_iload_n hx hb dX2_count_96 rfl (lv_at hl 1 rfl) ?_
              refine lv_iconst (v := 4) hx hb dX2_count_97 (by decide) ?_
              refine lv_icmp_ne (tgt := 108) hx hb dX2_count_98 (by decide) (fun c6 => ?_) (fun c6 => ?_)
              · have hF := o_f c6 hF
                refine lv_iconst (v := (-1)) hx hb dX2_count_108 (by decide) ?_
                obtain ⟨rfl, rfl⟩ := o_s hF
                exact rt_i X hr hlocks hP hD hS dX2_count_109
              · have hF := o_t c6 hF
                refine lv_aload_n hx hb dX2_count_101 rfl (lv_at hl 0 rfl) ?_
                refine va_get (D := G) (ci := 2) (v := .int z0.2.2.2.2.2.2.2.2.2.1) (C := RX2) (T := TX2) (N := 18) hx hb hts hin2 hown hK hP 0 rfl rfl 17 (by decide) (hts (.fieldLink RX2 118 "SignalBoxModel" "fulls" "I") (by decide +kernel)) (fun _ h9 => h9) rfl dX2_count_102 ?_
                refine lv_goto (tgt := 109) hx hb dX2_count_105 (by decide) ?_
                obtain ⟨rfl, rfl⟩ := o_s hF
                exact rt_i X hr hlocks hP hD hS dX2_count_109
            · have hF := o_t c5 hF
              refine lv_aload_n hx hb dX2_count_89 rfl (lv_at hl 0 rfl) ?_
              refine va_get (D := G) (ci := 2) (v := .int z0.2.2.2.2.2.2.2.2.1) (C := RX2) (T := TX2) (N := 18) hx hb hts hin2 hown hK hP 0 rfl rfl 16 (by decide) (hts (.fieldLink RX2 115 "SignalBoxModel" "nulls" "I") (by decide +kernel)) (fun _ h9 => h9) rfl dX2_count_90 ?_
              refine lv_goto (tgt := 109) hx hb dX2_count_93 (by decide) ?_
              obtain ⟨rfl, rfl⟩ := o_s hF
              exact rt_i X hr hlocks hP hD hS dX2_count_109
          · have hF := o_t c4 hF
            refine lv_aload_n hx hb dX2_count_77 rfl (lv_at hl 0 rfl) ?_
            refine va_get (D := G) (ci := 2) (v := .int z0.2.2.2.2.2.2.2.1) (C := RX2) (T := TX2) (N := 18) hx hb hts hin2 hown hK hP 0 rfl rfl 15 (by decide) (hts (.fieldLink RX2 100 "SignalBoxModel" "runs" "I") (by decide +kernel)) (fun _ h9 => h9) rfl dX2_count_78 ?_
            refine lv_goto (tgt := 109) hx hb dX2_count_81 (by decide) ?_
            obtain ⟨rfl, rfl⟩ := o_s hF
            exact rt_i X hr hlocks hP hD hS dX2_count_109
        · have hF := o_t c3 hF
          refine lv_iload_n hx hb dX2_count_68 rfl (lv_at hl 2 rfl) ?_
          refine lv_goto (tgt := 109) hx hb dX2_count_69 (by decide) ?_
          obtain ⟨rfl, rfl⟩ := o_s hF
          exact rt_i X hr hlocks hP hD hS dX2_count_109
      · have hF := o_t c2 hF
        refine lv_aload_n hx hb dX2_count_56 rfl (lv_at hl 0 rfl) ?_
        refine va_get (D := G) (ci := 2) (v := .int z0.2.2.2.2.2.2.1) (C := RX2) (T := TX2) (N := 18) hx hb hts hin2 hown hK hP 0 rfl rfl 0 (by decide) (hts (.fieldLink RX2 55 "SignalBoxModel" "made" "I") (by decide +kernel)) (fun _ h9 => h9) rfl dX2_count_57 ?_
        refine lv_goto (tgt := 109) hx hb dX2_count_60 (by decide) ?_
        obtain ⟨rfl, rfl⟩ := o_s hF
        exact rt_i X hr hlocks hP hD hS dX2_count_109
    · have hF := o_f c1 hF
      refine lv_iload_n hx hb dX2_count_29 rfl (lv_at hl 2 rfl) ?_
      refine lv_aload_n hx hb dX2_count_30 rfl (lv_at hl 0 rfl) ?_
      refine va_get (D := G) (ci := 2) (v := .ref (a 9)) (C := RX2) (T := TX2) (N := 18) hx hb hts hin2 hown hK hP 0 rfl rfl 9 (by decide) (hts (.fieldLink RX2 34 "SignalBoxModel" "at" "[I") (by decide +kernel)) (fun _ h9 => h9) rfl dX2_count_31 ?_
      refine lv_iload_n hx hb dX2_count_34 rfl (lv_at hl 3 rfl) ?_
      obtain ⟨h7, hF⟩ := o_n hF
      refine va_iald (n := 12) (f := z0.2.1) (cA := cy) hx hb hK hP 9 0 rfl rfl h7 dX2_count_35 ?_
      obtain ⟨v7, e7, hF⟩ := o_l hF
      refine w_top e7 ?_
      refine lv_if_ge (tgt := 43) hx hb dX2_count_36 (by decide) (fun c8 => ?_) (fun c8 => ?_)
      · have hF := o_t c8 hF
        refine lv_iconst (v := 1) hx hb dX2_count_43 (by decide) ?_
        exact jX2_count_44 X hr hlocks hK hN hA (fX2_count_j23 n) ih z0 y1 y3 1 y2 hF H locs hP hD hS ls (lv_sub hl [0, 1, 3] rfl)
      · have hF := o_f c8 hF
        refine lv_iconst (v := 0) hx hb dX2_count_39 (by decide) ?_
        refine lv_goto (tgt := 44) hx hb dX2_count_40 (by decide) ?_
        exact jX2_count_44 X hr hlocks hK hN hA (fX2_count_j23 n) ih z0 y1 y3 0 y2 hF H locs hP hD hS ls (lv_sub hl [0, 1, 3] rfl)
def fX2_count (z0 : SM) (x1 : Int32) : Option (Int32 × SM) := bd_ (fX2_in z0 x1 5 10) (fun r1 z1 => (if r1 = 0 then (fX2_count_j23 20 z1 x1 0 0) else if (x1 - 5) < 0 ∨ 6 ≤ (x1 - 5).toNatClampNeg then none else let_ (z1.2.2.2.1 (x1 - 5).toNatClampNeg) (fun v3 => some (v3, z1))))
set_option maxRecDepth 100000 in
set_option maxHeartbeats 4000000 in
theorem kX2_count (l : Launch) (G : va_G) (cy cyO : ClassId) (a : Nat → Nat) (z0 : SM) (x1 : Int32) (r : Int32) (u : SM) (hF : fX2_count z0 x1 = some (r, u)) : Ct l G (tys_ cy cyO) yX2_count wsX2_count ({ frames := 1, cells := 0, slots := 0, locals := 22 } : Room) [.ref (a 0), .int x1] (mW a cy z0) (some (.int r)) (mW a cy u) := by
  unfold fX2_count at hF
  refine ct_of (cc := cX2_count) (maxL := 4) (ret := (some .int)) (own := RX2) (by decide) rfl (Nat.le_of_ble_eq_true rfl) rfl ?_
  intro p e s m below meth c A ls X hr hlocks _ hK hN hA hP hD hl
  have hS : va_S A s.heap s.heap [] := va_S.rf
  have hl : lv_has ls 4 [(0, .ref (a 0)), (1, .int x1)] := hl
  obtain ⟨hx, hb, hml, hown, hts⟩ := id X
  have hin2 : ∀ w ∈ wsX20, w ∈ wsX2_count := by decide +kernel
  refine lv_iload_n hx hb dX2_count_0 rfl (lv_at hl 1 rfl) ?_
  refine lv_iconst (v := 5) hx hb dX2_count_1 (by decide) ?_
  refine lv_bipush (v := 10) hx hb dX2_count_2 (by decide) ?_
  obtain ⟨r1, z1, hG1, hF⟩ := o_b hF
  refine cl_S (rest := []) X hK hN hA hP hD hS (kX2_in l G cy cyO a z0 x1 5 10 r1 z1 hG1) (va_cwS 3 hts gX2_count_X2_in rfl rfl rfl (by decide +kernel) ⟨Nat.le_of_ble_eq_true rfl, Nat.le_of_ble_eq_true rfl⟩) rfl hl.1 rfl (Nat.le_of_ble_eq_true rfl) dX2_count_4 ⟨Nat.zero_le _, Nat.zero_le _⟩ (fun H locs hP hD hS => ?_)
  refine W.eq (g2 := F0 m 7 ls [.int r1]) rfl ?_
  refine lv_if_eq (tgt := 19) hx hb dX2_count_7 (by decide) (fun c2 => ?_) (fun c2 => ?_)
  · have hF := o_t c2 hF
    refine lv_iconst (v := 0) hx hb dX2_count_19 (by decide) ?_
    refine lv_istore_n (lv' := [(2, .int 0), (0, .ref (a 0)), (1, .int x1)]) hx hb dX2_count_20 rfl hl (by decide) rfl (fun ls hl => ?_)
    refine lv_iconst (v := 0) hx hb dX2_count_21 (by decide) ?_
    refine lv_istore_n (lv' := [(3, .int 0), (2, .int 0), (0, .ref (a 0)), (1, .int x1)]) hx hb dX2_count_22 rfl hl (by decide) rfl (fun ls hl => ?_)
    exact jX2_count_23 X hr hlocks hK hN hA 20 z1 x1 0 0 hF H locs hP hD hS ls (lv_sub hl [2, 3, 1, 0] rfl)
  · have hF := o_f c2 hF
    refine lv_aload_n hx hb dX2_count_10 rfl (lv_at hl 0 rfl) ?_
    refine va_get (D := G) (ci := 2) (v := .ref (a 11)) (C := RX2) (T := TX2) (N := 18) hx hb hts hin2 hown hK hP 0 rfl rfl 11 (by decide) (hts (.fieldLink RX2 40 "SignalBoxModel" "lengths" "[I") (by decide +kernel)) (fun _ h9 => h9) rfl dX2_count_11 ?_
    refine lv_iload_n hx hb dX2_count_14 rfl (lv_at hl 1 rfl) ?_
    refine lv_iconst (v := 5) hx hb dX2_count_15 (by decide) ?_
    refine lv_isub hx hb dX2_count_16 ?_
    obtain ⟨h3, hF⟩ := o_n hF
    refine va_iald (n := 6) (f := z1.2.2.2.1) (cA := cy) hx hb hK hP 11 0 rfl rfl h3 dX2_count_17 ?_
    obtain ⟨v3, e3, hF⟩ := o_l hF
    refine w_top e3 ?_
    obtain ⟨rfl, rfl⟩ := o_s hF
    exact rt_i X hr hlocks hP hD hS dX2_count_18
end
section
section SEC0
variable {p : Program} {l : Launch} {e : Env} {R : Room} {s : State} {m : MethodId} {args : Array Value} {below : List Frame} {meth : Method} {c : Code} {H : Heap} {locs : List Loc} {cells slots : Nat} {Q : State → Prop}
variable {cc : ByteArray} {nL pc index : Nat} {Ts : List Cond} {G : va_G} {cy cyO : ClassId} {A : Nat → Prop} {ls : Array Slot} {rest : List Value} {a : Nat → Nat} {σ : SC} {x : Nat}
/-- a section's field is read, out of Section itself -/
theorem cs_get0 (X : CallFix p m c cc nL s args Ts RX0) (hin : ∀ w ∈ wsX00, w ∈ Ts) (hK : va_K G vwCl (tys_ cy cyO) s) (hP : va_P G vwCl (cW a cy cyO σ) H) (hx : x ∈ σ.2.1) (k : Nat) (hk : k < 9) (hlink : (Cond.fieldLink RX0 index RX0 (TX0 k).2.1 (TX0 k).2.2.1).before args s = true) (hd : (TX0 k).1 = RX0) {v : Value} (hv : ([.int (σ.1 x 0), .int (σ.1 x 1), .int (σ.1 x 2), .int (σ.1 x 3), .int (σ.1 x 4), .int (σ.1 x 5), .int (σ.1 x 6), .int (σ.1 x 7), .int (σ.1 x 8)] : List Value)[k]? = some v) (hdg : decode cc pc = .ok (.getfield index, 3))
    (kk : W p l e R s m args below meth c H locs cells slots Q (F0 m (pc + 3) ls (v :: rest))) : W p l e R s m args below meth c H locs cells slots Q (F0 m pc ls (.ref x :: rest)) := by
  obtain ⟨q, hq⟩ := cW_at (a := a) (cy := cy) (cyO := cyO) hx
  exact va_get (ref := RX0) X.1 X.2.1 X.2.2.2.2 hin X.2.2.2.1 hK hP q hq (ci := 0) (C := RX0) (T := TX0) (N := 9) rfl k hk hlink (fun z h => by rw [hd] at h; exact h) hv hdg kk
end SEC0
def fX0_hasRoomFor (z0 : SC) (x0 : Nat) (x1 : Int32) : Option (Int32 × SC) := if x0 ∈ z0.2.1 then if x0 ∈ z0.2.1 then (if 0 < (lg_cmp ((z0.1 x0 4).toInt64 + x1.toInt64) ((z0.1 x0 2).toInt64)) then some (0, z0) else some (1, z0)) else none else none
set_option maxRecDepth 100000 in
set_option maxHeartbeats 4000000 in
theorem kX0_hasRoomFor (l : Launch) (G : va_G) (cy cyO : ClassId) (a : Nat → Nat) (z0 : SC) (x0 : Nat) (x1 : Int32) (r : Int32) (u : SC) (hF : fX0_hasRoomFor z0 x0 x1 = some (r, u)) : Ct l G (tys_ cy cyO) yX0_hasRoomFor wsX0_hasRoomFor ({ frames := 0, cells := 0, slots := 0, locals := 0 } : Room) [.ref x0, .int x1] (cW a cy cyO z0) (some (.int r)) (cW a cy cyO u) := by
  unfold fX0_hasRoomFor at hF
  refine ct_of (cc := cX0_hasRoomFor) (maxL := 2) (ret := (some .boolean)) (own := RX0) (by decide) rfl (Nat.le_of_ble_eq_true rfl) rfl ?_
  intro p e s m below meth c A ls X hr hlocks _ hK hN hA hP hD hl
  have hS : va_S A s.heap s.heap [] := va_S.rf
  have hl : lv_has ls 2 [(0, .ref x0), (1, .int x1)] := hl
  obtain ⟨hx, hb, hml, hown, hts⟩ := id X
  have hin0 : ∀ w ∈ wsX00, w ∈ wsX0_hasRoomFor := by decide +kernel
  refine lv_aload_n hx hb dX0_hasRoomFor_0 rfl (lv_at hl 0 rfl) ?_
  obtain ⟨h1, hF⟩ := o_i hF
  refine cs_get0 X hin0 hK hP h1 4 (by decide) (hts (.fieldLink RX0 22 RX0 (TX0 4).2.1 (TX0 4).2.2.1) (by decide +kernel)) (by decide) (v := .int (z0.1 x0 4)) rfl dX0_hasRoomFor_1 ?_
  refine lv_i2l hx hb dX0_hasRoomFor_4 rfl ?_
  refine lv_iload_n hx hb dX0_hasRoomFor_5 rfl (lv_at hl 1 rfl) ?_
  refine lv_i2l hx hb dX0_hasRoomFor_6 rfl ?_
  refine lv_ladd hx hb dX0_hasRoomFor_7 ?_
  refine lv_aload_n hx hb dX0_hasRoomFor_8 rfl (lv_at hl 0 rfl) ?_
  obtain ⟨h2, hF⟩ := o_i hF
  refine cs_get0 X hin0 hK hP h2 2 (by decide) (hts (.fieldLink RX0 16 RX0 (TX0 2).2.1 (TX0 2).2.2.1) (by decide +kernel)) (by decide) (v := .int (z0.1 x0 2)) rfl dX0_hasRoomFor_9 ?_
  refine lv_i2l hx hb dX0_hasRoomFor_12 rfl ?_
  refine W.lcmp hx hb dX0_hasRoomFor_13 ?_
  refine lv_if_gt (tgt := 21) hx hb dX0_hasRoomFor_14 (by decide) (fun c3 => ?_) (fun c3 => ?_)
  · have hF := o_t c3 hF
    refine lv_iconst (v := 0) hx hb dX0_hasRoomFor_21 (by decide) ?_
    obtain ⟨rfl, rfl⟩ := o_s hF
    exact rt_z X hr hlocks hP hD hS rfl dX0_hasRoomFor_22
  · have hF := o_f c3 hF
    refine lv_iconst (v := 1) hx hb dX0_hasRoomFor_17 (by decide) ?_
    refine lv_goto (tgt := 22) hx hb dX0_hasRoomFor_18 (by decide) ?_
    obtain ⟨rfl, rfl⟩ := o_s hF
    exact rt_z X hr hlocks hP hD hS rfl dX0_hasRoomFor_22
def fX1_isPlace (z0 : SC) (x0 : Int32) : Option (Int32 × SC) := (if x0 < 0 then some (0, z0) else (if 12 ≤ x0 then some (0, z0) else some (1, z0)))
set_option maxRecDepth 100000 in
set_option maxHeartbeats 4000000 in
theorem kX1_isPlace (l : Launch) (G : va_G) (cy cyO : ClassId) (a : Nat → Nat) (z0 : SC) (x0 : Int32) (r : Int32) (u : SC) (hF : fX1_isPlace z0 x0 = some (r, u)) : Ct l G (tys_ cy cyO) yX1_isPlace wsX1_isPlace ({ frames := 0, cells := 0, slots := 0, locals := 0 } : Room) [.int x0] (cW a cy cyO z0) (some (.int r)) (cW a cy cyO u) := by
  unfold fX1_isPlace at hF
  refine ct_of (cc := cX1_isPlace) (maxL := 1) (ret := (some .boolean)) (own := RX1) (by decide) rfl (Nat.le_of_ble_eq_true rfl) rfl ?_
  intro p e s m below meth c A ls X hr hlocks _ hK hN hA hP hD hl
  have hS : va_S A s.heap s.heap [] := va_S.rf
  have hl : lv_has ls 1 [(0, .int x0)] := hl
  obtain ⟨hx, hb, hml, hown, hts⟩ := id X
  refine lv_iload_n hx hb dX1_isPlace_0 rfl (lv_at hl 0 rfl) ?_
  refine lv_if_lt (tgt := 14) hx hb dX1_isPlace_1 (by decide) (fun c1 => ?_) (fun c1 => ?_)
  · have hF := o_t c1 hF
    refine lv_iconst (v := 0) hx hb dX1_isPlace_14 (by decide) ?_
    obtain ⟨rfl, rfl⟩ := o_s hF
    exact rt_z X hr hlocks hP hD hS rfl dX1_isPlace_15
  · have hF := o_f c1 hF
    refine lv_iload_n hx hb dX1_isPlace_4 rfl (lv_at hl 0 rfl) ?_
    refine lv_bipush (v := 12) hx hb dX1_isPlace_5 (by decide) ?_
    refine lv_icmp_ge (tgt := 14) hx hb dX1_isPlace_7 (by decide) (fun c2 => ?_) (fun c2 => ?_)
    · have hF := o_t c2 hF
      refine lv_iconst (v := 0) hx hb dX1_isPlace_14 (by decide) ?_
      obtain ⟨rfl, rfl⟩ := o_s hF
      exact rt_z X hr hlocks hP hD hS rfl dX1_isPlace_15
    · have hF := o_f c2 hF
      refine lv_iconst (v := 1) hx hb dX1_isPlace_10 (by decide) ?_
      refine lv_goto (tgt := 15) hx hb dX1_isPlace_11 (by decide) ?_
      obtain ⟨rfl, rfl⟩ := o_s hF
      exact rt_z X hr hlocks hP hD hS rfl dX1_isPlace_15
def fX1_isRoute (z0 : SC) (x0 : Int32) : Option (Int32 × SC) := (if x0 < 0 then some (0, z0) else (if 6 ≤ x0 then some (0, z0) else some (1, z0)))
set_option maxRecDepth 100000 in
set_option maxHeartbeats 4000000 in
theorem kX1_isRoute (l : Launch) (G : va_G) (cy cyO : ClassId) (a : Nat → Nat) (z0 : SC) (x0 : Int32) (r : Int32) (u : SC) (hF : fX1_isRoute z0 x0 = some (r, u)) : Ct l G (tys_ cy cyO) yX1_isRoute wsX1_isRoute ({ frames := 0, cells := 0, slots := 0, locals := 0 } : Room) [.int x0] (cW a cy cyO z0) (some (.int r)) (cW a cy cyO u) := by
  unfold fX1_isRoute at hF
  refine ct_of (cc := cX1_isRoute) (maxL := 1) (ret := (some .boolean)) (own := RX1) (by decide) rfl (Nat.le_of_ble_eq_true rfl) rfl ?_
  intro p e s m below meth c A ls X hr hlocks _ hK hN hA hP hD hl
  have hS : va_S A s.heap s.heap [] := va_S.rf
  have hl : lv_has ls 1 [(0, .int x0)] := hl
  obtain ⟨hx, hb, hml, hown, hts⟩ := id X
  refine lv_iload_n hx hb dX1_isRoute_0 rfl (lv_at hl 0 rfl) ?_
  refine lv_if_lt (tgt := 14) hx hb dX1_isRoute_1 (by decide) (fun c1 => ?_) (fun c1 => ?_)
  · have hF := o_t c1 hF
    refine lv_iconst (v := 0) hx hb dX1_isRoute_14 (by decide) ?_
    obtain ⟨rfl, rfl⟩ := o_s hF
    exact rt_z X hr hlocks hP hD hS rfl dX1_isRoute_15
  · have hF := o_f c1 hF
    refine lv_iload_n hx hb dX1_isRoute_4 rfl (lv_at hl 0 rfl) ?_
    refine lv_bipush (v := 6) hx hb dX1_isRoute_5 (by decide) ?_
    refine lv_icmp_ge (tgt := 14) hx hb dX1_isRoute_7 (by decide) (fun c2 => ?_) (fun c2 => ?_)
    · have hF := o_t c2 hF
      refine lv_iconst (v := 0) hx hb dX1_isRoute_14 (by decide) ?_
      obtain ⟨rfl, rfl⟩ := o_s hF
      exact rt_z X hr hlocks hP hD hS rfl dX1_isRoute_15
    · have hF := o_f c2 hF
      refine lv_iconst (v := 1) hx hb dX1_isRoute_10 (by decide) ?_
      refine lv_goto (tgt := 15) hx hb dX1_isRoute_11 (by decide) ?_
      obtain ⟨rfl, rfl⟩ := o_s hF
      exact rt_z X hr hlocks hP hD hS rfl dX1_isRoute_15
def fX1_isAxles (z0 : SC) (x0 : Int32) : Option (Int32 × SC) := (if x0 < 0 then some (0, z0) else (if 1000 < x0 then some (0, z0) else some (1, z0)))
set_option maxRecDepth 100000 in
set_option maxHeartbeats 4000000 in
theorem kX1_isAxles (l : Launch) (G : va_G) (cy cyO : ClassId) (a : Nat → Nat) (z0 : SC) (x0 : Int32) (r : Int32) (u : SC) (hF : fX1_isAxles z0 x0 = some (r, u)) : Ct l G (tys_ cy cyO) yX1_isAxles wsX1_isAxles ({ frames := 0, cells := 0, slots := 0, locals := 0 } : Room) [.int x0] (cW a cy cyO z0) (some (.int r)) (cW a cy cyO u) := by
  unfold fX1_isAxles at hF
  refine ct_of (cc := cX1_isAxles) (maxL := 1) (ret := (some .boolean)) (own := RX1) (by decide) rfl (Nat.le_of_ble_eq_true rfl) rfl ?_
  intro p e s m below meth c A ls X hr hlocks _ hK hN hA hP hD hl
  have hS : va_S A s.heap s.heap [] := va_S.rf
  have hl : lv_has ls 1 [(0, .int x0)] := hl
  obtain ⟨hx, hb, hml, hown, hts⟩ := id X
  refine lv_iload_n hx hb dX1_isAxles_0 rfl (lv_at hl 0 rfl) ?_
  refine lv_if_lt (tgt := 15) hx hb dX1_isAxles_1 (by decide) (fun c1 => ?_) (fun c1 => ?_)
  · have hF := o_t c1 hF
    refine lv_iconst (v := 0) hx hb dX1_isAxles_15 (by decide) ?_
    obtain ⟨rfl, rfl⟩ := o_s hF
    exact rt_z X hr hlocks hP hD hS rfl dX1_isAxles_16
  · have hF := o_f c1 hF
    refine lv_iload_n hx hb dX1_isAxles_4 rfl (lv_at hl 0 rfl) ?_
    refine lv_sipush (v := 1000) hx hb dX1_isAxles_5 (by decide) ?_
    refine lv_icmp_gt (tgt := 15) hx hb dX1_isAxles_8 (by decide) (fun c2 => ?_) (fun c2 => ?_)
    · have hF := o_t c2 hF
      refine lv_iconst (v := 0) hx hb dX1_isAxles_15 (by decide) ?_
      obtain ⟨rfl, rfl⟩ := o_s hF
      exact rt_z X hr hlocks hP hD hS rfl dX1_isAxles_16
    · have hF := o_f c2 hF
      refine lv_iconst (v := 1) hx hb dX1_isAxles_11 (by decide) ?_
      refine lv_goto (tgt := 16) hx hb dX1_isAxles_12 (by decide) ?_
      obtain ⟨rfl, rfl⟩ := o_s hF
      exact rt_z X hr hlocks hP hD hS rfl dX1_isAxles_16
def fX1_isLimit (z0 : SC) (x0 : Int32) : Option (Int32 × SC) := (if x0 < 0 then some (0, z0) else (if 100000 < x0 then some (0, z0) else some (1, z0)))
set_option maxRecDepth 100000 in
set_option maxHeartbeats 4000000 in
theorem kX1_isLimit (l : Launch) (G : va_G) (cy cyO : ClassId) (a : Nat → Nat) (z0 : SC) (x0 : Int32) (r : Int32) (u : SC) (hF : fX1_isLimit z0 x0 = some (r, u)) : Ct l G (tys_ cy cyO) yX1_isLimit wsX1_isLimit ({ frames := 0, cells := 0, slots := 0, locals := 0 } : Room) [.int x0] (cW a cy cyO z0) (some (.int r)) (cW a cy cyO u) := by
  unfold fX1_isLimit at hF
  refine ct_of (cc := cX1_isLimit) (maxL := 1) (ret := (some .boolean)) (own := RX1) (by decide) rfl (Nat.le_of_ble_eq_true rfl) rfl ?_
  intro p e s m below meth c A ls X hr hlocks _ hK hN hA hP hD hl
  have hS : va_S A s.heap s.heap [] := va_S.rf
  have hl : lv_has ls 1 [(0, .int x0)] := hl
  obtain ⟨hx, hb, hml, hown, hts⟩ := id X
  refine lv_iload_n hx hb dX1_isLimit_0 rfl (lv_at hl 0 rfl) ?_
  refine lv_if_lt (tgt := 14) hx hb dX1_isLimit_1 (by decide) (fun c1 => ?_) (fun c1 => ?_)
  · have hF := o_t c1 hF
    refine lv_iconst (v := 0) hx hb dX1_isLimit_14 (by decide) ?_
    obtain ⟨rfl, rfl⟩ := o_s hF
    exact rt_z X hr hlocks hP hD hS rfl dX1_isLimit_15
  · have hF := o_f c1 hF
    refine lv_iload_n hx hb dX1_isLimit_4 rfl (lv_at hl 0 rfl) ?_
    refine lv_ldc (v := 100000) hx hb hown (hts (.constant RX1 120 (100000)) (by decide +kernel)) dX1_isLimit_5 ?_
    refine lv_icmp_gt (tgt := 14) hx hb dX1_isLimit_7 (by decide) (fun c2 => ?_) (fun c2 => ?_)
    · have hF := o_t c2 hF
      refine lv_iconst (v := 0) hx hb dX1_isLimit_14 (by decide) ?_
      obtain ⟨rfl, rfl⟩ := o_s hF
      exact rt_z X hr hlocks hP hD hS rfl dX1_isLimit_15
    · have hF := o_f c2 hF
      refine lv_iconst (v := 1) hx hb dX1_isLimit_10 (by decide) ?_
      refine lv_goto (tgt := 15) hx hb dX1_isLimit_11 (by decide) ?_
      obtain ⟨rfl, rfl⟩ := o_s hF
      exact rt_z X hr hlocks hP hD hS rfl dX1_isLimit_15
def fX1_claim_j39 (z0 : SC) (w1 : Nat) : Option (Int32 × SC) := (if 150 ≤ z0.2.2.2.2.2.2.1 then some (0, z0) else let_ ((z0.1, z0.2.1, z0.2.2.1, z0.2.2.2.1, z0.2.2.2.2.1, z0.2.2.2.2.2.1, (z0.2.2.2.2.2.2.1 + 1), z0.2.2.2.2.2.2.2) : SC) (fun z2 => if w1 ∈ z2.2.1 then if z0.2.2.2.2.2.2.1 < 0 ∨ 150 ≤ z0.2.2.2.2.2.2.1.toNatClampNeg then none else let_ ((z2.1, z2.2.1, z2.2.2.1, z2.2.2.2.1, z2.2.2.2.2.1, (upd z2.2.2.2.2.2.1 z0.2.2.2.2.2.2.1.toNatClampNeg (1000 + (z2.1 w1 0))), z2.2.2.2.2.2.2) : SC) (fun z5 => some (0, z5)) else none))
set_option maxRecDepth 100000 in
set_option maxHeartbeats 4000000 in
theorem jX1_claim_39 {p : Program} {l : Launch} {e : Env} {s : State} {m : MethodId} {args : Array Value} {below : List Frame} {meth : Method} {c : Code} {G : va_G} {cy cyO : ClassId} {a : Nat → Nat} {A : Nat → Prop} {r : Int32} {u : SC} (X : CallFix p m c cX1_claim 2 s args wsX1_claim RX1) (hr : meth.sig.returnType = none) (hlocks : meth.locks = false) (hK : va_K G vwCl (tys_ cy cyO) s) (hN : nw s) (hA : ∀ q, s.heap.size ≤ q → A q) : ∀ (z0 : SC) (w1 : Nat), fX1_claim_j39 z0 w1 = some (r, u) → ∀ (H : Heap) (locs : List Loc), va_P G vwCl (cW a cy cyO z0) H → va_D A (cW a cy cyO z0) → va_S A s.heap H locs → ∀ (ls : Array Slot), lv_has ls 2 [(0, .ref (a 0)), (1, .ref w1)] → W p l e ({ frames := 0, cells := 0, slots := 0, locals := 0 } : Room) s m args below meth c H locs 0 0 (MQ below (qg none (fun t => wPost G A (cW a cy cyO u) t) A) args s 0 0 A) (F0 m 39 ls []) := by
  obtain ⟨hx, hb, hml, hown, hts⟩ := id X
  have hin1 : ∀ w ∈ wsX10, w ∈ wsX1_claim := by decide +kernel
  have hin0 : ∀ w ∈ wsX00, w ∈ wsX1_claim := by decide +kernel
  intro z0 w1 hF H locs hP hD hS ls hl
  unfold fX1_claim_j39 at hF
  refine lv_aload_n hx hb dX1_claim_39 rfl (lv_at hl 0 rfl) ?_
  refine va_get (D := G) (ci := 1) (v := .int z0.2.2.2.2.2.2.1) (C := RX1) (T := TX1) (N := 10) hx hb hts hin1 hown hK hP 0 rfl rfl 4 (by decide) (hts (.fieldLink RX1 54 "SignalBox" "traceLength" "I") (by decide +kernel)) (fun _ h9 => h9) rfl dX1_claim_40 ?_
  refine lv_sipush (v := 150) hx hb dX1_claim_43 (by decide) ?_
  refine lv_icmp_ge (tgt := 73) hx hb dX1_claim_46 (by decide) (fun c1 => ?_) (fun c1 => ?_)
  · have hF := o_t c1 hF
    obtain ⟨rfl, rfl⟩ := o_s hF
    exact rt_v X hr hlocks hP hD hS dX1_claim_73
  · have hF := o_f c1 hF
    refine lv_aload_n hx hb dX1_claim_49 rfl (lv_at hl 0 rfl) ?_
    refine va_get (D := G) (ci := 1) (v := .ref (a 4)) (C := RX1) (T := TX1) (N := 10) hx hb hts hin1 hown hK hP 0 rfl rfl 3 (by decide) (hts (.fieldLink RX1 22 "SignalBox" "trace" "[I") (by decide +kernel)) (fun _ h9 => h9) rfl dX1_claim_50 ?_
    refine lv_aload_n hx hb dX1_claim_53 rfl (lv_at hl 0 rfl) ?_
    refine lv_dup hx hb dX1_claim_54 rfl ?_
    refine va_get (D := G) (ci := 1) (v := .int z0.2.2.2.2.2.2.1) (C := RX1) (T := TX1) (N := 10) hx hb hts hin1 hown hK hP 0 rfl rfl 4 (by decide) (hts (.fieldLink RX1 54 "SignalBox" "traceLength" "I") (by decide +kernel)) (fun _ h9 => h9) rfl dX1_claim_55 ?_
    refine lv_dup_x1 hx hb dX1_claim_58 rfl rfl ?_
    refine lv_iconst (v := 1) hx hb dX1_claim_59 (by decide) ?_
    refine lv_iadd hx hb dX1_claim_60 ?_
    refine va_put (D := G) (ci := 1) (v := .int (z0.2.2.2.2.2.2.1 + 1)) (ty := .int) (C := RX1) (T := TX1) (N := 10) hx hb hts hin1 tyX1 tyX1_ok nmX1 hown hK hP hD hS 0 rfl rfl 4 (by decide) (hts (.fieldLink RX1 54 "SignalBox" "traceLength" "I") (by decide +kernel)) (fun _ h9 => h9) rfl (by decide +kernel) rfl rfl (Nat.le_of_ble_eq_true rfl) dX1_claim_61 (fun H locs hP hD hS => ?_)
    obtain ⟨z2, e2, hF⟩ := o_l hF
    have hP : va_P G vwCl (cW a cy cyO z2) H := by rw [e2]; exact hP
    have hD : va_D A (cW a cy cyO z2) := by rw [e2]; exact hD
    refine lv_sipush (v := 1000) hx hb dX1_claim_64 (by decide) ?_
    refine lv_aload_n hx hb dX1_claim_67 rfl (lv_at hl 1 rfl) ?_
    obtain ⟨h3, hF⟩ := o_i hF
    refine cs_get X hin0 hK hN hP h3 0 (by decide) (by decide) (by decide) (v := .int (z2.1 w1 0)) rfl dX1_claim_68 ?_
    refine lv_iadd hx hb dX1_claim_71 ?_
    obtain ⟨h4, hF⟩ := o_n hF
    refine va_iast (n := 150) (f := z2.2.2.2.2.2.1) (cA := cy) hx hb hK hP hD hS 4 0 rfl rfl h4 dX1_claim_72 (fun H locs hP hD hS => ?_)
    obtain ⟨z5, e5, hF⟩ := o_l hF
    have hP : va_P G vwCl (cW a cy cyO z5) H := by rw [e5]; exact hP
    have hD : va_D A (cW a cy cyO z5) := by rw [e5]; exact hD
    obtain ⟨rfl, rfl⟩ := o_s hF
    exact rt_v X hr hlocks hP hD hS dX1_claim_73
def fX1_claim (z0 : SC) (x1 : Nat) : Option (Int32 × SC) := if x1 ∈ z0.2.1 then if x1 ∈ z0.2.1 then let_ ((setS z0.1 x1 7 ((z0.1 x1 7) + 1), z0.2) : SC) (fun z2 => if x1 ∈ z2.2.1 then if x1 ∈ z2.2.1 then let_ ((setS z2.1 x1 6 ((z2.1 x1 6) + 1), z2.2) : SC) (fun z4 => if x1 ∈ z4.2.1 then if x1 ∈ z4.2.1 then (if (z4.1 x1 7) ≤ (z4.1 x1 8) then (fX1_claim_j39 z4 x1) else if x1 ∈ z4.2.1 then if x1 ∈ z4.2.1 then let_ ((setS z4.1 x1 8 (z4.1 x1 7), z4.2) : SC) (fun z9 => (fX1_claim_j39 z9 x1)) else none else none) else none else none) else none else none) else none else none
set_option maxRecDepth 100000 in
set_option maxHeartbeats 4000000 in
theorem kX1_claim (l : Launch) (G : va_G) (cy cyO : ClassId) (a : Nat → Nat) (z0 : SC) (x1 : Nat) (r : Int32) (u : SC) (hF : fX1_claim z0 x1 = some (r, u)) : Ct l G (tys_ cy cyO) yX1_claim wsX1_claim ({ frames := 0, cells := 0, slots := 0, locals := 0 } : Room) [.ref (a 0), .ref x1] (cW a cy cyO z0) none (cW a cy cyO u) := by
  unfold fX1_claim at hF
  refine ct_of (cc := cX1_claim) (maxL := 2) (ret := none) (own := RX1) (by decide) rfl (Nat.le_of_ble_eq_true rfl) rfl ?_
  intro p e s m below meth c A ls X hr hlocks _ hK hN hA hP hD hl
  have hS : va_S A s.heap s.heap [] := va_S.rf
  have hl : lv_has ls 2 [(0, .ref (a 0)), (1, .ref x1)] := hl
  obtain ⟨hx, hb, hml, hown, hts⟩ := id X
  have hin1 : ∀ w ∈ wsX10, w ∈ wsX1_claim := by decide +kernel
  have hin0 : ∀ w ∈ wsX00, w ∈ wsX1_claim := by decide +kernel
  refine lv_aload_n hx hb dX1_claim_0 rfl (lv_at hl 1 rfl) ?_
  refine lv_dup hx hb dX1_claim_1 rfl ?_
  obtain ⟨h1, hF⟩ := o_i hF
  refine cs_get X hin0 hK hN hP h1 7 (by decide) (by decide) (by decide) (v := .int (z0.1 x1 7)) rfl dX1_claim_2 ?_
  refine lv_iconst (v := 1) hx hb dX1_claim_5 (by decide) ?_
  refine lv_iadd hx hb dX1_claim_6 ?_
  obtain ⟨h2, hF⟩ := o_i hF
  refine cs_put X hin0 hK hN hP hD hS h2 7 (by decide) (by decide) (by decide) rfl dX1_claim_7 (fun H locs hP hD hS => ?_)
  obtain ⟨z2, e2, hF⟩ := o_l hF
  have hP : va_P G vwCl (cW a cy cyO z2) H := by rw [e2]; exact hP
  have hD : va_D A (cW a cy cyO z2) := by rw [e2]; exact hD
  refine lv_aload_n hx hb dX1_claim_10 rfl (lv_at hl 1 rfl) ?_
  refine lv_dup hx hb dX1_claim_11 rfl ?_
  obtain ⟨h3, hF⟩ := o_i hF
  refine cs_get X hin0 hK hN hP h3 6 (by decide) (by decide) (by decide) (v := .int (z2.1 x1 6)) rfl dX1_claim_12 ?_
  refine lv_iconst (v := 1) hx hb dX1_claim_15 (by decide) ?_
  refine lv_iadd hx hb dX1_claim_16 ?_
  obtain ⟨h4, hF⟩ := o_i hF
  refine cs_put X hin0 hK hN hP hD hS h4 6 (by decide) (by decide) (by decide) rfl dX1_claim_17 (fun H locs hP hD hS => ?_)
  obtain ⟨z4, e4, hF⟩ := o_l hF
  have hP : va_P G vwCl (cW a cy cyO z4) H := by rw [e4]; exact hP
  have hD : va_D A (cW a cy cyO z4) := by rw [e4]; exact hD
  refine lv_aload_n hx hb dX1_claim_20 rfl (lv_at hl 1 rfl) ?_
  obtain ⟨h5, hF⟩ := o_i hF
  refine cs_get X hin0 hK hN hP h5 7 (by decide) (by decide) (by decide) (v := .int (z4.1 x1 7)) rfl dX1_claim_21 ?_
  refine lv_aload_n hx hb dX1_claim_24 rfl (lv_at hl 1 rfl) ?_
  obtain ⟨h6, hF⟩ := o_i hF
  refine cs_get X hin0 hK hN hP h6 8 (by decide) (by decide) (by decide) (v := .int (z4.1 x1 8)) rfl dX1_claim_25 ?_
  refine lv_icmp_le (tgt := 39) hx hb dX1_claim_28 (by decide) (fun c7 => ?_) (fun c7 => ?_)
  · have hF := o_t c7 hF
    exact jX1_claim_39 X hr hlocks hK hN hA z4 x1 hF H locs hP hD hS ls (lv_sub hl [0, 1] rfl)
  · have hF := o_f c7 hF
    refine lv_aload_n hx hb dX1_claim_31 rfl (lv_at hl 1 rfl) ?_
    refine lv_aload_n hx hb dX1_claim_32 rfl (lv_at hl 1 rfl) ?_
    obtain ⟨h8, hF⟩ := o_i hF
    refine cs_get X hin0 hK hN hP h8 7 (by decide) (by decide) (by decide) (v := .int (z4.1 x1 7)) rfl dX1_claim_33 ?_
    obtain ⟨h9, hF⟩ := o_i hF
    refine cs_put X hin0 hK hN hP hD hS h9 8 (by decide) (by decide) (by decide) rfl dX1_claim_36 (fun H locs hP hD hS => ?_)
    obtain ⟨z9, e9, hF⟩ := o_l hF
    have hP : va_P G vwCl (cW a cy cyO z9) H := by rw [e9]; exact hP
    have hD : va_D A (cW a cy cyO z9) := by rw [e9]; exact hD
    exact jX1_claim_39 X hr hlocks hK hN hA z9 x1 hF H locs hP hD hS ls (lv_sub hl [0, 1] rfl)
def fX1_let (z0 : SC) (x1 : Nat) : Option (Int32 × SC) := if x1 ∈ z0.2.1 then if x1 ∈ z0.2.1 then let_ ((setS z0.1 x1 7 ((z0.1 x1 7) - 1), z0.2) : SC) (fun z2 => (if 150 ≤ z2.2.2.2.2.2.2.1 then some (0, z2) else let_ ((z2.1, z2.2.1, z2.2.2.1, z2.2.2.2.1, z2.2.2.2.2.1, z2.2.2.2.2.2.1, (z2.2.2.2.2.2.2.1 + 1), z2.2.2.2.2.2.2.2) : SC) (fun z4 => if x1 ∈ z4.2.1 then if z2.2.2.2.2.2.2.1 < 0 ∨ 150 ≤ z2.2.2.2.2.2.2.1.toNatClampNeg then none else let_ ((z4.1, z4.2.1, z4.2.2.1, z4.2.2.2.1, z4.2.2.2.2.1, (upd z4.2.2.2.2.2.1 z2.2.2.2.2.2.2.1.toNatClampNeg (2000 + (z4.1 x1 0))), z4.2.2.2.2.2.2) : SC) (fun z7 => some (0, z7)) else none))) else none else none
set_option maxRecDepth 100000 in
set_option maxHeartbeats 4000000 in
theorem kX1_let (l : Launch) (G : va_G) (cy cyO : ClassId) (a : Nat → Nat) (z0 : SC) (x1 : Nat) (r : Int32) (u : SC) (hF : fX1_let z0 x1 = some (r, u)) : Ct l G (tys_ cy cyO) yX1_let wsX1_let ({ frames := 0, cells := 0, slots := 0, locals := 0 } : Room) [.ref (a 0), .ref x1] (cW a cy cyO z0) none (cW a cy cyO u) := by
  unfold fX1_let at hF
  refine ct_of (cc := cX1_let) (maxL := 2) (ret := none) (own := RX1) (by decide) rfl (Nat.le_of_ble_eq_true rfl) rfl ?_
  intro p e s m below meth c A ls X hr hlocks _ hK hN hA hP hD hl
  have hS : va_S A s.heap s.heap [] := va_S.rf
  have hl : lv_has ls 2 [(0, .ref (a 0)), (1, .ref x1)] := hl
  obtain ⟨hx, hb, hml, hown, hts⟩ := id X
  have hin1 : ∀ w ∈ wsX10, w ∈ wsX1_let := by decide +kernel
  have hin0 : ∀ w ∈ wsX00, w ∈ wsX1_let := by decide +kernel
  refine lv_aload_n hx hb dX1_let_0 rfl (lv_at hl 1 rfl) ?_
  refine lv_dup hx hb dX1_let_1 rfl ?_
  obtain ⟨h1, hF⟩ := o_i hF
  refine cs_get X hin0 hK hN hP h1 7 (by decide) (by decide) (by decide) (v := .int (z0.1 x1 7)) rfl dX1_let_2 ?_
  refine lv_iconst (v := 1) hx hb dX1_let_5 (by decide) ?_
  refine lv_isub hx hb dX1_let_6 ?_
  obtain ⟨h2, hF⟩ := o_i hF
  refine cs_put X hin0 hK hN hP hD hS h2 7 (by decide) (by decide) (by decide) rfl dX1_let_7 (fun H locs hP hD hS => ?_)
  obtain ⟨z2, e2, hF⟩ := o_l hF
  have hP : va_P G vwCl (cW a cy cyO z2) H := by rw [e2]; exact hP
  have hD : va_D A (cW a cy cyO z2) := by rw [e2]; exact hD
  refine lv_aload_n hx hb dX1_let_10 rfl (lv_at hl 0 rfl) ?_
  refine va_get (D := G) (ci := 1) (v := .int z2.2.2.2.2.2.2.1) (C := RX1) (T := TX1) (N := 10) hx hb hts hin1 hown hK hP 0 rfl rfl 4 (by decide) (hts (.fieldLink RX1 54 "SignalBox" "traceLength" "I") (by decide +kernel)) (fun _ h9 => h9) rfl dX1_let_11 ?_
  refine lv_sipush (v := 150) hx hb dX1_let_14 (by decide) ?_
  refine lv_icmp_ge (tgt := 44) hx hb dX1_let_17 (by decide) (fun c3 => ?_) (fun c3 => ?_)
  · have hF := o_t c3 hF
    obtain ⟨rfl, rfl⟩ := o_s hF
    exact rt_v X hr hlocks hP hD hS dX1_let_44
  · have hF := o_f c3 hF
    refine lv_aload_n hx hb dX1_let_20 rfl (lv_at hl 0 rfl) ?_
    refine va_get (D := G) (ci := 1) (v := .ref (a 4)) (C := RX1) (T := TX1) (N := 10) hx hb hts hin1 hown hK hP 0 rfl rfl 3 (by decide) (hts (.fieldLink RX1 22 "SignalBox" "trace" "[I") (by decide +kernel)) (fun _ h9 => h9) rfl dX1_let_21 ?_
    refine lv_aload_n hx hb dX1_let_24 rfl (lv_at hl 0 rfl) ?_
    refine lv_dup hx hb dX1_let_25 rfl ?_
    refine va_get (D := G) (ci := 1) (v := .int z2.2.2.2.2.2.2.1) (C := RX1) (T := TX1) (N := 10) hx hb hts hin1 hown hK hP 0 rfl rfl 4 (by decide) (hts (.fieldLink RX1 54 "SignalBox" "traceLength" "I") (by decide +kernel)) (fun _ h9 => h9) rfl dX1_let_26 ?_
    refine lv_dup_x1 hx hb dX1_let_29 rfl rfl ?_
    refine lv_iconst (v := 1) hx hb dX1_let_30 (by decide) ?_
    refine lv_iadd hx hb dX1_let_31 ?_
    refine va_put (D := G) (ci := 1) (v := .int (z2.2.2.2.2.2.2.1 + 1)) (ty := .int) (C := RX1) (T := TX1) (N := 10) hx hb hts hin1 tyX1 tyX1_ok nmX1 hown hK hP hD hS 0 rfl rfl 4 (by decide) (hts (.fieldLink RX1 54 "SignalBox" "traceLength" "I") (by decide +kernel)) (fun _ h9 => h9) rfl (by decide +kernel) rfl rfl (Nat.le_of_ble_eq_true rfl) dX1_let_32 (fun H locs hP hD hS => ?_)
    obtain ⟨z4, e4, hF⟩ := o_l hF
    have hP : va_P G vwCl (cW a cy cyO z4) H := by rw [e4]; exact hP
    have hD : va_D A (cW a cy cyO z4) := by rw [e4]; exact hD
    refine lv_sipush (v := 2000) hx hb dX1_let_35 (by decide) ?_
    refine lv_aload_n hx hb dX1_let_38 rfl (lv_at hl 1 rfl) ?_
    obtain ⟨h5, hF⟩ := o_i hF
    refine cs_get X hin0 hK hN hP h5 0 (by decide) (by decide) (by decide) (v := .int (z4.1 x1 0)) rfl dX1_let_39 ?_
    refine lv_iadd hx hb dX1_let_42 ?_
    obtain ⟨h6, hF⟩ := o_n hF
    refine va_iast (n := 150) (f := z4.2.2.2.2.2.1) (cA := cy) hx hb hK hP hD hS 4 0 rfl rfl h6 dX1_let_43 (fun H locs hP hD hS => ?_)
    obtain ⟨z7, e7, hF⟩ := o_l hF
    have hP : va_P G vwCl (cW a cy cyO z7) H := by rw [e7]; exact hP
    have hD : va_D A (cW a cy cyO z7) := by rw [e7]; exact hD
    obtain ⟨rfl, rfl⟩ := o_s hF
    exact rt_v X hr hlocks hP hD hS dX1_let_44
def fX1_passPlain (z0 : SC) (x1 : Nat) (x2 : Int32) : Option (Int32 × SC) := bd_ (fX1_claim z0 x1) (fun r1 z1 => if x1 ∈ z1.2.1 then bd_ (fX0_hasRoomFor z1 x1 x2) (fun r2 z2 => (if r2 = 0 then bd_ (fX1_let z2 x1) (fun r5 z5 => some ((-30), z5)) else if x1 ∈ z2.2.1 then if x1 ∈ z2.2.1 then let_ ((setS z2.1 x1 4 ((z2.1 x1 4) + x2), z2.2) : SC) (fun z7 => bd_ (fX1_let z7 x1) (fun r8 z8 => some (0, z8))) else none else none)) else none)
set_option maxRecDepth 100000 in
set_option maxHeartbeats 4000000 in
theorem kX1_passPlain (l : Launch) (G : va_G) (cy cyO : ClassId) (a : Nat → Nat) (z0 : SC) (x1 : Nat) (x2 : Int32) (r : Int32) (u : SC) (hF : fX1_passPlain z0 x1 x2 = some (r, u)) : Ct l G (tys_ cy cyO) yX1_passPlain wsX1_passPlain ({ frames := 1, cells := 0, slots := 0, locals := 21 } : Room) [.ref (a 0), .ref x1, .int x2] (cW a cy cyO z0) (some (.int r)) (cW a cy cyO u) := by
  unfold fX1_passPlain at hF
  refine ct_of (cc := cX1_passPlain) (maxL := 4) (ret := (some .int)) (own := RX1) (by decide) rfl (Nat.le_of_ble_eq_true rfl) rfl ?_
  intro p e s m below meth c A ls X hr hlocks _ hK hN hA hP hD hl
  have hS : va_S A s.heap s.heap [] := va_S.rf
  have hl : lv_has ls 4 [(0, .ref (a 0)), (1, .ref x1), (2, .int x2)] := hl
  obtain ⟨hx, hb, hml, hown, hts⟩ := id X
  have hin1 : ∀ w ∈ wsX10, w ∈ wsX1_passPlain := by decide +kernel
  have hin0 : ∀ w ∈ wsX00, w ∈ wsX1_passPlain := by decide +kernel
  refine lv_aload_n hx hb dX1_passPlain_0 rfl (lv_at hl 0 rfl) ?_
  refine lv_aload_n hx hb dX1_passPlain_1 rfl (lv_at hl 1 rfl) ?_
  obtain ⟨r1, z1, hG1, hF⟩ := o_b hF
  refine cl_V (C := RX1) (rest := []) X hK hN hA hP hD hS (kX1_claim l G cy cyO a z0 x1 r1 z1 hG1) (cwV 1 hts gX1_passPlain_X1_claim rfl rfl rfl (by decide +kernel) ⟨Nat.le_of_ble_eq_true rfl, Nat.le_of_ble_eq_true rfl⟩) (va_recv hK hP (ci := 1) (q0 := 0) rfl rfl) rfl hl.1 rfl (Nat.le_of_ble_eq_true rfl) dX1_passPlain_2 ⟨Nat.zero_le _, Nat.zero_le _⟩ (fun H locs hP hD hS => ?_)
  refine W.eq (g2 := F0 m 5 ls []) rfl ?_
  refine lv_bipush (v := (-30)) hx hb dX1_passPlain_5 (by decide) ?_
  refine lv_istore_n (lv' := [(3, .int (-30)), (0, .ref (a 0)), (1, .ref x1), (2, .int x2)]) hx hb dX1_passPlain_7 rfl hl (by decide) rfl (fun ls hl => ?_)
  refine lv_aload_n hx hb dX1_passPlain_8 rfl (lv_at hl 2 rfl) ?_
  refine lv_iload_n hx hb dX1_passPlain_9 rfl (lv_at hl 3 rfl) ?_
  obtain ⟨h3, hF⟩ := o_i hF
  obtain ⟨r2, z2, hG2, hF⟩ := o_b hF
  refine cl_N (C := RX0) (rest := []) X hK hN hA hP hD hS (kX0_hasRoomFor l G cy cyO a z1 x1 x2 r2 z2 hG2) ⟨va_cnB 1 hts gX1_passPlain_X0_hasRoomFor_n139 rfl rfl rfl (hN.2 (139, yX0_hasRoomFor) (by decide +kernel)) (hts (.initialized RX0) (by decide +kernel)) (by decide +kernel) ⟨Nat.le_of_ble_eq_true rfl, Nat.le_of_ble_eq_true rfl⟩, hts (.instanceMethod yX0_hasRoomFor) (by decide +kernel), hts (.selects RX0 yX0_hasRoomFor yX0_hasRoomFor) (by decide +kernel)⟩ (cs_recv hK hP h3) rfl hl.1 rfl (Nat.le_of_ble_eq_true rfl) dX1_passPlain_10 ⟨Nat.zero_le _, Nat.zero_le _⟩ (fun H locs hP hD hS => ?_)
  refine W.eq (g2 := F0 m 13 ls [.int r2]) rfl ?_
  refine lv_if_eq (tgt := 28) hx hb dX1_passPlain_13 (by decide) (fun c4 => ?_) (fun c4 => ?_)
  · have hF := o_t c4 hF
    refine lv_aload_n hx hb dX1_passPlain_28 rfl (lv_at hl 1 rfl) ?_
    refine lv_aload_n hx hb dX1_passPlain_29 rfl (lv_at hl 2 rfl) ?_
    obtain ⟨r5, z5, hG5, hF⟩ := o_b hF
    refine cl_V (C := RX1) (rest := []) X hK hN hA hP hD hS (kX1_let l G cy cyO a z2 x1 r5 z5 hG5) (cwV 1 hts gX1_passPlain_X1_let rfl rfl rfl (by decide +kernel) ⟨Nat.le_of_ble_eq_true rfl, Nat.le_of_ble_eq_true rfl⟩) (va_recv hK hP (ci := 1) (q0 := 0) rfl rfl) rfl hl.1 rfl (Nat.le_of_ble_eq_true rfl) dX1_passPlain_30 ⟨Nat.zero_le _, Nat.zero_le _⟩ (fun H locs hP hD hS => ?_)
    refine W.eq (g2 := F0 m 33 ls []) rfl ?_
    refine lv_iload_n hx hb dX1_passPlain_33 rfl (lv_at hl 0 rfl) ?_
    obtain ⟨rfl, rfl⟩ := o_s hF
    exact rt_i X hr hlocks hP hD hS dX1_passPlain_34
  · have hF := o_f c4 hF
    refine lv_aload_n hx hb dX1_passPlain_16 rfl (lv_at hl 2 rfl) ?_
    refine lv_dup hx hb dX1_passPlain_17 rfl ?_
    obtain ⟨h6, hF⟩ := o_i hF
    refine cs_get X hin0 hK hN hP h6 4 (by decide) (by decide) (by decide) (v := .int (z2.1 x1 4)) rfl dX1_passPlain_18 ?_
    refine lv_iload_n hx hb dX1_passPlain_21 rfl (lv_at hl 3 rfl) ?_
    refine lv_iadd hx hb dX1_passPlain_22 ?_
    obtain ⟨h7, hF⟩ := o_i hF
    refine cs_put X hin0 hK hN hP hD hS h7 4 (by decide) (by decide) (by decide) rfl dX1_passPlain_23 (fun H locs hP hD hS => ?_)
    obtain ⟨z7, e7, hF⟩ := o_l hF
    have hP : va_P G vwCl (cW a cy cyO z7) H := by rw [e7]; exact hP
    have hD : va_D A (cW a cy cyO z7) := by rw [e7]; exact hD
    refine lv_iconst (v := 0) hx hb dX1_passPlain_26 (by decide) ?_
    refine lv_istore_n (lv' := [(3, .int 0), (0, .ref (a 0)), (1, .ref x1), (2, .int x2)]) hx hb dX1_passPlain_27 rfl hl (by decide) rfl (fun ls hl => ?_)
    refine lv_aload_n hx hb dX1_passPlain_28 rfl (lv_at hl 1 rfl) ?_
    refine lv_aload_n hx hb dX1_passPlain_29 rfl (lv_at hl 2 rfl) ?_
    obtain ⟨r8, z8, hG8, hF⟩ := o_b hF
    refine cl_V (C := RX1) (rest := []) X hK hN hA hP hD hS (kX1_let l G cy cyO a z7 x1 r8 z8 hG8) (cwV 1 hts gX1_passPlain_X1_let rfl rfl rfl (by decide +kernel) ⟨Nat.le_of_ble_eq_true rfl, Nat.le_of_ble_eq_true rfl⟩) (va_recv hK hP (ci := 1) (q0 := 0) rfl rfl) rfl hl.1 rfl (Nat.le_of_ble_eq_true rfl) dX1_passPlain_30 ⟨Nat.zero_le _, Nat.zero_le _⟩ (fun H locs hP hD hS => ?_)
    refine W.eq (g2 := F0 m 33 ls []) rfl ?_
    refine lv_iload_n hx hb dX1_passPlain_33 rfl (lv_at hl 0 rfl) ?_
    obtain ⟨rfl, rfl⟩ := o_s hF
    exact rt_i X hr hlocks hP hD hS dX1_passPlain_34
def fX1_passPoints (z0 : SC) (x1 : Nat) (x2 : Int32) : Option (Int32 × SC) := bd_ (fX1_claim z0 x1) (fun r1 z1 => if x1 ∈ z1.2.1 then (if (z1.1 x1 5) = 1 then if x1 ∈ z1.2.1 then let_ ((setS z1.1 x1 5 0, z1.2) : SC) (fun z7 => bd_ (fX1_let z7 x1) (fun r8 z8 => some (1, z8))) else none else if x1 ∈ z1.2.1 then let_ ((setS z1.1 x1 5 1, z1.2) : SC) (fun z4 => bd_ (fX1_passPlain z4 x1 x2) (fun r5 z5 => bd_ (fX1_let z5 x1) (fun r6 z6 => some (r5, z6)))) else none) else none)
set_option maxRecDepth 100000 in
set_option maxHeartbeats 4000000 in
theorem kX1_passPoints (l : Launch) (G : va_G) (cy cyO : ClassId) (a : Nat → Nat) (z0 : SC) (x1 : Nat) (x2 : Int32) (r : Int32) (u : SC) (hF : fX1_passPoints z0 x1 x2 = some (r, u)) : Ct l G (tys_ cy cyO) yX1_passPoints wsX1_passPoints ({ frames := 2, cells := 0, slots := 0, locals := 44 } : Room) [.ref (a 0), .ref x1, .int x2] (cW a cy cyO z0) (some (.int r)) (cW a cy cyO u) := by
  unfold fX1_passPoints at hF
  refine ct_of (cc := cX1_passPoints) (maxL := 4) (ret := (some .int)) (own := RX1) (by decide) rfl (Nat.le_of_ble_eq_true rfl) rfl ?_
  intro p e s m below meth c A ls X hr hlocks _ hK hN hA hP hD hl
  have hS : va_S A s.heap s.heap [] := va_S.rf
  have hl : lv_has ls 4 [(0, .ref (a 0)), (1, .ref x1), (2, .int x2)] := hl
  obtain ⟨hx, hb, hml, hown, hts⟩ := id X
  have hin1 : ∀ w ∈ wsX10, w ∈ wsX1_passPoints := by decide +kernel
  have hin0 : ∀ w ∈ wsX00, w ∈ wsX1_passPoints := by decide +kernel
  refine lv_aload_n hx hb dX1_passPoints_0 rfl (lv_at hl 0 rfl) ?_
  refine lv_aload_n hx hb dX1_passPoints_1 rfl (lv_at hl 1 rfl) ?_
  obtain ⟨r1, z1, hG1, hF⟩ := o_b hF
  refine cl_V (C := RX1) (rest := []) X hK hN hA hP hD hS (kX1_claim l G cy cyO a z0 x1 r1 z1 hG1) (cwV 1 hts gX1_passPoints_X1_claim rfl rfl rfl (by decide +kernel) ⟨Nat.le_of_ble_eq_true rfl, Nat.le_of_ble_eq_true rfl⟩) (va_recv hK hP (ci := 1) (q0 := 0) rfl rfl) rfl hl.1 rfl (Nat.le_of_ble_eq_true rfl) dX1_passPoints_2 ⟨Nat.zero_le _, Nat.zero_le _⟩ (fun H locs hP hD hS => ?_)
  refine W.eq (g2 := F0 m 5 ls []) rfl ?_
  refine lv_iconst (v := 1) hx hb dX1_passPoints_5 (by decide) ?_
  refine lv_istore_n (lv' := [(3, .int 1), (0, .ref (a 0)), (1, .ref x1), (2, .int x2)]) hx hb dX1_passPoints_6 rfl hl (by decide) rfl (fun ls hl => ?_)
  refine lv_aload_n hx hb dX1_passPoints_7 rfl (lv_at hl 2 rfl) ?_
  obtain ⟨h2, hF⟩ := o_i hF
  refine cs_get X hin0 hK hN hP h2 5 (by decide) (by decide) (by decide) (v := .int (z1.1 x1 5)) rfl dX1_passPoints_8 ?_
  refine lv_iconst (v := 1) hx hb dX1_passPoints_11 (by decide) ?_
  refine lv_icmp_ne (tgt := 23) hx hb dX1_passPoints_12 (by decide) (fun c3 => ?_) (fun c3 => ?_)
  · have hF := o_f c3 hF
    refine lv_aload_n hx hb dX1_passPoints_23 rfl (lv_at hl 2 rfl) ?_
    refine lv_iconst (v := 1) hx hb dX1_passPoints_24 (by decide) ?_
    obtain ⟨h4, hF⟩ := o_i hF
    refine cs_put X hin0 hK hN hP hD hS h4 5 (by decide) (by decide) (by decide) rfl dX1_passPoints_25 (fun H locs hP hD hS => ?_)
    obtain ⟨z4, e4, hF⟩ := o_l hF
    have hP : va_P G vwCl (cW a cy cyO z4) H := by rw [e4]; exact hP
    have hD : va_D A (cW a cy cyO z4) := by rw [e4]; exact hD
    refine lv_aload_n hx hb dX1_passPoints_28 rfl (lv_at hl 1 rfl) ?_
    refine lv_aload_n hx hb dX1_passPoints_29 rfl (lv_at hl 2 rfl) ?_
    refine lv_iload_n hx hb dX1_passPoints_30 rfl (lv_at hl 3 rfl) ?_
    obtain ⟨r5, z5, hG5, hF⟩ := o_b hF
    refine cl_V (C := RX1) (rest := []) X hK hN hA hP hD hS (kX1_passPlain l G cy cyO a z4 x1 x2 r5 z5 hG5) (cwV 2 hts gX1_passPoints_X1_passPlain rfl rfl rfl (by decide +kernel) ⟨Nat.le_of_ble_eq_true rfl, Nat.le_of_ble_eq_true rfl⟩) (va_recv hK hP (ci := 1) (q0 := 0) rfl rfl) rfl hl.1 rfl (Nat.le_of_ble_eq_true rfl) dX1_passPoints_31 ⟨Nat.zero_le _, Nat.zero_le _⟩ (fun H locs hP hD hS => ?_)
    refine W.eq (g2 := F0 m 34 ls [.int r5]) rfl ?_
    refine lv_istore_n (lv' := [(3, .int r5), (0, .ref (a 0)), (1, .ref x1), (2, .int x2)]) hx hb dX1_passPoints_34 rfl hl (by decide) rfl (fun ls hl => ?_)
    refine lv_aload_n hx hb dX1_passPoints_35 rfl (lv_at hl 1 rfl) ?_
    refine lv_aload_n hx hb dX1_passPoints_36 rfl (lv_at hl 2 rfl) ?_
    obtain ⟨r6, z6, hG6, hF⟩ := o_b hF
    refine cl_V (C := RX1) (rest := []) X hK hN hA hP hD hS (kX1_let l G cy cyO a z5 x1 r6 z6 hG6) (cwV 1 hts gX1_passPoints_X1_let rfl rfl rfl (by decide +kernel) ⟨Nat.le_of_ble_eq_true rfl, Nat.le_of_ble_eq_true rfl⟩) (va_recv hK hP (ci := 1) (q0 := 0) rfl rfl) rfl hl.1 rfl (Nat.le_of_ble_eq_true rfl) dX1_passPoints_37 ⟨Nat.zero_le _, Nat.zero_le _⟩ (fun H locs hP hD hS => ?_)
    refine W.eq (g2 := F0 m 40 ls []) rfl ?_
    refine lv_iload_n hx hb dX1_passPoints_40 rfl (lv_at hl 0 rfl) ?_
    obtain ⟨rfl, rfl⟩ := o_s hF
    exact rt_i X hr hlocks hP hD hS dX1_passPoints_41
  · have hF := o_t c3 hF
    refine lv_aload_n hx hb dX1_passPoints_15 rfl (lv_at hl 2 rfl) ?_
    refine lv_iconst (v := 0) hx hb dX1_passPoints_16 (by decide) ?_
    obtain ⟨h7, hF⟩ := o_i hF
    refine cs_put X hin0 hK hN hP hD hS h7 5 (by decide) (by decide) (by decide) rfl dX1_passPoints_17 (fun H locs hP hD hS => ?_)
    obtain ⟨z7, e7, hF⟩ := o_l hF
    have hP : va_P G vwCl (cW a cy cyO z7) H := by rw [e7]; exact hP
    have hD : va_D A (cW a cy cyO z7) := by rw [e7]; exact hD
    refine lv_goto (tgt := 35) hx hb dX1_passPoints_20 (by decide) ?_
    refine lv_aload_n hx hb dX1_passPoints_35 rfl (lv_at hl 1 rfl) ?_
    refine lv_aload_n hx hb dX1_passPoints_36 rfl (lv_at hl 2 rfl) ?_
    obtain ⟨r8, z8, hG8, hF⟩ := o_b hF
    refine cl_V (C := RX1) (rest := []) X hK hN hA hP hD hS (kX1_let l G cy cyO a z7 x1 r8 z8 hG8) (cwV 1 hts gX1_passPoints_X1_let rfl rfl rfl (by decide +kernel) ⟨Nat.le_of_ble_eq_true rfl, Nat.le_of_ble_eq_true rfl⟩) (va_recv hK hP (ci := 1) (q0 := 0) rfl rfl) rfl hl.1 rfl (Nat.le_of_ble_eq_true rfl) dX1_passPoints_37 ⟨Nat.zero_le _, Nat.zero_le _⟩ (fun H locs hP hD hS => ?_)
    refine W.eq (g2 := F0 m 40 ls []) rfl ?_
    refine lv_iload_n hx hb dX1_passPoints_40 rfl (lv_at hl 0 rfl) ?_
    obtain ⟨rfl, rfl⟩ := o_s hF
    exact rt_i X hr hlocks hP hD hS dX1_passPoints_41
def fX1_passBridge (z0 : SC) (x1 : Nat) (x2 : Int32) : Option (Int32 × SC) := bd_ (fX1_claim z0 x1) (fun r1 z1 => if x1 ∈ z1.2.1 then (if (z1.1 x1 3) < x2 then bd_ (fX1_let z1 x1) (fun r4 z4 => some (2, z4)) else bd_ (fX1_passPoints z1 x1 x2) (fun r5 z5 => (if r5 = 0 then if x1 ∈ z5.2.1 then if x1 ∈ z5.2.1 then let_ ((setS z5.1 x1 3 ((z5.1 x1 3) - 1), z5.2) : SC) (fun z9 => bd_ (fX1_let z9 x1) (fun r10 z10 => some (r5, z10))) else none else none else bd_ (fX1_let z5 x1) (fun r7 z7 => some (r5, z7))))) else none)
set_option maxRecDepth 100000 in
set_option maxHeartbeats 4000000 in
theorem kX1_passBridge (l : Launch) (G : va_G) (cy cyO : ClassId) (a : Nat → Nat) (z0 : SC) (x1 : Nat) (x2 : Int32) (r : Int32) (u : SC) (hF : fX1_passBridge z0 x1 x2 = some (r, u)) : Ct l G (tys_ cy cyO) yX1_passBridge wsX1_passBridge ({ frames := 3, cells := 0, slots := 0, locals := 67 } : Room) [.ref (a 0), .ref x1, .int x2] (cW a cy cyO z0) (some (.int r)) (cW a cy cyO u) := by
  unfold fX1_passBridge at hF
  refine ct_of (cc := cX1_passBridge) (maxL := 4) (ret := (some .int)) (own := RX1) (by decide) rfl (Nat.le_of_ble_eq_true rfl) rfl ?_
  intro p e s m below meth c A ls X hr hlocks _ hK hN hA hP hD hl
  have hS : va_S A s.heap s.heap [] := va_S.rf
  have hl : lv_has ls 4 [(0, .ref (a 0)), (1, .ref x1), (2, .int x2)] := hl
  obtain ⟨hx, hb, hml, hown, hts⟩ := id X
  have hin1 : ∀ w ∈ wsX10, w ∈ wsX1_passBridge := by decide +kernel
  have hin0 : ∀ w ∈ wsX00, w ∈ wsX1_passBridge := by decide +kernel
  refine lv_aload_n hx hb dX1_passBridge_0 rfl (lv_at hl 0 rfl) ?_
  refine lv_aload_n hx hb dX1_passBridge_1 rfl (lv_at hl 1 rfl) ?_
  obtain ⟨r1, z1, hG1, hF⟩ := o_b hF
  refine cl_V (C := RX1) (rest := []) X hK hN hA hP hD hS (kX1_claim l G cy cyO a z0 x1 r1 z1 hG1) (cwV 1 hts gX1_passBridge_X1_claim rfl rfl rfl (by decide +kernel) ⟨Nat.le_of_ble_eq_true rfl, Nat.le_of_ble_eq_true rfl⟩) (va_recv hK hP (ci := 1) (q0 := 0) rfl rfl) rfl hl.1 rfl (Nat.le_of_ble_eq_true rfl) dX1_passBridge_2 ⟨Nat.zero_le _, Nat.zero_le _⟩ (fun H locs hP hD hS => ?_)
  refine W.eq (g2 := F0 m 5 ls []) rfl ?_
  refine lv_iconst (v := 2) hx hb dX1_passBridge_5 (by decide) ?_
  refine lv_istore_n (lv' := [(3, .int 2), (0, .ref (a 0)), (1, .ref x1), (2, .int x2)]) hx hb dX1_passBridge_6 rfl hl (by decide) rfl (fun ls hl => ?_)
  refine lv_iload_n hx hb dX1_passBridge_7 rfl (lv_at hl 3 rfl) ?_
  refine lv_aload_n hx hb dX1_passBridge_8 rfl (lv_at hl 2 rfl) ?_
  obtain ⟨h2, hF⟩ := o_i hF
  refine cs_get X hin0 hK hN hP h2 3 (by decide) (by decide) (by decide) (v := .int (z1.1 x1 3)) rfl dX1_passBridge_9 ?_
  refine lv_icmp_gt (tgt := 36) hx hb dX1_passBridge_12 (by decide) (fun c3 => ?_) (fun c3 => ?_)
  · have hF := o_t c3 hF
    refine lv_aload_n hx hb dX1_passBridge_36 rfl (lv_at hl 1 rfl) ?_
    refine lv_aload_n hx hb dX1_passBridge_37 rfl (lv_at hl 2 rfl) ?_
    obtain ⟨r4, z4, hG4, hF⟩ := o_b hF
    refine cl_V (C := RX1) (rest := []) X hK hN hA hP hD hS (kX1_let l G cy cyO a z1 x1 r4 z4 hG4) (cwV 1 hts gX1_passBridge_X1_let rfl rfl rfl (by decide +kernel) ⟨Nat.le_of_ble_eq_true rfl, Nat.le_of_ble_eq_true rfl⟩) (va_recv hK hP (ci := 1) (q0 := 0) rfl rfl) rfl hl.1 rfl (Nat.le_of_ble_eq_true rfl) dX1_passBridge_38 ⟨Nat.zero_le _, Nat.zero_le _⟩ (fun H locs hP hD hS => ?_)
    refine W.eq (g2 := F0 m 41 ls []) rfl ?_
    refine lv_iload_n hx hb dX1_passBridge_41 rfl (lv_at hl 0 rfl) ?_
    obtain ⟨rfl, rfl⟩ := o_s hF
    exact rt_i X hr hlocks hP hD hS dX1_passBridge_42
  · have hF := o_f c3 hF
    refine lv_aload_n hx hb dX1_passBridge_15 rfl (lv_at hl 1 rfl) ?_
    refine lv_aload_n hx hb dX1_passBridge_16 rfl (lv_at hl 2 rfl) ?_
    refine lv_iload_n hx hb dX1_passBridge_17 rfl (lv_at hl 3 rfl) ?_
    obtain ⟨r5, z5, hG5, hF⟩ := o_b hF
    refine cl_V (C := RX1) (rest := []) X hK hN hA hP hD hS (kX1_passPoints l G cy cyO a z1 x1 x2 r5 z5 hG5) (cwV 2 hts gX1_passBridge_X1_passPoints rfl rfl rfl (by decide +kernel) ⟨Nat.le_of_ble_eq_true rfl, Nat.le_of_ble_eq_true rfl⟩) (va_recv hK hP (ci := 1) (q0 := 0) rfl rfl) rfl hl.1 rfl (Nat.le_of_ble_eq_true rfl) dX1_passBridge_18 ⟨Nat.zero_le _, Nat.zero_le _⟩ (fun H locs hP hD hS => ?_)
    refine W.eq (g2 := F0 m 21 ls [.int r5]) rfl ?_
    refine lv_istore_n (lv' := [(3, .int r5), (0, .ref (a 0)), (1, .ref x1), (2, .int x2)]) hx hb dX1_passBridge_21 rfl hl (by decide) rfl (fun ls hl => ?_)
    refine lv_iload_n hx hb dX1_passBridge_22 rfl (lv_at hl 0 rfl) ?_
    refine lv_if_ne (tgt := 36) hx hb dX1_passBridge_23 (by decide) (fun c6 => ?_) (fun c6 => ?_)
    · have hF := o_f c6 hF
      refine lv_aload_n hx hb dX1_passBridge_36 rfl (lv_at hl 1 rfl) ?_
      refine lv_aload_n hx hb dX1_passBridge_37 rfl (lv_at hl 2 rfl) ?_
      obtain ⟨r7, z7, hG7, hF⟩ := o_b hF
      refine cl_V (C := RX1) (rest := []) X hK hN hA hP hD hS (kX1_let l G cy cyO a z5 x1 r7 z7 hG7) (cwV 1 hts gX1_passBridge_X1_let rfl rfl rfl (by decide +kernel) ⟨Nat.le_of_ble_eq_true rfl, Nat.le_of_ble_eq_true rfl⟩) (va_recv hK hP (ci := 1) (q0 := 0) rfl rfl) rfl hl.1 rfl (Nat.le_of_ble_eq_true rfl) dX1_passBridge_38 ⟨Nat.zero_le _, Nat.zero_le _⟩ (fun H locs hP hD hS => ?_)
      refine W.eq (g2 := F0 m 41 ls []) rfl ?_
      refine lv_iload_n hx hb dX1_passBridge_41 rfl (lv_at hl 0 rfl) ?_
      obtain ⟨rfl, rfl⟩ := o_s hF
      exact rt_i X hr hlocks hP hD hS dX1_passBridge_42
    · have hF := o_t c6 hF
      refine lv_aload_n hx hb dX1_passBridge_26 rfl (lv_at hl 2 rfl) ?_
      refine lv_dup hx hb dX1_passBridge_27 rfl ?_
      obtain ⟨h8, hF⟩ := o_i hF
      refine cs_get X hin0 hK hN hP h8 3 (by decide) (by decide) (by decide) (v := .int (z5.1 x1 3)) rfl dX1_passBridge_28 ?_
      refine lv_iconst (v := 1) hx hb dX1_passBridge_31 (by decide) ?_
      refine lv_isub hx hb dX1_passBridge_32 ?_
      obtain ⟨h9, hF⟩ := o_i hF
      refine cs_put X hin0 hK hN hP hD hS h9 3 (by decide) (by decide) (by decide) rfl dX1_passBridge_33 (fun H locs hP hD hS => ?_)
      obtain ⟨z9, e9, hF⟩ := o_l hF
      have hP : va_P G vwCl (cW a cy cyO z9) H := by rw [e9]; exact hP
      have hD : va_D A (cW a cy cyO z9) := by rw [e9]; exact hD
      refine lv_aload_n hx hb dX1_passBridge_36 rfl (lv_at hl 1 rfl) ?_
      refine lv_aload_n hx hb dX1_passBridge_37 rfl (lv_at hl 2 rfl) ?_
      obtain ⟨r10, z10, hG10, hF⟩ := o_b hF
      refine cl_V (C := RX1) (rest := []) X hK hN hA hP hD hS (kX1_let l G cy cyO a z9 x1 r10 z10 hG10) (cwV 1 hts gX1_passBridge_X1_let rfl rfl rfl (by decide +kernel) ⟨Nat.le_of_ble_eq_true rfl, Nat.le_of_ble_eq_true rfl⟩) (va_recv hK hP (ci := 1) (q0 := 0) rfl rfl) rfl hl.1 rfl (Nat.le_of_ble_eq_true rfl) dX1_passBridge_38 ⟨Nat.zero_le _, Nat.zero_le _⟩ (fun H locs hP hD hS => ?_)
      refine W.eq (g2 := F0 m 41 ls []) rfl ?_
      refine lv_iload_n hx hb dX1_passBridge_41 rfl (lv_at hl 0 rfl) ?_
      obtain ⟨rfl, rfl⟩ := o_s hF
      exact rt_i X hr hlocks hP hD hS dX1_passBridge_42
def fX1_pass_j59 (z0 : SC) (y3 : Int32) : Option (Int32 × SC) := (if y3 = 0 then let_ ((z0.1, z0.2.1, z0.2.2.1, z0.2.2.2.1, z0.2.2.2.2.1, z0.2.2.2.2.2.1, z0.2.2.2.2.2.2.1, z0.2.2.2.2.2.2.2.1, z0.2.2.2.2.2.2.2.2.1, z0.2.2.2.2.2.2.2.2.2.1, z0.2.2.2.2.2.2.2.2.2.2.1, (z0.2.2.2.2.2.2.2.2.2.2.2 + 1)) : SC) (fun z2 => some (y3, z2)) else some (y3, z0))
set_option maxRecDepth 100000 in
set_option maxHeartbeats 4000000 in
theorem jX1_pass_59 {p : Program} {l : Launch} {e : Env} {s : State} {m : MethodId} {args : Array Value} {below : List Frame} {meth : Method} {c : Code} {G : va_G} {cy cyO : ClassId} {a : Nat → Nat} {A : Nat → Prop} {r : Int32} {u : SC} (X : CallFix p m c cX1_pass 4 s args wsX1_pass RX1) (hr : meth.sig.returnType = (some .int)) (hlocks : meth.locks = false) (hK : va_K G vwCl (tys_ cy cyO) s) (hN : nw s) (hA : ∀ q, s.heap.size ≤ q → A q) : ∀ (z0 : SC) (y3 : Int32), fX1_pass_j59 z0 y3 = some (r, u) → ∀ (H : Heap) (locs : List Loc), va_P G vwCl (cW a cy cyO z0) H → va_D A (cW a cy cyO z0) → va_S A s.heap H locs → ∀ (ls : Array Slot), lv_has ls 4 [(0, .ref (a 0)), (3, .int y3)] → W p l e ({ frames := 4, cells := 0, slots := 0, locals := 90 } : Room) s m args below meth c H locs 0 0 (MQ below (qg (some (.int r)) (fun t => wPost G A (cW a cy cyO u) t) A) args s 0 0 A) (F0 m 59 ls []) := by
  obtain ⟨hx, hb, hml, hown, hts⟩ := id X
  have hin1 : ∀ w ∈ wsX10, w ∈ wsX1_pass := by decide +kernel
  have hin0 : ∀ w ∈ wsX00, w ∈ wsX1_pass := by decide +kernel
  intro z0 y3 hF H locs hP hD hS ls hl
  unfold fX1_pass_j59 at hF
  refine lv_iload_n hx hb dX1_pass_59 rfl (lv_at hl 1 rfl) ?_
  refine lv_if_ne (tgt := 73) hx hb dX1_pass_60 (by decide) (fun c1 => ?_) (fun c1 => ?_)
  · have hF := o_f c1 hF
    refine lv_iload_n hx hb dX1_pass_73 rfl (lv_at hl 1 rfl) ?_
    obtain ⟨rfl, rfl⟩ := o_s hF
    exact rt_i X hr hlocks hP hD hS dX1_pass_74
  · have hF := o_t c1 hF
    refine lv_aload_n hx hb dX1_pass_63 rfl (lv_at hl 0 rfl) ?_
    refine lv_dup hx hb dX1_pass_64 rfl ?_
    refine va_get (D := G) (ci := 1) (v := .int z0.2.2.2.2.2.2.2.2.2.2.2) (C := RX1) (T := TX1) (N := 10) hx hb hts hin1 hown hK hP 0 rfl rfl 9 (by decide) (hts (.fieldLink RX1 51 "SignalBox" "passed" "I") (by decide +kernel)) (fun _ h9 => h9) rfl dX1_pass_65 ?_
    refine lv_iconst (v := 1) hx hb dX1_pass_68 (by decide) ?_
    refine lv_iadd hx hb dX1_pass_69 ?_
    refine va_put (D := G) (ci := 1) (v := .int (z0.2.2.2.2.2.2.2.2.2.2.2 + 1)) (ty := .int) (C := RX1) (T := TX1) (N := 10) hx hb hts hin1 tyX1 tyX1_ok nmX1 hown hK hP hD hS 0 rfl rfl 9 (by decide) (hts (.fieldLink RX1 51 "SignalBox" "passed" "I") (by decide +kernel)) (fun _ h9 => h9) rfl (by decide +kernel) rfl rfl (Nat.le_of_ble_eq_true rfl) dX1_pass_70 (fun H locs hP hD hS => ?_)
    obtain ⟨z2, e2, hF⟩ := o_l hF
    have hP : va_P G vwCl (cW a cy cyO z2) H := by rw [e2]; exact hP
    have hD : va_D A (cW a cy cyO z2) := by rw [e2]; exact hD
    refine lv_iload_n hx hb dX1_pass_73 rfl (lv_at hl 1 rfl) ?_
    obtain ⟨rfl, rfl⟩ := o_s hF
    exact rt_i X hr hlocks hP hD hS dX1_pass_74
def fX1_pass (z0 : SC) (x1 : Nat) (x2 : Int32) : Option (Int32 × SC) := if x1 ∈ z0.2.1 then (if (z0.1 x1 1) = 1 then bd_ (fX1_passPoints z0 x1 x2) (fun r4 z4 => (fX1_pass_j59 z4 r4)) else (if (z0.1 x1 1) = 2 then bd_ (fX1_passBridge z0 x1 x2) (fun r5 z5 => (fX1_pass_j59 z5 r5)) else bd_ (fX1_passPlain z0 x1 x2) (fun r6 z6 => (fX1_pass_j59 z6 r6)))) else none
set_option maxRecDepth 100000 in
set_option maxHeartbeats 4000000 in
theorem kX1_pass (l : Launch) (G : va_G) (cy cyO : ClassId) (a : Nat → Nat) (z0 : SC) (x1 : Nat) (x2 : Int32) (r : Int32) (u : SC) (hF : fX1_pass z0 x1 x2 = some (r, u)) : Ct l G (tys_ cy cyO) yX1_pass wsX1_pass ({ frames := 4, cells := 0, slots := 0, locals := 90 } : Room) [.ref (a 0), .ref x1, .int x2] (cW a cy cyO z0) (some (.int r)) (cW a cy cyO u) := by
  unfold fX1_pass at hF
  refine ct_of (cc := cX1_pass) (maxL := 4) (ret := (some .int)) (own := RX1) (by decide) rfl (Nat.le_of_ble_eq_true rfl) rfl ?_
  intro p e s m below meth c A ls X hr hlocks _ hK hN hA hP hD hl
  have hS : va_S A s.heap s.heap [] := va_S.rf
  have hl : lv_has ls 4 [(0, .ref (a 0)), (1, .ref x1), (2, .int x2)] := hl
  obtain ⟨hx, hb, hml, hown, hts⟩ := id X
  have hin1 : ∀ w ∈ wsX10, w ∈ wsX1_pass := by decide +kernel
  have hin0 : ∀ w ∈ wsX00, w ∈ wsX1_pass := by decide +kernel
  refine lv_aload_n hx hb dX1_pass_0 rfl (lv_at hl 1 rfl) ?_
  obtain ⟨h1, hF⟩ := o_i hF
  refine cs_get X hin0 hK hN hP h1 1 (by decide) (by decide) (by decide) (v := .int (z0.1 x1 1)) rfl dX1_pass_1 ?_
  by_cases c2 : (z0.1 x1 1) = 1
  · have hF := o_t c2 hF
    refine lv_lookup (off := 38) (tgt := 42) hx hb dX1_pass_4 (by decide) (by rw [c2]; rfl) (by decide) ?_
    refine lv_aload_n hx hb dX1_pass_42 rfl (lv_at hl 0 rfl) ?_
    refine lv_aload_n hx hb dX1_pass_43 rfl (lv_at hl 1 rfl) ?_
    refine lv_iload_n hx hb dX1_pass_44 rfl (lv_at hl 2 rfl) ?_
    obtain ⟨r4, z4, hG4, hF⟩ := o_b hF
    refine cl_V (C := RX1) (rest := []) X hK hN hA hP hD hS (kX1_passPoints l G cy cyO a z0 x1 x2 r4 z4 hG4) (cwV 2 hts gX1_pass_X1_passPoints rfl rfl rfl (by decide +kernel) ⟨Nat.le_of_ble_eq_true rfl, Nat.le_of_ble_eq_true rfl⟩) (va_recv hK hP (ci := 1) (q0 := 0) rfl rfl) rfl hl.1 rfl (Nat.le_of_ble_eq_true rfl) dX1_pass_45 ⟨Nat.zero_le _, Nat.zero_le _⟩ (fun H locs hP hD hS => ?_)
    refine W.eq (g2 := F0 m 48 ls [.int r4]) rfl ?_
    refine lv_istore_n (lv' := [(3, .int r4), (0, .ref (a 0)), (1, .ref x1), (2, .int x2)]) hx hb dX1_pass_48 rfl hl (by decide) rfl (fun ls hl => ?_)
    refine lv_goto (tgt := 59) hx hb dX1_pass_49 (by decide) ?_
    exact jX1_pass_59 X hr hlocks hK hN hA z4 r4 hF H locs hP hD hS ls (lv_sub hl [1, 0] rfl)
  · have hF := o_f c2 hF
    by_cases c3 : (z0.1 x1 1) = 2
    · have hF := o_t c3 hF
      refine lv_lookup (off := 28) (tgt := 32) hx hb dX1_pass_4 (by decide) (by rw [c3]; rfl) (by decide) ?_
      refine lv_aload_n hx hb dX1_pass_32 rfl (lv_at hl 0 rfl) ?_
      refine lv_aload_n hx hb dX1_pass_33 rfl (lv_at hl 1 rfl) ?_
      refine lv_iload_n hx hb dX1_pass_34 rfl (lv_at hl 2 rfl) ?_
      obtain ⟨r5, z5, hG5, hF⟩ := o_b hF
      refine cl_V (C := RX1) (rest := []) X hK hN hA hP hD hS (kX1_passBridge l G cy cyO a z0 x1 x2 r5 z5 hG5) (cwV 2 hts gX1_pass_X1_passBridge rfl rfl rfl (by decide +kernel) ⟨Nat.le_of_ble_eq_true rfl, Nat.le_of_ble_eq_true rfl⟩) (va_recv hK hP (ci := 1) (q0 := 0) rfl rfl) rfl hl.1 rfl (Nat.le_of_ble_eq_true rfl) dX1_pass_35 ⟨Nat.zero_le _, Nat.zero_le _⟩ (fun H locs hP hD hS => ?_)
      refine W.eq (g2 := F0 m 38 ls [.int r5]) rfl ?_
      refine lv_istore_n (lv' := [(3, .int r5), (0, .ref (a 0)), (1, .ref x1), (2, .int x2)]) hx hb dX1_pass_38 rfl hl (by decide) rfl (fun ls hl => ?_)
      refine lv_goto (tgt := 59) hx hb dX1_pass_39 (by decide) ?_
      exact jX1_pass_59 X hr hlocks hK hN hA z5 r5 hF H locs hP hD hS ls (lv_sub hl [1, 0] rfl)
    · have hF := o_f c3 hF
      refine lv_lookup (off := 48) (tgt := 52) hx hb dX1_pass_4 (by decide) (by refine (lv_osw c2 rfl).trans ?_; refine (lv_osw c3 rfl).trans ?_; rfl) (by decide) ?_
      refine lv_aload_n hx hb dX1_pass_52 rfl (lv_at hl 0 rfl) ?_
      refine lv_aload_n hx hb dX1_pass_53 rfl (lv_at hl 1 rfl) ?_
      refine lv_iload_n hx hb dX1_pass_54 rfl (lv_at hl 2 rfl) ?_
      obtain ⟨r6, z6, hG6, hF⟩ := o_b hF
      refine cl_V (C := RX1) (rest := []) X hK hN hA hP hD hS (kX1_passPlain l G cy cyO a z0 x1 x2 r6 z6 hG6) (cwV 2 hts gX1_pass_X1_passPlain rfl rfl rfl (by decide +kernel) ⟨Nat.le_of_ble_eq_true rfl, Nat.le_of_ble_eq_true rfl⟩) (va_recv hK hP (ci := 1) (q0 := 0) rfl rfl) rfl hl.1 rfl (Nat.le_of_ble_eq_true rfl) dX1_pass_55 ⟨Nat.zero_le _, Nat.zero_le _⟩ (fun H locs hP hD hS => ?_)
      refine W.eq (g2 := F0 m 58 ls [.int r6]) rfl ?_
      refine lv_istore_n (lv' := [(3, .int r6), (0, .ref (a 0)), (1, .ref x1), (2, .int x2)]) hx hb dX1_pass_58 rfl hl (by decide) rfl (fun ls hl => ?_)
      exact jX1_pass_59 X hr hlocks hK hN hA z6 r6 hF H locs hP hD hS ls (lv_sub hl [1, 0] rfl)
def fX1_sectionOn (z0 : SC) (x1 : Int32) (x2 : Int32) : Option (Option Nat × SC) := if ((x1 * 8) + x2) < 0 ∨ 48 ≤ ((x1 * 8) + x2).toNatClampNeg then none else let_ (z0.2.2.2.1 ((x1 * 8) + x2).toNatClampNeg) (fun v1 => if v1 < 0 ∨ 12 ≤ v1.toNatClampNeg then none else (opt_ (z0.2.2.1 v1.toNatClampNeg) (some (none, z0)) (fun b2 => some ((some b2), z0))))
set_option maxRecDepth 100000 in
set_option maxHeartbeats 4000000 in
theorem kX1_sectionOn (l : Launch) (G : va_G) (cy cyO : ClassId) (a : Nat → Nat) (z0 : SC) (x1 : Int32) (x2 : Int32) (r : Option Nat) (u : SC) (hF : fX1_sectionOn z0 x1 x2 = some (r, u)) : Ct l G (tys_ cy cyO) yX1_sectionOn wsX1_sectionOn ({ frames := 0, cells := 0, slots := 0, locals := 0 } : Room) [.ref (a 0), .int x1, .int x2] (cW a cy cyO z0) (some (va_rf r)) (cW a cy cyO u) := by
  unfold fX1_sectionOn at hF
  refine ct_of (cc := cX1_sectionOn) (maxL := 3) (ret := (some (.object "SignalBox$Section"))) (own := RX1) (by decide) rfl (Nat.le_of_ble_eq_true rfl) rfl ?_
  intro p e s m below meth c A ls X hr hlocks _ hK hN hA hP hD hl
  have hS : va_S A s.heap s.heap [] := va_S.rf
  have hl : lv_has ls 3 [(0, .ref (a 0)), (1, .int x1), (2, .int x2)] := hl
  obtain ⟨hx, hb, hml, hown, hts⟩ := id X
  have hin1 : ∀ w ∈ wsX10, w ∈ wsX1_sectionOn := by decide +kernel
  refine lv_aload_n hx hb dX1_sectionOn_0 rfl (lv_at hl 0 rfl) ?_
  refine va_get (D := G) (ci := 1) (v := .ref (a 1)) (C := RX1) (T := TX1) (N := 10) hx hb hts hin1 hown hK hP 0 rfl rfl 0 (by decide) (hts (.fieldLink RX1 11 "SignalBox" "standing" "[LSignalBox$Section;") (by decide +kernel)) (fun _ h9 => h9) rfl dX1_sectionOn_1 ?_
  refine lv_aload_n hx hb dX1_sectionOn_4 rfl (lv_at hl 0 rfl) ?_
  refine va_get (D := G) (ci := 1) (v := .ref (a 2)) (C := RX1) (T := TX1) (N := 10) hx hb hts hin1 hown hK hP 0 rfl rfl 1 (by decide) (hts (.fieldLink RX1 15 "SignalBox" "routePlaces" "[I") (by decide +kernel)) (fun _ h9 => h9) rfl dX1_sectionOn_5 ?_
  refine lv_iload_n hx hb dX1_sectionOn_8 rfl (lv_at hl 1 rfl) ?_
  refine lv_bipush (v := 8) hx hb dX1_sectionOn_9 (by decide) ?_
  refine lv_imul hx hb dX1_sectionOn_11 ?_
  refine lv_iload_n hx hb dX1_sectionOn_12 rfl (lv_at hl 2 rfl) ?_
  refine lv_iadd hx hb dX1_sectionOn_13 ?_
  obtain ⟨h1, hF⟩ := o_n hF
  refine va_iald (n := 48) (f := z0.2.2.2.1) (cA := cy) hx hb hK hP 2 0 rfl rfl h1 dX1_sectionOn_14 ?_
  obtain ⟨v1, e1, hF⟩ := o_l hF
  refine w_top e1 ?_
  obtain ⟨h2, hF⟩ := o_n hF
  refine va_aldq (n := 12) (f := z0.2.2.1) (cA := cyO) (C := RX0) hx hb hK hP 1 1 rfl rfl h2 dX1_sectionOn_15 ?_
  rcases ho2 : z0.2.2.1 v1.toNatClampNeg with _ | b2
  · have hF := o_mn ho2 hF
    refine w_none rfl ?_
    obtain ⟨rfl, rfl⟩ := o_s hF
    exact rt_a (o := none) X hr hlocks hP hD hS dX1_sectionOn_16
  · have hF := o_ms ho2 hF
    refine w_some rfl ?_
    obtain ⟨rfl, rfl⟩ := o_s hF
    exact rt_a (o := (some b2)) X hr hlocks hP hD hS dX1_sectionOn_16
def fX1_answerTo (z0 : SC) (x1 : Int32) (x2 : Int32) : Option (Int32 × SC) := (if 0 ≤ x1 then (if x1 = 2 then some (((-100) - x2), z0) else some (z0.2.2.2.2.2.2.2.2.2.2.2, z0)) else some (x1, z0))
set_option maxRecDepth 100000 in
set_option maxHeartbeats 4000000 in
theorem kX1_answerTo (l : Launch) (G : va_G) (cy cyO : ClassId) (a : Nat → Nat) (z0 : SC) (x1 : Int32) (x2 : Int32) (r : Int32) (u : SC) (hF : fX1_answerTo z0 x1 x2 = some (r, u)) : Ct l G (tys_ cy cyO) yX1_answerTo wsX1_answerTo ({ frames := 0, cells := 0, slots := 0, locals := 0 } : Room) [.ref (a 0), .int x1, .int x2] (cW a cy cyO z0) (some (.int r)) (cW a cy cyO u) := by
  unfold fX1_answerTo at hF
  refine ct_of (cc := cX1_answerTo) (maxL := 3) (ret := (some .int)) (own := RX1) (by decide) rfl (Nat.le_of_ble_eq_true rfl) rfl ?_
  intro p e s m below meth c A ls X hr hlocks _ hK hN hA hP hD hl
  have hS : va_S A s.heap s.heap [] := va_S.rf
  have hl : lv_has ls 3 [(0, .ref (a 0)), (1, .int x1), (2, .int x2)] := hl
  obtain ⟨hx, hb, hml, hown, hts⟩ := id X
  have hin1 : ∀ w ∈ wsX10, w ∈ wsX1_answerTo := by decide +kernel
  refine lv_iload_n hx hb dX1_answerTo_0 rfl (lv_at hl 1 rfl) ?_
  refine lv_if_ge (tgt := 6) hx hb dX1_answerTo_1 (by decide) (fun c1 => ?_) (fun c1 => ?_)
  · have hF := o_t c1 hF
    refine lv_iload_n hx hb dX1_answerTo_6 rfl (lv_at hl 1 rfl) ?_
    refine lv_iconst (v := 2) hx hb dX1_answerTo_7 (by decide) ?_
    refine lv_icmp_ne (tgt := 18) hx hb dX1_answerTo_8 (by decide) (fun c2 => ?_) (fun c2 => ?_)
    · have hF := o_f c2 hF
      refine lv_aload_n hx hb dX1_answerTo_18 rfl (lv_at hl 0 rfl) ?_
      refine va_get (D := G) (ci := 1) (v := .int z0.2.2.2.2.2.2.2.2.2.2.2) (C := RX1) (T := TX1) (N := 10) hx hb hts hin1 hown hK hP 0 rfl rfl 9 (by decide) (hts (.fieldLink RX1 51 "SignalBox" "passed" "I") (by decide +kernel)) (fun _ h9 => h9) rfl dX1_answerTo_19 ?_
      obtain ⟨rfl, rfl⟩ := o_s hF
      exact rt_i X hr hlocks hP hD hS dX1_answerTo_22
    · have hF := o_t c2 hF
      refine lv_bipush (v := (-100)) hx hb dX1_answerTo_11 (by decide) ?_
      refine lv_iload_n hx hb dX1_answerTo_13 rfl (lv_at hl 2 rfl) ?_
      refine lv_isub hx hb dX1_answerTo_14 ?_
      refine lv_goto (tgt := 22) hx hb dX1_answerTo_15 (by decide) ?_
      obtain ⟨rfl, rfl⟩ := o_s hF
      exact rt_i X hr hlocks hP hD hS dX1_answerTo_22
  · have hF := o_f c1 hF
    refine lv_iload_n hx hb dX1_answerTo_4 rfl (lv_at hl 1 rfl) ?_
    obtain ⟨rfl, rfl⟩ := o_s hF
    exact rt_i X hr hlocks hP hD hS dX1_answerTo_5
def fX1_counted_j16 (z0 : SC) (y1 : Int32) : Option (Int32 × SC) := (if y1 = (-30) then let_ ((z0.1, z0.2.1, z0.2.2.1, z0.2.2.2.1, z0.2.2.2.2.1, z0.2.2.2.2.2.1, z0.2.2.2.2.2.2.1, z0.2.2.2.2.2.2.2.1, z0.2.2.2.2.2.2.2.2.1, z0.2.2.2.2.2.2.2.2.2.1, (z0.2.2.2.2.2.2.2.2.2.2.1 + 1), z0.2.2.2.2.2.2.2.2.2.2.2) : SC) (fun z2 => some (y1, z2)) else some (y1, z0))
set_option maxRecDepth 100000 in
set_option maxHeartbeats 4000000 in
theorem jX1_counted_16 {p : Program} {l : Launch} {e : Env} {s : State} {m : MethodId} {args : Array Value} {below : List Frame} {meth : Method} {c : Code} {G : va_G} {cy cyO : ClassId} {a : Nat → Nat} {A : Nat → Prop} {r : Int32} {u : SC} (X : CallFix p m c cX1_counted 2 s args wsX1_counted RX1) (hr : meth.sig.returnType = (some .int)) (hlocks : meth.locks = false) (hK : va_K G vwCl (tys_ cy cyO) s) (hN : nw s) (hA : ∀ q, s.heap.size ≤ q → A q) : ∀ (z0 : SC) (y1 : Int32), fX1_counted_j16 z0 y1 = some (r, u) → ∀ (H : Heap) (locs : List Loc), va_P G vwCl (cW a cy cyO z0) H → va_D A (cW a cy cyO z0) → va_S A s.heap H locs → ∀ (ls : Array Slot), lv_has ls 2 [(0, .ref (a 0)), (1, .int y1)] → W p l e ({ frames := 0, cells := 0, slots := 0, locals := 0 } : Room) s m args below meth c H locs 0 0 (MQ below (qg (some (.int r)) (fun t => wPost G A (cW a cy cyO u) t) A) args s 0 0 A) (F0 m 16 ls []) := by
  obtain ⟨hx, hb, hml, hown, hts⟩ := id X
  have hin1 : ∀ w ∈ wsX10, w ∈ wsX1_counted := by decide +kernel
  intro z0 y1 hF H locs hP hD hS ls hl
  unfold fX1_counted_j16 at hF
  refine lv_iload_n hx hb dX1_counted_16 rfl (lv_at hl 1 rfl) ?_
  refine lv_bipush (v := (-30)) hx hb dX1_counted_17 (by decide) ?_
  refine lv_icmp_ne (tgt := 32) hx hb dX1_counted_19 (by decide) (fun c1 => ?_) (fun c1 => ?_)
  · have hF := o_f c1 hF
    refine lv_iload_n hx hb dX1_counted_32 rfl (lv_at hl 1 rfl) ?_
    obtain ⟨rfl, rfl⟩ := o_s hF
    exact rt_i X hr hlocks hP hD hS dX1_counted_33
  · have hF := o_t c1 hF
    refine lv_aload_n hx hb dX1_counted_22 rfl (lv_at hl 0 rfl) ?_
    refine lv_dup hx hb dX1_counted_23 rfl ?_
    refine va_get (D := G) (ci := 1) (v := .int z0.2.2.2.2.2.2.2.2.2.2.1) (C := RX1) (T := TX1) (N := 10) hx hb hts hin1 hown hK hP 0 rfl rfl 8 (by decide) (hts (.fieldLink RX1 117 "SignalBox" "fullFailures" "I") (by decide +kernel)) (fun _ h9 => h9) rfl dX1_counted_24 ?_
    refine lv_iconst (v := 1) hx hb dX1_counted_27 (by decide) ?_
    refine lv_iadd hx hb dX1_counted_28 ?_
    refine va_put (D := G) (ci := 1) (v := .int (z0.2.2.2.2.2.2.2.2.2.2.1 + 1)) (ty := .int) (C := RX1) (T := TX1) (N := 10) hx hb hts hin1 tyX1 tyX1_ok nmX1 hown hK hP hD hS 0 rfl rfl 8 (by decide) (hts (.fieldLink RX1 117 "SignalBox" "fullFailures" "I") (by decide +kernel)) (fun _ h9 => h9) rfl (by decide +kernel) rfl rfl (Nat.le_of_ble_eq_true rfl) dX1_counted_29 (fun H locs hP hD hS => ?_)
    obtain ⟨z2, e2, hF⟩ := o_l hF
    have hP : va_P G vwCl (cW a cy cyO z2) H := by rw [e2]; exact hP
    have hD : va_D A (cW a cy cyO z2) := by rw [e2]; exact hD
    refine lv_iload_n hx hb dX1_counted_32 rfl (lv_at hl 1 rfl) ?_
    obtain ⟨rfl, rfl⟩ := o_s hF
    exact rt_i X hr hlocks hP hD hS dX1_counted_33
def fX1_counted (z0 : SC) (x1 : Int32) : Option (Int32 × SC) := (if x1 = (-11) then let_ ((z0.1, z0.2.1, z0.2.2.1, z0.2.2.2.1, z0.2.2.2.2.1, z0.2.2.2.2.2.1, z0.2.2.2.2.2.2.1, z0.2.2.2.2.2.2.2.1, z0.2.2.2.2.2.2.2.2.1, (z0.2.2.2.2.2.2.2.2.2.1 + 1), z0.2.2.2.2.2.2.2.2.2.2) : SC) (fun z2 => (fX1_counted_j16 z2 x1)) else (fX1_counted_j16 z0 x1))
set_option maxRecDepth 100000 in
set_option maxHeartbeats 4000000 in
theorem kX1_counted (l : Launch) (G : va_G) (cy cyO : ClassId) (a : Nat → Nat) (z0 : SC) (x1 : Int32) (r : Int32) (u : SC) (hF : fX1_counted z0 x1 = some (r, u)) : Ct l G (tys_ cy cyO) yX1_counted wsX1_counted ({ frames := 0, cells := 0, slots := 0, locals := 0 } : Room) [.ref (a 0), .int x1] (cW a cy cyO z0) (some (.int r)) (cW a cy cyO u) := by
  unfold fX1_counted at hF
  refine ct_of (cc := cX1_counted) (maxL := 2) (ret := (some .int)) (own := RX1) (by decide) rfl (Nat.le_of_ble_eq_true rfl) rfl ?_
  intro p e s m below meth c A ls X hr hlocks _ hK hN hA hP hD hl
  have hS : va_S A s.heap s.heap [] := va_S.rf
  have hl : lv_has ls 2 [(0, .ref (a 0)), (1, .int x1)] := hl
  obtain ⟨hx, hb, hml, hown, hts⟩ := id X
  have hin1 : ∀ w ∈ wsX10, w ∈ wsX1_counted := by decide +kernel
  refine lv_iload_n hx hb dX1_counted_0 rfl (lv_at hl 1 rfl) ?_
  refine lv_bipush (v := (-11)) hx hb dX1_counted_1 (by decide) ?_
  refine lv_icmp_ne (tgt := 16) hx hb dX1_counted_3 (by decide) (fun c1 => ?_) (fun c1 => ?_)
  · have hF := o_f c1 hF
    exact jX1_counted_16 X hr hlocks hK hN hA z0 x1 hF s.heap [] hP hD hS ls (lv_sub hl [0, 1] rfl)
  · have hF := o_t c1 hF
    refine lv_aload_n hx hb dX1_counted_6 rfl (lv_at hl 0 rfl) ?_
    refine lv_dup hx hb dX1_counted_7 rfl ?_
    refine va_get (D := G) (ci := 1) (v := .int z0.2.2.2.2.2.2.2.2.2.1) (C := RX1) (T := TX1) (N := 10) hx hb hts hin1 hown hK hP 0 rfl rfl 7 (by decide) (hts (.fieldLink RX1 114 "SignalBox" "nullFailures" "I") (by decide +kernel)) (fun _ h9 => h9) rfl dX1_counted_8 ?_
    refine lv_iconst (v := 1) hx hb dX1_counted_11 (by decide) ?_
    refine lv_iadd hx hb dX1_counted_12 ?_
    refine va_put (D := G) (ci := 1) (v := .int (z0.2.2.2.2.2.2.2.2.2.1 + 1)) (ty := .int) (C := RX1) (T := TX1) (N := 10) hx hb hts hin1 tyX1 tyX1_ok nmX1 hown hK hP hD hS 0 rfl rfl 7 (by decide) (hts (.fieldLink RX1 114 "SignalBox" "nullFailures" "I") (by decide +kernel)) (fun _ h9 => h9) rfl (by decide +kernel) rfl rfl (Nat.le_of_ble_eq_true rfl) dX1_counted_13 (fun H locs hP hD hS => ?_)
    obtain ⟨z2, e2, hF⟩ := o_l hF
    have hP : va_P G vwCl (cW a cy cyO z2) H := by rw [e2]; exact hP
    have hD : va_D A (cW a cy cyO z2) := by rw [e2]; exact hD
    exact jX1_counted_16 X hr hlocks hK hN hA z2 x1 hF H locs hP hD hS ls (lv_sub hl [0, 1] rfl)
def fX1_goAlone_j12 (K3 : SC → Int32 → Int32 → Int32 → Int32 → Option (Int32 × SC)) : Nat → SC → Int32 → Int32 → Int32 → Int32 → Int32 → Option (Int32 × SC)
  | 0, _, _, _, _, _, _ => none
  | n + 1, z0, y1, y2, y3, y4, y5 => if y1 < 0 ∨ 6 ≤ y1.toNatClampNeg then none else let_ (z0.2.2.2.2.1 y1.toNatClampNeg) (fun v1 => (if v1 ≤ y5 then (K3 z0 y1 y2 y3 (y4 + 1)) else bd_ (fX1_sectionOn z0 y1 y5) (fun r3 z3 => (opt_ (r3) (some ((-11), z3)) (fun b3 => bd_ (fX1_claim z3 b3) (fun r4 z4 => bd_ (fX1_pass z4 b3 y2) (fun r5 z5 => bd_ (fX1_let z5 b3) (fun r6 z6 => (if r5 = 0 then (fX1_goAlone_j12 K3 n z6 y1 y2 y3 y4 (y5 + 1)) else bd_ (fX1_answerTo z6 r5 y5) (fun r8 z8 => some (r8, z8)))))))))))
set_option maxRecDepth 100000 in
set_option maxHeartbeats 4000000 in
theorem jX1_goAlone_12 {p : Program} {l : Launch} {e : Env} {s : State} {m : MethodId} {args : Array Value} {below : List Frame} {meth : Method} {c : Code} {G : va_G} {cy cyO : ClassId} {a : Nat → Nat} {A : Nat → Prop} {r : Int32} {u : SC} (X : CallFix p m c cX1_goAlone 8 s args wsX1_goAlone RX1) (hr : meth.sig.returnType = (some .int)) (hlocks : meth.locks = false) (hK : va_K G vwCl (tys_ cy cyO) s) (hN : nw s) (hA : ∀ q, s.heap.size ≤ q → A q) (K3 : SC → Int32 → Int32 → Int32 → Int32 → Option (Int32 × SC)) (hK3 : ∀ (z0 : SC) (y1 : Int32) (y2 : Int32) (y3 : Int32) (y4 : Int32), K3 z0 y1 y2 y3 y4 = some (r, u) → ∀ (H : Heap) (locs : List Loc), va_P G vwCl (cW a cy cyO z0) H → va_D A (cW a cy cyO z0) → va_S A s.heap H locs → ∀ (ls : Array Slot), lv_has ls 8 [(0, .ref (a 0)), (1, .int y1), (2, .int y2), (3, .int y3), (4, .int y4)] → W p l e ({ frames := 5, cells := 0, slots := 0, locals := 113 } : Room) s m args below meth c H locs 0 0 (MQ below (qg (some (.int r)) (fun t => wPost G A (cW a cy cyO u) t) A) args s 0 0 A) (F0 m 3 ls [])) : ∀ n : Nat, ∀ (z0 : SC) (y1 : Int32) (y2 : Int32) (y3 : Int32) (y4 : Int32) (y5 : Int32), fX1_goAlone_j12 K3 n z0 y1 y2 y3 y4 y5 = some (r, u) → ∀ (H : Heap) (locs : List Loc), va_P G vwCl (cW a cy cyO z0) H → va_D A (cW a cy cyO z0) → va_S A s.heap H locs → ∀ (ls : Array Slot), lv_has ls 8 [(0, .ref (a 0)), (1, .int y1), (2, .int y2), (3, .int y3), (4, .int y4), (5, .int y5)] → W p l e ({ frames := 5, cells := 0, slots := 0, locals := 113 } : Room) s m args below meth c H locs 0 0 (MQ below (qg (some (.int r)) (fun t => wPost G A (cW a cy cyO u) t) A) args s 0 0 A) (F0 m 12 ls []) := by
  obtain ⟨hx, hb, hml, hown, hts⟩ := id X
  have hin1 : ∀ w ∈ wsX10, w ∈ wsX1_goAlone := by decide +kernel
  intro n
  induction n with
  | zero => intro z0 y1 y2 y3 y4 y5 hF; cases hF
  | succ n ih =>
    intro z0 y1 y2 y3 y4 y5 hF H locs hP hD hS ls hl
    rw [fX1_goAlone_j12] at hF
    refine lv_iload hx hb dX1_goAlone_12 (lv_at hl 5 rfl) ?_
    refine lv_aload_n hx hb dX1_goAlone_14 rfl (lv_at hl 0 rfl) ?_
    refine va_get (D := G) (ci := 1) (v := .ref (a 3)) (C := RX1) (T := TX1) (N := 10) hx hb hts hin1 hown hK hP 0 rfl rfl 2 (by decide) (hts (.fieldLink RX1 19 "SignalBox" "routeLengths" "[I") (by decide +kernel)) (fun _ h9 => h9) rfl dX1_goAlone_15 ?_
    refine lv_iload_n hx hb dX1_goAlone_18 rfl (lv_at hl 1 rfl) ?_
    obtain ⟨h1, hF⟩ := o_n hF
    refine va_iald (n := 6) (f := z0.2.2.2.2.1) (cA := cy) hx hb hK hP 3 0 rfl rfl h1 dX1_goAlone_19 ?_
    obtain ⟨v1, e1, hF⟩ := o_l hF
    refine w_top e1 ?_
    refine lv_icmp_ge (tgt := 81) hx hb dX1_goAlone_20 (by decide) (fun c2 => ?_) (fun c2 => ?_)
    · have hF := o_t c2 hF
      refine lv_iinc (v := y4 + 1) (lv' := [(4, .int (y4 + 1)), (0, .ref (a 0)), (1, .int y1), (2, .int y2), (3, .int y3), (5, .int y5)]) hx hb dX1_goAlone_81 hl (k := 4) rfl rfl (by decide) rfl (fun ls hl => ?_)
      refine lv_goto (tgt := 3) hx hb dX1_goAlone_84 (by decide) ?_
      exact hK3 z0 y1 y2 y3 (y4 + 1) hF H locs hP hD hS ls (lv_sub hl [1, 2, 3, 4, 0] rfl)
    · have hF := o_f c2 hF
      refine lv_aload_n hx hb dX1_goAlone_23 rfl (lv_at hl 0 rfl) ?_
      refine lv_iload_n hx hb dX1_goAlone_24 rfl (lv_at hl 1 rfl) ?_
      refine lv_iload hx hb dX1_goAlone_25 (lv_at hl 5 rfl) ?_
      obtain ⟨r3, z3, hG3, hF⟩ := o_b hF
      refine cl_V (C := RX1) (rest := []) X hK hN hA hP hD hS (kX1_sectionOn l G cy cyO a z0 y1 y5 r3 z3 hG3) (cwV 2 hts gX1_goAlone_X1_sectionOn rfl rfl rfl (by decide +kernel) ⟨Nat.le_of_ble_eq_true rfl, Nat.le_of_ble_eq_true rfl⟩) (va_recv hK hP (ci := 1) (q0 := 0) rfl rfl) rfl hl.1 rfl (Nat.le_of_ble_eq_true rfl) dX1_goAlone_27 ⟨Nat.zero_le _, Nat.zero_le _⟩ (fun H locs hP hD hS => ?_)
      rcases ho3 : r3 with _ | b3
      · have hF := o_mn ho3 hF
        refine w_none rfl ?_
        refine lv_astoreN (lv' := [(6, .null), (0, .ref (a 0)), (1, .int y1), (2, .int y2), (3, .int y3), (4, .int y4), (5, .int y5)]) hx hb dX1_goAlone_30 hl (by decide) rfl (fun ls hl => ?_)
        refine lv_aloadN hx hb dX1_goAlone_32 (lv_at hl 0 rfl) ?_
        refine lv_ifnonnullN hx hb dX1_goAlone_34 ?_
        refine lv_bipush (v := (-11)) hx hb dX1_goAlone_37 (by decide) ?_
        obtain ⟨rfl, rfl⟩ := o_s hF
        exact rt_i X hr hlocks hP hD hS dX1_goAlone_39
      · have hF := o_ms ho3 hF
        refine w_some rfl ?_
        refine lv_astore (lv' := [(6, .ref b3), (0, .ref (a 0)), (1, .int y1), (2, .int y2), (3, .int y3), (4, .int y4), (5, .int y5)]) hx hb dX1_goAlone_30 hl (by decide) rfl (fun ls hl => ?_)
        refine lv_aload hx hb dX1_goAlone_32 (lv_at hl 0 rfl) ?_
        refine lv_ifnonnull (tgt := 40) hx hb dX1_goAlone_34 (by decide) ?_
        refine lv_aload_n hx hb dX1_goAlone_40 rfl (lv_at hl 1 rfl) ?_
        refine lv_aload hx hb dX1_goAlone_41 (lv_at hl 0 rfl) ?_
        obtain ⟨r4, z4, hG4, hF⟩ := o_b hF
        refine cl_V (C := RX1) (rest := []) X hK hN hA hP hD hS (kX1_claim l G cy cyO a z3 b3 r4 z4 hG4) (cwV 1 hts gX1_goAlone_X1_claim rfl rfl rfl (by decide +kernel) ⟨Nat.le_of_ble_eq_true rfl, Nat.le_of_ble_eq_true rfl⟩) (va_recv hK hP (ci := 1) (q0 := 0) rfl rfl) rfl hl.1 rfl (Nat.le_of_ble_eq_true rfl) dX1_goAlone_43 ⟨Nat.zero_le _, Nat.zero_le _⟩ (fun H locs hP hD hS => ?_)
        refine W.eq (g2 := F0 m 46 ls []) rfl ?_
        refine lv_aload_n hx hb dX1_goAlone_46 rfl (lv_at hl 1 rfl) ?_
        refine lv_aload hx hb dX1_goAlone_47 (lv_at hl 0 rfl) ?_
        refine lv_iload_n hx hb dX1_goAlone_49 rfl (lv_at hl 3 rfl) ?_
        obtain ⟨r5, z5, hG5, hF⟩ := o_b hF
        refine cl_V (C := RX1) (rest := []) X hK hN hA hP hD hS (kX1_pass l G cy cyO a z4 b3 y2 r5 z5 hG5) (cwV 2 hts gX1_goAlone_X1_pass rfl rfl rfl (by decide +kernel) ⟨Nat.le_of_ble_eq_true rfl, Nat.le_of_ble_eq_true rfl⟩) (va_recv hK hP (ci := 1) (q0 := 0) rfl rfl) rfl hl.1 rfl (Nat.le_of_ble_eq_true rfl) dX1_goAlone_50 ⟨Nat.zero_le _, Nat.zero_le _⟩ (fun H locs hP hD hS => ?_)
        refine W.eq (g2 := F0 m 53 ls [.int r5]) rfl ?_
        refine lv_istore (lv' := [(7, .int r5), (6, .ref b3), (0, .ref (a 0)), (1, .int y1), (2, .int y2), (3, .int y3), (4, .int y4), (5, .int y5)]) hx hb dX1_goAlone_53 hl (by decide) rfl (fun ls hl => ?_)
        refine lv_aload_n hx hb dX1_goAlone_55 rfl (lv_at hl 2 rfl) ?_
        refine lv_aload hx hb dX1_goAlone_56 (lv_at hl 1 rfl) ?_
        obtain ⟨r6, z6, hG6, hF⟩ := o_b hF
        refine cl_V (C := RX1) (rest := []) X hK hN hA hP hD hS (kX1_let l G cy cyO a z5 b3 r6 z6 hG6) (cwV 1 hts gX1_goAlone_X1_let rfl rfl rfl (by decide +kernel) ⟨Nat.le_of_ble_eq_true rfl, Nat.le_of_ble_eq_true rfl⟩) (va_recv hK hP (ci := 1) (q0 := 0) rfl rfl) rfl hl.1 rfl (Nat.le_of_ble_eq_true rfl) dX1_goAlone_58 ⟨Nat.zero_le _, Nat.zero_le _⟩ (fun H locs hP hD hS => ?_)
        refine W.eq (g2 := F0 m 61 ls []) rfl ?_
        refine lv_iload hx hb dX1_goAlone_61 (lv_at hl 0 rfl) ?_
        refine lv_if_eq (tgt := 75) hx hb dX1_goAlone_63 (by decide) (fun c7 => ?_) (fun c7 => ?_)
        · have hF := o_t c7 hF
          refine lv_iinc (v := y5 + 1) (lv' := [(5, .int (y5 + 1)), (7, .int r5), (6, .ref b3), (0, .ref (a 0)), (1, .int y1), (2, .int y2), (3, .int y3), (4, .int y4)]) hx hb dX1_goAlone_75 hl (k := 7) rfl rfl (by decide) rfl (fun ls hl => ?_)
          refine lv_goto (tgt := 12) hx hb dX1_goAlone_78 (by decide) ?_
          exact ih z6 y1 y2 y3 y4 (y5 + 1) hF H locs hP hD hS ls (lv_sub hl [3, 4, 5, 6, 7, 0] rfl)
        · have hF := o_f c7 hF
          refine lv_aload_n hx hb dX1_goAlone_66 rfl (lv_at hl 2 rfl) ?_
          refine lv_iload hx hb dX1_goAlone_67 (lv_at hl 0 rfl) ?_
          refine lv_iload hx hb dX1_goAlone_69 (lv_at hl 7 rfl) ?_
          obtain ⟨r8, z8, hG8, hF⟩ := o_b hF
          refine cl_V (C := RX1) (rest := []) X hK hN hA hP hD hS (kX1_answerTo l G cy cyO a z6 r5 y5 r8 z8 hG8) (cwV 2 hts gX1_goAlone_X1_answerTo rfl rfl rfl (by decide +kernel) ⟨Nat.le_of_ble_eq_true rfl, Nat.le_of_ble_eq_true rfl⟩) (va_recv hK hP (ci := 1) (q0 := 0) rfl rfl) rfl hl.1 rfl (Nat.le_of_ble_eq_true rfl) dX1_goAlone_71 ⟨Nat.zero_le _, Nat.zero_le _⟩ (fun H locs hP hD hS => ?_)
          refine W.eq (g2 := F0 m 74 ls [.int r8]) rfl ?_
          obtain ⟨rfl, rfl⟩ := o_s hF
          exact rt_i X hr hlocks hP hD hS dX1_goAlone_74
def fX1_goAlone_j3 : Nat → SC → Int32 → Int32 → Int32 → Int32 → Option (Int32 × SC)
  | 0, _, _, _, _, _ => none
  | n + 1, z0, y1, y2, y3, y4 => (if y3 ≤ y4 then some (z0.2.2.2.2.2.2.2.2.2.2.2, z0) else (fX1_goAlone_j12 (fX1_goAlone_j3 n) 20 z0 y1 y2 y3 y4 0))
set_option maxRecDepth 100000 in
set_option maxHeartbeats 4000000 in
theorem jX1_goAlone_3 {p : Program} {l : Launch} {e : Env} {s : State} {m : MethodId} {args : Array Value} {below : List Frame} {meth : Method} {c : Code} {G : va_G} {cy cyO : ClassId} {a : Nat → Nat} {A : Nat → Prop} {r : Int32} {u : SC} (X : CallFix p m c cX1_goAlone 8 s args wsX1_goAlone RX1) (hr : meth.sig.returnType = (some .int)) (hlocks : meth.locks = false) (hK : va_K G vwCl (tys_ cy cyO) s) (hN : nw s) (hA : ∀ q, s.heap.size ≤ q → A q) : ∀ n : Nat, ∀ (z0 : SC) (y1 : Int32) (y2 : Int32) (y3 : Int32) (y4 : Int32), fX1_goAlone_j3 n z0 y1 y2 y3 y4 = some (r, u) → ∀ (H : Heap) (locs : List Loc), va_P G vwCl (cW a cy cyO z0) H → va_D A (cW a cy cyO z0) → va_S A s.heap H locs → ∀ (ls : Array Slot), lv_has ls 8 [(0, .ref (a 0)), (1, .int y1), (2, .int y2), (3, .int y3), (4, .int y4)] → W p l e ({ frames := 5, cells := 0, slots := 0, locals := 113 } : Room) s m args below meth c H locs 0 0 (MQ below (qg (some (.int r)) (fun t => wPost G A (cW a cy cyO u) t) A) args s 0 0 A) (F0 m 3 ls []) := by
  obtain ⟨hx, hb, hml, hown, hts⟩ := id X
  have hin1 : ∀ w ∈ wsX10, w ∈ wsX1_goAlone := by decide +kernel
  intro n
  induction n with
  | zero => intro z0 y1 y2 y3 y4 hF; cases hF
  | succ n ih =>
    intro z0 y1 y2 y3 y4 hF H locs hP hD hS ls hl
    rw [fX1_goAlone_j3] at hF
    refine lv_iload hx hb dX1_goAlone_3 (lv_at hl 4 rfl) ?_
    refine lv_iload_n hx hb dX1_goAlone_5 rfl (lv_at hl 3 rfl) ?_
    refine lv_icmp_ge (tgt := 87) hx hb dX1_goAlone_6 (by decide) (fun c1 => ?_) (fun c1 => ?_)
    · have hF := o_t c1 hF
      refine lv_aload_n hx hb dX1_goAlone_87 rfl (lv_at hl 0 rfl) ?_
      refine va_get (D := G) (ci := 1) (v := .int z0.2.2.2.2.2.2.2.2.2.2.2) (C := RX1) (T := TX1) (N := 10) hx hb hts hin1 hown hK hP 0 rfl rfl 9 (by decide) (hts (.fieldLink RX1 51 "SignalBox" "passed" "I") (by decide +kernel)) (fun _ h9 => h9) rfl dX1_goAlone_88 ?_
      obtain ⟨rfl, rfl⟩ := o_s hF
      exact rt_i X hr hlocks hP hD hS dX1_goAlone_91
    · have hF := o_f c1 hF
      refine lv_iconst (v := 0) hx hb dX1_goAlone_9 (by decide) ?_
      refine lv_istore (lv' := [(5, .int 0), (0, .ref (a 0)), (1, .int y1), (2, .int y2), (3, .int y3), (4, .int y4)]) hx hb dX1_goAlone_10 hl (by decide) rfl (fun ls hl => ?_)
      exact jX1_goAlone_12 X hr hlocks hK hN hA (fX1_goAlone_j3 n) ih 20 z0 y1 y2 y3 y4 0 hF H locs hP hD hS ls (lv_sub hl [1, 2, 3, 4, 5, 0] rfl)
def fX1_goAlone (z0 : SC) (x1 : Int32) (x2 : Int32) (x3 : Int32) : Option (Int32 × SC) := (fX1_goAlone_j3 20 z0 x1 x2 x3 0)
set_option maxRecDepth 100000 in
set_option maxHeartbeats 4000000 in
theorem kX1_goAlone (l : Launch) (G : va_G) (cy cyO : ClassId) (a : Nat → Nat) (z0 : SC) (x1 : Int32) (x2 : Int32) (x3 : Int32) (r : Int32) (u : SC) (hF : fX1_goAlone z0 x1 x2 x3 = some (r, u)) : Ct l G (tys_ cy cyO) yX1_goAlone wsX1_goAlone ({ frames := 5, cells := 0, slots := 0, locals := 113 } : Room) [.ref (a 0), .int x1, .int x2, .int x3] (cW a cy cyO z0) (some (.int r)) (cW a cy cyO u) := by
  unfold fX1_goAlone at hF
  refine ct_of (cc := cX1_goAlone) (maxL := 8) (ret := (some .int)) (own := RX1) (by decide) rfl (Nat.le_of_ble_eq_true rfl) rfl ?_
  intro p e s m below meth c A ls X hr hlocks _ hK hN hA hP hD hl
  have hS : va_S A s.heap s.heap [] := va_S.rf
  have hl : lv_has ls 8 [(0, .ref (a 0)), (1, .int x1), (2, .int x2), (3, .int x3)] := hl
  obtain ⟨hx, hb, hml, hown, hts⟩ := id X
  have hin1 : ∀ w ∈ wsX10, w ∈ wsX1_goAlone := by decide +kernel
  refine lv_iconst (v := 0) hx hb dX1_goAlone_0 (by decide) ?_
  refine lv_istore (lv' := [(4, .int 0), (0, .ref (a 0)), (1, .int x1), (2, .int x2), (3, .int x3)]) hx hb dX1_goAlone_1 hl (by decide) rfl (fun ls hl => ?_)
  exact jX1_goAlone_3 X hr hlocks hK hN hA 20 z0 x1 x2 x3 0 hF s.heap [] hP hD hS ls (lv_sub hl [1, 2, 3, 4, 0] rfl)
end
section
def fX1_goTwoByTwo_j119 (K2 : SC → Int32 → Int32 → Int32 → Option (Int32 × SC)) (z0 : SC) (y1 : Int32) (y2 : Int32) (y3 : Int32) (w4 : Nat) (y7 : Int32) : Option (Int32 × SC) := bd_ (fX1_let z0 w4) (fun r1 z1 => (if y7 = 0 then (K2 z1 y1 y2 (y3 + 1)) else bd_ (fX1_answerTo z1 y7 y3) (fun r3 z3 => some (r3, z3))))
set_option maxRecDepth 100000 in
set_option maxHeartbeats 4000000 in
theorem jX1_goTwoByTwo_119 {p : Program} {l : Launch} {e : Env} {s : State} {m : MethodId} {args : Array Value} {below : List Frame} {meth : Method} {c : Code} {G : va_G} {cy cyO : ClassId} {a : Nat → Nat} {A : Nat → Prop} {r : Int32} {u : SC} (X : CallFix p m c cX1_goTwoByTwo 8 s args wsX1_goTwoByTwo RX1) (hr : meth.sig.returnType = (some .int)) (hlocks : meth.locks = false) (hK : va_K G vwCl (tys_ cy cyO) s) (hN : nw s) (hA : ∀ q, s.heap.size ≤ q → A q) (K2 : SC → Int32 → Int32 → Int32 → Option (Int32 × SC)) (hK2 : ∀ (z0 : SC) (y1 : Int32) (y2 : Int32) (y3 : Int32), K2 z0 y1 y2 y3 = some (r, u) → ∀ (H : Heap) (locs : List Loc), va_P G vwCl (cW a cy cyO z0) H → va_D A (cW a cy cyO z0) → va_S A s.heap H locs → ∀ (ls : Array Slot), lv_has ls 8 [(0, .ref (a 0)), (1, .int y1), (2, .int y2), (3, .int y3)] → W p l e ({ frames := 5, cells := 0, slots := 0, locals := 113 } : Room) s m args below meth c H locs 0 0 (MQ below (qg (some (.int r)) (fun t => wPost G A (cW a cy cyO u) t) A) args s 0 0 A) (F0 m 2 ls [])) : ∀ (z0 : SC) (y1 : Int32) (y2 : Int32) (y3 : Int32) (w4 : Nat) (y7 : Int32), fX1_goTwoByTwo_j119 K2 z0 y1 y2 y3 w4 y7 = some (r, u) → ∀ (H : Heap) (locs : List Loc), va_P G vwCl (cW a cy cyO z0) H → va_D A (cW a cy cyO z0) → va_S A s.heap H locs → ∀ (ls : Array Slot), lv_has ls 8 [(0, .ref (a 0)), (1, .int y1), (2, .int y2), (3, .int y3), (4, .ref w4), (7, .int y7)] → W p l e ({ frames := 5, cells := 0, slots := 0, locals := 113 } : Room) s m args below meth c H locs 0 0 (MQ below (qg (some (.int r)) (fun t => wPost G A (cW a cy cyO u) t) A) args s 0 0 A) (F0 m 119 ls []) := by
  obtain ⟨hx, hb, hml, hown, hts⟩ := id X
  have hin1 : ∀ w ∈ wsX10, w ∈ wsX1_goTwoByTwo := by decide +kernel
  intro z0 y1 y2 y3 w4 y7 hF H locs hP hD hS ls hl
  unfold fX1_goTwoByTwo_j119 at hF
  refine lv_aload_n hx hb dX1_goTwoByTwo_119 rfl (lv_at hl 0 rfl) ?_
  refine lv_aload hx hb dX1_goTwoByTwo_120 (lv_at hl 4 rfl) ?_
  obtain ⟨r1, z1, hG1, hF⟩ := o_b hF
  refine cl_V (C := RX1) (rest := []) X hK hN hA hP hD hS (kX1_let l G cy cyO a z0 w4 r1 z1 hG1) (cwV 1 hts gX1_goTwoByTwo_X1_let rfl rfl rfl (by decide +kernel) ⟨Nat.le_of_ble_eq_true rfl, Nat.le_of_ble_eq_true rfl⟩) (va_recv hK hP (ci := 1) (q0 := 0) rfl rfl) rfl hl.1 rfl (Nat.le_of_ble_eq_true rfl) dX1_goTwoByTwo_122 ⟨Nat.zero_le _, Nat.zero_le _⟩ (fun H locs hP hD hS => ?_)
  refine W.eq (g2 := F0 m 125 ls []) rfl ?_
  refine lv_iload hx hb dX1_goTwoByTwo_125 (lv_at hl 5 rfl) ?_
  refine lv_if_eq (tgt := 138) hx hb dX1_goTwoByTwo_127 (by decide) (fun c2 => ?_) (fun c2 => ?_)
  · have hF := o_t c2 hF
    refine lv_iinc (v := y3 + 1) (lv' := [(3, .int (y3 + 1)), (0, .ref (a 0)), (1, .int y1), (2, .int y2), (4, .ref w4), (7, .int y7)]) hx hb dX1_goTwoByTwo_138 hl (k := 3) rfl rfl (by decide) rfl (fun ls hl => ?_)
    refine lv_goto (tgt := 2) hx hb dX1_goTwoByTwo_141 (by decide) ?_
    exact hK2 z1 y1 y2 (y3 + 1) hF H locs hP hD hS ls (lv_sub hl [1, 2, 3, 0] rfl)
  · have hF := o_f c2 hF
    refine lv_aload_n hx hb dX1_goTwoByTwo_130 rfl (lv_at hl 0 rfl) ?_
    refine lv_iload hx hb dX1_goTwoByTwo_131 (lv_at hl 5 rfl) ?_
    refine lv_iload_n hx hb dX1_goTwoByTwo_133 rfl (lv_at hl 3 rfl) ?_
    obtain ⟨r3, z3, hG3, hF⟩ := o_b hF
    refine cl_V (C := RX1) (rest := []) X hK hN hA hP hD hS (kX1_answerTo l G cy cyO a z1 y7 y3 r3 z3 hG3) (cwV 2 hts gX1_goTwoByTwo_X1_answerTo rfl rfl rfl (by decide +kernel) ⟨Nat.le_of_ble_eq_true rfl, Nat.le_of_ble_eq_true rfl⟩) (va_recv hK hP (ci := 1) (q0 := 0) rfl rfl) rfl hl.1 rfl (Nat.le_of_ble_eq_true rfl) dX1_goTwoByTwo_134 ⟨Nat.zero_le _, Nat.zero_le _⟩ (fun H locs hP hD hS => ?_)
    refine W.eq (g2 := F0 m 137 ls [.int r3]) rfl ?_
    obtain ⟨rfl, rfl⟩ := o_s hF
    exact rt_i X hr hlocks hP hD hS dX1_goTwoByTwo_137
def fX1_goTwoByTwo_j51 (K2 : SC → Int32 → Int32 → Int32 → Option (Int32 × SC)) (z0 : SC) (y1 : Int32) (y2 : Int32) (y3 : Int32) (w4 : Nat) (t0 : Int32) : Option (Int32 × SC) := (if t0 = 0 then bd_ (fX1_sectionOn z0 y1 (y3 + 1)) (fun r2 z2 => (opt_ (r2) ((if t0 = 0 then (fX1_goTwoByTwo_j119 K2 z2 y1 y2 y3 w4 (-11)) else bd_ (fX1_pass z2 w4 y2) (fun r4 z4 => (fX1_goTwoByTwo_j119 K2 z4 y1 y2 y3 w4 r4)))) (fun b2 => bd_ (fX1_claim z2 b2) (fun r5 z5 => bd_ (fX1_pass z5 w4 y2) (fun r6 z6 => bd_ (fX1_let z6 b2) (fun r7 z7 => (fX1_goTwoByTwo_j119 K2 z7 y1 y2 y3 w4 r6))))))) else (if t0 = 0 then (fX1_goTwoByTwo_j119 K2 z0 y1 y2 y3 w4 (-11)) else bd_ (fX1_pass z0 w4 y2) (fun r9 z9 => (fX1_goTwoByTwo_j119 K2 z9 y1 y2 y3 w4 r9))))
set_option maxRecDepth 100000 in
set_option maxHeartbeats 4000000 in
theorem jX1_goTwoByTwo_51 {p : Program} {l : Launch} {e : Env} {s : State} {m : MethodId} {args : Array Value} {below : List Frame} {meth : Method} {c : Code} {G : va_G} {cy cyO : ClassId} {a : Nat → Nat} {A : Nat → Prop} {r : Int32} {u : SC} (X : CallFix p m c cX1_goTwoByTwo 8 s args wsX1_goTwoByTwo RX1) (hr : meth.sig.returnType = (some .int)) (hlocks : meth.locks = false) (hK : va_K G vwCl (tys_ cy cyO) s) (hN : nw s) (hA : ∀ q, s.heap.size ≤ q → A q) (K2 : SC → Int32 → Int32 → Int32 → Option (Int32 × SC)) (hK2 : ∀ (z0 : SC) (y1 : Int32) (y2 : Int32) (y3 : Int32), K2 z0 y1 y2 y3 = some (r, u) → ∀ (H : Heap) (locs : List Loc), va_P G vwCl (cW a cy cyO z0) H → va_D A (cW a cy cyO z0) → va_S A s.heap H locs → ∀ (ls : Array Slot), lv_has ls 8 [(0, .ref (a 0)), (1, .int y1), (2, .int y2), (3, .int y3)] → W p l e ({ frames := 5, cells := 0, slots := 0, locals := 113 } : Room) s m args below meth c H locs 0 0 (MQ below (qg (some (.int r)) (fun t => wPost G A (cW a cy cyO u) t) A) args s 0 0 A) (F0 m 2 ls [])) : ∀ (z0 : SC) (y1 : Int32) (y2 : Int32) (y3 : Int32) (w4 : Nat) (t0 : Int32), fX1_goTwoByTwo_j51 K2 z0 y1 y2 y3 w4 t0 = some (r, u) → ∀ (H : Heap) (locs : List Loc), va_P G vwCl (cW a cy cyO z0) H → va_D A (cW a cy cyO z0) → va_S A s.heap H locs → ∀ (ls : Array Slot), lv_has ls 8 [(0, .ref (a 0)), (1, .int y1), (2, .int y2), (3, .int y3), (4, .ref w4)] → W p l e ({ frames := 5, cells := 0, slots := 0, locals := 113 } : Room) s m args below meth c H locs 0 0 (MQ below (qg (some (.int r)) (fun t => wPost G A (cW a cy cyO u) t) A) args s 0 0 A) (F0 m 51 ls [.int t0]) := by
  obtain ⟨hx, hb, hml, hown, hts⟩ := id X
  have hin1 : ∀ w ∈ wsX10, w ∈ wsX1_goTwoByTwo := by decide +kernel
  intro z0 y1 y2 y3 w4 t0 hF H locs hP hD hS ls hl
  unfold fX1_goTwoByTwo_j51 at hF
  refine lv_istore (lv' := [(5, .int t0), (0, .ref (a 0)), (1, .int y1), (2, .int y2), (3, .int y3), (4, .ref w4)]) hx hb dX1_goTwoByTwo_51 hl (by decide) rfl (fun ls hl => ?_)
  refine lv_iload hx hb dX1_goTwoByTwo_53 (lv_at hl 0 rfl) ?_
  refine lv_if_eq (tgt := 62) hx hb dX1_goTwoByTwo_55 (by decide) (fun c1 => ?_) (fun c1 => ?_)
  · have hF := o_t c1 hF
    refine lv_aload_n hx hb dX1_goTwoByTwo_62 rfl (lv_at hl 1 rfl) ?_
    refine lv_iload_n hx hb dX1_goTwoByTwo_63 rfl (lv_at hl 2 rfl) ?_
    refine lv_iload_n hx hb dX1_goTwoByTwo_64 rfl (lv_at hl 4 rfl) ?_
    refine lv_iconst (v := 1) hx hb dX1_goTwoByTwo_65 (by decide) ?_
    refine lv_iadd hx hb dX1_goTwoByTwo_66 ?_
    obtain ⟨r2, z2, hG2, hF⟩ := o_b hF
    refine cl_V (C := RX1) (rest := []) X hK hN hA hP hD hS (kX1_sectionOn l G cy cyO a z0 y1 (y3 + 1) r2 z2 hG2) (cwV 2 hts gX1_goTwoByTwo_X1_sectionOn rfl rfl rfl (by decide +kernel) ⟨Nat.le_of_ble_eq_true rfl, Nat.le_of_ble_eq_true rfl⟩) (va_recv hK hP (ci := 1) (q0 := 0) rfl rfl) rfl hl.1 rfl (Nat.le_of_ble_eq_true rfl) dX1_goTwoByTwo_67 ⟨Nat.zero_le _, Nat.zero_le _⟩ (fun H locs hP hD hS => ?_)
    rcases ho2 : r2 with _ | b2
    · have hF := o_mn ho2 hF
      refine w_none rfl ?_
      refine lv_astoreN (lv' := [(6, .null), (5, .int t0), (0, .ref (a 0)), (1, .int y1), (2, .int y2), (3, .int y3), (4, .ref w4)]) hx hb dX1_goTwoByTwo_70 hl (by decide) rfl (fun ls hl => ?_)
      refine lv_bipush (v := (-11)) hx hb dX1_goTwoByTwo_72 (by decide) ?_
      refine lv_istore (lv' := [(7, .int (-11)), (6, .null), (5, .int t0), (0, .ref (a 0)), (1, .int y1), (2, .int y2), (3, .int y3), (4, .ref w4)]) hx hb dX1_goTwoByTwo_74 hl (by decide) rfl (fun ls hl => ?_)
      refine lv_aloadN hx hb dX1_goTwoByTwo_76 (lv_at hl 1 rfl) ?_
      refine lv_ifnullN (tgt := 105) hx hb dX1_goTwoByTwo_78 (by decide) ?_
      refine lv_iload hx hb dX1_goTwoByTwo_105 (lv_at hl 2 rfl) ?_
      refine lv_if_eq (tgt := 119) hx hb dX1_goTwoByTwo_107 (by decide) (fun c3 => ?_) (fun c3 => ?_)
      · have hF := o_t c3 hF
        exact jX1_goTwoByTwo_119 X hr hlocks hK hN hA K2 hK2 z2 y1 y2 y3 w4 (-11) hF H locs hP hD hS ls (lv_sub hl [3, 4, 5, 6, 7, 0] rfl)
      · have hF := o_f c3 hF
        refine lv_aload_n hx hb dX1_goTwoByTwo_110 rfl (lv_at hl 3 rfl) ?_
        refine lv_aload hx hb dX1_goTwoByTwo_111 (lv_at hl 7 rfl) ?_
        refine lv_iload_n hx hb dX1_goTwoByTwo_113 rfl (lv_at hl 5 rfl) ?_
        obtain ⟨r4, z4, hG4, hF⟩ := o_b hF
        refine cl_V (C := RX1) (rest := []) X hK hN hA hP hD hS (kX1_pass l G cy cyO a z2 w4 y2 r4 z4 hG4) (cwV 2 hts gX1_goTwoByTwo_X1_pass rfl rfl rfl (by decide +kernel) ⟨Nat.le_of_ble_eq_true rfl, Nat.le_of_ble_eq_true rfl⟩) (va_recv hK hP (ci := 1) (q0 := 0) rfl rfl) rfl hl.1 rfl (Nat.le_of_ble_eq_true rfl) dX1_goTwoByTwo_114 ⟨Nat.zero_le _, Nat.zero_le _⟩ (fun H locs hP hD hS => ?_)
        refine W.eq (g2 := F0 m 117 ls [.int r4]) rfl ?_
        refine lv_istore (lv' := [(7, .int r4), (6, .null), (5, .int t0), (0, .ref (a 0)), (1, .int y1), (2, .int y2), (3, .int y3), (4, .ref w4)]) hx hb dX1_goTwoByTwo_117 hl (by decide) rfl (fun ls hl => ?_)
        exact jX1_goTwoByTwo_119 X hr hlocks hK hN hA K2 hK2 z4 y1 y2 y3 w4 r4 hF H locs hP hD hS ls (lv_sub hl [3, 4, 5, 6, 7, 0] rfl)
    · have hF := o_ms ho2 hF
      refine w_some rfl ?_
      refine lv_astore (lv' := [(6, .ref b2), (5, .int t0), (0, .ref (a 0)), (1, .int y1), (2, .int y2), (3, .int y3), (4, .ref w4)]) hx hb dX1_goTwoByTwo_70 hl (by decide) rfl (fun ls hl => ?_)
      refine lv_bipush (v := (-11)) hx hb dX1_goTwoByTwo_72 (by decide) ?_
      refine lv_istore (lv' := [(7, .int (-11)), (6, .ref b2), (5, .int t0), (0, .ref (a 0)), (1, .int y1), (2, .int y2), (3, .int y3), (4, .ref w4)]) hx hb dX1_goTwoByTwo_74 hl (by decide) rfl (fun ls hl => ?_)
      refine lv_aload hx hb dX1_goTwoByTwo_76 (lv_at hl 1 rfl) ?_
      refine lv_ifnull hx hb dX1_goTwoByTwo_78 ?_
      refine lv_aload_n hx hb dX1_goTwoByTwo_81 rfl (lv_at hl 3 rfl) ?_
      refine lv_aload hx hb dX1_goTwoByTwo_82 (lv_at hl 1 rfl) ?_
      obtain ⟨r5, z5, hG5, hF⟩ := o_b hF
      refine cl_V (C := RX1) (rest := []) X hK hN hA hP hD hS (kX1_claim l G cy cyO a z2 b2 r5 z5 hG5) (cwV 1 hts gX1_goTwoByTwo_X1_claim rfl rfl rfl (by decide +kernel) ⟨Nat.le_of_ble_eq_true rfl, Nat.le_of_ble_eq_true rfl⟩) (va_recv hK hP (ci := 1) (q0 := 0) rfl rfl) rfl hl.1 rfl (Nat.le_of_ble_eq_true rfl) dX1_goTwoByTwo_84 ⟨Nat.zero_le _, Nat.zero_le _⟩ (fun H locs hP hD hS => ?_)
      refine W.eq (g2 := F0 m 87 ls []) rfl ?_
      refine lv_aload_n hx hb dX1_goTwoByTwo_87 rfl (lv_at hl 3 rfl) ?_
      refine lv_aload hx hb dX1_goTwoByTwo_88 (lv_at hl 7 rfl) ?_
      refine lv_iload_n hx hb dX1_goTwoByTwo_90 rfl (lv_at hl 5 rfl) ?_
      obtain ⟨r6, z6, hG6, hF⟩ := o_b hF
      refine cl_V (C := RX1) (rest := []) X hK hN hA hP hD hS (kX1_pass l G cy cyO a z5 w4 y2 r6 z6 hG6) (cwV 2 hts gX1_goTwoByTwo_X1_pass rfl rfl rfl (by decide +kernel) ⟨Nat.le_of_ble_eq_true rfl, Nat.le_of_ble_eq_true rfl⟩) (va_recv hK hP (ci := 1) (q0 := 0) rfl rfl) rfl hl.1 rfl (Nat.le_of_ble_eq_true rfl) dX1_goTwoByTwo_91 ⟨Nat.zero_le _, Nat.zero_le _⟩ (fun H locs hP hD hS => ?_)
      refine W.eq (g2 := F0 m 94 ls [.int r6]) rfl ?_
      refine lv_istore (lv' := [(7, .int r6), (6, .ref b2), (5, .int t0), (0, .ref (a 0)), (1, .int y1), (2, .int y2), (3, .int y3), (4, .ref w4)]) hx hb dX1_goTwoByTwo_94 hl (by decide) rfl (fun ls hl => ?_)
      refine lv_aload_n hx hb dX1_goTwoByTwo_96 rfl (lv_at hl 3 rfl) ?_
      refine lv_aload hx hb dX1_goTwoByTwo_97 (lv_at hl 1 rfl) ?_
      obtain ⟨r7, z7, hG7, hF⟩ := o_b hF
      refine cl_V (C := RX1) (rest := []) X hK hN hA hP hD hS (kX1_let l G cy cyO a z6 b2 r7 z7 hG7) (cwV 1 hts gX1_goTwoByTwo_X1_let rfl rfl rfl (by decide +kernel) ⟨Nat.le_of_ble_eq_true rfl, Nat.le_of_ble_eq_true rfl⟩) (va_recv hK hP (ci := 1) (q0 := 0) rfl rfl) rfl hl.1 rfl (Nat.le_of_ble_eq_true rfl) dX1_goTwoByTwo_99 ⟨Nat.zero_le _, Nat.zero_le _⟩ (fun H locs hP hD hS => ?_)
      refine W.eq (g2 := F0 m 102 ls []) rfl ?_
      refine lv_goto (tgt := 119) hx hb dX1_goTwoByTwo_102 (by decide) ?_
      exact jX1_goTwoByTwo_119 X hr hlocks hK hN hA K2 hK2 z7 y1 y2 y3 w4 r6 hF H locs hP hD hS ls (lv_sub hl [3, 4, 5, 6, 7, 0] rfl)
  · have hF := o_f c1 hF
    refine lv_null hx hb dX1_goTwoByTwo_58 ?_
    refine lv_goto (tgt := 70) hx hb dX1_goTwoByTwo_59 (by decide) ?_
    refine lv_astoreN (lv' := [(6, .null), (5, .int t0), (0, .ref (a 0)), (1, .int y1), (2, .int y2), (3, .int y3), (4, .ref w4)]) hx hb dX1_goTwoByTwo_70 hl (by decide) rfl (fun ls hl => ?_)
    refine lv_bipush (v := (-11)) hx hb dX1_goTwoByTwo_72 (by decide) ?_
    refine lv_istore (lv' := [(7, .int (-11)), (6, .null), (5, .int t0), (0, .ref (a 0)), (1, .int y1), (2, .int y2), (3, .int y3), (4, .ref w4)]) hx hb dX1_goTwoByTwo_74 hl (by decide) rfl (fun ls hl => ?_)
    refine lv_aloadN hx hb dX1_goTwoByTwo_76 (lv_at hl 1 rfl) ?_
    refine lv_ifnullN (tgt := 105) hx hb dX1_goTwoByTwo_78 (by decide) ?_
    refine lv_iload hx hb dX1_goTwoByTwo_105 (lv_at hl 2 rfl) ?_
    refine lv_if_eq (tgt := 119) hx hb dX1_goTwoByTwo_107 (by decide) (fun c8 => ?_) (fun c8 => ?_)
    · have hF := o_t c8 hF
      exact jX1_goTwoByTwo_119 X hr hlocks hK hN hA K2 hK2 z0 y1 y2 y3 w4 (-11) hF H locs hP hD hS ls (lv_sub hl [3, 4, 5, 6, 7, 0] rfl)
    · have hF := o_f c8 hF
      refine lv_aload_n hx hb dX1_goTwoByTwo_110 rfl (lv_at hl 3 rfl) ?_
      refine lv_aload hx hb dX1_goTwoByTwo_111 (lv_at hl 7 rfl) ?_
      refine lv_iload_n hx hb dX1_goTwoByTwo_113 rfl (lv_at hl 5 rfl) ?_
      obtain ⟨r9, z9, hG9, hF⟩ := o_b hF
      refine cl_V (C := RX1) (rest := []) X hK hN hA hP hD hS (kX1_pass l G cy cyO a z0 w4 y2 r9 z9 hG9) (cwV 2 hts gX1_goTwoByTwo_X1_pass rfl rfl rfl (by decide +kernel) ⟨Nat.le_of_ble_eq_true rfl, Nat.le_of_ble_eq_true rfl⟩) (va_recv hK hP (ci := 1) (q0 := 0) rfl rfl) rfl hl.1 rfl (Nat.le_of_ble_eq_true rfl) dX1_goTwoByTwo_114 ⟨Nat.zero_le _, Nat.zero_le _⟩ (fun H locs hP hD hS => ?_)
      refine W.eq (g2 := F0 m 117 ls [.int r9]) rfl ?_
      refine lv_istore (lv' := [(7, .int r9), (6, .null), (5, .int t0), (0, .ref (a 0)), (1, .int y1), (2, .int y2), (3, .int y3), (4, .ref w4)]) hx hb dX1_goTwoByTwo_117 hl (by decide) rfl (fun ls hl => ?_)
      exact jX1_goTwoByTwo_119 X hr hlocks hK hN hA K2 hK2 z9 y1 y2 y3 w4 r9 hF H locs hP hD hS ls (lv_sub hl [3, 4, 5, 6, 7, 0] rfl)
def fX1_goTwoByTwo_j2 : Nat → SC → Int32 → Int32 → Int32 → Option (Int32 × SC)
  | 0, _, _, _, _ => none
  | n + 1, z0, y1, y2, y3 => if y1 < 0 ∨ 6 ≤ y1.toNatClampNeg then none else let_ (z0.2.2.2.2.1 y1.toNatClampNeg) (fun v1 => (if v1 ≤ y3 then some (z0.2.2.2.2.2.2.2.2.2.2.2, z0) else bd_ (fX1_sectionOn z0 y1 y3) (fun r3 z3 => (opt_ (r3) (some ((-11), z3)) (fun b3 => bd_ (fX1_claim z3 b3) (fun r4 z4 => if y1 < 0 ∨ 6 ≤ y1.toNatClampNeg then none else let_ (z4.2.2.2.2.1 y1.toNatClampNeg) (fun v5 => (if (y3 + 1) = v5 then (fX1_goTwoByTwo_j51 (fX1_goTwoByTwo_j2 n) z4 y1 y2 y3 b3 1) else (fX1_goTwoByTwo_j51 (fX1_goTwoByTwo_j2 n) z4 y1 y2 y3 b3 0)))))))))
set_option maxRecDepth 100000 in
set_option maxHeartbeats 4000000 in
theorem jX1_goTwoByTwo_2 {p : Program} {l : Launch} {e : Env} {s : State} {m : MethodId} {args : Array Value} {below : List Frame} {meth : Method} {c : Code} {G : va_G} {cy cyO : ClassId} {a : Nat → Nat} {A : Nat → Prop} {r : Int32} {u : SC} (X : CallFix p m c cX1_goTwoByTwo 8 s args wsX1_goTwoByTwo RX1) (hr : meth.sig.returnType = (some .int)) (hlocks : meth.locks = false) (hK : va_K G vwCl (tys_ cy cyO) s) (hN : nw s) (hA : ∀ q, s.heap.size ≤ q → A q) : ∀ n : Nat, ∀ (z0 : SC) (y1 : Int32) (y2 : Int32) (y3 : Int32), fX1_goTwoByTwo_j2 n z0 y1 y2 y3 = some (r, u) → ∀ (H : Heap) (locs : List Loc), va_P G vwCl (cW a cy cyO z0) H → va_D A (cW a cy cyO z0) → va_S A s.heap H locs → ∀ (ls : Array Slot), lv_has ls 8 [(0, .ref (a 0)), (1, .int y1), (2, .int y2), (3, .int y3)] → W p l e ({ frames := 5, cells := 0, slots := 0, locals := 113 } : Room) s m args below meth c H locs 0 0 (MQ below (qg (some (.int r)) (fun t => wPost G A (cW a cy cyO u) t) A) args s 0 0 A) (F0 m 2 ls []) := by
  obtain ⟨hx, hb, hml, hown, hts⟩ := id X
  have hin1 : ∀ w ∈ wsX10, w ∈ wsX1_goTwoByTwo := by decide +kernel
  intro n
  induction n with
  | zero => intro z0 y1 y2 y3 hF; cases hF
  | succ n ih =>
    intro z0 y1 y2 y3 hF H locs hP hD hS ls hl
    rw [fX1_goTwoByTwo_j2] at hF
    refine lv_iload_n hx hb dX1_goTwoByTwo_2 rfl (lv_at hl 3 rfl) ?_
    refine lv_aload_n hx hb dX1_goTwoByTwo_3 rfl (lv_at hl 0 rfl) ?_
    refine va_get (D := G) (ci := 1) (v := .ref (a 3)) (C := RX1) (T := TX1) (N := 10) hx hb hts hin1 hown hK hP 0 rfl rfl 2 (by decide) (hts (.fieldLink RX1 19 "SignalBox" "routeLengths" "[I") (by decide +kernel)) (fun _ h9 => h9) rfl dX1_goTwoByTwo_4 ?_
    refine lv_iload_n hx hb dX1_goTwoByTwo_7 rfl (lv_at hl 1 rfl) ?_
    obtain ⟨h1, hF⟩ := o_n hF
    refine va_iald (n := 6) (f := z0.2.2.2.2.1) (cA := cy) hx hb hK hP 3 0 rfl rfl h1 dX1_goTwoByTwo_8 ?_
    obtain ⟨v1, e1, hF⟩ := o_l hF
    refine w_top e1 ?_
    refine lv_icmp_ge (tgt := 144) hx hb dX1_goTwoByTwo_9 (by decide) (fun c2 => ?_) (fun c2 => ?_)
    · have hF := o_t c2 hF
      refine lv_aload_n hx hb dX1_goTwoByTwo_144 rfl (lv_at hl 0 rfl) ?_
      refine va_get (D := G) (ci := 1) (v := .int z0.2.2.2.2.2.2.2.2.2.2.2) (C := RX1) (T := TX1) (N := 10) hx hb hts hin1 hown hK hP 0 rfl rfl 9 (by decide) (hts (.fieldLink RX1 51 "SignalBox" "passed" "I") (by decide +kernel)) (fun _ h9 => h9) rfl dX1_goTwoByTwo_145 ?_
      obtain ⟨rfl, rfl⟩ := o_s hF
      exact rt_i X hr hlocks hP hD hS dX1_goTwoByTwo_148
    · have hF := o_f c2 hF
      refine lv_aload_n hx hb dX1_goTwoByTwo_12 rfl (lv_at hl 0 rfl) ?_
      refine lv_iload_n hx hb dX1_goTwoByTwo_13 rfl (lv_at hl 1 rfl) ?_
      refine lv_iload_n hx hb dX1_goTwoByTwo_14 rfl (lv_at hl 3 rfl) ?_
      obtain ⟨r3, z3, hG3, hF⟩ := o_b hF
      refine cl_V (C := RX1) (rest := []) X hK hN hA hP hD hS (kX1_sectionOn l G cy cyO a z0 y1 y3 r3 z3 hG3) (cwV 2 hts gX1_goTwoByTwo_X1_sectionOn rfl rfl rfl (by decide +kernel) ⟨Nat.le_of_ble_eq_true rfl, Nat.le_of_ble_eq_true rfl⟩) (va_recv hK hP (ci := 1) (q0 := 0) rfl rfl) rfl hl.1 rfl (Nat.le_of_ble_eq_true rfl) dX1_goTwoByTwo_15 ⟨Nat.zero_le _, Nat.zero_le _⟩ (fun H locs hP hD hS => ?_)
      rcases ho3 : r3 with _ | b3
      · have hF := o_mn ho3 hF
        refine w_none rfl ?_
        refine lv_astoreN (lv' := [(4, .null), (0, .ref (a 0)), (1, .int y1), (2, .int y2), (3, .int y3)]) hx hb dX1_goTwoByTwo_18 hl (by decide) rfl (fun ls hl => ?_)
        refine lv_aloadN hx hb dX1_goTwoByTwo_20 (lv_at hl 0 rfl) ?_
        refine lv_ifnonnullN hx hb dX1_goTwoByTwo_22 ?_
        refine lv_bipush (v := (-11)) hx hb dX1_goTwoByTwo_25 (by decide) ?_
        obtain ⟨rfl, rfl⟩ := o_s hF
        exact rt_i X hr hlocks hP hD hS dX1_goTwoByTwo_27
      · have hF := o_ms ho3 hF
        refine w_some rfl ?_
        refine lv_astore (lv' := [(4, .ref b3), (0, .ref (a 0)), (1, .int y1), (2, .int y2), (3, .int y3)]) hx hb dX1_goTwoByTwo_18 hl (by decide) rfl (fun ls hl => ?_)
        refine lv_aload hx hb dX1_goTwoByTwo_20 (lv_at hl 0 rfl) ?_
        refine lv_ifnonnull (tgt := 28) hx hb dX1_goTwoByTwo_22 (by decide) ?_
        refine lv_aload_n hx hb dX1_goTwoByTwo_28 rfl (lv_at hl 1 rfl) ?_
        refine lv_aload hx hb dX1_goTwoByTwo_29 (lv_at hl 0 rfl) ?_
        obtain ⟨r4, z4, hG4, hF⟩ := o_b hF
        refine cl_V (C := RX1) (rest := []) X hK hN hA hP hD hS (kX1_claim l G cy cyO a z3 b3 r4 z4 hG4) (cwV 1 hts gX1_goTwoByTwo_X1_claim rfl rfl rfl (by decide +kernel) ⟨Nat.le_of_ble_eq_true rfl, Nat.le_of_ble_eq_true rfl⟩) (va_recv hK hP (ci := 1) (q0 := 0) rfl rfl) rfl hl.1 rfl (Nat.le_of_ble_eq_true rfl) dX1_goTwoByTwo_31 ⟨Nat.zero_le _, Nat.zero_le _⟩ (fun H locs hP hD hS => ?_)
        refine W.eq (g2 := F0 m 34 ls []) rfl ?_
        refine lv_iload_n hx hb dX1_goTwoByTwo_34 rfl (lv_at hl 4 rfl) ?_
        refine lv_iconst (v := 1) hx hb dX1_goTwoByTwo_35 (by decide) ?_
        refine lv_iadd hx hb dX1_goTwoByTwo_36 ?_
        refine lv_aload_n hx hb dX1_goTwoByTwo_37 rfl (lv_at hl 1 rfl) ?_
        refine va_get (D := G) (ci := 1) (v := .ref (a 3)) (C := RX1) (T := TX1) (N := 10) hx hb hts hin1 hown hK hP 0 rfl rfl 2 (by decide) (hts (.fieldLink RX1 19 "SignalBox" "routeLengths" "[I") (by decide +kernel)) (fun _ h9 => h9) rfl dX1_goTwoByTwo_38 ?_
        refine lv_iload_n hx hb dX1_goTwoByTwo_41 rfl (lv_at hl 2 rfl) ?_
        obtain ⟨h5, hF⟩ := o_n hF
        refine va_iald (n := 6) (f := z4.2.2.2.2.1) (cA := cy) hx hb hK hP 3 0 rfl rfl h5 dX1_goTwoByTwo_42 ?_
        obtain ⟨v5, e5, hF⟩ := o_l hF
        refine w_top e5 ?_
        refine lv_icmp_ne (tgt := 50) hx hb dX1_goTwoByTwo_43 (by decide) (fun c6 => ?_) (fun c6 => ?_)
        · have hF := o_f c6 hF
          refine lv_iconst (v := 0) hx hb dX1_goTwoByTwo_50 (by decide) ?_
          exact jX1_goTwoByTwo_51 X hr hlocks hK hN hA (fX1_goTwoByTwo_j2 n) ih z4 y1 y2 y3 b3 0 hF H locs hP hD hS ls (lv_sub hl [1, 2, 3, 4, 0] rfl)
        · have hF := o_t c6 hF
          refine lv_iconst (v := 1) hx hb dX1_goTwoByTwo_46 (by decide) ?_
          refine lv_goto (tgt := 51) hx hb dX1_goTwoByTwo_47 (by decide) ?_
          exact jX1_goTwoByTwo_51 X hr hlocks hK hN hA (fX1_goTwoByTwo_j2 n) ih z4 y1 y2 y3 b3 1 hF H locs hP hD hS ls (lv_sub hl [1, 2, 3, 4, 0] rfl)
def fX1_goTwoByTwo (z0 : SC) (x1 : Int32) (x2 : Int32) : Option (Int32 × SC) := (fX1_goTwoByTwo_j2 20 z0 x1 x2 0)
set_option maxRecDepth 100000 in
set_option maxHeartbeats 4000000 in
theorem kX1_goTwoByTwo (l : Launch) (G : va_G) (cy cyO : ClassId) (a : Nat → Nat) (z0 : SC) (x1 : Int32) (x2 : Int32) (r : Int32) (u : SC) (hF : fX1_goTwoByTwo z0 x1 x2 = some (r, u)) : Ct l G (tys_ cy cyO) yX1_goTwoByTwo wsX1_goTwoByTwo ({ frames := 5, cells := 0, slots := 0, locals := 113 } : Room) [.ref (a 0), .int x1, .int x2] (cW a cy cyO z0) (some (.int r)) (cW a cy cyO u) := by
  unfold fX1_goTwoByTwo at hF
  refine ct_of (cc := cX1_goTwoByTwo) (maxL := 8) (ret := (some .int)) (own := RX1) (by decide) rfl (Nat.le_of_ble_eq_true rfl) rfl ?_
  intro p e s m below meth c A ls X hr hlocks _ hK hN hA hP hD hl
  have hS : va_S A s.heap s.heap [] := va_S.rf
  have hl : lv_has ls 8 [(0, .ref (a 0)), (1, .int x1), (2, .int x2)] := hl
  obtain ⟨hx, hb, hml, hown, hts⟩ := id X
  have hin1 : ∀ w ∈ wsX10, w ∈ wsX1_goTwoByTwo := by decide +kernel
  refine lv_iconst (v := 0) hx hb dX1_goTwoByTwo_0 (by decide) ?_
  refine lv_istore_n (lv' := [(3, .int 0), (0, .ref (a 0)), (1, .int x1), (2, .int x2)]) hx hb dX1_goTwoByTwo_1 rfl hl (by decide) rfl (fun ls hl => ?_)
  exact jX1_goTwoByTwo_2 X hr hlocks hK hN hA 20 z0 x1 x2 0 hF s.heap [] hP hD hS ls (lv_sub hl [1, 2, 3, 0] rfl)
def fX1_claimAll_j2 : Nat → SC → Int32 → Int32 → Option (Int32 × SC)
  | 0, _, _, _ => none
  | n + 1, z0, y1, y2 => if y1 < 0 ∨ 6 ≤ y1.toNatClampNeg then none else let_ (z0.2.2.2.2.1 y1.toNatClampNeg) (fun v1 => (if v1 ≤ y2 then if y1 < 0 ∨ 6 ≤ y1.toNatClampNeg then none else let_ (z0.2.2.2.2.1 y1.toNatClampNeg) (fun v3 => some (v3, z0)) else bd_ (fX1_sectionOn z0 y1 y2) (fun r4 z4 => (opt_ (r4) (some (y2, z4)) (fun b4 => bd_ (fX1_claim z4 b4) (fun r5 z5 => (fX1_claimAll_j2 n z5 y1 (y2 + 1))))))))
set_option maxRecDepth 100000 in
set_option maxHeartbeats 4000000 in
theorem jX1_claimAll_2 {p : Program} {l : Launch} {e : Env} {s : State} {m : MethodId} {args : Array Value} {below : List Frame} {meth : Method} {c : Code} {G : va_G} {cy cyO : ClassId} {a : Nat → Nat} {A : Nat → Prop} {r : Int32} {u : SC} (X : CallFix p m c cX1_claimAll 4 s args wsX1_claimAll RX1) (hr : meth.sig.returnType = (some .int)) (hlocks : meth.locks = false) (hK : va_K G vwCl (tys_ cy cyO) s) (hN : nw s) (hA : ∀ q, s.heap.size ≤ q → A q) : ∀ n : Nat, ∀ (z0 : SC) (y1 : Int32) (y2 : Int32), fX1_claimAll_j2 n z0 y1 y2 = some (r, u) → ∀ (H : Heap) (locs : List Loc), va_P G vwCl (cW a cy cyO z0) H → va_D A (cW a cy cyO z0) → va_S A s.heap H locs → ∀ (ls : Array Slot), lv_has ls 4 [(0, .ref (a 0)), (1, .int y1), (2, .int y2)] → W p l e ({ frames := 1, cells := 0, slots := 0, locals := 22 } : Room) s m args below meth c H locs 0 0 (MQ below (qg (some (.int r)) (fun t => wPost G A (cW a cy cyO u) t) A) args s 0 0 A) (F0 m 2 ls []) := by
  obtain ⟨hx, hb, hml, hown, hts⟩ := id X
  have hin1 : ∀ w ∈ wsX10, w ∈ wsX1_claimAll := by decide +kernel
  intro n
  induction n with
  | zero => intro z0 y1 y2 hF; cases hF
  | succ n ih =>
    intro z0 y1 y2 hF H locs hP hD hS ls hl
    rw [fX1_claimAll_j2] at hF
    refine lv_iload_n hx hb dX1_claimAll_2 rfl (lv_at hl 2 rfl) ?_
    refine lv_aload_n hx hb dX1_claimAll_3 rfl (lv_at hl 0 rfl) ?_
    refine va_get (D := G) (ci := 1) (v := .ref (a 3)) (C := RX1) (T := TX1) (N := 10) hx hb hts hin1 hown hK hP 0 rfl rfl 2 (by decide) (hts (.fieldLink RX1 19 "SignalBox" "routeLengths" "[I") (by decide +kernel)) (fun _ h9 => h9) rfl dX1_claimAll_4 ?_
    refine lv_iload_n hx hb dX1_claimAll_7 rfl (lv_at hl 1 rfl) ?_
    obtain ⟨h1, hF⟩ := o_n hF
    refine va_iald (n := 6) (f := z0.2.2.2.2.1) (cA := cy) hx hb hK hP 3 0 rfl rfl h1 dX1_claimAll_8 ?_
    obtain ⟨v1, e1, hF⟩ := o_l hF
    refine w_top e1 ?_
    refine lv_icmp_ge (tgt := 36) hx hb dX1_claimAll_9 (by decide) (fun c2 => ?_) (fun c2 => ?_)
    · have hF := o_t c2 hF
      refine lv_aload_n hx hb dX1_claimAll_36 rfl (lv_at hl 0 rfl) ?_
      refine va_get (D := G) (ci := 1) (v := .ref (a 3)) (C := RX1) (T := TX1) (N := 10) hx hb hts hin1 hown hK hP 0 rfl rfl 2 (by decide) (hts (.fieldLink RX1 19 "SignalBox" "routeLengths" "[I") (by decide +kernel)) (fun _ h9 => h9) rfl dX1_claimAll_37 ?_
      refine lv_iload_n hx hb dX1_claimAll_40 rfl (lv_at hl 1 rfl) ?_
      obtain ⟨h3, hF⟩ := o_n hF
      refine va_iald (n := 6) (f := z0.2.2.2.2.1) (cA := cy) hx hb hK hP 3 0 rfl rfl h3 dX1_claimAll_41 ?_
      obtain ⟨v3, e3, hF⟩ := o_l hF
      refine w_top e3 ?_
      obtain ⟨rfl, rfl⟩ := o_s hF
      exact rt_i X hr hlocks hP hD hS dX1_claimAll_42
    · have hF := o_f c2 hF
      refine lv_aload_n hx hb dX1_claimAll_12 rfl (lv_at hl 0 rfl) ?_
      refine lv_iload_n hx hb dX1_claimAll_13 rfl (lv_at hl 1 rfl) ?_
      refine lv_iload_n hx hb dX1_claimAll_14 rfl (lv_at hl 2 rfl) ?_
      obtain ⟨r4, z4, hG4, hF⟩ := o_b hF
      refine cl_V (C := RX1) (rest := []) X hK hN hA hP hD hS (kX1_sectionOn l G cy cyO a z0 y1 y2 r4 z4 hG4) (cwV 2 hts gX1_claimAll_X1_sectionOn rfl rfl rfl (by decide +kernel) ⟨Nat.le_of_ble_eq_true rfl, Nat.le_of_ble_eq_true rfl⟩) (va_recv hK hP (ci := 1) (q0 := 0) rfl rfl) rfl hl.1 rfl (Nat.le_of_ble_eq_true rfl) dX1_claimAll_15 ⟨Nat.zero_le _, Nat.zero_le _⟩ (fun H locs hP hD hS => ?_)
      rcases ho4 : r4 with _ | b4
      · have hF := o_mn ho4 hF
        refine w_none rfl ?_
        refine lv_astore_nN (lv' := [(3, .null), (0, .ref (a 0)), (1, .int y1), (2, .int y2)]) hx hb dX1_claimAll_18 rfl hl (by decide) rfl (fun ls hl => ?_)
        refine lv_aload_nN hx hb dX1_claimAll_19 rfl (lv_at hl 0 rfl) ?_
        refine lv_ifnonnullN hx hb dX1_claimAll_20 ?_
        refine lv_iload_n hx hb dX1_claimAll_23 rfl (lv_at hl 3 rfl) ?_
        obtain ⟨rfl, rfl⟩ := o_s hF
        exact rt_i X hr hlocks hP hD hS dX1_claimAll_24
      · have hF := o_ms ho4 hF
        refine w_some rfl ?_
        refine lv_astore_n (lv' := [(3, .ref b4), (0, .ref (a 0)), (1, .int y1), (2, .int y2)]) hx hb dX1_claimAll_18 rfl hl (by decide) rfl (fun ls hl => ?_)
        refine lv_aload_n hx hb dX1_claimAll_19 rfl (lv_at hl 0 rfl) ?_
        refine lv_ifnonnull (tgt := 25) hx hb dX1_claimAll_20 (by decide) ?_
        refine lv_aload_n hx hb dX1_claimAll_25 rfl (lv_at hl 1 rfl) ?_
        refine lv_aload_n hx hb dX1_claimAll_26 rfl (lv_at hl 0 rfl) ?_
        obtain ⟨r5, z5, hG5, hF⟩ := o_b hF
        refine cl_V (C := RX1) (rest := []) X hK hN hA hP hD hS (kX1_claim l G cy cyO a z4 b4 r5 z5 hG5) (cwV 1 hts gX1_claimAll_X1_claim rfl rfl rfl (by decide +kernel) ⟨Nat.le_of_ble_eq_true rfl, Nat.le_of_ble_eq_true rfl⟩) (va_recv hK hP (ci := 1) (q0 := 0) rfl rfl) rfl hl.1 rfl (Nat.le_of_ble_eq_true rfl) dX1_claimAll_27 ⟨Nat.zero_le _, Nat.zero_le _⟩ (fun H locs hP hD hS => ?_)
        refine W.eq (g2 := F0 m 30 ls []) rfl ?_
        refine lv_iinc (v := y2 + 1) (lv' := [(2, .int (y2 + 1)), (3, .ref b4), (0, .ref (a 0)), (1, .int y1)]) hx hb dX1_claimAll_30 hl (k := 3) rfl rfl (by decide) rfl (fun ls hl => ?_)
        refine lv_goto (tgt := 2) hx hb dX1_claimAll_33 (by decide) ?_
        exact ih z5 y1 (y2 + 1) hF H locs hP hD hS ls (lv_sub hl [2, 3, 0] rfl)
def fX1_claimAll (z0 : SC) (x1 : Int32) : Option (Int32 × SC) := (fX1_claimAll_j2 20 z0 x1 0)
set_option maxRecDepth 100000 in
set_option maxHeartbeats 4000000 in
theorem kX1_claimAll (l : Launch) (G : va_G) (cy cyO : ClassId) (a : Nat → Nat) (z0 : SC) (x1 : Int32) (r : Int32) (u : SC) (hF : fX1_claimAll z0 x1 = some (r, u)) : Ct l G (tys_ cy cyO) yX1_claimAll wsX1_claimAll ({ frames := 1, cells := 0, slots := 0, locals := 22 } : Room) [.ref (a 0), .int x1] (cW a cy cyO z0) (some (.int r)) (cW a cy cyO u) := by
  unfold fX1_claimAll at hF
  refine ct_of (cc := cX1_claimAll) (maxL := 4) (ret := (some .int)) (own := RX1) (by decide) rfl (Nat.le_of_ble_eq_true rfl) rfl ?_
  intro p e s m below meth c A ls X hr hlocks _ hK hN hA hP hD hl
  have hS : va_S A s.heap s.heap [] := va_S.rf
  have hl : lv_has ls 4 [(0, .ref (a 0)), (1, .int x1)] := hl
  obtain ⟨hx, hb, hml, hown, hts⟩ := id X
  have hin1 : ∀ w ∈ wsX10, w ∈ wsX1_claimAll := by decide +kernel
  refine lv_iconst (v := 0) hx hb dX1_claimAll_0 (by decide) ?_
  refine lv_istore_n (lv' := [(2, .int 0), (0, .ref (a 0)), (1, .int x1)]) hx hb dX1_claimAll_1 rfl hl (by decide) rfl (fun ls hl => ?_)
  exact jX1_claimAll_2 X hr hlocks hK hN hA 20 z0 x1 0 hF s.heap [] hP hD hS ls (lv_sub hl [1, 2, 0] rfl)
def fX1_letAll_j27 (K4 : SC → Int32 → Int32 → Option (Int32 × SC)) (z0 : SC) (y1 : Int32) (y3 : Int32) : Option (Int32 × SC) := (K4 z0 y1 (y3 + (-1)))
set_option maxRecDepth 100000 in
set_option maxHeartbeats 4000000 in
theorem jX1_letAll_27 {p : Program} {l : Launch} {e : Env} {s : State} {m : MethodId} {args : Array Value} {below : List Frame} {meth : Method} {c : Code} {G : va_G} {cy cyO : ClassId} {a : Nat → Nat} {A : Nat → Prop} {r : Int32} {u : SC} (X : CallFix p m c cX1_letAll 5 s args wsX1_letAll RX1) (hr : meth.sig.returnType = none) (hlocks : meth.locks = false) (hK : va_K G vwCl (tys_ cy cyO) s) (hN : nw s) (hA : ∀ q, s.heap.size ≤ q → A q) (K4 : SC → Int32 → Int32 → Option (Int32 × SC)) (hK4 : ∀ (z0 : SC) (y1 : Int32) (y3 : Int32), K4 z0 y1 y3 = some (r, u) → ∀ (H : Heap) (locs : List Loc), va_P G vwCl (cW a cy cyO z0) H → va_D A (cW a cy cyO z0) → va_S A s.heap H locs → ∀ (ls : Array Slot), lv_has ls 5 [(0, .ref (a 0)), (1, .int y1), (3, .int y3)] → W p l e ({ frames := 1, cells := 0, slots := 0, locals := 22 } : Room) s m args below meth c H locs 0 0 (MQ below (qg none (fun t => wPost G A (cW a cy cyO u) t) A) args s 0 0 A) (F0 m 4 ls [])) : ∀ (z0 : SC) (y1 : Int32) (y3 : Int32), fX1_letAll_j27 K4 z0 y1 y3 = some (r, u) → ∀ (H : Heap) (locs : List Loc), va_P G vwCl (cW a cy cyO z0) H → va_D A (cW a cy cyO z0) → va_S A s.heap H locs → ∀ (ls : Array Slot), lv_has ls 5 [(0, .ref (a 0)), (1, .int y1), (3, .int y3)] → W p l e ({ frames := 1, cells := 0, slots := 0, locals := 22 } : Room) s m args below meth c H locs 0 0 (MQ below (qg none (fun t => wPost G A (cW a cy cyO u) t) A) args s 0 0 A) (F0 m 27 ls []) := by
  obtain ⟨hx, hb, hml, hown, hts⟩ := id X
  intro z0 y1 y3 hF H locs hP hD hS ls hl
  unfold fX1_letAll_j27 at hF
  refine lv_iinc (v := y3 + (-1)) (lv' := [(3, .int (y3 + (-1))), (0, .ref (a 0)), (1, .int y1)]) hx hb dX1_letAll_27 hl (k := 2) rfl rfl (by decide) rfl (fun ls hl => ?_)
  refine lv_goto (tgt := 4) hx hb dX1_letAll_30 (by decide) ?_
  exact hK4 z0 y1 (y3 + (-1)) hF H locs hP hD hS ls (lv_sub hl [1, 2, 0] rfl)
def fX1_letAll_j4 : Nat → SC → Int32 → Int32 → Option (Int32 × SC)
  | 0, _, _, _ => none
  | n + 1, z0, y1, y3 => (if y3 < 0 then some (0, z0) else bd_ (fX1_sectionOn z0 y1 y3) (fun r2 z2 => (opt_ (r2) ((fX1_letAll_j27 (fX1_letAll_j4 n) z2 y1 y3)) (fun b2 => bd_ (fX1_let z2 b2) (fun r3 z3 => (fX1_letAll_j27 (fX1_letAll_j4 n) z3 y1 y3))))))
set_option maxRecDepth 100000 in
set_option maxHeartbeats 4000000 in
theorem jX1_letAll_4 {p : Program} {l : Launch} {e : Env} {s : State} {m : MethodId} {args : Array Value} {below : List Frame} {meth : Method} {c : Code} {G : va_G} {cy cyO : ClassId} {a : Nat → Nat} {A : Nat → Prop} {r : Int32} {u : SC} (X : CallFix p m c cX1_letAll 5 s args wsX1_letAll RX1) (hr : meth.sig.returnType = none) (hlocks : meth.locks = false) (hK : va_K G vwCl (tys_ cy cyO) s) (hN : nw s) (hA : ∀ q, s.heap.size ≤ q → A q) : ∀ n : Nat, ∀ (z0 : SC) (y1 : Int32) (y3 : Int32), fX1_letAll_j4 n z0 y1 y3 = some (r, u) → ∀ (H : Heap) (locs : List Loc), va_P G vwCl (cW a cy cyO z0) H → va_D A (cW a cy cyO z0) → va_S A s.heap H locs → ∀ (ls : Array Slot), lv_has ls 5 [(0, .ref (a 0)), (1, .int y1), (3, .int y3)] → W p l e ({ frames := 1, cells := 0, slots := 0, locals := 22 } : Room) s m args below meth c H locs 0 0 (MQ below (qg none (fun t => wPost G A (cW a cy cyO u) t) A) args s 0 0 A) (F0 m 4 ls []) := by
  obtain ⟨hx, hb, hml, hown, hts⟩ := id X
  intro n
  induction n with
  | zero => intro z0 y1 y3 hF; cases hF
  | succ n ih =>
    intro z0 y1 y3 hF H locs hP hD hS ls hl
    rw [fX1_letAll_j4] at hF
    refine lv_iload_n hx hb dX1_letAll_4 rfl (lv_at hl 2 rfl) ?_
    refine lv_if_lt (tgt := 33) hx hb dX1_letAll_5 (by decide) (fun c1 => ?_) (fun c1 => ?_)
    · have hF := o_t c1 hF
      obtain ⟨rfl, rfl⟩ := o_s hF
      exact rt_v X hr hlocks hP hD hS dX1_letAll_33
    · have hF := o_f c1 hF
      refine lv_aload_n hx hb dX1_letAll_8 rfl (lv_at hl 0 rfl) ?_
      refine lv_iload_n hx hb dX1_letAll_9 rfl (lv_at hl 1 rfl) ?_
      refine lv_iload_n hx hb dX1_letAll_10 rfl (lv_at hl 2 rfl) ?_
      obtain ⟨r2, z2, hG2, hF⟩ := o_b hF
      refine cl_V (C := RX1) (rest := []) X hK hN hA hP hD hS (kX1_sectionOn l G cy cyO a z0 y1 y3 r2 z2 hG2) (cwV 2 hts gX1_letAll_X1_sectionOn rfl rfl rfl (by decide +kernel) ⟨Nat.le_of_ble_eq_true rfl, Nat.le_of_ble_eq_true rfl⟩) (va_recv hK hP (ci := 1) (q0 := 0) rfl rfl) rfl hl.1 rfl (Nat.le_of_ble_eq_true rfl) dX1_letAll_11 ⟨Nat.zero_le _, Nat.zero_le _⟩ (fun H locs hP hD hS => ?_)
      rcases ho2 : r2 with _ | b2
      · have hF := o_mn ho2 hF
        refine w_none rfl ?_
        refine lv_astoreN (lv' := [(4, .null), (0, .ref (a 0)), (1, .int y1), (3, .int y3)]) hx hb dX1_letAll_14 hl (by decide) rfl (fun ls hl => ?_)
        refine lv_aloadN hx hb dX1_letAll_16 (lv_at hl 0 rfl) ?_
        refine lv_ifnullN (tgt := 27) hx hb dX1_letAll_18 (by decide) ?_
        exact jX1_letAll_27 X hr hlocks hK hN hA (fX1_letAll_j4 n) ih z2 y1 y3 hF H locs hP hD hS ls (lv_sub hl [1, 2, 3] rfl)
      · have hF := o_ms ho2 hF
        refine w_some rfl ?_
        refine lv_astore (lv' := [(4, .ref b2), (0, .ref (a 0)), (1, .int y1), (3, .int y3)]) hx hb dX1_letAll_14 hl (by decide) rfl (fun ls hl => ?_)
        refine lv_aload hx hb dX1_letAll_16 (lv_at hl 0 rfl) ?_
        refine lv_ifnull hx hb dX1_letAll_18 ?_
        refine lv_aload_n hx hb dX1_letAll_21 rfl (lv_at hl 1 rfl) ?_
        refine lv_aload hx hb dX1_letAll_22 (lv_at hl 0 rfl) ?_
        obtain ⟨r3, z3, hG3, hF⟩ := o_b hF
        refine cl_V (C := RX1) (rest := []) X hK hN hA hP hD hS (kX1_let l G cy cyO a z2 b2 r3 z3 hG3) (cwV 1 hts gX1_letAll_X1_let rfl rfl rfl (by decide +kernel) ⟨Nat.le_of_ble_eq_true rfl, Nat.le_of_ble_eq_true rfl⟩) (va_recv hK hP (ci := 1) (q0 := 0) rfl rfl) rfl hl.1 rfl (Nat.le_of_ble_eq_true rfl) dX1_letAll_24 ⟨Nat.zero_le _, Nat.zero_le _⟩ (fun H locs hP hD hS => ?_)
        refine W.eq (g2 := F0 m 27 ls []) rfl ?_
        exact jX1_letAll_27 X hr hlocks hK hN hA (fX1_letAll_j4 n) ih z3 y1 y3 hF H locs hP hD hS ls (lv_sub hl [1, 2, 3] rfl)
def fX1_letAll (z0 : SC) (x1 : Int32) (x2 : Int32) : Option (Int32 × SC) := (fX1_letAll_j4 20 z0 x1 (x2 - 1))
set_option maxRecDepth 100000 in
set_option maxHeartbeats 4000000 in
theorem kX1_letAll (l : Launch) (G : va_G) (cy cyO : ClassId) (a : Nat → Nat) (z0 : SC) (x1 : Int32) (x2 : Int32) (r : Int32) (u : SC) (hF : fX1_letAll z0 x1 x2 = some (r, u)) : Ct l G (tys_ cy cyO) yX1_letAll wsX1_letAll ({ frames := 1, cells := 0, slots := 0, locals := 22 } : Room) [.ref (a 0), .int x1, .int x2] (cW a cy cyO z0) none (cW a cy cyO u) := by
  unfold fX1_letAll at hF
  refine ct_of (cc := cX1_letAll) (maxL := 5) (ret := none) (own := RX1) (by decide) rfl (Nat.le_of_ble_eq_true rfl) rfl ?_
  intro p e s m below meth c A ls X hr hlocks _ hK hN hA hP hD hl
  have hS : va_S A s.heap s.heap [] := va_S.rf
  have hl : lv_has ls 5 [(0, .ref (a 0)), (1, .int x1), (2, .int x2)] := hl
  obtain ⟨hx, hb, hml, hown, hts⟩ := id X
  refine lv_iload_n hx hb dX1_letAll_0 rfl (lv_at hl 2 rfl) ?_
  refine lv_iconst (v := 1) hx hb dX1_letAll_1 (by decide) ?_
  refine lv_isub hx hb dX1_letAll_2 ?_
  refine lv_istore_n (lv' := [(3, .int (x2 - 1)), (0, .ref (a 0)), (1, .int x1), (2, .int x2)]) hx hb dX1_letAll_3 rfl hl (by decide) rfl (fun ls hl => ?_)
  exact jX1_letAll_4 X hr hlocks hK hN hA 20 z0 x1 (x2 - 1) hF s.heap [] hP hD hS ls (lv_sub hl [1, 2, 0] rfl)
def fX1_goAll_j73 (K36 : SC → Int32 → Int32 → Int32 → Int32 → Int32 → Int32 → Option (Int32 × SC)) (z0 : SC) (y1 : Int32) (y2 : Int32) (y3 : Int32) (y6 : Int32) (t0 : Int32) : Option (Int32 × SC) := bd_ (fX1_answerTo z0 t0 y6) (fun r1 z1 => (K36 z1 y1 y2 y3 t0 r1 (y6 + 1)))
set_option maxRecDepth 100000 in
set_option maxHeartbeats 4000000 in
theorem jX1_goAll_73 {p : Program} {l : Launch} {e : Env} {s : State} {m : MethodId} {args : Array Value} {below : List Frame} {meth : Method} {c : Code} {G : va_G} {cy cyO : ClassId} {a : Nat → Nat} {A : Nat → Prop} {r : Int32} {u : SC} (X : CallFix p m c cX1_goAll 8 s args wsX1_goAll RX1) (hr : meth.sig.returnType = (some .int)) (hlocks : meth.locks = false) (hK : va_K G vwCl (tys_ cy cyO) s) (hN : nw s) (hA : ∀ q, s.heap.size ≤ q → A q) (K36 : SC → Int32 → Int32 → Int32 → Int32 → Int32 → Int32 → Option (Int32 × SC)) (hK36 : ∀ (z0 : SC) (y1 : Int32) (y2 : Int32) (y3 : Int32) (y4 : Int32) (y5 : Int32) (y6 : Int32), K36 z0 y1 y2 y3 y4 y5 y6 = some (r, u) → ∀ (H : Heap) (locs : List Loc), va_P G vwCl (cW a cy cyO z0) H → va_D A (cW a cy cyO z0) → va_S A s.heap H locs → ∀ (ls : Array Slot), lv_has ls 8 [(0, .ref (a 0)), (1, .int y1), (2, .int y2), (3, .int y3), (4, .int y4), (5, .int y5), (6, .int y6)] → W p l e ({ frames := 5, cells := 0, slots := 0, locals := 113 } : Room) s m args below meth c H locs 0 0 (MQ below (qg (some (.int r)) (fun t => wPost G A (cW a cy cyO u) t) A) args s 0 0 A) (F0 m 36 ls [])) : ∀ (z0 : SC) (y1 : Int32) (y2 : Int32) (y3 : Int32) (y6 : Int32) (t0 : Int32), fX1_goAll_j73 K36 z0 y1 y2 y3 y6 t0 = some (r, u) → ∀ (H : Heap) (locs : List Loc), va_P G vwCl (cW a cy cyO z0) H → va_D A (cW a cy cyO z0) → va_S A s.heap H locs → ∀ (ls : Array Slot), lv_has ls 8 [(0, .ref (a 0)), (1, .int y1), (2, .int y2), (3, .int y3), (6, .int y6)] → W p l e ({ frames := 5, cells := 0, slots := 0, locals := 113 } : Room) s m args below meth c H locs 0 0 (MQ below (qg (some (.int r)) (fun t => wPost G A (cW a cy cyO u) t) A) args s 0 0 A) (F0 m 73 ls [.int t0]) := by
  obtain ⟨hx, hb, hml, hown, hts⟩ := id X
  have hin1 : ∀ w ∈ wsX10, w ∈ wsX1_goAll := by decide +kernel
  intro z0 y1 y2 y3 y6 t0 hF H locs hP hD hS ls hl
  unfold fX1_goAll_j73 at hF
  refine lv_istore (lv' := [(4, .int t0), (0, .ref (a 0)), (1, .int y1), (2, .int y2), (3, .int y3), (6, .int y6)]) hx hb dX1_goAll_73 hl (by decide) rfl (fun ls hl => ?_)
  refine lv_aload_n hx hb dX1_goAll_75 rfl (lv_at hl 1 rfl) ?_
  refine lv_iload hx hb dX1_goAll_76 (lv_at hl 0 rfl) ?_
  refine lv_iload hx hb dX1_goAll_78 (lv_at hl 5 rfl) ?_
  obtain ⟨r1, z1, hG1, hF⟩ := o_b hF
  refine cl_V (C := RX1) (rest := []) X hK hN hA hP hD hS (kX1_answerTo l G cy cyO a z0 t0 y6 r1 z1 hG1) (cwV 2 hts gX1_goAll_X1_answerTo rfl rfl rfl (by decide +kernel) ⟨Nat.le_of_ble_eq_true rfl, Nat.le_of_ble_eq_true rfl⟩) (va_recv hK hP (ci := 1) (q0 := 0) rfl rfl) rfl hl.1 rfl (Nat.le_of_ble_eq_true rfl) dX1_goAll_80 ⟨Nat.zero_le _, Nat.zero_le _⟩ (fun H locs hP hD hS => ?_)
  refine W.eq (g2 := F0 m 83 ls [.int r1]) rfl ?_
  refine lv_istore (lv' := [(5, .int r1), (4, .int t0), (0, .ref (a 0)), (1, .int y1), (2, .int y2), (3, .int y3), (6, .int y6)]) hx hb dX1_goAll_83 hl (by decide) rfl (fun ls hl => ?_)
  refine lv_iinc (v := y6 + 1) (lv' := [(6, .int (y6 + 1)), (5, .int r1), (4, .int t0), (0, .ref (a 0)), (1, .int y1), (2, .int y2), (3, .int y3)]) hx hb dX1_goAll_85 hl (k := 6) rfl rfl (by decide) rfl (fun ls hl => ?_)
  refine lv_goto (tgt := 36) hx hb dX1_goAll_88 (by decide) ?_
  exact hK36 z1 y1 y2 y3 t0 r1 (y6 + 1) hF H locs hP hD hS ls (lv_sub hl [3, 4, 5, 6, 2, 1, 0] rfl)
def fX1_goAll_j36 : Nat → SC → Int32 → Int32 → Int32 → Int32 → Int32 → Int32 → Option (Int32 × SC)
  | 0, _, _, _, _, _, _, _ => none
  | n + 1, z0, y1, y2, y3, y4, y5, y6 => (if y3 ≤ y6 then bd_ (fX1_letAll z0 y1 y3) (fun r2 z2 => some (y5, z2)) else (if y4 = 0 then bd_ (fX1_sectionOn z0 y1 y6) (fun r5 z5 => (opt_ (r5) ((fX1_goAll_j73 (fX1_goAll_j36 n) z5 y1 y2 y3 y6 (-11))) (fun b5 => bd_ (fX1_pass z5 b5 y2) (fun r6 z6 => (fX1_goAll_j73 (fX1_goAll_j36 n) z6 y1 y2 y3 y6 r6))))) else bd_ (fX1_letAll z0 y1 y3) (fun r4 z4 => some (y5, z4))))
set_option maxRecDepth 100000 in
set_option maxHeartbeats 4000000 in
theorem jX1_goAll_36 {p : Program} {l : Launch} {e : Env} {s : State} {m : MethodId} {args : Array Value} {below : List Frame} {meth : Method} {c : Code} {G : va_G} {cy cyO : ClassId} {a : Nat → Nat} {A : Nat → Prop} {r : Int32} {u : SC} (X : CallFix p m c cX1_goAll 8 s args wsX1_goAll RX1) (hr : meth.sig.returnType = (some .int)) (hlocks : meth.locks = false) (hK : va_K G vwCl (tys_ cy cyO) s) (hN : nw s) (hA : ∀ q, s.heap.size ≤ q → A q) : ∀ n : Nat, ∀ (z0 : SC) (y1 : Int32) (y2 : Int32) (y3 : Int32) (y4 : Int32) (y5 : Int32) (y6 : Int32), fX1_goAll_j36 n z0 y1 y2 y3 y4 y5 y6 = some (r, u) → ∀ (H : Heap) (locs : List Loc), va_P G vwCl (cW a cy cyO z0) H → va_D A (cW a cy cyO z0) → va_S A s.heap H locs → ∀ (ls : Array Slot), lv_has ls 8 [(0, .ref (a 0)), (1, .int y1), (2, .int y2), (3, .int y3), (4, .int y4), (5, .int y5), (6, .int y6)] → W p l e ({ frames := 5, cells := 0, slots := 0, locals := 113 } : Room) s m args below meth c H locs 0 0 (MQ below (qg (some (.int r)) (fun t => wPost G A (cW a cy cyO u) t) A) args s 0 0 A) (F0 m 36 ls []) := by
  obtain ⟨hx, hb, hml, hown, hts⟩ := id X
  have hin1 : ∀ w ∈ wsX10, w ∈ wsX1_goAll := by decide +kernel
  intro n
  induction n with
  | zero => intro z0 y1 y2 y3 y4 y5 y6 hF; cases hF
  | succ n ih =>
    intro z0 y1 y2 y3 y4 y5 y6 hF H locs hP hD hS ls hl
    rw [fX1_goAll_j36] at hF
    refine lv_iload hx hb dX1_goAll_36 (lv_at hl 6 rfl) ?_
    refine lv_iload_n hx hb dX1_goAll_38 rfl (lv_at hl 3 rfl) ?_
    refine lv_icmp_ge (tgt := 91) hx hb dX1_goAll_39 (by decide) (fun c1 => ?_) (fun c1 => ?_)
    · have hF := o_t c1 hF
      refine lv_aload_n hx hb dX1_goAll_91 rfl (lv_at hl 0 rfl) ?_
      refine lv_iload_n hx hb dX1_goAll_92 rfl (lv_at hl 1 rfl) ?_
      refine lv_iload_n hx hb dX1_goAll_93 rfl (lv_at hl 3 rfl) ?_
      obtain ⟨r2, z2, hG2, hF⟩ := o_b hF
      refine cl_V (C := RX1) (rest := []) X hK hN hA hP hD hS (kX1_letAll l G cy cyO a z0 y1 y3 r2 z2 hG2) (cwV 2 hts gX1_goAll_X1_letAll rfl rfl rfl (by decide +kernel) ⟨Nat.le_of_ble_eq_true rfl, Nat.le_of_ble_eq_true rfl⟩) (va_recv hK hP (ci := 1) (q0 := 0) rfl rfl) rfl hl.1 rfl (Nat.le_of_ble_eq_true rfl) dX1_goAll_94 ⟨Nat.zero_le _, Nat.zero_le _⟩ (fun H locs hP hD hS => ?_)
      refine W.eq (g2 := F0 m 97 ls []) rfl ?_
      refine lv_iload hx hb dX1_goAll_97 (lv_at hl 5 rfl) ?_
      obtain ⟨rfl, rfl⟩ := o_s hF
      exact rt_i X hr hlocks hP hD hS dX1_goAll_99
    · have hF := o_f c1 hF
      refine lv_iload hx hb dX1_goAll_42 (lv_at hl 4 rfl) ?_
      refine lv_if_ne (tgt := 91) hx hb dX1_goAll_44 (by decide) (fun c3 => ?_) (fun c3 => ?_)
      · have hF := o_f c3 hF
        refine lv_aload_n hx hb dX1_goAll_91 rfl (lv_at hl 0 rfl) ?_
        refine lv_iload_n hx hb dX1_goAll_92 rfl (lv_at hl 1 rfl) ?_
        refine lv_iload_n hx hb dX1_goAll_93 rfl (lv_at hl 3 rfl) ?_
        obtain ⟨r4, z4, hG4, hF⟩ := o_b hF
        refine cl_V (C := RX1) (rest := []) X hK hN hA hP hD hS (kX1_letAll l G cy cyO a z0 y1 y3 r4 z4 hG4) (cwV 2 hts gX1_goAll_X1_letAll rfl rfl rfl (by decide +kernel) ⟨Nat.le_of_ble_eq_true rfl, Nat.le_of_ble_eq_true rfl⟩) (va_recv hK hP (ci := 1) (q0 := 0) rfl rfl) rfl hl.1 rfl (Nat.le_of_ble_eq_true rfl) dX1_goAll_94 ⟨Nat.zero_le _, Nat.zero_le _⟩ (fun H locs hP hD hS => ?_)
        refine W.eq (g2 := F0 m 97 ls []) rfl ?_
        refine lv_iload hx hb dX1_goAll_97 (lv_at hl 5 rfl) ?_
        obtain ⟨rfl, rfl⟩ := o_s hF
        exact rt_i X hr hlocks hP hD hS dX1_goAll_99
      · have hF := o_t c3 hF
        refine lv_aload_n hx hb dX1_goAll_47 rfl (lv_at hl 0 rfl) ?_
        refine lv_iload_n hx hb dX1_goAll_48 rfl (lv_at hl 1 rfl) ?_
        refine lv_iload hx hb dX1_goAll_49 (lv_at hl 6 rfl) ?_
        obtain ⟨r5, z5, hG5, hF⟩ := o_b hF
        refine cl_V (C := RX1) (rest := []) X hK hN hA hP hD hS (kX1_sectionOn l G cy cyO a z0 y1 y6 r5 z5 hG5) (cwV 2 hts gX1_goAll_X1_sectionOn rfl rfl rfl (by decide +kernel) ⟨Nat.le_of_ble_eq_true rfl, Nat.le_of_ble_eq_true rfl⟩) (va_recv hK hP (ci := 1) (q0 := 0) rfl rfl) rfl hl.1 rfl (Nat.le_of_ble_eq_true rfl) dX1_goAll_51 ⟨Nat.zero_le _, Nat.zero_le _⟩ (fun H locs hP hD hS => ?_)
        rcases ho5 : r5 with _ | b5
        · have hF := o_mn ho5 hF
          refine w_none rfl ?_
          refine lv_astoreN (lv' := [(7, .null), (0, .ref (a 0)), (1, .int y1), (2, .int y2), (3, .int y3), (4, .int y4), (5, .int y5), (6, .int y6)]) hx hb dX1_goAll_54 hl (by decide) rfl (fun ls hl => ?_)
          refine lv_aloadN hx hb dX1_goAll_56 (lv_at hl 0 rfl) ?_
          refine lv_ifnonnullN hx hb dX1_goAll_58 ?_
          refine lv_bipush (v := (-11)) hx hb dX1_goAll_61 (by decide) ?_
          refine lv_goto (tgt := 73) hx hb dX1_goAll_63 (by decide) ?_
          exact jX1_goAll_73 X hr hlocks hK hN hA (fX1_goAll_j36 n) ih z5 y1 y2 y3 y6 (-11) hF H locs hP hD hS ls (lv_sub hl [1, 2, 3, 4, 7] rfl)
        · have hF := o_ms ho5 hF
          refine w_some rfl ?_
          refine lv_astore (lv' := [(7, .ref b5), (0, .ref (a 0)), (1, .int y1), (2, .int y2), (3, .int y3), (4, .int y4), (5, .int y5), (6, .int y6)]) hx hb dX1_goAll_54 hl (by decide) rfl (fun ls hl => ?_)
          refine lv_aload hx hb dX1_goAll_56 (lv_at hl 0 rfl) ?_
          refine lv_ifnonnull (tgt := 66) hx hb dX1_goAll_58 (by decide) ?_
          refine lv_aload_n hx hb dX1_goAll_66 rfl (lv_at hl 1 rfl) ?_
          refine lv_aload hx hb dX1_goAll_67 (lv_at hl 0 rfl) ?_
          refine lv_iload_n hx hb dX1_goAll_69 rfl (lv_at hl 3 rfl) ?_
          obtain ⟨r6, z6, hG6, hF⟩ := o_b hF
          refine cl_V (C := RX1) (rest := []) X hK hN hA hP hD hS (kX1_pass l G cy cyO a z5 b5 y2 r6 z6 hG6) (cwV 2 hts gX1_goAll_X1_pass rfl rfl rfl (by decide +kernel) ⟨Nat.le_of_ble_eq_true rfl, Nat.le_of_ble_eq_true rfl⟩) (va_recv hK hP (ci := 1) (q0 := 0) rfl rfl) rfl hl.1 rfl (Nat.le_of_ble_eq_true rfl) dX1_goAll_70 ⟨Nat.zero_le _, Nat.zero_le _⟩ (fun H locs hP hD hS => ?_)
          refine W.eq (g2 := F0 m 73 ls [.int r6]) rfl ?_
          exact jX1_goAll_73 X hr hlocks hK hN hA (fX1_goAll_j36 n) ih z6 y1 y2 y3 y6 r6 hF H locs hP hD hS ls (lv_sub hl [1, 2, 3, 4, 7] rfl)
def fX1_goAll_j22 (z0 : SC) (y1 : Int32) (y2 : Int32) (y3 : Int32) (t0 : Int32) : Option (Int32 × SC) := bd_ (fX1_answerTo z0 t0 0) (fun r1 z1 => (fX1_goAll_j36 20 z1 y1 y2 y3 t0 r1 0))
set_option maxRecDepth 100000 in
set_option maxHeartbeats 4000000 in
theorem jX1_goAll_22 {p : Program} {l : Launch} {e : Env} {s : State} {m : MethodId} {args : Array Value} {below : List Frame} {meth : Method} {c : Code} {G : va_G} {cy cyO : ClassId} {a : Nat → Nat} {A : Nat → Prop} {r : Int32} {u : SC} (X : CallFix p m c cX1_goAll 8 s args wsX1_goAll RX1) (hr : meth.sig.returnType = (some .int)) (hlocks : meth.locks = false) (hK : va_K G vwCl (tys_ cy cyO) s) (hN : nw s) (hA : ∀ q, s.heap.size ≤ q → A q) : ∀ (z0 : SC) (y1 : Int32) (y2 : Int32) (y3 : Int32) (t0 : Int32), fX1_goAll_j22 z0 y1 y2 y3 t0 = some (r, u) → ∀ (H : Heap) (locs : List Loc), va_P G vwCl (cW a cy cyO z0) H → va_D A (cW a cy cyO z0) → va_S A s.heap H locs → ∀ (ls : Array Slot), lv_has ls 8 [(0, .ref (a 0)), (1, .int y1), (2, .int y2), (3, .int y3)] → W p l e ({ frames := 5, cells := 0, slots := 0, locals := 113 } : Room) s m args below meth c H locs 0 0 (MQ below (qg (some (.int r)) (fun t => wPost G A (cW a cy cyO u) t) A) args s 0 0 A) (F0 m 22 ls [.int t0]) := by
  obtain ⟨hx, hb, hml, hown, hts⟩ := id X
  have hin1 : ∀ w ∈ wsX10, w ∈ wsX1_goAll := by decide +kernel
  intro z0 y1 y2 y3 t0 hF H locs hP hD hS ls hl
  unfold fX1_goAll_j22 at hF
  refine lv_istore (lv' := [(4, .int t0), (0, .ref (a 0)), (1, .int y1), (2, .int y2), (3, .int y3)]) hx hb dX1_goAll_22 hl (by decide) rfl (fun ls hl => ?_)
  refine lv_aload_n hx hb dX1_goAll_24 rfl (lv_at hl 1 rfl) ?_
  refine lv_iload hx hb dX1_goAll_25 (lv_at hl 0 rfl) ?_
  refine lv_iconst (v := 0) hx hb dX1_goAll_27 (by decide) ?_
  obtain ⟨r1, z1, hG1, hF⟩ := o_b hF
  refine cl_V (C := RX1) (rest := []) X hK hN hA hP hD hS (kX1_answerTo l G cy cyO a z0 t0 0 r1 z1 hG1) (cwV 2 hts gX1_goAll_X1_answerTo rfl rfl rfl (by decide +kernel) ⟨Nat.le_of_ble_eq_true rfl, Nat.le_of_ble_eq_true rfl⟩) (va_recv hK hP (ci := 1) (q0 := 0) rfl rfl) rfl hl.1 rfl (Nat.le_of_ble_eq_true rfl) dX1_goAll_28 ⟨Nat.zero_le _, Nat.zero_le _⟩ (fun H locs hP hD hS => ?_)
  refine W.eq (g2 := F0 m 31 ls [.int r1]) rfl ?_
  refine lv_istore (lv' := [(5, .int r1), (4, .int t0), (0, .ref (a 0)), (1, .int y1), (2, .int y2), (3, .int y3)]) hx hb dX1_goAll_31 hl (by decide) rfl (fun ls hl => ?_)
  refine lv_iconst (v := 0) hx hb dX1_goAll_33 (by decide) ?_
  refine lv_istore (lv' := [(6, .int 0), (5, .int r1), (4, .int t0), (0, .ref (a 0)), (1, .int y1), (2, .int y2), (3, .int y3)]) hx hb dX1_goAll_34 hl (by decide) rfl (fun ls hl => ?_)
  exact jX1_goAll_36 X hr hlocks hK hN hA 20 z1 y1 y2 y3 t0 r1 0 hF H locs hP hD hS ls (lv_sub hl [3, 4, 5, 6, 2, 1, 0] rfl)
def fX1_goAll (z0 : SC) (x1 : Int32) (x2 : Int32) : Option (Int32 × SC) := bd_ (fX1_claimAll z0 x1) (fun r1 z1 => if x1 < 0 ∨ 6 ≤ x1.toNatClampNeg then none else let_ (z1.2.2.2.2.1 x1.toNatClampNeg) (fun v2 => (if v2 ≤ r1 then (fX1_goAll_j22 z1 x1 x2 r1 0) else (fX1_goAll_j22 z1 x1 x2 r1 (-11)))))
set_option maxRecDepth 100000 in
set_option maxHeartbeats 4000000 in
theorem kX1_goAll (l : Launch) (G : va_G) (cy cyO : ClassId) (a : Nat → Nat) (z0 : SC) (x1 : Int32) (x2 : Int32) (r : Int32) (u : SC) (hF : fX1_goAll z0 x1 x2 = some (r, u)) : Ct l G (tys_ cy cyO) yX1_goAll wsX1_goAll ({ frames := 5, cells := 0, slots := 0, locals := 113 } : Room) [.ref (a 0), .int x1, .int x2] (cW a cy cyO z0) (some (.int r)) (cW a cy cyO u) := by
  unfold fX1_goAll at hF
  refine ct_of (cc := cX1_goAll) (maxL := 8) (ret := (some .int)) (own := RX1) (by decide) rfl (Nat.le_of_ble_eq_true rfl) rfl ?_
  intro p e s m below meth c A ls X hr hlocks _ hK hN hA hP hD hl
  have hS : va_S A s.heap s.heap [] := va_S.rf
  have hl : lv_has ls 8 [(0, .ref (a 0)), (1, .int x1), (2, .int x2)] := hl
  obtain ⟨hx, hb, hml, hown, hts⟩ := id X
  have hin1 : ∀ w ∈ wsX10, w ∈ wsX1_goAll := by decide +kernel
  refine lv_aload_n hx hb dX1_goAll_0 rfl (lv_at hl 0 rfl) ?_
  refine lv_iload_n hx hb dX1_goAll_1 rfl (lv_at hl 1 rfl) ?_
  obtain ⟨r1, z1, hG1, hF⟩ := o_b hF
  refine cl_V (C := RX1) (rest := []) X hK hN hA hP hD hS (kX1_claimAll l G cy cyO a z0 x1 r1 z1 hG1) (cwV 1 hts gX1_goAll_X1_claimAll rfl rfl rfl (by decide +kernel) ⟨Nat.le_of_ble_eq_true rfl, Nat.le_of_ble_eq_true rfl⟩) (va_recv hK hP (ci := 1) (q0 := 0) rfl rfl) rfl hl.1 rfl (Nat.le_of_ble_eq_true rfl) dX1_goAll_2 ⟨Nat.zero_le _, Nat.zero_le _⟩ (fun H locs hP hD hS => ?_)
  refine W.eq (g2 := F0 m 5 ls [.int r1]) rfl ?_
  refine lv_istore_n (lv' := [(3, .int r1), (0, .ref (a 0)), (1, .int x1), (2, .int x2)]) hx hb dX1_goAll_5 rfl hl (by decide) rfl (fun ls hl => ?_)
  refine lv_iload_n hx hb dX1_goAll_6 rfl (lv_at hl 0 rfl) ?_
  refine lv_aload_n hx hb dX1_goAll_7 rfl (lv_at hl 1 rfl) ?_
  refine va_get (D := G) (ci := 1) (v := .ref (a 3)) (C := RX1) (T := TX1) (N := 10) hx hb hts hin1 hown hK hP 0 rfl rfl 2 (by decide) (hts (.fieldLink RX1 19 "SignalBox" "routeLengths" "[I") (by decide +kernel)) (fun _ h9 => h9) rfl dX1_goAll_8 ?_
  refine lv_iload_n hx hb dX1_goAll_11 rfl (lv_at hl 2 rfl) ?_
  obtain ⟨h2, hF⟩ := o_n hF
  refine va_iald (n := 6) (f := z1.2.2.2.2.1) (cA := cy) hx hb hK hP 3 0 rfl rfl h2 dX1_goAll_12 ?_
  obtain ⟨v2, e2, hF⟩ := o_l hF
  refine w_top e2 ?_
  refine lv_icmp_ge (tgt := 21) hx hb dX1_goAll_13 (by decide) (fun c3 => ?_) (fun c3 => ?_)
  · have hF := o_t c3 hF
    refine lv_iconst (v := 0) hx hb dX1_goAll_21 (by decide) ?_
    exact jX1_goAll_22 X hr hlocks hK hN hA z1 x1 x2 r1 0 hF H locs hP hD hS ls (lv_sub hl [1, 2, 3, 0] rfl)
  · have hF := o_f c3 hF
    refine lv_bipush (v := (-11)) hx hb dX1_goAll_16 (by decide) ?_
    refine lv_goto (tgt := 22) hx hb dX1_goAll_18 (by decide) ?_
    exact jX1_goAll_22 X hr hlocks hK hN hA z1 x1 x2 r1 (-11) hF H locs hP hD hS ls (lv_sub hl [1, 2, 3, 0] rfl)
def fX1_goFirst_j95 (K2 : SC → Int32 → Int32 → Int32 → Option (Int32 × SC)) (z0 : SC) (y1 : Int32) (y2 : Int32) (y3 : Int32) : Option (Int32 × SC) := (K2 z0 y1 y2 (y3 + 1))
set_option maxRecDepth 100000 in
set_option maxHeartbeats 4000000 in
theorem jX1_goFirst_95 {p : Program} {l : Launch} {e : Env} {s : State} {m : MethodId} {args : Array Value} {below : List Frame} {meth : Method} {c : Code} {G : va_G} {cy cyO : ClassId} {a : Nat → Nat} {A : Nat → Prop} {r : Int32} {u : SC} (X : CallFix p m c cX1_goFirst 7 s args wsX1_goFirst RX1) (hr : meth.sig.returnType = (some .int)) (hlocks : meth.locks = false) (hK : va_K G vwCl (tys_ cy cyO) s) (hN : nw s) (hA : ∀ q, s.heap.size ≤ q → A q) (K2 : SC → Int32 → Int32 → Int32 → Option (Int32 × SC)) (hK2 : ∀ (z0 : SC) (y1 : Int32) (y2 : Int32) (y3 : Int32), K2 z0 y1 y2 y3 = some (r, u) → ∀ (H : Heap) (locs : List Loc), va_P G vwCl (cW a cy cyO z0) H → va_D A (cW a cy cyO z0) → va_S A s.heap H locs → ∀ (ls : Array Slot), lv_has ls 7 [(0, .ref (a 0)), (1, .int y1), (2, .int y2), (3, .int y3)] → W p l e ({ frames := 5, cells := 0, slots := 0, locals := 113 } : Room) s m args below meth c H locs 0 0 (MQ below (qg (some (.int r)) (fun t => wPost G A (cW a cy cyO u) t) A) args s 0 0 A) (F0 m 2 ls [])) : ∀ (z0 : SC) (y1 : Int32) (y2 : Int32) (y3 : Int32), fX1_goFirst_j95 K2 z0 y1 y2 y3 = some (r, u) → ∀ (H : Heap) (locs : List Loc), va_P G vwCl (cW a cy cyO z0) H → va_D A (cW a cy cyO z0) → va_S A s.heap H locs → ∀ (ls : Array Slot), lv_has ls 7 [(0, .ref (a 0)), (1, .int y1), (2, .int y2), (3, .int y3)] → W p l e ({ frames := 5, cells := 0, slots := 0, locals := 113 } : Room) s m args below meth c H locs 0 0 (MQ below (qg (some (.int r)) (fun t => wPost G A (cW a cy cyO u) t) A) args s 0 0 A) (F0 m 95 ls []) := by
  obtain ⟨hx, hb, hml, hown, hts⟩ := id X
  have hin1 : ∀ w ∈ wsX10, w ∈ wsX1_goFirst := by decide +kernel
  have hin0 : ∀ w ∈ wsX00, w ∈ wsX1_goFirst := by decide +kernel
  intro z0 y1 y2 y3 hF H locs hP hD hS ls hl
  unfold fX1_goFirst_j95 at hF
  refine lv_iinc (v := y3 + 1) (lv' := [(3, .int (y3 + 1)), (0, .ref (a 0)), (1, .int y1), (2, .int y2)]) hx hb dX1_goFirst_95 hl (k := 3) rfl rfl (by decide) rfl (fun ls hl => ?_)
  refine lv_goto (tgt := 2) hx hb dX1_goFirst_98 (by decide) ?_
  exact hK2 z0 y1 y2 (y3 + 1) hF H locs hP hD hS ls (lv_sub hl [1, 2, 3, 0] rfl)
def fX1_goFirst_j74 (K2 : SC → Int32 → Int32 → Int32 → Option (Int32 × SC)) (z0 : SC) (y1 : Int32) (y2 : Int32) (y3 : Int32) (w4 : Nat) (y5 : Int32) (t0 : Int32) : Option (Int32 × SC) := bd_ (fX1_let z0 w4) (fun r1 z1 => (if y5 = 0 then (fX1_goFirst_j95 K2 z1 y1 y2 y3) else bd_ (fX1_answerTo z1 t0 y3) (fun r3 z3 => some (r3, z3))))
set_option maxRecDepth 100000 in
set_option maxHeartbeats 4000000 in
theorem jX1_goFirst_74 {p : Program} {l : Launch} {e : Env} {s : State} {m : MethodId} {args : Array Value} {below : List Frame} {meth : Method} {c : Code} {G : va_G} {cy cyO : ClassId} {a : Nat → Nat} {A : Nat → Prop} {r : Int32} {u : SC} (X : CallFix p m c cX1_goFirst 7 s args wsX1_goFirst RX1) (hr : meth.sig.returnType = (some .int)) (hlocks : meth.locks = false) (hK : va_K G vwCl (tys_ cy cyO) s) (hN : nw s) (hA : ∀ q, s.heap.size ≤ q → A q) (K2 : SC → Int32 → Int32 → Int32 → Option (Int32 × SC)) (hK2 : ∀ (z0 : SC) (y1 : Int32) (y2 : Int32) (y3 : Int32), K2 z0 y1 y2 y3 = some (r, u) → ∀ (H : Heap) (locs : List Loc), va_P G vwCl (cW a cy cyO z0) H → va_D A (cW a cy cyO z0) → va_S A s.heap H locs → ∀ (ls : Array Slot), lv_has ls 7 [(0, .ref (a 0)), (1, .int y1), (2, .int y2), (3, .int y3)] → W p l e ({ frames := 5, cells := 0, slots := 0, locals := 113 } : Room) s m args below meth c H locs 0 0 (MQ below (qg (some (.int r)) (fun t => wPost G A (cW a cy cyO u) t) A) args s 0 0 A) (F0 m 2 ls [])) : ∀ (z0 : SC) (y1 : Int32) (y2 : Int32) (y3 : Int32) (w4 : Nat) (y5 : Int32) (t0 : Int32), fX1_goFirst_j74 K2 z0 y1 y2 y3 w4 y5 t0 = some (r, u) → ∀ (H : Heap) (locs : List Loc), va_P G vwCl (cW a cy cyO z0) H → va_D A (cW a cy cyO z0) → va_S A s.heap H locs → ∀ (ls : Array Slot), lv_has ls 7 [(0, .ref (a 0)), (1, .int y1), (2, .int y2), (3, .int y3), (4, .ref w4), (5, .int y5)] → W p l e ({ frames := 5, cells := 0, slots := 0, locals := 113 } : Room) s m args below meth c H locs 0 0 (MQ below (qg (some (.int r)) (fun t => wPost G A (cW a cy cyO u) t) A) args s 0 0 A) (F0 m 74 ls [.int t0]) := by
  obtain ⟨hx, hb, hml, hown, hts⟩ := id X
  have hin1 : ∀ w ∈ wsX10, w ∈ wsX1_goFirst := by decide +kernel
  have hin0 : ∀ w ∈ wsX00, w ∈ wsX1_goFirst := by decide +kernel
  intro z0 y1 y2 y3 w4 y5 t0 hF H locs hP hD hS ls hl
  unfold fX1_goFirst_j74 at hF
  refine lv_istore (lv' := [(6, .int t0), (0, .ref (a 0)), (1, .int y1), (2, .int y2), (3, .int y3), (4, .ref w4), (5, .int y5)]) hx hb dX1_goFirst_74 hl (by decide) rfl (fun ls hl => ?_)
  refine lv_aload_n hx hb dX1_goFirst_76 rfl (lv_at hl 1 rfl) ?_
  refine lv_aload hx hb dX1_goFirst_77 (lv_at hl 5 rfl) ?_
  obtain ⟨r1, z1, hG1, hF⟩ := o_b hF
  refine cl_V (C := RX1) (rest := []) X hK hN hA hP hD hS (kX1_let l G cy cyO a z0 w4 r1 z1 hG1) (cwV 1 hts gX1_goFirst_X1_let rfl rfl rfl (by decide +kernel) ⟨Nat.le_of_ble_eq_true rfl, Nat.le_of_ble_eq_true rfl⟩) (va_recv hK hP (ci := 1) (q0 := 0) rfl rfl) rfl hl.1 rfl (Nat.le_of_ble_eq_true rfl) dX1_goFirst_79 ⟨Nat.zero_le _, Nat.zero_le _⟩ (fun H locs hP hD hS => ?_)
  refine W.eq (g2 := F0 m 82 ls []) rfl ?_
  refine lv_iload hx hb dX1_goFirst_82 (lv_at hl 6 rfl) ?_
  refine lv_if_eq (tgt := 95) hx hb dX1_goFirst_84 (by decide) (fun c2 => ?_) (fun c2 => ?_)
  · have hF := o_t c2 hF
    exact jX1_goFirst_95 X hr hlocks hK hN hA K2 hK2 z1 y1 y2 y3 hF H locs hP hD hS ls (lv_sub hl [1, 2, 3, 4] rfl)
  · have hF := o_f c2 hF
    refine lv_aload_n hx hb dX1_goFirst_87 rfl (lv_at hl 1 rfl) ?_
    refine lv_iload hx hb dX1_goFirst_88 (lv_at hl 0 rfl) ?_
    refine lv_iload_n hx hb dX1_goFirst_90 rfl (lv_at hl 4 rfl) ?_
    obtain ⟨r3, z3, hG3, hF⟩ := o_b hF
    refine cl_V (C := RX1) (rest := []) X hK hN hA hP hD hS (kX1_answerTo l G cy cyO a z1 t0 y3 r3 z3 hG3) (cwV 2 hts gX1_goFirst_X1_answerTo rfl rfl rfl (by decide +kernel) ⟨Nat.le_of_ble_eq_true rfl, Nat.le_of_ble_eq_true rfl⟩) (va_recv hK hP (ci := 1) (q0 := 0) rfl rfl) rfl hl.1 rfl (Nat.le_of_ble_eq_true rfl) dX1_goFirst_91 ⟨Nat.zero_le _, Nat.zero_le _⟩ (fun H locs hP hD hS => ?_)
    refine W.eq (g2 := F0 m 94 ls [.int r3]) rfl ?_
    obtain ⟨rfl, rfl⟩ := o_s hF
    exact rt_i X hr hlocks hP hD hS dX1_goFirst_94
def fX1_goFirst_j56 (K2 : SC → Int32 → Int32 → Int32 → Option (Int32 × SC)) (z0 : SC) (y1 : Int32) (y2 : Int32) (y3 : Int32) (w4 : Nat) (t0 : Int32) : Option (Int32 × SC) := (if t0 = 0 then (fX1_goFirst_j74 K2 z0 y1 y2 y3 w4 t0 1) else bd_ (fX1_pass z0 w4 y2) (fun r2 z2 => (fX1_goFirst_j74 K2 z2 y1 y2 y3 w4 t0 r2)))
set_option maxRecDepth 100000 in
set_option maxHeartbeats 4000000 in
theorem jX1_goFirst_56 {p : Program} {l : Launch} {e : Env} {s : State} {m : MethodId} {args : Array Value} {below : List Frame} {meth : Method} {c : Code} {G : va_G} {cy cyO : ClassId} {a : Nat → Nat} {A : Nat → Prop} {r : Int32} {u : SC} (X : CallFix p m c cX1_goFirst 7 s args wsX1_goFirst RX1) (hr : meth.sig.returnType = (some .int)) (hlocks : meth.locks = false) (hK : va_K G vwCl (tys_ cy cyO) s) (hN : nw s) (hA : ∀ q, s.heap.size ≤ q → A q) (K2 : SC → Int32 → Int32 → Int32 → Option (Int32 × SC)) (hK2 : ∀ (z0 : SC) (y1 : Int32) (y2 : Int32) (y3 : Int32), K2 z0 y1 y2 y3 = some (r, u) → ∀ (H : Heap) (locs : List Loc), va_P G vwCl (cW a cy cyO z0) H → va_D A (cW a cy cyO z0) → va_S A s.heap H locs → ∀ (ls : Array Slot), lv_has ls 7 [(0, .ref (a 0)), (1, .int y1), (2, .int y2), (3, .int y3)] → W p l e ({ frames := 5, cells := 0, slots := 0, locals := 113 } : Room) s m args below meth c H locs 0 0 (MQ below (qg (some (.int r)) (fun t => wPost G A (cW a cy cyO u) t) A) args s 0 0 A) (F0 m 2 ls [])) : ∀ (z0 : SC) (y1 : Int32) (y2 : Int32) (y3 : Int32) (w4 : Nat) (t0 : Int32), fX1_goFirst_j56 K2 z0 y1 y2 y3 w4 t0 = some (r, u) → ∀ (H : Heap) (locs : List Loc), va_P G vwCl (cW a cy cyO z0) H → va_D A (cW a cy cyO z0) → va_S A s.heap H locs → ∀ (ls : Array Slot), lv_has ls 7 [(0, .ref (a 0)), (1, .int y1), (2, .int y2), (3, .int y3), (4, .ref w4)] → W p l e ({ frames := 5, cells := 0, slots := 0, locals := 113 } : Room) s m args below meth c H locs 0 0 (MQ below (qg (some (.int r)) (fun t => wPost G A (cW a cy cyO u) t) A) args s 0 0 A) (F0 m 56 ls [.int t0]) := by
  obtain ⟨hx, hb, hml, hown, hts⟩ := id X
  have hin1 : ∀ w ∈ wsX10, w ∈ wsX1_goFirst := by decide +kernel
  have hin0 : ∀ w ∈ wsX00, w ∈ wsX1_goFirst := by decide +kernel
  intro z0 y1 y2 y3 w4 t0 hF H locs hP hD hS ls hl
  unfold fX1_goFirst_j56 at hF
  refine lv_istore (lv' := [(5, .int t0), (0, .ref (a 0)), (1, .int y1), (2, .int y2), (3, .int y3), (4, .ref w4)]) hx hb dX1_goFirst_56 hl (by decide) rfl (fun ls hl => ?_)
  refine lv_iload hx hb dX1_goFirst_58 (lv_at hl 0 rfl) ?_
  refine lv_if_eq (tgt := 73) hx hb dX1_goFirst_60 (by decide) (fun c1 => ?_) (fun c1 => ?_)
  · have hF := o_t c1 hF
    refine lv_iconst (v := 1) hx hb dX1_goFirst_73 (by decide) ?_
    exact jX1_goFirst_74 X hr hlocks hK hN hA K2 hK2 z0 y1 y2 y3 w4 t0 1 hF H locs hP hD hS ls (lv_sub hl [1, 2, 3, 4, 5, 0] rfl)
  · have hF := o_f c1 hF
    refine lv_aload_n hx hb dX1_goFirst_63 rfl (lv_at hl 1 rfl) ?_
    refine lv_aload hx hb dX1_goFirst_64 (lv_at hl 5 rfl) ?_
    refine lv_iload_n hx hb dX1_goFirst_66 rfl (lv_at hl 3 rfl) ?_
    obtain ⟨r2, z2, hG2, hF⟩ := o_b hF
    refine cl_V (C := RX1) (rest := []) X hK hN hA hP hD hS (kX1_pass l G cy cyO a z0 w4 y2 r2 z2 hG2) (cwV 2 hts gX1_goFirst_X1_pass rfl rfl rfl (by decide +kernel) ⟨Nat.le_of_ble_eq_true rfl, Nat.le_of_ble_eq_true rfl⟩) (va_recv hK hP (ci := 1) (q0 := 0) rfl rfl) rfl hl.1 rfl (Nat.le_of_ble_eq_true rfl) dX1_goFirst_67 ⟨Nat.zero_le _, Nat.zero_le _⟩ (fun H locs hP hD hS => ?_)
    refine W.eq (g2 := F0 m 70 ls [.int r2]) rfl ?_
    refine lv_goto (tgt := 74) hx hb dX1_goFirst_70 (by decide) ?_
    exact jX1_goFirst_74 X hr hlocks hK hN hA K2 hK2 z2 y1 y2 y3 w4 t0 r2 hF H locs hP hD hS ls (lv_sub hl [1, 2, 3, 4, 5, 0] rfl)
def fX1_goFirst_j55 (K2 : SC → Int32 → Int32 → Int32 → Option (Int32 × SC)) (z0 : SC) (y1 : Int32) (y2 : Int32) (y3 : Int32) (w4 : Nat) : Option (Int32 × SC) := (fX1_goFirst_j56 K2 z0 y1 y2 y3 w4 0)
set_option maxRecDepth 100000 in
set_option maxHeartbeats 4000000 in
theorem jX1_goFirst_55 {p : Program} {l : Launch} {e : Env} {s : State} {m : MethodId} {args : Array Value} {below : List Frame} {meth : Method} {c : Code} {G : va_G} {cy cyO : ClassId} {a : Nat → Nat} {A : Nat → Prop} {r : Int32} {u : SC} (X : CallFix p m c cX1_goFirst 7 s args wsX1_goFirst RX1) (hr : meth.sig.returnType = (some .int)) (hlocks : meth.locks = false) (hK : va_K G vwCl (tys_ cy cyO) s) (hN : nw s) (hA : ∀ q, s.heap.size ≤ q → A q) (K2 : SC → Int32 → Int32 → Int32 → Option (Int32 × SC)) (hK2 : ∀ (z0 : SC) (y1 : Int32) (y2 : Int32) (y3 : Int32), K2 z0 y1 y2 y3 = some (r, u) → ∀ (H : Heap) (locs : List Loc), va_P G vwCl (cW a cy cyO z0) H → va_D A (cW a cy cyO z0) → va_S A s.heap H locs → ∀ (ls : Array Slot), lv_has ls 7 [(0, .ref (a 0)), (1, .int y1), (2, .int y2), (3, .int y3)] → W p l e ({ frames := 5, cells := 0, slots := 0, locals := 113 } : Room) s m args below meth c H locs 0 0 (MQ below (qg (some (.int r)) (fun t => wPost G A (cW a cy cyO u) t) A) args s 0 0 A) (F0 m 2 ls [])) : ∀ (z0 : SC) (y1 : Int32) (y2 : Int32) (y3 : Int32) (w4 : Nat), fX1_goFirst_j55 K2 z0 y1 y2 y3 w4 = some (r, u) → ∀ (H : Heap) (locs : List Loc), va_P G vwCl (cW a cy cyO z0) H → va_D A (cW a cy cyO z0) → va_S A s.heap H locs → ∀ (ls : Array Slot), lv_has ls 7 [(0, .ref (a 0)), (1, .int y1), (2, .int y2), (3, .int y3), (4, .ref w4)] → W p l e ({ frames := 5, cells := 0, slots := 0, locals := 113 } : Room) s m args below meth c H locs 0 0 (MQ below (qg (some (.int r)) (fun t => wPost G A (cW a cy cyO u) t) A) args s 0 0 A) (F0 m 55 ls []) := by
  obtain ⟨hx, hb, hml, hown, hts⟩ := id X
  have hin1 : ∀ w ∈ wsX10, w ∈ wsX1_goFirst := by decide +kernel
  have hin0 : ∀ w ∈ wsX00, w ∈ wsX1_goFirst := by decide +kernel
  intro z0 y1 y2 y3 w4 hF H locs hP hD hS ls hl
  unfold fX1_goFirst_j55 at hF
  refine lv_iconst (v := 0) hx hb dX1_goFirst_55 (by decide) ?_
  exact jX1_goFirst_56 X hr hlocks hK hN hA K2 hK2 z0 y1 y2 y3 w4 0 hF H locs hP hD hS ls (lv_sub hl [0, 1, 2, 3, 4] rfl)
def fX1_goFirst_j2 : Nat → SC → Int32 → Int32 → Int32 → Option (Int32 × SC)
  | 0, _, _, _, _ => none
  | n + 1, z0, y1, y2, y3 => if y1 < 0 ∨ 6 ≤ y1.toNatClampNeg then none else let_ (z0.2.2.2.2.1 y1.toNatClampNeg) (fun v1 => (if v1 ≤ y3 then some (z0.2.2.2.2.2.2.2.2.2.2.2, z0) else bd_ (fX1_sectionOn z0 y1 y3) (fun r3 z3 => (opt_ (r3) ((fX1_goFirst_j95 (fX1_goFirst_j2 n) z3 y1 y2 y3)) (fun b3 => bd_ (fX1_claim z3 b3) (fun r4 z4 => if b3 ∈ z4.2.1 then bd_ (fX0_hasRoomFor z4 b3 y2) (fun r5 z5 => (if r5 = 0 then (fX1_goFirst_j55 (fX1_goFirst_j2 n) z5 y1 y2 y3 b3) else if b3 ∈ z5.2.1 then (if (z5.1 b3 5) = 0 then (fX1_goFirst_j56 (fX1_goFirst_j2 n) z5 y1 y2 y3 b3 1) else (fX1_goFirst_j55 (fX1_goFirst_j2 n) z5 y1 y2 y3 b3)) else none)) else none))))))
set_option maxRecDepth 100000 in
set_option maxHeartbeats 4000000 in
theorem jX1_goFirst_2 {p : Program} {l : Launch} {e : Env} {s : State} {m : MethodId} {args : Array Value} {below : List Frame} {meth : Method} {c : Code} {G : va_G} {cy cyO : ClassId} {a : Nat → Nat} {A : Nat → Prop} {r : Int32} {u : SC} (X : CallFix p m c cX1_goFirst 7 s args wsX1_goFirst RX1) (hr : meth.sig.returnType = (some .int)) (hlocks : meth.locks = false) (hK : va_K G vwCl (tys_ cy cyO) s) (hN : nw s) (hA : ∀ q, s.heap.size ≤ q → A q) : ∀ n : Nat, ∀ (z0 : SC) (y1 : Int32) (y2 : Int32) (y3 : Int32), fX1_goFirst_j2 n z0 y1 y2 y3 = some (r, u) → ∀ (H : Heap) (locs : List Loc), va_P G vwCl (cW a cy cyO z0) H → va_D A (cW a cy cyO z0) → va_S A s.heap H locs → ∀ (ls : Array Slot), lv_has ls 7 [(0, .ref (a 0)), (1, .int y1), (2, .int y2), (3, .int y3)] → W p l e ({ frames := 5, cells := 0, slots := 0, locals := 113 } : Room) s m args below meth c H locs 0 0 (MQ below (qg (some (.int r)) (fun t => wPost G A (cW a cy cyO u) t) A) args s 0 0 A) (F0 m 2 ls []) := by
  obtain ⟨hx, hb, hml, hown, hts⟩ := id X
  have hin1 : ∀ w ∈ wsX10, w ∈ wsX1_goFirst := by decide +kernel
  have hin0 : ∀ w ∈ wsX00, w ∈ wsX1_goFirst := by decide +kernel
  intro n
  induction n with
  | zero => intro z0 y1 y2 y3 hF; cases hF
  | succ n ih =>
    intro z0 y1 y2 y3 hF H locs hP hD hS ls hl
    rw [fX1_goFirst_j2] at hF
    refine lv_iload_n hx hb dX1_goFirst_2 rfl (lv_at hl 3 rfl) ?_
    refine lv_aload_n hx hb dX1_goFirst_3 rfl (lv_at hl 0 rfl) ?_
    refine va_get (D := G) (ci := 1) (v := .ref (a 3)) (C := RX1) (T := TX1) (N := 10) hx hb hts hin1 hown hK hP 0 rfl rfl 2 (by decide) (hts (.fieldLink RX1 19 "SignalBox" "routeLengths" "[I") (by decide +kernel)) (fun _ h9 => h9) rfl dX1_goFirst_4 ?_
    refine lv_iload_n hx hb dX1_goFirst_7 rfl (lv_at hl 1 rfl) ?_
    obtain ⟨h1, hF⟩ := o_n hF
    refine va_iald (n := 6) (f := z0.2.2.2.2.1) (cA := cy) hx hb hK hP 3 0 rfl rfl h1 dX1_goFirst_8 ?_
    obtain ⟨v1, e1, hF⟩ := o_l hF
    refine w_top e1 ?_
    refine lv_icmp_ge (tgt := 101) hx hb dX1_goFirst_9 (by decide) (fun c2 => ?_) (fun c2 => ?_)
    · have hF := o_t c2 hF
      refine lv_aload_n hx hb dX1_goFirst_101 rfl (lv_at hl 0 rfl) ?_
      refine va_get (D := G) (ci := 1) (v := .int z0.2.2.2.2.2.2.2.2.2.2.2) (C := RX1) (T := TX1) (N := 10) hx hb hts hin1 hown hK hP 0 rfl rfl 9 (by decide) (hts (.fieldLink RX1 51 "SignalBox" "passed" "I") (by decide +kernel)) (fun _ h9 => h9) rfl dX1_goFirst_102 ?_
      obtain ⟨rfl, rfl⟩ := o_s hF
      exact rt_i X hr hlocks hP hD hS dX1_goFirst_105
    · have hF := o_f c2 hF
      refine lv_aload_n hx hb dX1_goFirst_12 rfl (lv_at hl 0 rfl) ?_
      refine lv_iload_n hx hb dX1_goFirst_13 rfl (lv_at hl 1 rfl) ?_
      refine lv_iload_n hx hb dX1_goFirst_14 rfl (lv_at hl 3 rfl) ?_
      obtain ⟨r3, z3, hG3, hF⟩ := o_b hF
      refine cl_V (C := RX1) (rest := []) X hK hN hA hP hD hS (kX1_sectionOn l G cy cyO a z0 y1 y3 r3 z3 hG3) (cwV 2 hts gX1_goFirst_X1_sectionOn rfl rfl rfl (by decide +kernel) ⟨Nat.le_of_ble_eq_true rfl, Nat.le_of_ble_eq_true rfl⟩) (va_recv hK hP (ci := 1) (q0 := 0) rfl rfl) rfl hl.1 rfl (Nat.le_of_ble_eq_true rfl) dX1_goFirst_15 ⟨Nat.zero_le _, Nat.zero_le _⟩ (fun H locs hP hD hS => ?_)
      rcases ho3 : r3 with _ | b3
      · have hF := o_mn ho3 hF
        refine w_none rfl ?_
        refine lv_astoreN (lv' := [(4, .null), (0, .ref (a 0)), (1, .int y1), (2, .int y2), (3, .int y3)]) hx hb dX1_goFirst_18 hl (by decide) rfl (fun ls hl => ?_)
        refine lv_aloadN hx hb dX1_goFirst_20 (lv_at hl 0 rfl) ?_
        refine lv_ifnonnullN hx hb dX1_goFirst_22 ?_
        refine lv_goto (tgt := 95) hx hb dX1_goFirst_25 (by decide) ?_
        exact jX1_goFirst_95 X hr hlocks hK hN hA (fX1_goFirst_j2 n) ih z3 y1 y2 y3 hF H locs hP hD hS ls (lv_sub hl [1, 2, 3, 4] rfl)
      · have hF := o_ms ho3 hF
        refine w_some rfl ?_
        refine lv_astore (lv' := [(4, .ref b3), (0, .ref (a 0)), (1, .int y1), (2, .int y2), (3, .int y3)]) hx hb dX1_goFirst_18 hl (by decide) rfl (fun ls hl => ?_)
        refine lv_aload hx hb dX1_goFirst_20 (lv_at hl 0 rfl) ?_
        refine lv_ifnonnull (tgt := 28) hx hb dX1_goFirst_22 (by decide) ?_
        refine lv_aload_n hx hb dX1_goFirst_28 rfl (lv_at hl 1 rfl) ?_
        refine lv_aload hx hb dX1_goFirst_29 (lv_at hl 0 rfl) ?_
        obtain ⟨r4, z4, hG4, hF⟩ := o_b hF
        refine cl_V (C := RX1) (rest := []) X hK hN hA hP hD hS (kX1_claim l G cy cyO a z3 b3 r4 z4 hG4) (cwV 1 hts gX1_goFirst_X1_claim rfl rfl rfl (by decide +kernel) ⟨Nat.le_of_ble_eq_true rfl, Nat.le_of_ble_eq_true rfl⟩) (va_recv hK hP (ci := 1) (q0 := 0) rfl rfl) rfl hl.1 rfl (Nat.le_of_ble_eq_true rfl) dX1_goFirst_31 ⟨Nat.zero_le _, Nat.zero_le _⟩ (fun H locs hP hD hS => ?_)
        refine W.eq (g2 := F0 m 34 ls []) rfl ?_
        refine lv_aload hx hb dX1_goFirst_34 (lv_at hl 0 rfl) ?_
        refine lv_iload_n hx hb dX1_goFirst_36 rfl (lv_at hl 3 rfl) ?_
        obtain ⟨h6, hF⟩ := o_i hF
        obtain ⟨r5, z5, hG5, hF⟩ := o_b hF
        refine cl_N (C := RX0) (rest := []) X hK hN hA hP hD hS (kX0_hasRoomFor l G cy cyO a z4 b3 y2 r5 z5 hG5) ⟨va_cnB 1 hts gX1_goFirst_X0_hasRoomFor_n139 rfl rfl rfl (hN.2 (139, yX0_hasRoomFor) (by decide +kernel)) (hts (.initialized RX0) (by decide +kernel)) (by decide +kernel) ⟨Nat.le_of_ble_eq_true rfl, Nat.le_of_ble_eq_true rfl⟩, hts (.instanceMethod yX0_hasRoomFor) (by decide +kernel), hts (.selects RX0 yX0_hasRoomFor yX0_hasRoomFor) (by decide +kernel)⟩ (cs_recv hK hP h6) rfl hl.1 rfl (Nat.le_of_ble_eq_true rfl) dX1_goFirst_37 ⟨Nat.zero_le _, Nat.zero_le _⟩ (fun H locs hP hD hS => ?_)
        refine W.eq (g2 := F0 m 40 ls [.int r5]) rfl ?_
        refine lv_if_eq (tgt := 55) hx hb dX1_goFirst_40 (by decide) (fun c7 => ?_) (fun c7 => ?_)
        · have hF := o_t c7 hF
          exact jX1_goFirst_55 X hr hlocks hK hN hA (fX1_goFirst_j2 n) ih z5 y1 y2 y3 b3 hF H locs hP hD hS ls (lv_sub hl [1, 2, 3, 4, 0] rfl)
        · have hF := o_f c7 hF
          refine lv_aload hx hb dX1_goFirst_43 (lv_at hl 0 rfl) ?_
          obtain ⟨h8, hF⟩ := o_i hF
          refine cs_get X hin0 hK hN hP h8 5 (by decide) (by decide) (by decide) (v := .int (z5.1 b3 5)) rfl dX1_goFirst_45 ?_
          refine lv_if_ne (tgt := 55) hx hb dX1_goFirst_48 (by decide) (fun c9 => ?_) (fun c9 => ?_)
          · have hF := o_f c9 hF
            exact jX1_goFirst_55 X hr hlocks hK hN hA (fX1_goFirst_j2 n) ih z5 y1 y2 y3 b3 hF H locs hP hD hS ls (lv_sub hl [1, 2, 3, 4, 0] rfl)
          · have hF := o_t c9 hF
            refine lv_iconst (v := 1) hx hb dX1_goFirst_51 (by decide) ?_
            refine lv_goto (tgt := 56) hx hb dX1_goFirst_52 (by decide) ?_
            exact jX1_goFirst_56 X hr hlocks hK hN hA (fX1_goFirst_j2 n) ih z5 y1 y2 y3 b3 1 hF H locs hP hD hS ls (lv_sub hl [1, 2, 3, 4, 0] rfl)
def fX1_goFirst (z0 : SC) (x1 : Int32) (x2 : Int32) : Option (Int32 × SC) := (fX1_goFirst_j2 20 z0 x1 x2 0)
set_option maxRecDepth 100000 in
set_option maxHeartbeats 4000000 in
theorem kX1_goFirst (l : Launch) (G : va_G) (cy cyO : ClassId) (a : Nat → Nat) (z0 : SC) (x1 : Int32) (x2 : Int32) (r : Int32) (u : SC) (hF : fX1_goFirst z0 x1 x2 = some (r, u)) : Ct l G (tys_ cy cyO) yX1_goFirst wsX1_goFirst ({ frames := 5, cells := 0, slots := 0, locals := 113 } : Room) [.ref (a 0), .int x1, .int x2] (cW a cy cyO z0) (some (.int r)) (cW a cy cyO u) := by
  unfold fX1_goFirst at hF
  refine ct_of (cc := cX1_goFirst) (maxL := 7) (ret := (some .int)) (own := RX1) (by decide) rfl (Nat.le_of_ble_eq_true rfl) rfl ?_
  intro p e s m below meth c A ls X hr hlocks _ hK hN hA hP hD hl
  have hS : va_S A s.heap s.heap [] := va_S.rf
  have hl : lv_has ls 7 [(0, .ref (a 0)), (1, .int x1), (2, .int x2)] := hl
  obtain ⟨hx, hb, hml, hown, hts⟩ := id X
  have hin1 : ∀ w ∈ wsX10, w ∈ wsX1_goFirst := by decide +kernel
  have hin0 : ∀ w ∈ wsX00, w ∈ wsX1_goFirst := by decide +kernel
  refine lv_iconst (v := 0) hx hb dX1_goFirst_0 (by decide) ?_
  refine lv_istore_n (lv' := [(3, .int 0), (0, .ref (a 0)), (1, .int x1), (2, .int x2)]) hx hb dX1_goFirst_1 rfl hl (by decide) rfl (fun ls hl => ?_)
  exact jX1_goFirst_2 X hr hlocks hK hN hA 20 z0 x1 x2 0 hF s.heap [] hP hD hS ls (lv_sub hl [1, 2, 3, 0] rfl)
def fX1_run (z0 : SC) (x1 : Int32) (x2 : Int32) (x3 : Int32) : Option (Int32 × SC) := bd_ (fX1_isRoute z0 x1) (fun r1 z1 => (if r1 = 0 then some ((-1), z1) else (if x2 < 0 then some ((-1), z1) else (if 4 < x2 then some ((-1), z1) else bd_ (fX1_isAxles z1 x3) (fun r5 z5 => (if r5 = 0 then some ((-1), z5) else let_ ((z5.1, z5.2.1, z5.2.2.1, z5.2.2.2.1, z5.2.2.2.2.1, z5.2.2.2.2.2.1, z5.2.2.2.2.2.2.1, z5.2.2.2.2.2.2.2.1, (z5.2.2.2.2.2.2.2.2.1 + 1), z5.2.2.2.2.2.2.2.2.2) : SC) (fun z7 => let_ ((z7.1, z7.2.1, z7.2.2.1, z7.2.2.2.1, z7.2.2.2.2.1, z7.2.2.2.2.2.1, z7.2.2.2.2.2.2.1, z7.2.2.2.2.2.2.2.1, z7.2.2.2.2.2.2.2.2.1, z7.2.2.2.2.2.2.2.2.2.1, z7.2.2.2.2.2.2.2.2.2.2.1, 0) : SC) (fun z8 => let_ ((z8.1, z8.2.1, z8.2.2.1, z8.2.2.2.1, z8.2.2.2.2.1, z8.2.2.2.2.2.1, 0, z8.2.2.2.2.2.2.2) : SC) (fun z9 => (if x2 = 0 then bd_ (fX1_goAlone z9 x1 x3 1) (fun r14 z14 => bd_ (fX1_counted z14 r14) (fun r15 z15 => some (r15, z15))) else (if x2 = 1 then bd_ (fX1_goTwoByTwo z9 x1 x3) (fun r16 z16 => bd_ (fX1_counted z16 r16) (fun r17 z17 => some (r17, z17))) else (if x2 = 2 then bd_ (fX1_goAll z9 x1 x3) (fun r18 z18 => bd_ (fX1_counted z18 r18) (fun r19 z19 => some (r19, z19))) else (if x2 = 3 then bd_ (fX1_goFirst z9 x1 x3) (fun r20 z20 => bd_ (fX1_counted z20 r20) (fun r21 z21 => some (r21, z21))) else bd_ (fX1_goAlone z9 x1 x3 10) (fun r22 z22 => bd_ (fX1_counted z22 r22) (fun r23 z23 => some (r23, z23))))))))))))))))
set_option maxRecDepth 100000 in
set_option maxHeartbeats 4000000 in
theorem kX1_run (l : Launch) (G : va_G) (cy cyO : ClassId) (a : Nat → Nat) (z0 : SC) (x1 : Int32) (x2 : Int32) (x3 : Int32) (r : Int32) (u : SC) (hF : fX1_run z0 x1 x2 x3 = some (r, u)) : Ct l G (tys_ cy cyO) yX1_run wsX1_run ({ frames := 6, cells := 0, slots := 0, locals := 140 } : Room) [.ref (a 0), .int x1, .int x2, .int x3] (cW a cy cyO z0) (some (.int r)) (cW a cy cyO u) := by
  unfold fX1_run at hF
  refine ct_of (cc := cX1_run) (maxL := 4) (ret := (some .int)) (own := RX1) (by decide) rfl (Nat.le_of_ble_eq_true rfl) rfl ?_
  intro p e s m below meth c A ls X hr hlocks _ hK hN hA hP hD hl
  have hS : va_S A s.heap s.heap [] := va_S.rf
  have hl : lv_has ls 4 [(0, .ref (a 0)), (1, .int x1), (2, .int x2), (3, .int x3)] := hl
  obtain ⟨hx, hb, hml, hown, hts⟩ := id X
  have hin1 : ∀ w ∈ wsX10, w ∈ wsX1_run := by decide +kernel
  refine lv_iload_n hx hb dX1_run_0 rfl (lv_at hl 1 rfl) ?_
  obtain ⟨r1, z1, hG1, hF⟩ := o_b hF
  refine cl_S (rest := []) X hK hN hA hP hD hS (kX1_isRoute l G cy cyO a z0 x1 r1 z1 hG1) (va_cwS 1 hts gX1_run_X1_isRoute rfl rfl rfl (by decide +kernel) ⟨Nat.le_of_ble_eq_true rfl, Nat.le_of_ble_eq_true rfl⟩) rfl hl.1 rfl (Nat.le_of_ble_eq_true rfl) dX1_run_1 ⟨Nat.zero_le _, Nat.zero_le _⟩ (fun H locs hP hD hS => ?_)
  refine W.eq (g2 := F0 m 4 ls [.int r1]) rfl ?_
  refine lv_if_eq (tgt := 23) hx hb dX1_run_4 (by decide) (fun c2 => ?_) (fun c2 => ?_)
  · have hF := o_t c2 hF
    refine lv_iconst (v := (-1)) hx hb dX1_run_23 (by decide) ?_
    obtain ⟨rfl, rfl⟩ := o_s hF
    exact rt_i X hr hlocks hP hD hS dX1_run_24
  · have hF := o_f c2 hF
    refine lv_iload_n hx hb dX1_run_7 rfl (lv_at hl 2 rfl) ?_
    refine lv_if_lt (tgt := 23) hx hb dX1_run_8 (by decide) (fun c3 => ?_) (fun c3 => ?_)
    · have hF := o_t c3 hF
      refine lv_iconst (v := (-1)) hx hb dX1_run_23 (by decide) ?_
      obtain ⟨rfl, rfl⟩ := o_s hF
      exact rt_i X hr hlocks hP hD hS dX1_run_24
    · have hF := o_f c3 hF
      refine lv_iload_n hx hb dX1_run_11 rfl (lv_at hl 2 rfl) ?_
      refine lv_iconst (v := 4) hx hb dX1_run_12 (by decide) ?_
      refine lv_icmp_gt (tgt := 23) hx hb dX1_run_13 (by decide) (fun c4 => ?_) (fun c4 => ?_)
      · have hF := o_t c4 hF
        refine lv_iconst (v := (-1)) hx hb dX1_run_23 (by decide) ?_
        obtain ⟨rfl, rfl⟩ := o_s hF
        exact rt_i X hr hlocks hP hD hS dX1_run_24
      · have hF := o_f c4 hF
        refine lv_iload_n hx hb dX1_run_16 rfl (lv_at hl 3 rfl) ?_
        obtain ⟨r5, z5, hG5, hF⟩ := o_b hF
        refine cl_S (rest := []) X hK hN hA hP hD hS (kX1_isAxles l G cy cyO a z1 x3 r5 z5 hG5) (va_cwS 1 hts gX1_run_X1_isAxles rfl rfl rfl (by decide +kernel) ⟨Nat.le_of_ble_eq_true rfl, Nat.le_of_ble_eq_true rfl⟩) rfl hl.1 rfl (Nat.le_of_ble_eq_true rfl) dX1_run_17 ⟨Nat.zero_le _, Nat.zero_le _⟩ (fun H locs hP hD hS => ?_)
        refine W.eq (g2 := F0 m 20 ls [.int r5]) rfl ?_
        refine lv_if_ne (tgt := 25) hx hb dX1_run_20 (by decide) (fun c6 => ?_) (fun c6 => ?_)
        · have hF := o_f c6 hF
          refine lv_aload_n hx hb dX1_run_25 rfl (lv_at hl 0 rfl) ?_
          refine lv_dup hx hb dX1_run_26 rfl ?_
          refine va_get (D := G) (ci := 1) (v := .int z5.2.2.2.2.2.2.2.2.1) (C := RX1) (T := TX1) (N := 10) hx hb hts hin1 hown hK hP 0 rfl rfl 6 (by decide) (hts (.fieldLink RX1 48 "SignalBox" "runs" "I") (by decide +kernel)) (fun _ h9 => h9) rfl dX1_run_27 ?_
          refine lv_iconst (v := 1) hx hb dX1_run_30 (by decide) ?_
          refine lv_iadd hx hb dX1_run_31 ?_
          refine va_put (D := G) (ci := 1) (v := .int (z5.2.2.2.2.2.2.2.2.1 + 1)) (ty := .int) (C := RX1) (T := TX1) (N := 10) hx hb hts hin1 tyX1 tyX1_ok nmX1 hown hK hP hD hS 0 rfl rfl 6 (by decide) (hts (.fieldLink RX1 48 "SignalBox" "runs" "I") (by decide +kernel)) (fun _ h9 => h9) rfl (by decide +kernel) rfl rfl (Nat.le_of_ble_eq_true rfl) dX1_run_32 (fun H locs hP hD hS => ?_)
          obtain ⟨z7, e7, hF⟩ := o_l hF
          have hP : va_P G vwCl (cW a cy cyO z7) H := by rw [e7]; exact hP
          have hD : va_D A (cW a cy cyO z7) := by rw [e7]; exact hD
          refine lv_aload_n hx hb dX1_run_35 rfl (lv_at hl 0 rfl) ?_
          refine lv_iconst (v := 0) hx hb dX1_run_36 (by decide) ?_
          refine va_put (D := G) (ci := 1) (v := .int 0) (ty := .int) (C := RX1) (T := TX1) (N := 10) hx hb hts hin1 tyX1 tyX1_ok nmX1 hown hK hP hD hS 0 rfl rfl 9 (by decide) (hts (.fieldLink RX1 51 "SignalBox" "passed" "I") (by decide +kernel)) (fun _ h9 => h9) rfl (by decide +kernel) rfl rfl (Nat.le_of_ble_eq_true rfl) dX1_run_37 (fun H locs hP hD hS => ?_)
          obtain ⟨z8, e8, hF⟩ := o_l hF
          have hP : va_P G vwCl (cW a cy cyO z8) H := by rw [e8]; exact hP
          have hD : va_D A (cW a cy cyO z8) := by rw [e8]; exact hD
          refine lv_aload_n hx hb dX1_run_40 rfl (lv_at hl 0 rfl) ?_
          refine lv_iconst (v := 0) hx hb dX1_run_41 (by decide) ?_
          refine va_put (D := G) (ci := 1) (v := .int 0) (ty := .int) (C := RX1) (T := TX1) (N := 10) hx hb hts hin1 tyX1 tyX1_ok nmX1 hown hK hP hD hS 0 rfl rfl 4 (by decide) (hts (.fieldLink RX1 54 "SignalBox" "traceLength" "I") (by decide +kernel)) (fun _ h9 => h9) rfl (by decide +kernel) rfl rfl (Nat.le_of_ble_eq_true rfl) dX1_run_42 (fun H locs hP hD hS => ?_)
          obtain ⟨z9, e9, hF⟩ := o_l hF
          have hP : va_P G vwCl (cW a cy cyO z9) H := by rw [e9]; exact hP
          have hD : va_D A (cW a cy cyO z9) := by rw [e9]; exact hD
          refine lv_iload_n hx hb dX1_run_45 rfl (lv_at hl 2 rfl) ?_
          by_cases c10 : x2 = 0
          · have hF := o_t c10 hF
            refine lv_tableIn (off := 30) (tgt := 76) hx hb dX1_run_46 (by rw [c10]; decide) (by rw [c10]; decide) (by rw [c10]; rfl) (by decide) ?_
            refine lv_aload_n hx hb dX1_run_76 rfl (lv_at hl 0 rfl) ?_
            refine lv_aload_n hx hb dX1_run_77 rfl (lv_at hl 0 rfl) ?_
            refine lv_iload_n hx hb dX1_run_78 rfl (lv_at hl 1 rfl) ?_
            refine lv_iload_n hx hb dX1_run_79 rfl (lv_at hl 3 rfl) ?_
            refine lv_iconst (v := 1) hx hb dX1_run_80 (by decide) ?_
            obtain ⟨r14, z14, hG14, hF⟩ := o_b hF
            refine cl_V (C := RX1) (rest := [.ref (a 0)]) X hK hN hA hP hD hS (kX1_goAlone l G cy cyO a z9 x1 x3 1 r14 z14 hG14) (cwV 3 hts gX1_run_X1_goAlone rfl rfl rfl (by decide +kernel) ⟨Nat.le_of_ble_eq_true rfl, Nat.le_of_ble_eq_true rfl⟩) (va_recv hK hP (ci := 1) (q0 := 0) rfl rfl) rfl hl.1 rfl (Nat.le_of_ble_eq_true rfl) dX1_run_81 ⟨Nat.zero_le _, Nat.zero_le _⟩ (fun H locs hP hD hS => ?_)
            refine W.eq (g2 := F0 m 84 ls [.int r14, .ref (a 0)]) rfl ?_
            obtain ⟨r15, z15, hG15, hF⟩ := o_b hF
            refine cl_V (C := RX1) (rest := []) X hK hN hA hP hD hS (kX1_counted l G cy cyO a z14 r14 r15 z15 hG15) (cwV 1 hts gX1_run_X1_counted rfl rfl rfl (by decide +kernel) ⟨Nat.le_of_ble_eq_true rfl, Nat.le_of_ble_eq_true rfl⟩) (va_recv hK hP (ci := 1) (q0 := 0) rfl rfl) rfl hl.1 rfl (Nat.le_of_ble_eq_true rfl) dX1_run_84 ⟨Nat.zero_le _, Nat.zero_le _⟩ (fun H locs hP hD hS => ?_)
            refine W.eq (g2 := F0 m 87 ls [.int r15]) rfl ?_
            obtain ⟨rfl, rfl⟩ := o_s hF
            exact rt_i X hr hlocks hP hD hS dX1_run_87
          · have hF := o_f c10 hF
            by_cases c11 : x2 = 1
            · have hF := o_t c11 hF
              refine lv_tableIn (off := 42) (tgt := 88) hx hb dX1_run_46 (by rw [c11]; decide) (by rw [c11]; decide) (by rw [c11]; rfl) (by decide) ?_
              refine lv_aload_n hx hb dX1_run_88 rfl (lv_at hl 0 rfl) ?_
              refine lv_aload_n hx hb dX1_run_89 rfl (lv_at hl 0 rfl) ?_
              refine lv_iload_n hx hb dX1_run_90 rfl (lv_at hl 1 rfl) ?_
              refine lv_iload_n hx hb dX1_run_91 rfl (lv_at hl 3 rfl) ?_
              obtain ⟨r16, z16, hG16, hF⟩ := o_b hF
              refine cl_V (C := RX1) (rest := [.ref (a 0)]) X hK hN hA hP hD hS (kX1_goTwoByTwo l G cy cyO a z9 x1 x3 r16 z16 hG16) (cwV 2 hts gX1_run_X1_goTwoByTwo rfl rfl rfl (by decide +kernel) ⟨Nat.le_of_ble_eq_true rfl, Nat.le_of_ble_eq_true rfl⟩) (va_recv hK hP (ci := 1) (q0 := 0) rfl rfl) rfl hl.1 rfl (Nat.le_of_ble_eq_true rfl) dX1_run_92 ⟨Nat.zero_le _, Nat.zero_le _⟩ (fun H locs hP hD hS => ?_)
              refine W.eq (g2 := F0 m 95 ls [.int r16, .ref (a 0)]) rfl ?_
              obtain ⟨r17, z17, hG17, hF⟩ := o_b hF
              refine cl_V (C := RX1) (rest := []) X hK hN hA hP hD hS (kX1_counted l G cy cyO a z16 r16 r17 z17 hG17) (cwV 1 hts gX1_run_X1_counted rfl rfl rfl (by decide +kernel) ⟨Nat.le_of_ble_eq_true rfl, Nat.le_of_ble_eq_true rfl⟩) (va_recv hK hP (ci := 1) (q0 := 0) rfl rfl) rfl hl.1 rfl (Nat.le_of_ble_eq_true rfl) dX1_run_95 ⟨Nat.zero_le _, Nat.zero_le _⟩ (fun H locs hP hD hS => ?_)
              refine W.eq (g2 := F0 m 98 ls [.int r17]) rfl ?_
              obtain ⟨rfl, rfl⟩ := o_s hF
              exact rt_i X hr hlocks hP hD hS dX1_run_98
            · have hF := o_f c11 hF
              by_cases c12 : x2 = 2
              · have hF := o_t c12 hF
                refine lv_tableIn (off := 53) (tgt := 99) hx hb dX1_run_46 (by rw [c12]; decide) (by rw [c12]; decide) (by rw [c12]; rfl) (by decide) ?_
                refine lv_aload_n hx hb dX1_run_99 rfl (lv_at hl 0 rfl) ?_
                refine lv_aload_n hx hb dX1_run_100 rfl (lv_at hl 0 rfl) ?_
                refine lv_iload_n hx hb dX1_run_101 rfl (lv_at hl 1 rfl) ?_
                refine lv_iload_n hx hb dX1_run_102 rfl (lv_at hl 3 rfl) ?_
                obtain ⟨r18, z18, hG18, hF⟩ := o_b hF
                refine cl_V (C := RX1) (rest := [.ref (a 0)]) X hK hN hA hP hD hS (kX1_goAll l G cy cyO a z9 x1 x3 r18 z18 hG18) (cwV 2 hts gX1_run_X1_goAll rfl rfl rfl (by decide +kernel) ⟨Nat.le_of_ble_eq_true rfl, Nat.le_of_ble_eq_true rfl⟩) (va_recv hK hP (ci := 1) (q0 := 0) rfl rfl) rfl hl.1 rfl (Nat.le_of_ble_eq_true rfl) dX1_run_103 ⟨Nat.zero_le _, Nat.zero_le _⟩ (fun H locs hP hD hS => ?_)
                refine W.eq (g2 := F0 m 106 ls [.int r18, .ref (a 0)]) rfl ?_
                obtain ⟨r19, z19, hG19, hF⟩ := o_b hF
                refine cl_V (C := RX1) (rest := []) X hK hN hA hP hD hS (kX1_counted l G cy cyO a z18 r18 r19 z19 hG19) (cwV 1 hts gX1_run_X1_counted rfl rfl rfl (by decide +kernel) ⟨Nat.le_of_ble_eq_true rfl, Nat.le_of_ble_eq_true rfl⟩) (va_recv hK hP (ci := 1) (q0 := 0) rfl rfl) rfl hl.1 rfl (Nat.le_of_ble_eq_true rfl) dX1_run_106 ⟨Nat.zero_le _, Nat.zero_le _⟩ (fun H locs hP hD hS => ?_)
                refine W.eq (g2 := F0 m 109 ls [.int r19]) rfl ?_
                obtain ⟨rfl, rfl⟩ := o_s hF
                exact rt_i X hr hlocks hP hD hS dX1_run_109
              · have hF := o_f c12 hF
                by_cases c13 : x2 = 3
                · have hF := o_t c13 hF
                  refine lv_tableIn (off := 64) (tgt := 110) hx hb dX1_run_46 (by rw [c13]; decide) (by rw [c13]; decide) (by rw [c13]; rfl) (by decide) ?_
                  refine lv_aload_n hx hb dX1_run_110 rfl (lv_at hl 0 rfl) ?_
                  refine lv_aload_n hx hb dX1_run_111 rfl (lv_at hl 0 rfl) ?_
                  refine lv_iload_n hx hb dX1_run_112 rfl (lv_at hl 1 rfl) ?_
                  refine lv_iload_n hx hb dX1_run_113 rfl (lv_at hl 3 rfl) ?_
                  obtain ⟨r20, z20, hG20, hF⟩ := o_b hF
                  refine cl_V (C := RX1) (rest := [.ref (a 0)]) X hK hN hA hP hD hS (kX1_goFirst l G cy cyO a z9 x1 x3 r20 z20 hG20) (cwV 2 hts gX1_run_X1_goFirst rfl rfl rfl (by decide +kernel) ⟨Nat.le_of_ble_eq_true rfl, Nat.le_of_ble_eq_true rfl⟩) (va_recv hK hP (ci := 1) (q0 := 0) rfl rfl) rfl hl.1 rfl (Nat.le_of_ble_eq_true rfl) dX1_run_114 ⟨Nat.zero_le _, Nat.zero_le _⟩ (fun H locs hP hD hS => ?_)
                  refine W.eq (g2 := F0 m 117 ls [.int r20, .ref (a 0)]) rfl ?_
                  obtain ⟨r21, z21, hG21, hF⟩ := o_b hF
                  refine cl_V (C := RX1) (rest := []) X hK hN hA hP hD hS (kX1_counted l G cy cyO a z20 r20 r21 z21 hG21) (cwV 1 hts gX1_run_X1_counted rfl rfl rfl (by decide +kernel) ⟨Nat.le_of_ble_eq_true rfl, Nat.le_of_ble_eq_true rfl⟩) (va_recv hK hP (ci := 1) (q0 := 0) rfl rfl) rfl hl.1 rfl (Nat.le_of_ble_eq_true rfl) dX1_run_117 ⟨Nat.zero_le _, Nat.zero_le _⟩ (fun H locs hP hD hS => ?_)
                  refine W.eq (g2 := F0 m 120 ls [.int r21]) rfl ?_
                  obtain ⟨rfl, rfl⟩ := o_s hF
                  exact rt_i X hr hlocks hP hD hS dX1_run_120
                · have hF := o_f c13 hF
                  refine lv_tableOut (tgt := 121) hx hb dX1_run_46 (by have g10 := lv_neT c10 (a := 0) rfl; have g11 := lv_neT c11 (a := 1) rfl; have g12 := lv_neT c12 (a := 2) rfl; have g13 := lv_neT c13 (a := 3) rfl; omega) (by decide) ?_
                  refine lv_aload_n hx hb dX1_run_121 rfl (lv_at hl 0 rfl) ?_
                  refine lv_aload_n hx hb dX1_run_122 rfl (lv_at hl 0 rfl) ?_
                  refine lv_iload_n hx hb dX1_run_123 rfl (lv_at hl 1 rfl) ?_
                  refine lv_iload_n hx hb dX1_run_124 rfl (lv_at hl 3 rfl) ?_
                  refine lv_bipush (v := 10) hx hb dX1_run_125 (by decide) ?_
                  obtain ⟨r22, z22, hG22, hF⟩ := o_b hF
                  refine cl_V (C := RX1) (rest := [.ref (a 0)]) X hK hN hA hP hD hS (kX1_goAlone l G cy cyO a z9 x1 x3 10 r22 z22 hG22) (cwV 3 hts gX1_run_X1_goAlone rfl rfl rfl (by decide +kernel) ⟨Nat.le_of_ble_eq_true rfl, Nat.le_of_ble_eq_true rfl⟩) (va_recv hK hP (ci := 1) (q0 := 0) rfl rfl) rfl hl.1 rfl (Nat.le_of_ble_eq_true rfl) dX1_run_127 ⟨Nat.zero_le _, Nat.zero_le _⟩ (fun H locs hP hD hS => ?_)
                  refine W.eq (g2 := F0 m 130 ls [.int r22, .ref (a 0)]) rfl ?_
                  obtain ⟨r23, z23, hG23, hF⟩ := o_b hF
                  refine cl_V (C := RX1) (rest := []) X hK hN hA hP hD hS (kX1_counted l G cy cyO a z22 r22 r23 z23 hG23) (cwV 1 hts gX1_run_X1_counted rfl rfl rfl (by decide +kernel) ⟨Nat.le_of_ble_eq_true rfl, Nat.le_of_ble_eq_true rfl⟩) (va_recv hK hP (ci := 1) (q0 := 0) rfl rfl) rfl hl.1 rfl (Nat.le_of_ble_eq_true rfl) dX1_run_130 ⟨Nat.zero_le _, Nat.zero_le _⟩ (fun H locs hP hD hS => ?_)
                  refine W.eq (g2 := F0 m 133 ls [.int r23]) rfl ?_
                  obtain ⟨rfl, rfl⟩ := o_s hF
                  exact rt_i X hr hlocks hP hD hS dX1_run_133
        · have hF := o_t c6 hF
          refine lv_iconst (v := (-1)) hx hb dX1_run_23 (by decide) ?_
          obtain ⟨rfl, rfl⟩ := o_s hF
          exact rt_i X hr hlocks hP hD hS dX1_run_24
def fX1_shuntOnto_j36 (z0 : SC) (w1 : Nat) (w2 : Nat) (y3 : Int32) : Option (Int32 × SC) := if w1 ∈ z0.2.1 then if w1 ∈ z0.2.1 then let_ ((setS z0.1 w1 4 ((z0.1 w1 4) - y3), z0.2) : SC) (fun z2 => if w2 ∈ z2.2.1 then if w2 ∈ z2.2.1 then let_ ((setS z2.1 w2 4 ((z2.1 w2 4) + y3), z2.2) : SC) (fun z4 => bd_ (fX1_let z4 w2) (fun r5 z5 => some (1, z5))) else none else none) else none else none
set_option maxRecDepth 100000 in
set_option maxHeartbeats 4000000 in
theorem jX1_shuntOnto_36 {p : Program} {l : Launch} {e : Env} {s : State} {m : MethodId} {args : Array Value} {below : List Frame} {meth : Method} {c : Code} {G : va_G} {cy cyO : ClassId} {a : Nat → Nat} {A : Nat → Prop} {r : Int32} {u : SC} (X : CallFix p m c cX1_shuntOnto 5 s args wsX1_shuntOnto RX1) (hr : meth.sig.returnType = (some .int)) (hlocks : meth.locks = false) (hK : va_K G vwCl (tys_ cy cyO) s) (hN : nw s) (hA : ∀ q, s.heap.size ≤ q → A q) : ∀ (z0 : SC) (w1 : Nat) (w2 : Nat) (y3 : Int32), fX1_shuntOnto_j36 z0 w1 w2 y3 = some (r, u) → ∀ (H : Heap) (locs : List Loc), va_P G vwCl (cW a cy cyO z0) H → va_D A (cW a cy cyO z0) → va_S A s.heap H locs → ∀ (ls : Array Slot), lv_has ls 5 [(0, .ref (a 0)), (1, .ref w1), (2, .ref w2), (3, .int y3)] → W p l e ({ frames := 1, cells := 0, slots := 0, locals := 21 } : Room) s m args below meth c H locs 0 0 (MQ below (qg (some (.int r)) (fun t => wPost G A (cW a cy cyO u) t) A) args s 0 0 A) (F0 m 36 ls []) := by
  obtain ⟨hx, hb, hml, hown, hts⟩ := id X
  have hin1 : ∀ w ∈ wsX10, w ∈ wsX1_shuntOnto := by decide +kernel
  have hin0 : ∀ w ∈ wsX00, w ∈ wsX1_shuntOnto := by decide +kernel
  intro z0 w1 w2 y3 hF H locs hP hD hS ls hl
  unfold fX1_shuntOnto_j36 at hF
  refine lv_aload_n hx hb dX1_shuntOnto_36 rfl (lv_at hl 1 rfl) ?_
  refine lv_dup hx hb dX1_shuntOnto_37 rfl ?_
  obtain ⟨h1, hF⟩ := o_i hF
  refine cs_get X hin0 hK hN hP h1 4 (by decide) (by decide) (by decide) (v := .int (z0.1 w1 4)) rfl dX1_shuntOnto_38 ?_
  refine lv_iload_n hx hb dX1_shuntOnto_41 rfl (lv_at hl 3 rfl) ?_
  refine lv_isub hx hb dX1_shuntOnto_42 ?_
  obtain ⟨h2, hF⟩ := o_i hF
  refine cs_put X hin0 hK hN hP hD hS h2 4 (by decide) (by decide) (by decide) rfl dX1_shuntOnto_43 (fun H locs hP hD hS => ?_)
  obtain ⟨z2, e2, hF⟩ := o_l hF
  have hP : va_P G vwCl (cW a cy cyO z2) H := by rw [e2]; exact hP
  have hD : va_D A (cW a cy cyO z2) := by rw [e2]; exact hD
  refine lv_aload_n hx hb dX1_shuntOnto_46 rfl (lv_at hl 2 rfl) ?_
  refine lv_dup hx hb dX1_shuntOnto_47 rfl ?_
  obtain ⟨h3, hF⟩ := o_i hF
  refine cs_get X hin0 hK hN hP h3 4 (by decide) (by decide) (by decide) (v := .int (z2.1 w2 4)) rfl dX1_shuntOnto_48 ?_
  refine lv_iload_n hx hb dX1_shuntOnto_51 rfl (lv_at hl 3 rfl) ?_
  refine lv_iadd hx hb dX1_shuntOnto_52 ?_
  obtain ⟨h4, hF⟩ := o_i hF
  refine cs_put X hin0 hK hN hP hD hS h4 4 (by decide) (by decide) (by decide) rfl dX1_shuntOnto_53 (fun H locs hP hD hS => ?_)
  obtain ⟨z4, e4, hF⟩ := o_l hF
  have hP : va_P G vwCl (cW a cy cyO z4) H := by rw [e4]; exact hP
  have hD : va_D A (cW a cy cyO z4) := by rw [e4]; exact hD
  refine lv_iconst (v := 1) hx hb dX1_shuntOnto_56 (by decide) ?_
  refine lv_istore (lv' := [(4, .int 1), (0, .ref (a 0)), (1, .ref w1), (2, .ref w2), (3, .int y3)]) hx hb dX1_shuntOnto_57 hl (by decide) rfl (fun ls hl => ?_)
  refine lv_aload_n hx hb dX1_shuntOnto_59 rfl (lv_at hl 1 rfl) ?_
  refine lv_aload_n hx hb dX1_shuntOnto_60 rfl (lv_at hl 3 rfl) ?_
  obtain ⟨r5, z5, hG5, hF⟩ := o_b hF
  refine cl_V (C := RX1) (rest := []) X hK hN hA hP hD hS (kX1_let l G cy cyO a z4 w2 r5 z5 hG5) (cwV 1 hts gX1_shuntOnto_X1_let rfl rfl rfl (by decide +kernel) ⟨Nat.le_of_ble_eq_true rfl, Nat.le_of_ble_eq_true rfl⟩) (va_recv hK hP (ci := 1) (q0 := 0) rfl rfl) rfl hl.1 rfl (Nat.le_of_ble_eq_true rfl) dX1_shuntOnto_61 ⟨Nat.zero_le _, Nat.zero_le _⟩ (fun H locs hP hD hS => ?_)
  refine W.eq (g2 := F0 m 64 ls []) rfl ?_
  refine lv_iload hx hb dX1_shuntOnto_64 (lv_at hl 0 rfl) ?_
  obtain ⟨rfl, rfl⟩ := o_s hF
  exact rt_i X hr hlocks hP hD hS dX1_shuntOnto_66
def fX1_shuntOnto (z0 : SC) (x1 : Nat) (x2 : Nat) (x3 : Int32) : Option (Int32 × SC) := bd_ (fX1_claim z0 x2) (fun r1 z1 => if x1 ∈ z1.2.1 then (if (z1.1 x1 4) < x3 then bd_ (fX1_let z1 x2) (fun r4 z4 => some (0, z4)) else (if ((some x1) : Option Nat) = (some x2) then (fX1_shuntOnto_j36 z1 x1 x2 x3) else if x2 ∈ z1.2.1 then bd_ (fX0_hasRoomFor z1 x2 x3) (fun r6 z6 => (if r6 = 0 then bd_ (fX1_let z6 x2) (fun r9 z9 => some (0, z9)) else (fX1_shuntOnto_j36 z6 x1 x2 x3))) else none)) else none)
set_option maxRecDepth 100000 in
set_option maxHeartbeats 4000000 in
theorem kX1_shuntOnto (l : Launch) (G : va_G) (cy cyO : ClassId) (a : Nat → Nat) (z0 : SC) (x1 : Nat) (x2 : Nat) (x3 : Int32) (r : Int32) (u : SC) (hF : fX1_shuntOnto z0 x1 x2 x3 = some (r, u)) : Ct l G (tys_ cy cyO) yX1_shuntOnto wsX1_shuntOnto ({ frames := 1, cells := 0, slots := 0, locals := 21 } : Room) [.ref (a 0), .ref x1, .ref x2, .int x3] (cW a cy cyO z0) (some (.int r)) (cW a cy cyO u) := by
  unfold fX1_shuntOnto at hF
  refine ct_of (cc := cX1_shuntOnto) (maxL := 5) (ret := (some .int)) (own := RX1) (by decide) rfl (Nat.le_of_ble_eq_true rfl) rfl ?_
  intro p e s m below meth c A ls X hr hlocks _ hK hN hA hP hD hl
  have hS : va_S A s.heap s.heap [] := va_S.rf
  have hl : lv_has ls 5 [(0, .ref (a 0)), (1, .ref x1), (2, .ref x2), (3, .int x3)] := hl
  obtain ⟨hx, hb, hml, hown, hts⟩ := id X
  have hin1 : ∀ w ∈ wsX10, w ∈ wsX1_shuntOnto := by decide +kernel
  have hin0 : ∀ w ∈ wsX00, w ∈ wsX1_shuntOnto := by decide +kernel
  refine lv_aload_n hx hb dX1_shuntOnto_0 rfl (lv_at hl 2 rfl) ?_
  refine lv_ifnonnull (tgt := 7) hx hb dX1_shuntOnto_1 (by decide) ?_
  refine lv_aload_n hx hb dX1_shuntOnto_7 rfl (lv_at hl 0 rfl) ?_
  refine lv_aload_n hx hb dX1_shuntOnto_8 rfl (lv_at hl 2 rfl) ?_
  obtain ⟨r1, z1, hG1, hF⟩ := o_b hF
  refine cl_V (C := RX1) (rest := []) X hK hN hA hP hD hS (kX1_claim l G cy cyO a z0 x2 r1 z1 hG1) (cwV 1 hts gX1_shuntOnto_X1_claim rfl rfl rfl (by decide +kernel) ⟨Nat.le_of_ble_eq_true rfl, Nat.le_of_ble_eq_true rfl⟩) (va_recv hK hP (ci := 1) (q0 := 0) rfl rfl) rfl hl.1 rfl (Nat.le_of_ble_eq_true rfl) dX1_shuntOnto_9 ⟨Nat.zero_le _, Nat.zero_le _⟩ (fun H locs hP hD hS => ?_)
  refine W.eq (g2 := F0 m 12 ls []) rfl ?_
  refine lv_iconst (v := 0) hx hb dX1_shuntOnto_12 (by decide) ?_
  refine lv_istore (lv' := [(4, .int 0), (0, .ref (a 0)), (1, .ref x1), (2, .ref x2), (3, .int x3)]) hx hb dX1_shuntOnto_13 hl (by decide) rfl (fun ls hl => ?_)
  refine lv_aload_n hx hb dX1_shuntOnto_15 rfl (lv_at hl 2 rfl) ?_
  obtain ⟨h2, hF⟩ := o_i hF
  refine cs_get X hin0 hK hN hP h2 4 (by decide) (by decide) (by decide) (v := .int (z1.1 x1 4)) rfl dX1_shuntOnto_16 ?_
  refine lv_iload_n hx hb dX1_shuntOnto_19 rfl (lv_at hl 4 rfl) ?_
  refine lv_icmp_lt (tgt := 59) hx hb dX1_shuntOnto_20 (by decide) (fun c3 => ?_) (fun c3 => ?_)
  · have hF := o_t c3 hF
    refine lv_aload_n hx hb dX1_shuntOnto_59 rfl (lv_at hl 1 rfl) ?_
    refine lv_aload_n hx hb dX1_shuntOnto_60 rfl (lv_at hl 3 rfl) ?_
    obtain ⟨r4, z4, hG4, hF⟩ := o_b hF
    refine cl_V (C := RX1) (rest := []) X hK hN hA hP hD hS (kX1_let l G cy cyO a z1 x2 r4 z4 hG4) (cwV 1 hts gX1_shuntOnto_X1_let rfl rfl rfl (by decide +kernel) ⟨Nat.le_of_ble_eq_true rfl, Nat.le_of_ble_eq_true rfl⟩) (va_recv hK hP (ci := 1) (q0 := 0) rfl rfl) rfl hl.1 rfl (Nat.le_of_ble_eq_true rfl) dX1_shuntOnto_61 ⟨Nat.zero_le _, Nat.zero_le _⟩ (fun H locs hP hD hS => ?_)
    refine W.eq (g2 := F0 m 64 ls []) rfl ?_
    refine lv_iload hx hb dX1_shuntOnto_64 (lv_at hl 0 rfl) ?_
    obtain ⟨rfl, rfl⟩ := o_s hF
    exact rt_i X hr hlocks hP hD hS dX1_shuntOnto_66
  · have hF := o_f c3 hF
    refine lv_aload_n hx hb dX1_shuntOnto_23 rfl (lv_at hl 2 rfl) ?_
    refine lv_aload_n hx hb dX1_shuntOnto_24 rfl (lv_at hl 3 rfl) ?_
    refine lv_acmp_eq (rx := (some x1)) (ry := (some x2)) (tgt := 36) hx hb dX1_shuntOnto_25 (by decide) (fun c5 => ?_) (fun c5 => ?_)
    · have hF := o_t c5 hF
      exact jX1_shuntOnto_36 X hr hlocks hK hN hA z1 x1 x2 x3 hF H locs hP hD hS ls (lv_sub hl [1, 2, 3, 4] rfl)
    · have hF := o_f c5 hF
      refine lv_aload_n hx hb dX1_shuntOnto_28 rfl (lv_at hl 3 rfl) ?_
      refine lv_iload_n hx hb dX1_shuntOnto_29 rfl (lv_at hl 4 rfl) ?_
      obtain ⟨h7, hF⟩ := o_i hF
      obtain ⟨r6, z6, hG6, hF⟩ := o_b hF
      refine cl_N (C := RX0) (rest := []) X hK hN hA hP hD hS (kX0_hasRoomFor l G cy cyO a z1 x2 x3 r6 z6 hG6) ⟨va_cnB 1 hts gX1_shuntOnto_X0_hasRoomFor_n139 rfl rfl rfl (hN.2 (139, yX0_hasRoomFor) (by decide +kernel)) (hts (.initialized RX0) (by decide +kernel)) (by decide +kernel) ⟨Nat.le_of_ble_eq_true rfl, Nat.le_of_ble_eq_true rfl⟩, hts (.instanceMethod yX0_hasRoomFor) (by decide +kernel), hts (.selects RX0 yX0_hasRoomFor yX0_hasRoomFor) (by decide +kernel)⟩ (cs_recv hK hP h7) rfl hl.1 rfl (Nat.le_of_ble_eq_true rfl) dX1_shuntOnto_30 ⟨Nat.zero_le _, Nat.zero_le _⟩ (fun H locs hP hD hS => ?_)
      refine W.eq (g2 := F0 m 33 ls [.int r6]) rfl ?_
      refine lv_if_eq (tgt := 59) hx hb dX1_shuntOnto_33 (by decide) (fun c8 => ?_) (fun c8 => ?_)
      · have hF := o_t c8 hF
        refine lv_aload_n hx hb dX1_shuntOnto_59 rfl (lv_at hl 1 rfl) ?_
        refine lv_aload_n hx hb dX1_shuntOnto_60 rfl (lv_at hl 3 rfl) ?_
        obtain ⟨r9, z9, hG9, hF⟩ := o_b hF
        refine cl_V (C := RX1) (rest := []) X hK hN hA hP hD hS (kX1_let l G cy cyO a z6 x2 r9 z9 hG9) (cwV 1 hts gX1_shuntOnto_X1_let rfl rfl rfl (by decide +kernel) ⟨Nat.le_of_ble_eq_true rfl, Nat.le_of_ble_eq_true rfl⟩) (va_recv hK hP (ci := 1) (q0 := 0) rfl rfl) rfl hl.1 rfl (Nat.le_of_ble_eq_true rfl) dX1_shuntOnto_61 ⟨Nat.zero_le _, Nat.zero_le _⟩ (fun H locs hP hD hS => ?_)
        refine W.eq (g2 := F0 m 64 ls []) rfl ?_
        refine lv_iload hx hb dX1_shuntOnto_64 (lv_at hl 0 rfl) ?_
        obtain ⟨rfl, rfl⟩ := o_s hF
        exact rt_i X hr hlocks hP hD hS dX1_shuntOnto_66
      · have hF := o_f c8 hF
        exact jX1_shuntOnto_36 X hr hlocks hK hN hA z6 x1 x2 x3 hF H locs hP hD hS ls (lv_sub hl [1, 2, 3, 4] rfl)
def fX1_shuntOntoN (z0 : SC) (x1 : Nat) (x3 : Int32) : Option (Int32 × SC) := some ((-11), z0)
set_option maxRecDepth 100000 in
set_option maxHeartbeats 4000000 in
theorem kX1_shuntOntoN (l : Launch) (G : va_G) (cy cyO : ClassId) (a : Nat → Nat) (z0 : SC) (x1 : Nat) (x3 : Int32) (r : Int32) (u : SC) (hF : fX1_shuntOntoN z0 x1 x3 = some (r, u)) : Ct l G (tys_ cy cyO) yX1_shuntOnto wsX1_shuntOnto ({ frames := 0, cells := 0, slots := 0, locals := 0 } : Room) [.ref (a 0), .ref x1, .null, .int x3] (cW a cy cyO z0) (some (.int r)) (cW a cy cyO u) := by
  unfold fX1_shuntOntoN at hF
  refine ct_of (cc := cX1_shuntOnto) (maxL := 5) (ret := (some .int)) (own := RX1) (by decide) rfl (Nat.le_of_ble_eq_true rfl) rfl ?_
  intro p e s m below meth c A ls X hr hlocks _ hK hN hA hP hD hl
  have hS : va_S A s.heap s.heap [] := va_S.rf
  have hl : lv_has ls 5 [(0, .ref (a 0)), (1, .ref x1), (2, .null), (3, .int x3)] := hl
  obtain ⟨hx, hb, hml, hown, hts⟩ := id X
  have hin1 : ∀ w ∈ wsX10, w ∈ wsX1_shuntOnto := by decide +kernel
  have hin0 : ∀ w ∈ wsX00, w ∈ wsX1_shuntOnto := by decide +kernel
  refine lv_aload_nN hx hb dX1_shuntOnto_0 rfl (lv_at hl 2 rfl) ?_
  refine lv_ifnonnullN hx hb dX1_shuntOnto_1 ?_
  refine lv_bipush (v := (-11)) hx hb dX1_shuntOnto_4 (by decide) ?_
  obtain ⟨rfl, rfl⟩ := o_s hF
  exact rt_i X hr hlocks hP hD hS dX1_shuntOnto_6
def fX1_shunt (z0 : SC) (x1 : Int32) (x2 : Int32) (x3 : Int32) : Option (Int32 × SC) := bd_ (fX1_isPlace z0 x1) (fun r1 z1 => (if r1 = 0 then some ((-1), z1) else bd_ (fX1_isPlace z1 x2) (fun r3 z3 => (if r3 = 0 then some ((-1), z3) else bd_ (fX1_isAxles z3 x3) (fun r5 z5 => (if r5 = 0 then some ((-1), z5) else let_ ((z5.1, z5.2.1, z5.2.2.1, z5.2.2.2.1, z5.2.2.2.2.1, z5.2.2.2.2.2.1, 0, z5.2.2.2.2.2.2.2) : SC) (fun z7 => if x1 < 0 ∨ 12 ≤ x1.toNatClampNeg then none else (opt_ (z7.2.2.1 x1.toNatClampNeg) (some ((-11), z7)) (fun b8 => bd_ (fX1_claim z7 b8) (fun r9 z9 => if x2 < 0 ∨ 12 ≤ x2.toNatClampNeg then none else (opt_ (z9.2.2.1 x2.toNatClampNeg) (bd_ (fX1_shuntOntoN z9 b8 x3) (fun r11 z11 => bd_ (fX1_let z11 b8) (fun r12 z12 => some (r11, z12)))) (fun b10 => bd_ (fX1_shuntOnto z9 b8 b10 x3) (fun r13 z13 => bd_ (fX1_let z13 b8) (fun r14 z14 => some (r13, z14)))))))))))))))
set_option maxRecDepth 100000 in
set_option maxHeartbeats 4000000 in
theorem kX1_shunt (l : Launch) (G : va_G) (cy cyO : ClassId) (a : Nat → Nat) (z0 : SC) (x1 : Int32) (x2 : Int32) (x3 : Int32) (r : Int32) (u : SC) (hF : fX1_shunt z0 x1 x2 x3 = some (r, u)) : Ct l G (tys_ cy cyO) yX1_shunt wsX1_shunt ({ frames := 2, cells := 0, slots := 0, locals := 45 } : Room) [.ref (a 0), .int x1, .int x2, .int x3] (cW a cy cyO z0) (some (.int r)) (cW a cy cyO u) := by
  unfold fX1_shunt at hF
  refine ct_of (cc := cX1_shunt) (maxL := 6) (ret := (some .int)) (own := RX1) (by decide) rfl (Nat.le_of_ble_eq_true rfl) rfl ?_
  intro p e s m below meth c A ls X hr hlocks _ hK hN hA hP hD hl
  have hS : va_S A s.heap s.heap [] := va_S.rf
  have hl : lv_has ls 6 [(0, .ref (a 0)), (1, .int x1), (2, .int x2), (3, .int x3)] := hl
  obtain ⟨hx, hb, hml, hown, hts⟩ := id X
  have hin1 : ∀ w ∈ wsX10, w ∈ wsX1_shunt := by decide +kernel
  refine lv_iload_n hx hb dX1_shunt_0 rfl (lv_at hl 1 rfl) ?_
  obtain ⟨r1, z1, hG1, hF⟩ := o_b hF
  refine cl_S (rest := []) X hK hN hA hP hD hS (kX1_isPlace l G cy cyO a z0 x1 r1 z1 hG1) (va_cwS 1 hts gX1_shunt_X1_isPlace rfl rfl rfl (by decide +kernel) ⟨Nat.le_of_ble_eq_true rfl, Nat.le_of_ble_eq_true rfl⟩) rfl hl.1 rfl (Nat.le_of_ble_eq_true rfl) dX1_shunt_1 ⟨Nat.zero_le _, Nat.zero_le _⟩ (fun H locs hP hD hS => ?_)
  refine W.eq (g2 := F0 m 4 ls [.int r1]) rfl ?_
  refine lv_if_eq (tgt := 21) hx hb dX1_shunt_4 (by decide) (fun c2 => ?_) (fun c2 => ?_)
  · have hF := o_t c2 hF
    refine lv_iconst (v := (-1)) hx hb dX1_shunt_21 (by decide) ?_
    obtain ⟨rfl, rfl⟩ := o_s hF
    exact rt_i X hr hlocks hP hD hS dX1_shunt_22
  · have hF := o_f c2 hF
    refine lv_iload_n hx hb dX1_shunt_7 rfl (lv_at hl 2 rfl) ?_
    obtain ⟨r3, z3, hG3, hF⟩ := o_b hF
    refine cl_S (rest := []) X hK hN hA hP hD hS (kX1_isPlace l G cy cyO a z1 x2 r3 z3 hG3) (va_cwS 1 hts gX1_shunt_X1_isPlace rfl rfl rfl (by decide +kernel) ⟨Nat.le_of_ble_eq_true rfl, Nat.le_of_ble_eq_true rfl⟩) rfl hl.1 rfl (Nat.le_of_ble_eq_true rfl) dX1_shunt_8 ⟨Nat.zero_le _, Nat.zero_le _⟩ (fun H locs hP hD hS => ?_)
    refine W.eq (g2 := F0 m 11 ls [.int r3]) rfl ?_
    refine lv_if_eq (tgt := 21) hx hb dX1_shunt_11 (by decide) (fun c4 => ?_) (fun c4 => ?_)
    · have hF := o_t c4 hF
      refine lv_iconst (v := (-1)) hx hb dX1_shunt_21 (by decide) ?_
      obtain ⟨rfl, rfl⟩ := o_s hF
      exact rt_i X hr hlocks hP hD hS dX1_shunt_22
    · have hF := o_f c4 hF
      refine lv_iload_n hx hb dX1_shunt_14 rfl (lv_at hl 3 rfl) ?_
      obtain ⟨r5, z5, hG5, hF⟩ := o_b hF
      refine cl_S (rest := []) X hK hN hA hP hD hS (kX1_isAxles l G cy cyO a z3 x3 r5 z5 hG5) (va_cwS 1 hts gX1_shunt_X1_isAxles rfl rfl rfl (by decide +kernel) ⟨Nat.le_of_ble_eq_true rfl, Nat.le_of_ble_eq_true rfl⟩) rfl hl.1 rfl (Nat.le_of_ble_eq_true rfl) dX1_shunt_15 ⟨Nat.zero_le _, Nat.zero_le _⟩ (fun H locs hP hD hS => ?_)
      refine W.eq (g2 := F0 m 18 ls [.int r5]) rfl ?_
      refine lv_if_ne (tgt := 23) hx hb dX1_shunt_18 (by decide) (fun c6 => ?_) (fun c6 => ?_)
      · have hF := o_f c6 hF
        refine lv_aload_n hx hb dX1_shunt_23 rfl (lv_at hl 0 rfl) ?_
        refine lv_iconst (v := 0) hx hb dX1_shunt_24 (by decide) ?_
        refine va_put (D := G) (ci := 1) (v := .int 0) (ty := .int) (C := RX1) (T := TX1) (N := 10) hx hb hts hin1 tyX1 tyX1_ok nmX1 hown hK hP hD hS 0 rfl rfl 4 (by decide) (hts (.fieldLink RX1 54 "SignalBox" "traceLength" "I") (by decide +kernel)) (fun _ h9 => h9) rfl (by decide +kernel) rfl rfl (Nat.le_of_ble_eq_true rfl) dX1_shunt_25 (fun H locs hP hD hS => ?_)
        obtain ⟨z7, e7, hF⟩ := o_l hF
        have hP : va_P G vwCl (cW a cy cyO z7) H := by rw [e7]; exact hP
        have hD : va_D A (cW a cy cyO z7) := by rw [e7]; exact hD
        refine lv_aload_n hx hb dX1_shunt_28 rfl (lv_at hl 0 rfl) ?_
        refine va_get (D := G) (ci := 1) (v := .ref (a 1)) (C := RX1) (T := TX1) (N := 10) hx hb hts hin1 hown hK hP 0 rfl rfl 0 (by decide) (hts (.fieldLink RX1 11 "SignalBox" "standing" "[LSignalBox$Section;") (by decide +kernel)) (fun _ h9 => h9) rfl dX1_shunt_29 ?_
        refine lv_iload_n hx hb dX1_shunt_32 rfl (lv_at hl 1 rfl) ?_
        obtain ⟨h8, hF⟩ := o_n hF
        refine va_aldq (n := 12) (f := z7.2.2.1) (cA := cyO) (C := RX0) hx hb hK hP 1 1 rfl rfl h8 dX1_shunt_33 ?_
        rcases ho8 : z7.2.2.1 x1.toNatClampNeg with _ | b8
        · have hF := o_mn ho8 hF
          refine w_none rfl ?_
          refine lv_astoreN (lv' := [(4, .null), (0, .ref (a 0)), (1, .int x1), (2, .int x2), (3, .int x3)]) hx hb dX1_shunt_34 hl (by decide) rfl (fun ls hl => ?_)
          refine lv_aloadN hx hb dX1_shunt_36 (lv_at hl 0 rfl) ?_
          refine lv_ifnonnullN hx hb dX1_shunt_38 ?_
          refine lv_bipush (v := (-11)) hx hb dX1_shunt_41 (by decide) ?_
          obtain ⟨rfl, rfl⟩ := o_s hF
          exact rt_i X hr hlocks hP hD hS dX1_shunt_43
        · have hF := o_ms ho8 hF
          refine w_some rfl ?_
          refine lv_astore (lv' := [(4, .ref b8), (0, .ref (a 0)), (1, .int x1), (2, .int x2), (3, .int x3)]) hx hb dX1_shunt_34 hl (by decide) rfl (fun ls hl => ?_)
          refine lv_aload hx hb dX1_shunt_36 (lv_at hl 0 rfl) ?_
          refine lv_ifnonnull (tgt := 44) hx hb dX1_shunt_38 (by decide) ?_
          refine lv_aload_n hx hb dX1_shunt_44 rfl (lv_at hl 1 rfl) ?_
          refine lv_aload hx hb dX1_shunt_45 (lv_at hl 0 rfl) ?_
          obtain ⟨r9, z9, hG9, hF⟩ := o_b hF
          refine cl_V (C := RX1) (rest := []) X hK hN hA hP hD hS (kX1_claim l G cy cyO a z7 b8 r9 z9 hG9) (cwV 1 hts gX1_shunt_X1_claim rfl rfl rfl (by decide +kernel) ⟨Nat.le_of_ble_eq_true rfl, Nat.le_of_ble_eq_true rfl⟩) (va_recv hK hP (ci := 1) (q0 := 0) rfl rfl) rfl hl.1 rfl (Nat.le_of_ble_eq_true rfl) dX1_shunt_47 ⟨Nat.zero_le _, Nat.zero_le _⟩ (fun H locs hP hD hS => ?_)
          refine W.eq (g2 := F0 m 50 ls []) rfl ?_
          refine lv_aload_n hx hb dX1_shunt_50 rfl (lv_at hl 1 rfl) ?_
          refine lv_aload hx hb dX1_shunt_51 (lv_at hl 0 rfl) ?_
          refine lv_aload_n hx hb dX1_shunt_53 rfl (lv_at hl 1 rfl) ?_
          refine va_get (D := G) (ci := 1) (v := .ref (a 1)) (C := RX1) (T := TX1) (N := 10) hx hb hts hin1 hown hK hP 0 rfl rfl 0 (by decide) (hts (.fieldLink RX1 11 "SignalBox" "standing" "[LSignalBox$Section;") (by decide +kernel)) (fun _ h9 => h9) rfl dX1_shunt_54 ?_
          refine lv_iload_n hx hb dX1_shunt_57 rfl (lv_at hl 3 rfl) ?_
          obtain ⟨h10, hF⟩ := o_n hF
          refine va_aldq (n := 12) (f := z9.2.2.1) (cA := cyO) (C := RX0) hx hb hK hP 1 1 rfl rfl h10 dX1_shunt_58 ?_
          rcases ho10 : z9.2.2.1 x2.toNatClampNeg with _ | b10
          · have hF := o_mn ho10 hF
            refine w_none rfl ?_
            refine lv_iload_n hx hb dX1_shunt_59 rfl (lv_at hl 4 rfl) ?_
            obtain ⟨r11, z11, hG11, hF⟩ := o_b hF
            refine cl_V (C := RX1) (rest := []) X hK hN hA hP hD hS (kX1_shuntOntoN l G cy cyO a z9 b8 x3 r11 z11 hG11) (cwV 3 hts gX1_shunt_X1_shuntOnto rfl rfl rfl (by decide +kernel) ⟨Nat.le_of_ble_eq_true rfl, Nat.le_of_ble_eq_true rfl⟩) (va_recv hK hP (ci := 1) (q0 := 0) rfl rfl) rfl hl.1 rfl (Nat.le_of_ble_eq_true rfl) dX1_shunt_60 ⟨Nat.zero_le _, Nat.zero_le _⟩ (fun H locs hP hD hS => ?_)
            refine W.eq (g2 := F0 m 63 ls [.int r11]) rfl ?_
            refine lv_istore (lv' := [(5, .int r11), (4, .ref b8), (0, .ref (a 0)), (1, .int x1), (2, .int x2), (3, .int x3)]) hx hb dX1_shunt_63 hl (by decide) rfl (fun ls hl => ?_)
            refine lv_aload_n hx hb dX1_shunt_65 rfl (lv_at hl 2 rfl) ?_
            refine lv_aload hx hb dX1_shunt_66 (lv_at hl 1 rfl) ?_
            obtain ⟨r12, z12, hG12, hF⟩ := o_b hF
            refine cl_V (C := RX1) (rest := []) X hK hN hA hP hD hS (kX1_let l G cy cyO a z11 b8 r12 z12 hG12) (cwV 1 hts gX1_shunt_X1_let rfl rfl rfl (by decide +kernel) ⟨Nat.le_of_ble_eq_true rfl, Nat.le_of_ble_eq_true rfl⟩) (va_recv hK hP (ci := 1) (q0 := 0) rfl rfl) rfl hl.1 rfl (Nat.le_of_ble_eq_true rfl) dX1_shunt_68 ⟨Nat.zero_le _, Nat.zero_le _⟩ (fun H locs hP hD hS => ?_)
            refine W.eq (g2 := F0 m 71 ls []) rfl ?_
            refine lv_iload hx hb dX1_shunt_71 (lv_at hl 0 rfl) ?_
            obtain ⟨rfl, rfl⟩ := o_s hF
            exact rt_i X hr hlocks hP hD hS dX1_shunt_73
          · have hF := o_ms ho10 hF
            refine w_some rfl ?_
            refine lv_iload_n hx hb dX1_shunt_59 rfl (lv_at hl 4 rfl) ?_
            obtain ⟨r13, z13, hG13, hF⟩ := o_b hF
            refine cl_V (C := RX1) (rest := []) X hK hN hA hP hD hS (kX1_shuntOnto l G cy cyO a z9 b8 b10 x3 r13 z13 hG13) (cwV 3 hts gX1_shunt_X1_shuntOnto rfl rfl rfl (by decide +kernel) ⟨Nat.le_of_ble_eq_true rfl, Nat.le_of_ble_eq_true rfl⟩) (va_recv hK hP (ci := 1) (q0 := 0) rfl rfl) rfl hl.1 rfl (Nat.le_of_ble_eq_true rfl) dX1_shunt_60 ⟨Nat.zero_le _, Nat.zero_le _⟩ (fun H locs hP hD hS => ?_)
            refine W.eq (g2 := F0 m 63 ls [.int r13]) rfl ?_
            refine lv_istore (lv' := [(5, .int r13), (4, .ref b8), (0, .ref (a 0)), (1, .int x1), (2, .int x2), (3, .int x3)]) hx hb dX1_shunt_63 hl (by decide) rfl (fun ls hl => ?_)
            refine lv_aload_n hx hb dX1_shunt_65 rfl (lv_at hl 2 rfl) ?_
            refine lv_aload hx hb dX1_shunt_66 (lv_at hl 1 rfl) ?_
            obtain ⟨r14, z14, hG14, hF⟩ := o_b hF
            refine cl_V (C := RX1) (rest := []) X hK hN hA hP hD hS (kX1_let l G cy cyO a z13 b8 r14 z14 hG14) (cwV 1 hts gX1_shunt_X1_let rfl rfl rfl (by decide +kernel) ⟨Nat.le_of_ble_eq_true rfl, Nat.le_of_ble_eq_true rfl⟩) (va_recv hK hP (ci := 1) (q0 := 0) rfl rfl) rfl hl.1 rfl (Nat.le_of_ble_eq_true rfl) dX1_shunt_68 ⟨Nat.zero_le _, Nat.zero_le _⟩ (fun H locs hP hD hS => ?_)
            refine W.eq (g2 := F0 m 71 ls []) rfl ?_
            refine lv_iload hx hb dX1_shunt_71 (lv_at hl 0 rfl) ?_
            obtain ⟨rfl, rfl⟩ := o_s hF
            exact rt_i X hr hlocks hP hD hS dX1_shunt_73
      · have hF := o_t c6 hF
        refine lv_iconst (v := (-1)) hx hb dX1_shunt_21 (by decide) ?_
        obtain ⟨rfl, rfl⟩ := o_s hF
        exact rt_i X hr hlocks hP hD hS dX1_shunt_22
end
section
def fX1_share (z0 : SC) (x1 : Int32) (x2 : Int32) : Option (Int32 × SC) := bd_ (fX1_isPlace z0 x1) (fun r1 z1 => (if r1 = 0 then some ((-1), z1) else bd_ (fX1_isPlace z1 x2) (fun r3 z3 => (if r3 = 0 then some ((-1), z3) else if x1 < 0 ∨ 12 ≤ x1.toNatClampNeg then none else (opt_ (z3.2.2.1 x1.toNatClampNeg) (if x2 < 0 ∨ 12 ≤ x2.toNatClampNeg then none else let_ ((z3.1, z3.2.1, (va_up z3.2.2.1 x2.toNatClampNeg none), z3.2.2.2) : SC) (fun z7 => if x2 < 0 ∨ 12 ≤ x2.toNatClampNeg then none else (opt_ (z7.2.2.1 x2.toNatClampNeg) (some (0, z7)) (fun b8 => some (1, z7))))) (fun b5 => if x2 < 0 ∨ 12 ≤ x2.toNatClampNeg then none else if b5 ∈ z3.2.1 then let_ ((z3.1, z3.2.1, (va_up z3.2.2.1 x2.toNatClampNeg (some b5)), z3.2.2.2) : SC) (fun z11 => if x2 < 0 ∨ 12 ≤ x2.toNatClampNeg then none else (opt_ (z11.2.2.1 x2.toNatClampNeg) (some (0, z11)) (fun b12 => some (1, z11)))) else none))))))
set_option maxRecDepth 100000 in
set_option maxHeartbeats 4000000 in
theorem kX1_share (l : Launch) (G : va_G) (cy cyO : ClassId) (a : Nat → Nat) (z0 : SC) (x1 : Int32) (x2 : Int32) (r : Int32) (u : SC) (hF : fX1_share z0 x1 x2 = some (r, u)) : Ct l G (tys_ cy cyO) yX1_share wsX1_share ({ frames := 1, cells := 0, slots := 0, locals := 20 } : Room) [.ref (a 0), .int x1, .int x2] (cW a cy cyO z0) (some (.int r)) (cW a cy cyO u) := by
  unfold fX1_share at hF
  refine ct_of (cc := cX1_share) (maxL := 3) (ret := (some .int)) (own := RX1) (by decide) rfl (Nat.le_of_ble_eq_true rfl) rfl ?_
  intro p e s m below meth c A ls X hr hlocks _ hK hN hA hP hD hl
  have hS : va_S A s.heap s.heap [] := va_S.rf
  have hl : lv_has ls 3 [(0, .ref (a 0)), (1, .int x1), (2, .int x2)] := hl
  obtain ⟨hx, hb, hml, hown, hts⟩ := id X
  have hin1 : ∀ w ∈ wsX10, w ∈ wsX1_share := by decide +kernel
  refine lv_iload_n hx hb dX1_share_0 rfl (lv_at hl 1 rfl) ?_
  obtain ⟨r1, z1, hG1, hF⟩ := o_b hF
  refine cl_S (rest := []) X hK hN hA hP hD hS (kX1_isPlace l G cy cyO a z0 x1 r1 z1 hG1) (va_cwS 1 hts gX1_share_X1_isPlace rfl rfl rfl (by decide +kernel) ⟨Nat.le_of_ble_eq_true rfl, Nat.le_of_ble_eq_true rfl⟩) rfl hl.1 rfl (Nat.le_of_ble_eq_true rfl) dX1_share_1 ⟨Nat.zero_le _, Nat.zero_le _⟩ (fun H locs hP hD hS => ?_)
  refine W.eq (g2 := F0 m 4 ls [.int r1]) rfl ?_
  refine lv_if_eq (tgt := 14) hx hb dX1_share_4 (by decide) (fun c2 => ?_) (fun c2 => ?_)
  · have hF := o_t c2 hF
    refine lv_iconst (v := (-1)) hx hb dX1_share_14 (by decide) ?_
    obtain ⟨rfl, rfl⟩ := o_s hF
    exact rt_i X hr hlocks hP hD hS dX1_share_15
  · have hF := o_f c2 hF
    refine lv_iload_n hx hb dX1_share_7 rfl (lv_at hl 2 rfl) ?_
    obtain ⟨r3, z3, hG3, hF⟩ := o_b hF
    refine cl_S (rest := []) X hK hN hA hP hD hS (kX1_isPlace l G cy cyO a z1 x2 r3 z3 hG3) (va_cwS 1 hts gX1_share_X1_isPlace rfl rfl rfl (by decide +kernel) ⟨Nat.le_of_ble_eq_true rfl, Nat.le_of_ble_eq_true rfl⟩) rfl hl.1 rfl (Nat.le_of_ble_eq_true rfl) dX1_share_8 ⟨Nat.zero_le _, Nat.zero_le _⟩ (fun H locs hP hD hS => ?_)
    refine W.eq (g2 := F0 m 11 ls [.int r3]) rfl ?_
    refine lv_if_ne (tgt := 16) hx hb dX1_share_11 (by decide) (fun c4 => ?_) (fun c4 => ?_)
    · have hF := o_f c4 hF
      refine lv_aload_n hx hb dX1_share_16 rfl (lv_at hl 0 rfl) ?_
      refine va_get (D := G) (ci := 1) (v := .ref (a 1)) (C := RX1) (T := TX1) (N := 10) hx hb hts hin1 hown hK hP 0 rfl rfl 0 (by decide) (hts (.fieldLink RX1 11 "SignalBox" "standing" "[LSignalBox$Section;") (by decide +kernel)) (fun _ h9 => h9) rfl dX1_share_17 ?_
      refine lv_iload_n hx hb dX1_share_20 rfl (lv_at hl 2 rfl) ?_
      refine lv_aload_n hx hb dX1_share_21 rfl (lv_at hl 0 rfl) ?_
      refine va_get (D := G) (ci := 1) (v := .ref (a 1)) (C := RX1) (T := TX1) (N := 10) hx hb hts hin1 hown hK hP 0 rfl rfl 0 (by decide) (hts (.fieldLink RX1 11 "SignalBox" "standing" "[LSignalBox$Section;") (by decide +kernel)) (fun _ h9 => h9) rfl dX1_share_22 ?_
      refine lv_iload_n hx hb dX1_share_25 rfl (lv_at hl 1 rfl) ?_
      obtain ⟨h5, hF⟩ := o_n hF
      refine va_aldq (n := 12) (f := z3.2.2.1) (cA := cyO) (C := RX0) hx hb hK hP 1 1 rfl rfl h5 dX1_share_26 ?_
      rcases ho5 : z3.2.2.1 x1.toNatClampNeg with _ | b5
      · have hF := o_mn ho5 hF
        refine w_none rfl ?_
        obtain ⟨h6, hF⟩ := o_n hF
        refine va_astqN (n := 12) (f := z3.2.2.1) (cA := cyO) (C := RX0) hx hb hK hP hD hS 1 1 rfl rfl h6 dX1_share_27 (fun H locs hP hD hS => ?_)
        obtain ⟨z7, e7, hF⟩ := o_l hF
        have hP : va_P G vwCl (cW a cy cyO z7) H := by rw [e7]; exact hP
        have hD : va_D A (cW a cy cyO z7) := by rw [e7]; exact hD
        refine lv_aload_n hx hb dX1_share_28 rfl (lv_at hl 0 rfl) ?_
        refine va_get (D := G) (ci := 1) (v := .ref (a 1)) (C := RX1) (T := TX1) (N := 10) hx hb hts hin1 hown hK hP 0 rfl rfl 0 (by decide) (hts (.fieldLink RX1 11 "SignalBox" "standing" "[LSignalBox$Section;") (by decide +kernel)) (fun _ h9 => h9) rfl dX1_share_29 ?_
        refine lv_iload_n hx hb dX1_share_32 rfl (lv_at hl 2 rfl) ?_
        obtain ⟨h8, hF⟩ := o_n hF
        refine va_aldq (n := 12) (f := z7.2.2.1) (cA := cyO) (C := RX0) hx hb hK hP 1 1 rfl rfl h8 dX1_share_33 ?_
        rcases ho8 : z7.2.2.1 x2.toNatClampNeg with _ | b8
        · have hF := o_mn ho8 hF
          refine w_none rfl ?_
          refine lv_ifnullN (tgt := 41) hx hb dX1_share_34 (by decide) ?_
          refine lv_iconst (v := 0) hx hb dX1_share_41 (by decide) ?_
          obtain ⟨rfl, rfl⟩ := o_s hF
          exact rt_i X hr hlocks hP hD hS dX1_share_42
        · have hF := o_ms ho8 hF
          refine w_some rfl ?_
          refine lv_ifnull hx hb dX1_share_34 ?_
          refine lv_iconst (v := 1) hx hb dX1_share_37 (by decide) ?_
          refine lv_goto (tgt := 42) hx hb dX1_share_38 (by decide) ?_
          obtain ⟨rfl, rfl⟩ := o_s hF
          exact rt_i X hr hlocks hP hD hS dX1_share_42
      · have hF := o_ms ho5 hF
        refine w_some rfl ?_
        obtain ⟨h9, hF⟩ := o_n hF
        obtain ⟨h10, hF⟩ := o_i hF
        obtain ⟨q10, hq10⟩ := cW_at (a := a) (cy := cy) (cyO := cyO) h10
        refine va_astq (r := (RX0, TX0, 9)) (n := 12) (f := z3.2.2.1) (cA := cyO) hx hb hK hP hD hS 1 1 q10 0 rfl rfl hq10 rfl h9 dX1_share_27 (fun H locs hP hD hS => ?_)
        obtain ⟨z11, e11, hF⟩ := o_l hF
        have hP : va_P G vwCl (cW a cy cyO z11) H := by rw [e11]; exact hP
        have hD : va_D A (cW a cy cyO z11) := by rw [e11]; exact hD
        refine lv_aload_n hx hb dX1_share_28 rfl (lv_at hl 0 rfl) ?_
        refine va_get (D := G) (ci := 1) (v := .ref (a 1)) (C := RX1) (T := TX1) (N := 10) hx hb hts hin1 hown hK hP 0 rfl rfl 0 (by decide) (hts (.fieldLink RX1 11 "SignalBox" "standing" "[LSignalBox$Section;") (by decide +kernel)) (fun _ h9 => h9) rfl dX1_share_29 ?_
        refine lv_iload_n hx hb dX1_share_32 rfl (lv_at hl 2 rfl) ?_
        obtain ⟨h12, hF⟩ := o_n hF
        refine va_aldq (n := 12) (f := z11.2.2.1) (cA := cyO) (C := RX0) hx hb hK hP 1 1 rfl rfl h12 dX1_share_33 ?_
        rcases ho12 : z11.2.2.1 x2.toNatClampNeg with _ | b12
        · have hF := o_mn ho12 hF
          refine w_none rfl ?_
          refine lv_ifnullN (tgt := 41) hx hb dX1_share_34 (by decide) ?_
          refine lv_iconst (v := 0) hx hb dX1_share_41 (by decide) ?_
          obtain ⟨rfl, rfl⟩ := o_s hF
          exact rt_i X hr hlocks hP hD hS dX1_share_42
        · have hF := o_ms ho12 hF
          refine w_some rfl ?_
          refine lv_ifnull hx hb dX1_share_34 ?_
          refine lv_iconst (v := 1) hx hb dX1_share_37 (by decide) ?_
          refine lv_goto (tgt := 42) hx hb dX1_share_38 (by decide) ?_
          obtain ⟨rfl, rfl⟩ := o_s hF
          exact rt_i X hr hlocks hP hD hS dX1_share_42
    · have hF := o_t c4 hF
      refine lv_iconst (v := (-1)) hx hb dX1_share_14 (by decide) ?_
      obtain ⟨rfl, rfl⟩ := o_s hF
      exact rt_i X hr hlocks hP hD hS dX1_share_15
def fX1_remove_j23 (z0 : SC) (y1 : Int32) (t0 : Int32) : Option (Int32 × SC) := if y1 < 0 ∨ 12 ≤ y1.toNatClampNeg then none else let_ ((z0.1, z0.2.1, (va_up z0.2.2.1 y1.toNatClampNeg none), z0.2.2.2) : SC) (fun z2 => some (t0, z2))
set_option maxRecDepth 100000 in
set_option maxHeartbeats 4000000 in
theorem jX1_remove_23 {p : Program} {l : Launch} {e : Env} {s : State} {m : MethodId} {args : Array Value} {below : List Frame} {meth : Method} {c : Code} {G : va_G} {cy cyO : ClassId} {a : Nat → Nat} {A : Nat → Prop} {r : Int32} {u : SC} (X : CallFix p m c cX1_remove 3 s args wsX1_remove RX1) (hr : meth.sig.returnType = (some .int)) (hlocks : meth.locks = false) (hK : va_K G vwCl (tys_ cy cyO) s) (hN : nw s) (hA : ∀ q, s.heap.size ≤ q → A q) : ∀ (z0 : SC) (y1 : Int32) (t0 : Int32), fX1_remove_j23 z0 y1 t0 = some (r, u) → ∀ (H : Heap) (locs : List Loc), va_P G vwCl (cW a cy cyO z0) H → va_D A (cW a cy cyO z0) → va_S A s.heap H locs → ∀ (ls : Array Slot), lv_has ls 3 [(0, .ref (a 0)), (1, .int y1)] → W p l e ({ frames := 1, cells := 0, slots := 0, locals := 20 } : Room) s m args below meth c H locs 0 0 (MQ below (qg (some (.int r)) (fun t => wPost G A (cW a cy cyO u) t) A) args s 0 0 A) (F0 m 23 ls [.int t0]) := by
  obtain ⟨hx, hb, hml, hown, hts⟩ := id X
  have hin1 : ∀ w ∈ wsX10, w ∈ wsX1_remove := by decide +kernel
  intro z0 y1 t0 hF H locs hP hD hS ls hl
  unfold fX1_remove_j23 at hF
  refine lv_istore_n (lv' := [(2, .int t0), (0, .ref (a 0)), (1, .int y1)]) hx hb dX1_remove_23 rfl hl (by decide) rfl (fun ls hl => ?_)
  refine lv_aload_n hx hb dX1_remove_24 rfl (lv_at hl 1 rfl) ?_
  refine va_get (D := G) (ci := 1) (v := .ref (a 1)) (C := RX1) (T := TX1) (N := 10) hx hb hts hin1 hown hK hP 0 rfl rfl 0 (by decide) (hts (.fieldLink RX1 11 "SignalBox" "standing" "[LSignalBox$Section;") (by decide +kernel)) (fun _ h9 => h9) rfl dX1_remove_25 ?_
  refine lv_iload_n hx hb dX1_remove_28 rfl (lv_at hl 2 rfl) ?_
  refine lv_null hx hb dX1_remove_29 ?_
  obtain ⟨h1, hF⟩ := o_n hF
  refine va_astqN (n := 12) (f := z0.2.2.1) (cA := cyO) (C := RX0) hx hb hK hP hD hS 1 1 rfl rfl h1 dX1_remove_30 (fun H locs hP hD hS => ?_)
  obtain ⟨z2, e2, hF⟩ := o_l hF
  have hP : va_P G vwCl (cW a cy cyO z2) H := by rw [e2]; exact hP
  have hD : va_D A (cW a cy cyO z2) := by rw [e2]; exact hD
  refine lv_iload_n hx hb dX1_remove_31 rfl (lv_at hl 0 rfl) ?_
  obtain ⟨rfl, rfl⟩ := o_s hF
  exact rt_i X hr hlocks hP hD hS dX1_remove_32
def fX1_remove (z0 : SC) (x1 : Int32) : Option (Int32 × SC) := bd_ (fX1_isPlace z0 x1) (fun r1 z1 => (if r1 = 0 then some ((-1), z1) else if x1 < 0 ∨ 12 ≤ x1.toNatClampNeg then none else (opt_ (z1.2.2.1 x1.toNatClampNeg) ((fX1_remove_j23 z1 x1 0)) (fun b3 => (fX1_remove_j23 z1 x1 1)))))
set_option maxRecDepth 100000 in
set_option maxHeartbeats 4000000 in
theorem kX1_remove (l : Launch) (G : va_G) (cy cyO : ClassId) (a : Nat → Nat) (z0 : SC) (x1 : Int32) (r : Int32) (u : SC) (hF : fX1_remove z0 x1 = some (r, u)) : Ct l G (tys_ cy cyO) yX1_remove wsX1_remove ({ frames := 1, cells := 0, slots := 0, locals := 20 } : Room) [.ref (a 0), .int x1] (cW a cy cyO z0) (some (.int r)) (cW a cy cyO u) := by
  unfold fX1_remove at hF
  refine ct_of (cc := cX1_remove) (maxL := 3) (ret := (some .int)) (own := RX1) (by decide) rfl (Nat.le_of_ble_eq_true rfl) rfl ?_
  intro p e s m below meth c A ls X hr hlocks _ hK hN hA hP hD hl
  have hS : va_S A s.heap s.heap [] := va_S.rf
  have hl : lv_has ls 3 [(0, .ref (a 0)), (1, .int x1)] := hl
  obtain ⟨hx, hb, hml, hown, hts⟩ := id X
  have hin1 : ∀ w ∈ wsX10, w ∈ wsX1_remove := by decide +kernel
  refine lv_iload_n hx hb dX1_remove_0 rfl (lv_at hl 1 rfl) ?_
  obtain ⟨r1, z1, hG1, hF⟩ := o_b hF
  refine cl_S (rest := []) X hK hN hA hP hD hS (kX1_isPlace l G cy cyO a z0 x1 r1 z1 hG1) (va_cwS 1 hts gX1_remove_X1_isPlace rfl rfl rfl (by decide +kernel) ⟨Nat.le_of_ble_eq_true rfl, Nat.le_of_ble_eq_true rfl⟩) rfl hl.1 rfl (Nat.le_of_ble_eq_true rfl) dX1_remove_1 ⟨Nat.zero_le _, Nat.zero_le _⟩ (fun H locs hP hD hS => ?_)
  refine W.eq (g2 := F0 m 4 ls [.int r1]) rfl ?_
  refine lv_if_ne (tgt := 9) hx hb dX1_remove_4 (by decide) (fun c2 => ?_) (fun c2 => ?_)
  · have hF := o_f c2 hF
    refine lv_aload_n hx hb dX1_remove_9 rfl (lv_at hl 0 rfl) ?_
    refine va_get (D := G) (ci := 1) (v := .ref (a 1)) (C := RX1) (T := TX1) (N := 10) hx hb hts hin1 hown hK hP 0 rfl rfl 0 (by decide) (hts (.fieldLink RX1 11 "SignalBox" "standing" "[LSignalBox$Section;") (by decide +kernel)) (fun _ h9 => h9) rfl dX1_remove_10 ?_
    refine lv_iload_n hx hb dX1_remove_13 rfl (lv_at hl 1 rfl) ?_
    obtain ⟨h3, hF⟩ := o_n hF
    refine va_aldq (n := 12) (f := z1.2.2.1) (cA := cyO) (C := RX0) hx hb hK hP 1 1 rfl rfl h3 dX1_remove_14 ?_
    rcases ho3 : z1.2.2.1 x1.toNatClampNeg with _ | b3
    · have hF := o_mn ho3 hF
      refine w_none rfl ?_
      refine lv_ifnullN (tgt := 22) hx hb dX1_remove_15 (by decide) ?_
      refine lv_iconst (v := 0) hx hb dX1_remove_22 (by decide) ?_
      exact jX1_remove_23 X hr hlocks hK hN hA z1 x1 0 hF H locs hP hD hS ls (lv_sub hl [0, 1] rfl)
    · have hF := o_ms ho3 hF
      refine w_some rfl ?_
      refine lv_ifnull hx hb dX1_remove_15 ?_
      refine lv_iconst (v := 1) hx hb dX1_remove_18 (by decide) ?_
      refine lv_goto (tgt := 23) hx hb dX1_remove_19 (by decide) ?_
      exact jX1_remove_23 X hr hlocks hK hN hA z1 x1 1 hF H locs hP hD hS ls (lv_sub hl [0, 1] rfl)
  · have hF := o_t c2 hF
    refine lv_iconst (v := (-1)) hx hb dX1_remove_7 (by decide) ?_
    obtain ⟨rfl, rfl⟩ := o_s hF
    exact rt_i X hr hlocks hP hD hS dX1_remove_8
def fX1_same (z0 : SC) (x1 : Int32) (x2 : Int32) : Option (Int32 × SC) := bd_ (fX1_isPlace z0 x1) (fun r1 z1 => (if r1 = 0 then some ((-1), z1) else bd_ (fX1_isPlace z1 x2) (fun r3 z3 => (if r3 = 0 then some ((-1), z3) else if x1 < 0 ∨ 12 ≤ x1.toNatClampNeg then none else (opt_ (z3.2.2.1 x1.toNatClampNeg) (if x2 < 0 ∨ 12 ≤ x2.toNatClampNeg then none else (opt_ (z3.2.2.1 x2.toNatClampNeg) ((if (none : Option Nat) = none then some (1, z3) else some (0, z3))) (fun b6 => (if (none : Option Nat) = (some b6) then some (1, z3) else some (0, z3))))) (fun b5 => if x2 < 0 ∨ 12 ≤ x2.toNatClampNeg then none else (opt_ (z3.2.2.1 x2.toNatClampNeg) ((if ((some b5) : Option Nat) = none then some (1, z3) else some (0, z3))) (fun b9 => (if ((some b5) : Option Nat) = (some b9) then some (1, z3) else some (0, z3))))))))))
set_option maxRecDepth 100000 in
set_option maxHeartbeats 4000000 in
theorem kX1_same (l : Launch) (G : va_G) (cy cyO : ClassId) (a : Nat → Nat) (z0 : SC) (x1 : Int32) (x2 : Int32) (r : Int32) (u : SC) (hF : fX1_same z0 x1 x2 = some (r, u)) : Ct l G (tys_ cy cyO) yX1_same wsX1_same ({ frames := 1, cells := 0, slots := 0, locals := 20 } : Room) [.ref (a 0), .int x1, .int x2] (cW a cy cyO z0) (some (.int r)) (cW a cy cyO u) := by
  unfold fX1_same at hF
  refine ct_of (cc := cX1_same) (maxL := 3) (ret := (some .int)) (own := RX1) (by decide) rfl (Nat.le_of_ble_eq_true rfl) rfl ?_
  intro p e s m below meth c A ls X hr hlocks _ hK hN hA hP hD hl
  have hS : va_S A s.heap s.heap [] := va_S.rf
  have hl : lv_has ls 3 [(0, .ref (a 0)), (1, .int x1), (2, .int x2)] := hl
  obtain ⟨hx, hb, hml, hown, hts⟩ := id X
  have hin1 : ∀ w ∈ wsX10, w ∈ wsX1_same := by decide +kernel
  refine lv_iload_n hx hb dX1_same_0 rfl (lv_at hl 1 rfl) ?_
  obtain ⟨r1, z1, hG1, hF⟩ := o_b hF
  refine cl_S (rest := []) X hK hN hA hP hD hS (kX1_isPlace l G cy cyO a z0 x1 r1 z1 hG1) (va_cwS 1 hts gX1_same_X1_isPlace rfl rfl rfl (by decide +kernel) ⟨Nat.le_of_ble_eq_true rfl, Nat.le_of_ble_eq_true rfl⟩) rfl hl.1 rfl (Nat.le_of_ble_eq_true rfl) dX1_same_1 ⟨Nat.zero_le _, Nat.zero_le _⟩ (fun H locs hP hD hS => ?_)
  refine W.eq (g2 := F0 m 4 ls [.int r1]) rfl ?_
  refine lv_if_eq (tgt := 14) hx hb dX1_same_4 (by decide) (fun c2 => ?_) (fun c2 => ?_)
  · have hF := o_t c2 hF
    refine lv_iconst (v := (-1)) hx hb dX1_same_14 (by decide) ?_
    obtain ⟨rfl, rfl⟩ := o_s hF
    exact rt_i X hr hlocks hP hD hS dX1_same_15
  · have hF := o_f c2 hF
    refine lv_iload_n hx hb dX1_same_7 rfl (lv_at hl 2 rfl) ?_
    obtain ⟨r3, z3, hG3, hF⟩ := o_b hF
    refine cl_S (rest := []) X hK hN hA hP hD hS (kX1_isPlace l G cy cyO a z1 x2 r3 z3 hG3) (va_cwS 1 hts gX1_same_X1_isPlace rfl rfl rfl (by decide +kernel) ⟨Nat.le_of_ble_eq_true rfl, Nat.le_of_ble_eq_true rfl⟩) rfl hl.1 rfl (Nat.le_of_ble_eq_true rfl) dX1_same_8 ⟨Nat.zero_le _, Nat.zero_le _⟩ (fun H locs hP hD hS => ?_)
    refine W.eq (g2 := F0 m 11 ls [.int r3]) rfl ?_
    refine lv_if_ne (tgt := 16) hx hb dX1_same_11 (by decide) (fun c4 => ?_) (fun c4 => ?_)
    · have hF := o_f c4 hF
      refine lv_aload_n hx hb dX1_same_16 rfl (lv_at hl 0 rfl) ?_
      refine va_get (D := G) (ci := 1) (v := .ref (a 1)) (C := RX1) (T := TX1) (N := 10) hx hb hts hin1 hown hK hP 0 rfl rfl 0 (by decide) (hts (.fieldLink RX1 11 "SignalBox" "standing" "[LSignalBox$Section;") (by decide +kernel)) (fun _ h9 => h9) rfl dX1_same_17 ?_
      refine lv_iload_n hx hb dX1_same_20 rfl (lv_at hl 1 rfl) ?_
      obtain ⟨h5, hF⟩ := o_n hF
      refine va_aldq (n := 12) (f := z3.2.2.1) (cA := cyO) (C := RX0) hx hb hK hP 1 1 rfl rfl h5 dX1_same_21 ?_
      rcases ho5 : z3.2.2.1 x1.toNatClampNeg with _ | b5
      · have hF := o_mn ho5 hF
        refine w_none rfl ?_
        refine lv_aload_n hx hb dX1_same_22 rfl (lv_at hl 0 rfl) ?_
        refine va_get (D := G) (ci := 1) (v := .ref (a 1)) (C := RX1) (T := TX1) (N := 10) hx hb hts hin1 hown hK hP 0 rfl rfl 0 (by decide) (hts (.fieldLink RX1 11 "SignalBox" "standing" "[LSignalBox$Section;") (by decide +kernel)) (fun _ h9 => h9) rfl dX1_same_23 ?_
        refine lv_iload_n hx hb dX1_same_26 rfl (lv_at hl 2 rfl) ?_
        obtain ⟨h6, hF⟩ := o_n hF
        refine va_aldq (n := 12) (f := z3.2.2.1) (cA := cyO) (C := RX0) hx hb hK hP 1 1 rfl rfl h6 dX1_same_27 ?_
        rcases ho6 : z3.2.2.1 x2.toNatClampNeg with _ | b6
        · have hF := o_mn ho6 hF
          refine w_none rfl ?_
          refine lv_acmp_ne (rx := none) (ry := none) (tgt := 35) hx hb dX1_same_28 (by decide) (fun c7 => ?_) (fun c7 => ?_)
          · have hF := o_f c7 hF
            refine lv_iconst (v := 0) hx hb dX1_same_35 (by decide) ?_
            obtain ⟨rfl, rfl⟩ := o_s hF
            exact rt_i X hr hlocks hP hD hS dX1_same_36
          · have hF := o_t c7 hF
            refine lv_iconst (v := 1) hx hb dX1_same_31 (by decide) ?_
            refine lv_goto (tgt := 36) hx hb dX1_same_32 (by decide) ?_
            obtain ⟨rfl, rfl⟩ := o_s hF
            exact rt_i X hr hlocks hP hD hS dX1_same_36
        · have hF := o_ms ho6 hF
          refine w_some rfl ?_
          refine lv_acmp_ne (rx := none) (ry := (some b6)) (tgt := 35) hx hb dX1_same_28 (by decide) (fun c8 => ?_) (fun c8 => ?_)
          · have hF := o_f c8 hF
            refine lv_iconst (v := 0) hx hb dX1_same_35 (by decide) ?_
            obtain ⟨rfl, rfl⟩ := o_s hF
            exact rt_i X hr hlocks hP hD hS dX1_same_36
          · have hF := o_t c8 hF
            refine lv_iconst (v := 1) hx hb dX1_same_31 (by decide) ?_
            refine lv_goto (tgt := 36) hx hb dX1_same_32 (by decide) ?_
            obtain ⟨rfl, rfl⟩ := o_s hF
            exact rt_i X hr hlocks hP hD hS dX1_same_36
      · have hF := o_ms ho5 hF
        refine w_some rfl ?_
        refine lv_aload_n hx hb dX1_same_22 rfl (lv_at hl 0 rfl) ?_
        refine va_get (D := G) (ci := 1) (v := .ref (a 1)) (C := RX1) (T := TX1) (N := 10) hx hb hts hin1 hown hK hP 0 rfl rfl 0 (by decide) (hts (.fieldLink RX1 11 "SignalBox" "standing" "[LSignalBox$Section;") (by decide +kernel)) (fun _ h9 => h9) rfl dX1_same_23 ?_
        refine lv_iload_n hx hb dX1_same_26 rfl (lv_at hl 2 rfl) ?_
        obtain ⟨h9, hF⟩ := o_n hF
        refine va_aldq (n := 12) (f := z3.2.2.1) (cA := cyO) (C := RX0) hx hb hK hP 1 1 rfl rfl h9 dX1_same_27 ?_
        rcases ho9 : z3.2.2.1 x2.toNatClampNeg with _ | b9
        · have hF := o_mn ho9 hF
          refine w_none rfl ?_
          refine lv_acmp_ne (rx := (some b5)) (ry := none) (tgt := 35) hx hb dX1_same_28 (by decide) (fun c10 => ?_) (fun c10 => ?_)
          · have hF := o_f c10 hF
            refine lv_iconst (v := 0) hx hb dX1_same_35 (by decide) ?_
            obtain ⟨rfl, rfl⟩ := o_s hF
            exact rt_i X hr hlocks hP hD hS dX1_same_36
          · have hF := o_t c10 hF
            refine lv_iconst (v := 1) hx hb dX1_same_31 (by decide) ?_
            refine lv_goto (tgt := 36) hx hb dX1_same_32 (by decide) ?_
            obtain ⟨rfl, rfl⟩ := o_s hF
            exact rt_i X hr hlocks hP hD hS dX1_same_36
        · have hF := o_ms ho9 hF
          refine w_some rfl ?_
          refine lv_acmp_ne (rx := (some b5)) (ry := (some b9)) (tgt := 35) hx hb dX1_same_28 (by decide) (fun c11 => ?_) (fun c11 => ?_)
          · have hF := o_f c11 hF
            refine lv_iconst (v := 0) hx hb dX1_same_35 (by decide) ?_
            obtain ⟨rfl, rfl⟩ := o_s hF
            exact rt_i X hr hlocks hP hD hS dX1_same_36
          · have hF := o_t c11 hF
            refine lv_iconst (v := 1) hx hb dX1_same_31 (by decide) ?_
            refine lv_goto (tgt := 36) hx hb dX1_same_32 (by decide) ?_
            obtain ⟨rfl, rfl⟩ := o_s hF
            exact rt_i X hr hlocks hP hD hS dX1_same_36
    · have hF := o_t c4 hF
      refine lv_iconst (v := (-1)) hx hb dX1_same_14 (by decide) ?_
      obtain ⟨rfl, rfl⟩ := o_s hF
      exact rt_i X hr hlocks hP hD hS dX1_same_15
def fX1_lead (z0 : SC) (x1 : Int32) (x2 : Int32) : Option (Int32 × SC) := bd_ (fX1_isRoute z0 x1) (fun r1 z1 => (if r1 = 0 then some ((-1), z1) else bd_ (fX1_isPlace z1 x2) (fun r3 z3 => (if r3 = 0 then some ((-1), z3) else if x1 < 0 ∨ 6 ≤ x1.toNatClampNeg then none else let_ (z3.2.2.2.2.1 x1.toNatClampNeg) (fun v5 => (if v5 < 8 then if ((x1 * 8) + v5) < 0 ∨ 48 ≤ ((x1 * 8) + v5).toNatClampNeg then none else let_ ((z3.1, z3.2.1, z3.2.2.1, (upd z3.2.2.2.1 ((x1 * 8) + v5).toNatClampNeg x2), z3.2.2.2.2) : SC) (fun z8 => if x1 < 0 ∨ 6 ≤ x1.toNatClampNeg then none else let_ ((z8.1, z8.2.1, z8.2.2.1, z8.2.2.2.1, (upd z8.2.2.2.2.1 x1.toNatClampNeg (v5 + 1)), z8.2.2.2.2.2) : SC) (fun z10 => some ((v5 + 1), z10))) else some ((-2), z3)))))))
set_option maxRecDepth 100000 in
set_option maxHeartbeats 4000000 in
theorem kX1_lead (l : Launch) (G : va_G) (cy cyO : ClassId) (a : Nat → Nat) (z0 : SC) (x1 : Int32) (x2 : Int32) (r : Int32) (u : SC) (hF : fX1_lead z0 x1 x2 = some (r, u)) : Ct l G (tys_ cy cyO) yX1_lead wsX1_lead ({ frames := 1, cells := 0, slots := 0, locals := 20 } : Room) [.ref (a 0), .int x1, .int x2] (cW a cy cyO z0) (some (.int r)) (cW a cy cyO u) := by
  unfold fX1_lead at hF
  refine ct_of (cc := cX1_lead) (maxL := 4) (ret := (some .int)) (own := RX1) (by decide) rfl (Nat.le_of_ble_eq_true rfl) rfl ?_
  intro p e s m below meth c A ls X hr hlocks _ hK hN hA hP hD hl
  have hS : va_S A s.heap s.heap [] := va_S.rf
  have hl : lv_has ls 4 [(0, .ref (a 0)), (1, .int x1), (2, .int x2)] := hl
  obtain ⟨hx, hb, hml, hown, hts⟩ := id X
  have hin1 : ∀ w ∈ wsX10, w ∈ wsX1_lead := by decide +kernel
  refine lv_iload_n hx hb dX1_lead_0 rfl (lv_at hl 1 rfl) ?_
  obtain ⟨r1, z1, hG1, hF⟩ := o_b hF
  refine cl_S (rest := []) X hK hN hA hP hD hS (kX1_isRoute l G cy cyO a z0 x1 r1 z1 hG1) (va_cwS 1 hts gX1_lead_X1_isRoute rfl rfl rfl (by decide +kernel) ⟨Nat.le_of_ble_eq_true rfl, Nat.le_of_ble_eq_true rfl⟩) rfl hl.1 rfl (Nat.le_of_ble_eq_true rfl) dX1_lead_1 ⟨Nat.zero_le _, Nat.zero_le _⟩ (fun H locs hP hD hS => ?_)
  refine W.eq (g2 := F0 m 4 ls [.int r1]) rfl ?_
  refine lv_if_eq (tgt := 14) hx hb dX1_lead_4 (by decide) (fun c2 => ?_) (fun c2 => ?_)
  · have hF := o_t c2 hF
    refine lv_iconst (v := (-1)) hx hb dX1_lead_14 (by decide) ?_
    obtain ⟨rfl, rfl⟩ := o_s hF
    exact rt_i X hr hlocks hP hD hS dX1_lead_15
  · have hF := o_f c2 hF
    refine lv_iload_n hx hb dX1_lead_7 rfl (lv_at hl 2 rfl) ?_
    obtain ⟨r3, z3, hG3, hF⟩ := o_b hF
    refine cl_S (rest := []) X hK hN hA hP hD hS (kX1_isPlace l G cy cyO a z1 x2 r3 z3 hG3) (va_cwS 1 hts gX1_lead_X1_isPlace rfl rfl rfl (by decide +kernel) ⟨Nat.le_of_ble_eq_true rfl, Nat.le_of_ble_eq_true rfl⟩) rfl hl.1 rfl (Nat.le_of_ble_eq_true rfl) dX1_lead_8 ⟨Nat.zero_le _, Nat.zero_le _⟩ (fun H locs hP hD hS => ?_)
    refine W.eq (g2 := F0 m 11 ls [.int r3]) rfl ?_
    refine lv_if_ne (tgt := 16) hx hb dX1_lead_11 (by decide) (fun c4 => ?_) (fun c4 => ?_)
    · have hF := o_f c4 hF
      refine lv_aload_n hx hb dX1_lead_16 rfl (lv_at hl 0 rfl) ?_
      refine va_get (D := G) (ci := 1) (v := .ref (a 3)) (C := RX1) (T := TX1) (N := 10) hx hb hts hin1 hown hK hP 0 rfl rfl 2 (by decide) (hts (.fieldLink RX1 19 "SignalBox" "routeLengths" "[I") (by decide +kernel)) (fun _ h9 => h9) rfl dX1_lead_17 ?_
      refine lv_iload_n hx hb dX1_lead_20 rfl (lv_at hl 1 rfl) ?_
      obtain ⟨h5, hF⟩ := o_n hF
      refine va_iald (n := 6) (f := z3.2.2.2.2.1) (cA := cy) hx hb hK hP 3 0 rfl rfl h5 dX1_lead_21 ?_
      obtain ⟨v5, e5, hF⟩ := o_l hF
      refine w_top e5 ?_
      refine lv_istore_n (lv' := [(3, .int v5), (0, .ref (a 0)), (1, .int x1), (2, .int x2)]) hx hb dX1_lead_22 rfl hl (by decide) rfl (fun ls hl => ?_)
      refine lv_iload_n hx hb dX1_lead_23 rfl (lv_at hl 0 rfl) ?_
      refine lv_bipush (v := 8) hx hb dX1_lead_24 (by decide) ?_
      refine lv_icmp_lt (tgt := 32) hx hb dX1_lead_26 (by decide) (fun c6 => ?_) (fun c6 => ?_)
      · have hF := o_t c6 hF
        refine lv_aload_n hx hb dX1_lead_32 rfl (lv_at hl 1 rfl) ?_
        refine va_get (D := G) (ci := 1) (v := .ref (a 2)) (C := RX1) (T := TX1) (N := 10) hx hb hts hin1 hown hK hP 0 rfl rfl 1 (by decide) (hts (.fieldLink RX1 15 "SignalBox" "routePlaces" "[I") (by decide +kernel)) (fun _ h9 => h9) rfl dX1_lead_33 ?_
        refine lv_iload_n hx hb dX1_lead_36 rfl (lv_at hl 2 rfl) ?_
        refine lv_bipush (v := 8) hx hb dX1_lead_37 (by decide) ?_
        refine lv_imul hx hb dX1_lead_39 ?_
        refine lv_iload_n hx hb dX1_lead_40 rfl (lv_at hl 0 rfl) ?_
        refine lv_iadd hx hb dX1_lead_41 ?_
        refine lv_iload_n hx hb dX1_lead_42 rfl (lv_at hl 3 rfl) ?_
        obtain ⟨h7, hF⟩ := o_n hF
        refine va_iast (n := 48) (f := z3.2.2.2.1) (cA := cy) hx hb hK hP hD hS 2 0 rfl rfl h7 dX1_lead_43 (fun H locs hP hD hS => ?_)
        obtain ⟨z8, e8, hF⟩ := o_l hF
        have hP : va_P G vwCl (cW a cy cyO z8) H := by rw [e8]; exact hP
        have hD : va_D A (cW a cy cyO z8) := by rw [e8]; exact hD
        refine lv_aload_n hx hb dX1_lead_44 rfl (lv_at hl 1 rfl) ?_
        refine va_get (D := G) (ci := 1) (v := .ref (a 3)) (C := RX1) (T := TX1) (N := 10) hx hb hts hin1 hown hK hP 0 rfl rfl 2 (by decide) (hts (.fieldLink RX1 19 "SignalBox" "routeLengths" "[I") (by decide +kernel)) (fun _ h9 => h9) rfl dX1_lead_45 ?_
        refine lv_iload_n hx hb dX1_lead_48 rfl (lv_at hl 2 rfl) ?_
        refine lv_iload_n hx hb dX1_lead_49 rfl (lv_at hl 0 rfl) ?_
        refine lv_iconst (v := 1) hx hb dX1_lead_50 (by decide) ?_
        refine lv_iadd hx hb dX1_lead_51 ?_
        obtain ⟨h9, hF⟩ := o_n hF
        refine va_iast (n := 6) (f := z8.2.2.2.2.1) (cA := cy) hx hb hK hP hD hS 3 0 rfl rfl h9 dX1_lead_52 (fun H locs hP hD hS => ?_)
        obtain ⟨z10, e10, hF⟩ := o_l hF
        have hP : va_P G vwCl (cW a cy cyO z10) H := by rw [e10]; exact hP
        have hD : va_D A (cW a cy cyO z10) := by rw [e10]; exact hD
        refine lv_iload_n hx hb dX1_lead_53 rfl (lv_at hl 0 rfl) ?_
        refine lv_iconst (v := 1) hx hb dX1_lead_54 (by decide) ?_
        refine lv_iadd hx hb dX1_lead_55 ?_
        obtain ⟨rfl, rfl⟩ := o_s hF
        exact rt_i X hr hlocks hP hD hS dX1_lead_56
      · have hF := o_f c6 hF
        refine lv_bipush (v := (-2)) hx hb dX1_lead_29 (by decide) ?_
        obtain ⟨rfl, rfl⟩ := o_s hF
        exact rt_i X hr hlocks hP hD hS dX1_lead_31
    · have hF := o_t c4 hF
      refine lv_iconst (v := (-1)) hx hb dX1_lead_14 (by decide) ?_
      obtain ⟨rfl, rfl⟩ := o_s hF
      exact rt_i X hr hlocks hP hD hS dX1_lead_15
def fX1_unlead (z0 : SC) (x1 : Int32) : Option (Int32 × SC) := bd_ (fX1_isRoute z0 x1) (fun r1 z1 => (if r1 = 0 then some ((-1), z1) else if x1 < 0 ∨ 6 ≤ x1.toNatClampNeg then none else let_ (z1.2.2.2.2.1 x1.toNatClampNeg) (fun v3 => if x1 < 0 ∨ 6 ≤ x1.toNatClampNeg then none else let_ ((z1.1, z1.2.1, z1.2.2.1, z1.2.2.2.1, (upd z1.2.2.2.2.1 x1.toNatClampNeg 0), z1.2.2.2.2.2) : SC) (fun z5 => some (v3, z5)))))
set_option maxRecDepth 100000 in
set_option maxHeartbeats 4000000 in
theorem kX1_unlead (l : Launch) (G : va_G) (cy cyO : ClassId) (a : Nat → Nat) (z0 : SC) (x1 : Int32) (r : Int32) (u : SC) (hF : fX1_unlead z0 x1 = some (r, u)) : Ct l G (tys_ cy cyO) yX1_unlead wsX1_unlead ({ frames := 1, cells := 0, slots := 0, locals := 20 } : Room) [.ref (a 0), .int x1] (cW a cy cyO z0) (some (.int r)) (cW a cy cyO u) := by
  unfold fX1_unlead at hF
  refine ct_of (cc := cX1_unlead) (maxL := 3) (ret := (some .int)) (own := RX1) (by decide) rfl (Nat.le_of_ble_eq_true rfl) rfl ?_
  intro p e s m below meth c A ls X hr hlocks _ hK hN hA hP hD hl
  have hS : va_S A s.heap s.heap [] := va_S.rf
  have hl : lv_has ls 3 [(0, .ref (a 0)), (1, .int x1)] := hl
  obtain ⟨hx, hb, hml, hown, hts⟩ := id X
  have hin1 : ∀ w ∈ wsX10, w ∈ wsX1_unlead := by decide +kernel
  refine lv_iload_n hx hb dX1_unlead_0 rfl (lv_at hl 1 rfl) ?_
  obtain ⟨r1, z1, hG1, hF⟩ := o_b hF
  refine cl_S (rest := []) X hK hN hA hP hD hS (kX1_isRoute l G cy cyO a z0 x1 r1 z1 hG1) (va_cwS 1 hts gX1_unlead_X1_isRoute rfl rfl rfl (by decide +kernel) ⟨Nat.le_of_ble_eq_true rfl, Nat.le_of_ble_eq_true rfl⟩) rfl hl.1 rfl (Nat.le_of_ble_eq_true rfl) dX1_unlead_1 ⟨Nat.zero_le _, Nat.zero_le _⟩ (fun H locs hP hD hS => ?_)
  refine W.eq (g2 := F0 m 4 ls [.int r1]) rfl ?_
  refine lv_if_ne (tgt := 9) hx hb dX1_unlead_4 (by decide) (fun c2 => ?_) (fun c2 => ?_)
  · have hF := o_f c2 hF
    refine lv_aload_n hx hb dX1_unlead_9 rfl (lv_at hl 0 rfl) ?_
    refine va_get (D := G) (ci := 1) (v := .ref (a 3)) (C := RX1) (T := TX1) (N := 10) hx hb hts hin1 hown hK hP 0 rfl rfl 2 (by decide) (hts (.fieldLink RX1 19 "SignalBox" "routeLengths" "[I") (by decide +kernel)) (fun _ h9 => h9) rfl dX1_unlead_10 ?_
    refine lv_iload_n hx hb dX1_unlead_13 rfl (lv_at hl 1 rfl) ?_
    obtain ⟨h3, hF⟩ := o_n hF
    refine va_iald (n := 6) (f := z1.2.2.2.2.1) (cA := cy) hx hb hK hP 3 0 rfl rfl h3 dX1_unlead_14 ?_
    obtain ⟨v3, e3, hF⟩ := o_l hF
    refine w_top e3 ?_
    refine lv_istore_n (lv' := [(2, .int v3), (0, .ref (a 0)), (1, .int x1)]) hx hb dX1_unlead_15 rfl hl (by decide) rfl (fun ls hl => ?_)
    refine lv_aload_n hx hb dX1_unlead_16 rfl (lv_at hl 1 rfl) ?_
    refine va_get (D := G) (ci := 1) (v := .ref (a 3)) (C := RX1) (T := TX1) (N := 10) hx hb hts hin1 hown hK hP 0 rfl rfl 2 (by decide) (hts (.fieldLink RX1 19 "SignalBox" "routeLengths" "[I") (by decide +kernel)) (fun _ h9 => h9) rfl dX1_unlead_17 ?_
    refine lv_iload_n hx hb dX1_unlead_20 rfl (lv_at hl 2 rfl) ?_
    refine lv_iconst (v := 0) hx hb dX1_unlead_21 (by decide) ?_
    obtain ⟨h4, hF⟩ := o_n hF
    refine va_iast (n := 6) (f := z1.2.2.2.2.1) (cA := cy) hx hb hK hP hD hS 3 0 rfl rfl h4 dX1_unlead_22 (fun H locs hP hD hS => ?_)
    obtain ⟨z5, e5, hF⟩ := o_l hF
    have hP : va_P G vwCl (cW a cy cyO z5) H := by rw [e5]; exact hP
    have hD : va_D A (cW a cy cyO z5) := by rw [e5]; exact hD
    refine lv_iload_n hx hb dX1_unlead_23 rfl (lv_at hl 0 rfl) ?_
    obtain ⟨rfl, rfl⟩ := o_s hF
    exact rt_i X hr hlocks hP hD hS dX1_unlead_24
  · have hF := o_t c2 hF
    refine lv_iconst (v := (-1)) hx hb dX1_unlead_7 (by decide) ?_
    obtain ⟨rfl, rfl⟩ := o_s hF
    exact rt_i X hr hlocks hP hD hS dX1_unlead_8
def fX1_passed (z0 : SC) : Option (Int32 × SC) := some (z0.2.2.2.2.2.2.2.2.2.2.2, z0)
set_option maxRecDepth 100000 in
set_option maxHeartbeats 4000000 in
theorem kX1_passed (l : Launch) (G : va_G) (cy cyO : ClassId) (a : Nat → Nat) (z0 : SC) (r : Int32) (u : SC) (hF : fX1_passed z0 = some (r, u)) : Ct l G (tys_ cy cyO) yX1_passed wsX1_passed ({ frames := 0, cells := 0, slots := 0, locals := 0 } : Room) [.ref (a 0)] (cW a cy cyO z0) (some (.int r)) (cW a cy cyO u) := by
  unfold fX1_passed at hF
  refine ct_of (cc := cX1_passed) (maxL := 1) (ret := (some .int)) (own := RX1) (by decide) rfl (Nat.le_of_ble_eq_true rfl) rfl ?_
  intro p e s m below meth c A ls X hr hlocks _ hK hN hA hP hD hl
  have hS : va_S A s.heap s.heap [] := va_S.rf
  have hl : lv_has ls 1 [(0, .ref (a 0))] := hl
  obtain ⟨hx, hb, hml, hown, hts⟩ := id X
  have hin1 : ∀ w ∈ wsX10, w ∈ wsX1_passed := by decide +kernel
  refine lv_aload_n hx hb dX1_passed_0 rfl (lv_at hl 0 rfl) ?_
  refine va_get (D := G) (ci := 1) (v := .int z0.2.2.2.2.2.2.2.2.2.2.2) (C := RX1) (T := TX1) (N := 10) hx hb hts hin1 hown hK hP 0 rfl rfl 9 (by decide) (hts (.fieldLink RX1 51 "SignalBox" "passed" "I") (by decide +kernel)) (fun _ h9 => h9) rfl dX1_passed_1 ?_
  obtain ⟨rfl, rfl⟩ := o_s hF
  exact rt_i X hr hlocks hP hD hS dX1_passed_4
def fX1_trace (z0 : SC) (x1 : Int32) : Option (Int32 × SC) := (if x1 = (-1) then some (z0.2.2.2.2.2.2.1, z0) else (if x1 < 0 then some ((-1), z0) else (if z0.2.2.2.2.2.2.1 ≤ x1 then some ((-1), z0) else if x1 < 0 ∨ 150 ≤ x1.toNatClampNeg then none else let_ (z0.2.2.2.2.2.1 x1.toNatClampNeg) (fun v4 => some (v4, z0)))))
set_option maxRecDepth 100000 in
set_option maxHeartbeats 4000000 in
theorem kX1_trace (l : Launch) (G : va_G) (cy cyO : ClassId) (a : Nat → Nat) (z0 : SC) (x1 : Int32) (r : Int32) (u : SC) (hF : fX1_trace z0 x1 = some (r, u)) : Ct l G (tys_ cy cyO) yX1_trace wsX1_trace ({ frames := 0, cells := 0, slots := 0, locals := 0 } : Room) [.ref (a 0), .int x1] (cW a cy cyO z0) (some (.int r)) (cW a cy cyO u) := by
  unfold fX1_trace at hF
  refine ct_of (cc := cX1_trace) (maxL := 2) (ret := (some .int)) (own := RX1) (by decide) rfl (Nat.le_of_ble_eq_true rfl) rfl ?_
  intro p e s m below meth c A ls X hr hlocks _ hK hN hA hP hD hl
  have hS : va_S A s.heap s.heap [] := va_S.rf
  have hl : lv_has ls 2 [(0, .ref (a 0)), (1, .int x1)] := hl
  obtain ⟨hx, hb, hml, hown, hts⟩ := id X
  have hin1 : ∀ w ∈ wsX10, w ∈ wsX1_trace := by decide +kernel
  refine lv_iload_n hx hb dX1_trace_0 rfl (lv_at hl 1 rfl) ?_
  refine lv_iconst (v := (-1)) hx hb dX1_trace_1 (by decide) ?_
  refine lv_icmp_ne (tgt := 10) hx hb dX1_trace_2 (by decide) (fun c1 => ?_) (fun c1 => ?_)
  · have hF := o_f c1 hF
    refine lv_iload_n hx hb dX1_trace_10 rfl (lv_at hl 1 rfl) ?_
    refine lv_if_lt (tgt := 31) hx hb dX1_trace_11 (by decide) (fun c2 => ?_) (fun c2 => ?_)
    · have hF := o_t c2 hF
      refine lv_iconst (v := (-1)) hx hb dX1_trace_31 (by decide) ?_
      obtain ⟨rfl, rfl⟩ := o_s hF
      exact rt_i X hr hlocks hP hD hS dX1_trace_32
    · have hF := o_f c2 hF
      refine lv_iload_n hx hb dX1_trace_14 rfl (lv_at hl 1 rfl) ?_
      refine lv_aload_n hx hb dX1_trace_15 rfl (lv_at hl 0 rfl) ?_
      refine va_get (D := G) (ci := 1) (v := .int z0.2.2.2.2.2.2.1) (C := RX1) (T := TX1) (N := 10) hx hb hts hin1 hown hK hP 0 rfl rfl 4 (by decide) (hts (.fieldLink RX1 54 "SignalBox" "traceLength" "I") (by decide +kernel)) (fun _ h9 => h9) rfl dX1_trace_16 ?_
      refine lv_icmp_ge (tgt := 31) hx hb dX1_trace_19 (by decide) (fun c3 => ?_) (fun c3 => ?_)
      · have hF := o_t c3 hF
        refine lv_iconst (v := (-1)) hx hb dX1_trace_31 (by decide) ?_
        obtain ⟨rfl, rfl⟩ := o_s hF
        exact rt_i X hr hlocks hP hD hS dX1_trace_32
      · have hF := o_f c3 hF
        refine lv_aload_n hx hb dX1_trace_22 rfl (lv_at hl 0 rfl) ?_
        refine va_get (D := G) (ci := 1) (v := .ref (a 4)) (C := RX1) (T := TX1) (N := 10) hx hb hts hin1 hown hK hP 0 rfl rfl 3 (by decide) (hts (.fieldLink RX1 22 "SignalBox" "trace" "[I") (by decide +kernel)) (fun _ h9 => h9) rfl dX1_trace_23 ?_
        refine lv_iload_n hx hb dX1_trace_26 rfl (lv_at hl 1 rfl) ?_
        obtain ⟨h4, hF⟩ := o_n hF
        refine va_iald (n := 150) (f := z0.2.2.2.2.2.1) (cA := cy) hx hb hK hP 4 0 rfl rfl h4 dX1_trace_27 ?_
        obtain ⟨v4, e4, hF⟩ := o_l hF
        refine w_top e4 ?_
        refine lv_goto (tgt := 32) hx hb dX1_trace_28 (by decide) ?_
        obtain ⟨rfl, rfl⟩ := o_s hF
        exact rt_i X hr hlocks hP hD hS dX1_trace_32
  · have hF := o_t c1 hF
    refine lv_aload_n hx hb dX1_trace_5 rfl (lv_at hl 0 rfl) ?_
    refine va_get (D := G) (ci := 1) (v := .int z0.2.2.2.2.2.2.1) (C := RX1) (T := TX1) (N := 10) hx hb hts hin1 hown hK hP 0 rfl rfl 4 (by decide) (hts (.fieldLink RX1 54 "SignalBox" "traceLength" "I") (by decide +kernel)) (fun _ h9 => h9) rfl dX1_trace_6 ?_
    obtain ⟨rfl, rfl⟩ := o_s hF
    exact rt_i X hr hlocks hP hD hS dX1_trace_9
def fX1_told (z0 : SC) (x1 : Int32) (x2 : Int32) : Option (Int32 × SC) := bd_ (fX1_isPlace z0 x1) (fun r1 z1 => (if r1 = 0 then some ((-1), z1) else if x1 < 0 ∨ 12 ≤ x1.toNatClampNeg then none else (opt_ (z1.2.2.1 x1.toNatClampNeg) (some ((-1), z1)) (fun b3 => (if x2 = 0 then if b3 ∈ z1.2.1 then some ((z1.1 b3 0), z1) else none else (if x2 = 1 then if b3 ∈ z1.2.1 then some ((z1.1 b3 1), z1) else none else (if x2 = 2 then if b3 ∈ z1.2.1 then some ((z1.1 b3 2), z1) else none else (if x2 = 3 then if b3 ∈ z1.2.1 then some ((z1.1 b3 3), z1) else none else (if x2 = 4 then if b3 ∈ z1.2.1 then some ((z1.1 b3 4), z1) else none else (if x2 = 5 then if b3 ∈ z1.2.1 then some ((z1.1 b3 5), z1) else none else (if x2 = 6 then if b3 ∈ z1.2.1 then some ((z1.1 b3 6), z1) else none else (if x2 = 7 then if b3 ∈ z1.2.1 then some ((z1.1 b3 7), z1) else none else (if x2 = 8 then if b3 ∈ z1.2.1 then some ((z1.1 b3 8), z1) else none else some ((-1), z1))))))))))))))
set_option maxRecDepth 100000 in
set_option maxHeartbeats 4000000 in
theorem kX1_told (l : Launch) (G : va_G) (cy cyO : ClassId) (a : Nat → Nat) (z0 : SC) (x1 : Int32) (x2 : Int32) (r : Int32) (u : SC) (hF : fX1_told z0 x1 x2 = some (r, u)) : Ct l G (tys_ cy cyO) yX1_told wsX1_told ({ frames := 1, cells := 0, slots := 0, locals := 20 } : Room) [.ref (a 0), .int x1, .int x2] (cW a cy cyO z0) (some (.int r)) (cW a cy cyO u) := by
  unfold fX1_told at hF
  refine ct_of (cc := cX1_told) (maxL := 4) (ret := (some .int)) (own := RX1) (by decide) rfl (Nat.le_of_ble_eq_true rfl) rfl ?_
  intro p e s m below meth c A ls X hr hlocks _ hK hN hA hP hD hl
  have hS : va_S A s.heap s.heap [] := va_S.rf
  have hl : lv_has ls 4 [(0, .ref (a 0)), (1, .int x1), (2, .int x2)] := hl
  obtain ⟨hx, hb, hml, hown, hts⟩ := id X
  have hin1 : ∀ w ∈ wsX10, w ∈ wsX1_told := by decide +kernel
  have hin0 : ∀ w ∈ wsX00, w ∈ wsX1_told := by decide +kernel
  refine lv_iload_n hx hb dX1_told_0 rfl (lv_at hl 1 rfl) ?_
  obtain ⟨r1, z1, hG1, hF⟩ := o_b hF
  refine cl_S (rest := []) X hK hN hA hP hD hS (kX1_isPlace l G cy cyO a z0 x1 r1 z1 hG1) (va_cwS 1 hts gX1_told_X1_isPlace rfl rfl rfl (by decide +kernel) ⟨Nat.le_of_ble_eq_true rfl, Nat.le_of_ble_eq_true rfl⟩) rfl hl.1 rfl (Nat.le_of_ble_eq_true rfl) dX1_told_1 ⟨Nat.zero_le _, Nat.zero_le _⟩ (fun H locs hP hD hS => ?_)
  refine W.eq (g2 := F0 m 4 ls [.int r1]) rfl ?_
  refine lv_if_ne (tgt := 9) hx hb dX1_told_4 (by decide) (fun c2 => ?_) (fun c2 => ?_)
  · have hF := o_f c2 hF
    refine lv_aload_n hx hb dX1_told_9 rfl (lv_at hl 0 rfl) ?_
    refine va_get (D := G) (ci := 1) (v := .ref (a 1)) (C := RX1) (T := TX1) (N := 10) hx hb hts hin1 hown hK hP 0 rfl rfl 0 (by decide) (hts (.fieldLink RX1 11 "SignalBox" "standing" "[LSignalBox$Section;") (by decide +kernel)) (fun _ h9 => h9) rfl dX1_told_10 ?_
    refine lv_iload_n hx hb dX1_told_13 rfl (lv_at hl 1 rfl) ?_
    obtain ⟨h3, hF⟩ := o_n hF
    refine va_aldq (n := 12) (f := z1.2.2.1) (cA := cyO) (C := RX0) hx hb hK hP 1 1 rfl rfl h3 dX1_told_14 ?_
    rcases ho3 : z1.2.2.1 x1.toNatClampNeg with _ | b3
    · have hF := o_mn ho3 hF
      refine w_none rfl ?_
      refine lv_astore_nN (lv' := [(3, .null), (0, .ref (a 0)), (1, .int x1), (2, .int x2)]) hx hb dX1_told_15 rfl hl (by decide) rfl (fun ls hl => ?_)
      refine lv_aload_nN hx hb dX1_told_16 rfl (lv_at hl 0 rfl) ?_
      refine lv_ifnonnullN hx hb dX1_told_17 ?_
      refine lv_iconst (v := (-1)) hx hb dX1_told_20 (by decide) ?_
      obtain ⟨rfl, rfl⟩ := o_s hF
      exact rt_i X hr hlocks hP hD hS dX1_told_21
    · have hF := o_ms ho3 hF
      refine w_some rfl ?_
      refine lv_astore_n (lv' := [(3, .ref b3), (0, .ref (a 0)), (1, .int x1), (2, .int x2)]) hx hb dX1_told_15 rfl hl (by decide) rfl (fun ls hl => ?_)
      refine lv_aload_n hx hb dX1_told_16 rfl (lv_at hl 0 rfl) ?_
      refine lv_ifnonnull (tgt := 22) hx hb dX1_told_17 (by decide) ?_
      refine lv_iload_n hx hb dX1_told_22 rfl (lv_at hl 3 rfl) ?_
      by_cases c4 : x2 = 0
      · have hF := o_t c4 hF
        refine lv_tableIn (off := 49) (tgt := 72) hx hb dX1_told_23 (by rw [c4]; decide) (by rw [c4]; decide) (by rw [c4]; rfl) (by decide) ?_
        refine lv_aload_n hx hb dX1_told_72 rfl (lv_at hl 0 rfl) ?_
        obtain ⟨h13, hF⟩ := o_i hF
        refine cs_get X hin0 hK hN hP h13 0 (by decide) (by decide) (by decide) (v := .int (z1.1 b3 0)) rfl dX1_told_73 ?_
        obtain ⟨rfl, rfl⟩ := o_s hF
        exact rt_i X hr hlocks hP hD hS dX1_told_76
      · have hF := o_f c4 hF
        by_cases c5 : x2 = 1
        · have hF := o_t c5 hF
          refine lv_tableIn (off := 54) (tgt := 77) hx hb dX1_told_23 (by rw [c5]; decide) (by rw [c5]; decide) (by rw [c5]; rfl) (by decide) ?_
          refine lv_aload_n hx hb dX1_told_77 rfl (lv_at hl 0 rfl) ?_
          obtain ⟨h14, hF⟩ := o_i hF
          refine cs_get X hin0 hK hN hP h14 1 (by decide) (by decide) (by decide) (v := .int (z1.1 b3 1)) rfl dX1_told_78 ?_
          obtain ⟨rfl, rfl⟩ := o_s hF
          exact rt_i X hr hlocks hP hD hS dX1_told_81
        · have hF := o_f c5 hF
          by_cases c6 : x2 = 2
          · have hF := o_t c6 hF
            refine lv_tableIn (off := 59) (tgt := 82) hx hb dX1_told_23 (by rw [c6]; decide) (by rw [c6]; decide) (by rw [c6]; rfl) (by decide) ?_
            refine lv_aload_n hx hb dX1_told_82 rfl (lv_at hl 0 rfl) ?_
            obtain ⟨h15, hF⟩ := o_i hF
            refine cs_get X hin0 hK hN hP h15 2 (by decide) (by decide) (by decide) (v := .int (z1.1 b3 2)) rfl dX1_told_83 ?_
            obtain ⟨rfl, rfl⟩ := o_s hF
            exact rt_i X hr hlocks hP hD hS dX1_told_86
          · have hF := o_f c6 hF
            by_cases c7 : x2 = 3
            · have hF := o_t c7 hF
              refine lv_tableIn (off := 64) (tgt := 87) hx hb dX1_told_23 (by rw [c7]; decide) (by rw [c7]; decide) (by rw [c7]; rfl) (by decide) ?_
              refine lv_aload_n hx hb dX1_told_87 rfl (lv_at hl 0 rfl) ?_
              obtain ⟨h16, hF⟩ := o_i hF
              refine cs_get X hin0 hK hN hP h16 3 (by decide) (by decide) (by decide) (v := .int (z1.1 b3 3)) rfl dX1_told_88 ?_
              obtain ⟨rfl, rfl⟩ := o_s hF
              exact rt_i X hr hlocks hP hD hS dX1_told_91
            · have hF := o_f c7 hF
              by_cases c8 : x2 = 4
              · have hF := o_t c8 hF
                refine lv_tableIn (off := 69) (tgt := 92) hx hb dX1_told_23 (by rw [c8]; decide) (by rw [c8]; decide) (by rw [c8]; rfl) (by decide) ?_
                refine lv_aload_n hx hb dX1_told_92 rfl (lv_at hl 0 rfl) ?_
                obtain ⟨h17, hF⟩ := o_i hF
                refine cs_get X hin0 hK hN hP h17 4 (by decide) (by decide) (by decide) (v := .int (z1.1 b3 4)) rfl dX1_told_93 ?_
                obtain ⟨rfl, rfl⟩ := o_s hF
                exact rt_i X hr hlocks hP hD hS dX1_told_96
              · have hF := o_f c8 hF
                by_cases c9 : x2 = 5
                · have hF := o_t c9 hF
                  refine lv_tableIn (off := 74) (tgt := 97) hx hb dX1_told_23 (by rw [c9]; decide) (by rw [c9]; decide) (by rw [c9]; rfl) (by decide) ?_
                  refine lv_aload_n hx hb dX1_told_97 rfl (lv_at hl 0 rfl) ?_
                  obtain ⟨h18, hF⟩ := o_i hF
                  refine cs_get X hin0 hK hN hP h18 5 (by decide) (by decide) (by decide) (v := .int (z1.1 b3 5)) rfl dX1_told_98 ?_
                  obtain ⟨rfl, rfl⟩ := o_s hF
                  exact rt_i X hr hlocks hP hD hS dX1_told_101
                · have hF := o_f c9 hF
                  by_cases c10 : x2 = 6
                  · have hF := o_t c10 hF
                    refine lv_tableIn (off := 79) (tgt := 102) hx hb dX1_told_23 (by rw [c10]; decide) (by rw [c10]; decide) (by rw [c10]; rfl) (by decide) ?_
                    refine lv_aload_n hx hb dX1_told_102 rfl (lv_at hl 0 rfl) ?_
                    obtain ⟨h19, hF⟩ := o_i hF
                    refine cs_get X hin0 hK hN hP h19 6 (by decide) (by decide) (by decide) (v := .int (z1.1 b3 6)) rfl dX1_told_103 ?_
                    obtain ⟨rfl, rfl⟩ := o_s hF
                    exact rt_i X hr hlocks hP hD hS dX1_told_106
                  · have hF := o_f c10 hF
                    by_cases c11 : x2 = 7
                    · have hF := o_t c11 hF
                      refine lv_tableIn (off := 84) (tgt := 107) hx hb dX1_told_23 (by rw [c11]; decide) (by rw [c11]; decide) (by rw [c11]; rfl) (by decide) ?_
                      refine lv_aload_n hx hb dX1_told_107 rfl (lv_at hl 0 rfl) ?_
                      obtain ⟨h20, hF⟩ := o_i hF
                      refine cs_get X hin0 hK hN hP h20 7 (by decide) (by decide) (by decide) (v := .int (z1.1 b3 7)) rfl dX1_told_108 ?_
                      obtain ⟨rfl, rfl⟩ := o_s hF
                      exact rt_i X hr hlocks hP hD hS dX1_told_111
                    · have hF := o_f c11 hF
                      by_cases c12 : x2 = 8
                      · have hF := o_t c12 hF
                        refine lv_tableIn (off := 89) (tgt := 112) hx hb dX1_told_23 (by rw [c12]; decide) (by rw [c12]; decide) (by rw [c12]; rfl) (by decide) ?_
                        refine lv_aload_n hx hb dX1_told_112 rfl (lv_at hl 0 rfl) ?_
                        obtain ⟨h21, hF⟩ := o_i hF
                        refine cs_get X hin0 hK hN hP h21 8 (by decide) (by decide) (by decide) (v := .int (z1.1 b3 8)) rfl dX1_told_113 ?_
                        obtain ⟨rfl, rfl⟩ := o_s hF
                        exact rt_i X hr hlocks hP hD hS dX1_told_116
                      · have hF := o_f c12 hF
                        refine lv_tableOut (tgt := 117) hx hb dX1_told_23 (by have g4 := lv_neT c4 (a := 0) rfl; have g5 := lv_neT c5 (a := 1) rfl; have g6 := lv_neT c6 (a := 2) rfl; have g7 := lv_neT c7 (a := 3) rfl; have g8 := lv_neT c8 (a := 4) rfl; have g9 := lv_neT c9 (a := 5) rfl; have g10 := lv_neT c10 (a := 6) rfl; have g11 := lv_neT c11 (a := 7) rfl; have g12 := lv_neT c12 (a := 8) rfl; omega) (by decide) ?_
                        refine lv_iconst (v := (-1)) hx hb dX1_told_117 (by decide) ?_
                        obtain ⟨rfl, rfl⟩ := o_s hF
                        exact rt_i X hr hlocks hP hD hS dX1_told_118
  · have hF := o_t c2 hF
    refine lv_iconst (v := (-1)) hx hb dX1_told_7 (by decide) ?_
    obtain ⟨rfl, rfl⟩ := o_s hF
    exact rt_i X hr hlocks hP hD hS dX1_told_8
def fX1_countStanding_j22 (K4 : SC → Int32 → Int32 → Option (Int32 × SC)) (z0 : SC) (y1 : Int32) (y2 : Int32) : Option (Int32 × SC) := (K4 z0 y1 (y2 + 1))
set_option maxRecDepth 100000 in
set_option maxHeartbeats 4000000 in
theorem jX1_countStanding_22 {p : Program} {l : Launch} {e : Env} {s : State} {m : MethodId} {args : Array Value} {below : List Frame} {meth : Method} {c : Code} {G : va_G} {cy cyO : ClassId} {a : Nat → Nat} {A : Nat → Prop} {r : Int32} {u : SC} (X : CallFix p m c cX1_countStanding 3 s args wsX1_countStanding RX1) (hr : meth.sig.returnType = (some .int)) (hlocks : meth.locks = false) (hK : va_K G vwCl (tys_ cy cyO) s) (hN : nw s) (hA : ∀ q, s.heap.size ≤ q → A q) (K4 : SC → Int32 → Int32 → Option (Int32 × SC)) (hK4 : ∀ (z0 : SC) (y1 : Int32) (y2 : Int32), K4 z0 y1 y2 = some (r, u) → ∀ (H : Heap) (locs : List Loc), va_P G vwCl (cW a cy cyO z0) H → va_D A (cW a cy cyO z0) → va_S A s.heap H locs → ∀ (ls : Array Slot), lv_has ls 3 [(0, .ref (a 0)), (1, .int y1), (2, .int y2)] → W p l e ({ frames := 0, cells := 0, slots := 0, locals := 0 } : Room) s m args below meth c H locs 0 0 (MQ below (qg (some (.int r)) (fun t => wPost G A (cW a cy cyO u) t) A) args s 0 0 A) (F0 m 4 ls [])) : ∀ (z0 : SC) (y1 : Int32) (y2 : Int32), fX1_countStanding_j22 K4 z0 y1 y2 = some (r, u) → ∀ (H : Heap) (locs : List Loc), va_P G vwCl (cW a cy cyO z0) H → va_D A (cW a cy cyO z0) → va_S A s.heap H locs → ∀ (ls : Array Slot), lv_has ls 3 [(0, .ref (a 0)), (1, .int y1), (2, .int y2)] → W p l e ({ frames := 0, cells := 0, slots := 0, locals := 0 } : Room) s m args below meth c H locs 0 0 (MQ below (qg (some (.int r)) (fun t => wPost G A (cW a cy cyO u) t) A) args s 0 0 A) (F0 m 22 ls []) := by
  obtain ⟨hx, hb, hml, hown, hts⟩ := id X
  have hin1 : ∀ w ∈ wsX10, w ∈ wsX1_countStanding := by decide +kernel
  intro z0 y1 y2 hF H locs hP hD hS ls hl
  unfold fX1_countStanding_j22 at hF
  refine lv_iinc (v := y2 + 1) (lv' := [(2, .int (y2 + 1)), (0, .ref (a 0)), (1, .int y1)]) hx hb dX1_countStanding_22 hl (k := 2) rfl rfl (by decide) rfl (fun ls hl => ?_)
  refine lv_goto (tgt := 4) hx hb dX1_countStanding_25 (by decide) ?_
  exact hK4 z0 y1 (y2 + 1) hF H locs hP hD hS ls (lv_sub hl [1, 2, 0] rfl)
def fX1_countStanding_j4 : Nat → SC → Int32 → Int32 → Option (Int32 × SC)
  | 0, _, _, _ => none
  | n + 1, z0, y1, y2 => (if 12 ≤ y2 then some (y1, z0) else if y2 < 0 ∨ 12 ≤ y2.toNatClampNeg then none else (opt_ (z0.2.2.1 y2.toNatClampNeg) ((fX1_countStanding_j22 (fX1_countStanding_j4 n) z0 y1 y2)) (fun b2 => (fX1_countStanding_j22 (fX1_countStanding_j4 n) z0 (y1 + 1) y2))))
set_option maxRecDepth 100000 in
set_option maxHeartbeats 4000000 in
theorem jX1_countStanding_4 {p : Program} {l : Launch} {e : Env} {s : State} {m : MethodId} {args : Array Value} {below : List Frame} {meth : Method} {c : Code} {G : va_G} {cy cyO : ClassId} {a : Nat → Nat} {A : Nat → Prop} {r : Int32} {u : SC} (X : CallFix p m c cX1_countStanding 3 s args wsX1_countStanding RX1) (hr : meth.sig.returnType = (some .int)) (hlocks : meth.locks = false) (hK : va_K G vwCl (tys_ cy cyO) s) (hN : nw s) (hA : ∀ q, s.heap.size ≤ q → A q) : ∀ n : Nat, ∀ (z0 : SC) (y1 : Int32) (y2 : Int32), fX1_countStanding_j4 n z0 y1 y2 = some (r, u) → ∀ (H : Heap) (locs : List Loc), va_P G vwCl (cW a cy cyO z0) H → va_D A (cW a cy cyO z0) → va_S A s.heap H locs → ∀ (ls : Array Slot), lv_has ls 3 [(0, .ref (a 0)), (1, .int y1), (2, .int y2)] → W p l e ({ frames := 0, cells := 0, slots := 0, locals := 0 } : Room) s m args below meth c H locs 0 0 (MQ below (qg (some (.int r)) (fun t => wPost G A (cW a cy cyO u) t) A) args s 0 0 A) (F0 m 4 ls []) := by
  obtain ⟨hx, hb, hml, hown, hts⟩ := id X
  have hin1 : ∀ w ∈ wsX10, w ∈ wsX1_countStanding := by decide +kernel
  intro n
  induction n with
  | zero => intro z0 y1 y2 hF; cases hF
  | succ n ih =>
    intro z0 y1 y2 hF H locs hP hD hS ls hl
    rw [fX1_countStanding_j4] at hF
    refine lv_iload_n hx hb dX1_countStanding_4 rfl (lv_at hl 2 rfl) ?_
    refine lv_bipush (v := 12) hx hb dX1_countStanding_5 (by decide) ?_
    refine lv_icmp_ge (tgt := 28) hx hb dX1_countStanding_7 (by decide) (fun c1 => ?_) (fun c1 => ?_)
    · have hF := o_t c1 hF
      refine lv_iload_n hx hb dX1_countStanding_28 rfl (lv_at hl 1 rfl) ?_
      obtain ⟨rfl, rfl⟩ := o_s hF
      exact rt_i X hr hlocks hP hD hS dX1_countStanding_29
    · have hF := o_f c1 hF
      refine lv_aload_n hx hb dX1_countStanding_10 rfl (lv_at hl 0 rfl) ?_
      refine va_get (D := G) (ci := 1) (v := .ref (a 1)) (C := RX1) (T := TX1) (N := 10) hx hb hts hin1 hown hK hP 0 rfl rfl 0 (by decide) (hts (.fieldLink RX1 11 "SignalBox" "standing" "[LSignalBox$Section;") (by decide +kernel)) (fun _ h9 => h9) rfl dX1_countStanding_11 ?_
      refine lv_iload_n hx hb dX1_countStanding_14 rfl (lv_at hl 2 rfl) ?_
      obtain ⟨h2, hF⟩ := o_n hF
      refine va_aldq (n := 12) (f := z0.2.2.1) (cA := cyO) (C := RX0) hx hb hK hP 1 1 rfl rfl h2 dX1_countStanding_15 ?_
      rcases ho2 : z0.2.2.1 y2.toNatClampNeg with _ | b2
      · have hF := o_mn ho2 hF
        refine w_none rfl ?_
        refine lv_ifnullN (tgt := 22) hx hb dX1_countStanding_16 (by decide) ?_
        exact jX1_countStanding_22 X hr hlocks hK hN hA (fX1_countStanding_j4 n) ih z0 y1 y2 hF H locs hP hD hS ls (lv_sub hl [0, 1, 2] rfl)
      · have hF := o_ms ho2 hF
        refine w_some rfl ?_
        refine lv_ifnull hx hb dX1_countStanding_16 ?_
        refine lv_iinc (v := y1 + 1) (lv' := [(1, .int (y1 + 1)), (0, .ref (a 0)), (2, .int y2)]) hx hb dX1_countStanding_19 hl (k := 1) rfl rfl (by decide) rfl (fun ls hl => ?_)
        exact jX1_countStanding_22 X hr hlocks hK hN hA (fX1_countStanding_j4 n) ih z0 (y1 + 1) y2 hF H locs hP hD hS ls (lv_sub hl [1, 0, 2] rfl)
def fX1_countStanding (z0 : SC) : Option (Int32 × SC) := (fX1_countStanding_j4 20 z0 0 0)
set_option maxRecDepth 100000 in
set_option maxHeartbeats 4000000 in
theorem kX1_countStanding (l : Launch) (G : va_G) (cy cyO : ClassId) (a : Nat → Nat) (z0 : SC) (r : Int32) (u : SC) (hF : fX1_countStanding z0 = some (r, u)) : Ct l G (tys_ cy cyO) yX1_countStanding wsX1_countStanding ({ frames := 0, cells := 0, slots := 0, locals := 0 } : Room) [.ref (a 0)] (cW a cy cyO z0) (some (.int r)) (cW a cy cyO u) := by
  unfold fX1_countStanding at hF
  refine ct_of (cc := cX1_countStanding) (maxL := 3) (ret := (some .int)) (own := RX1) (by decide) rfl (Nat.le_of_ble_eq_true rfl) rfl ?_
  intro p e s m below meth c A ls X hr hlocks _ hK hN hA hP hD hl
  have hS : va_S A s.heap s.heap [] := va_S.rf
  have hl : lv_has ls 3 [(0, .ref (a 0))] := hl
  obtain ⟨hx, hb, hml, hown, hts⟩ := id X
  have hin1 : ∀ w ∈ wsX10, w ∈ wsX1_countStanding := by decide +kernel
  refine lv_iconst (v := 0) hx hb dX1_countStanding_0 (by decide) ?_
  refine lv_istore_n (lv' := [(1, .int 0), (0, .ref (a 0))]) hx hb dX1_countStanding_1 rfl hl (by decide) rfl (fun ls hl => ?_)
  refine lv_iconst (v := 0) hx hb dX1_countStanding_2 (by decide) ?_
  refine lv_istore_n (lv' := [(2, .int 0), (1, .int 0), (0, .ref (a 0))]) hx hb dX1_countStanding_3 rfl hl (by decide) rfl (fun ls hl => ?_)
  exact jX1_countStanding_4 X hr hlocks hK hN hA 20 z0 0 0 hF s.heap [] hP hD hS ls (lv_sub hl [2, 1, 0] rfl)
def fX1_count (z0 : SC) (x1 : Int32) : Option (Int32 × SC) := (if x1 = 0 then some (z0.2.2.2.2.2.2.2.1, z0) else (if x1 = 1 then bd_ (fX1_countStanding z0) (fun r6 z6 => some (r6, z6)) else (if x1 = 2 then some (z0.2.2.2.2.2.2.2.2.1, z0) else (if x1 = 3 then some (z0.2.2.2.2.2.2.2.2.2.1, z0) else (if x1 = 4 then some (z0.2.2.2.2.2.2.2.2.2.2.1, z0) else bd_ (fX1_isRoute z0 (x1 - 5)) (fun r7 z7 => (if r7 = 0 then some ((-1), z7) else if (x1 - 5) < 0 ∨ 6 ≤ (x1 - 5).toNatClampNeg then none else let_ (z7.2.2.2.2.1 (x1 - 5).toNatClampNeg) (fun v9 => some (v9, z7)))))))))
set_option maxRecDepth 100000 in
set_option maxHeartbeats 4000000 in
theorem kX1_count (l : Launch) (G : va_G) (cy cyO : ClassId) (a : Nat → Nat) (z0 : SC) (x1 : Int32) (r : Int32) (u : SC) (hF : fX1_count z0 x1 = some (r, u)) : Ct l G (tys_ cy cyO) yX1_count wsX1_count ({ frames := 1, cells := 0, slots := 0, locals := 22 } : Room) [.ref (a 0), .int x1] (cW a cy cyO z0) (some (.int r)) (cW a cy cyO u) := by
  unfold fX1_count at hF
  refine ct_of (cc := cX1_count) (maxL := 2) (ret := (some .int)) (own := RX1) (by decide) rfl (Nat.le_of_ble_eq_true rfl) rfl ?_
  intro p e s m below meth c A ls X hr hlocks _ hK hN hA hP hD hl
  have hS : va_S A s.heap s.heap [] := va_S.rf
  have hl : lv_has ls 2 [(0, .ref (a 0)), (1, .int x1)] := hl
  obtain ⟨hx, hb, hml, hown, hts⟩ := id X
  have hin1 : ∀ w ∈ wsX10, w ∈ wsX1_count := by decide +kernel
  refine lv_iload_n hx hb dX1_count_0 rfl (lv_at hl 1 rfl) ?_
  by_cases c1 : x1 = 0
  · have hF := o_t c1 hF
    refine lv_tableIn (off := 35) (tgt := 36) hx hb dX1_count_1 (by rw [c1]; decide) (by rw [c1]; decide) (by rw [c1]; rfl) (by decide) ?_
    refine lv_aload_n hx hb dX1_count_36 rfl (lv_at hl 0 rfl) ?_
    refine va_get (D := G) (ci := 1) (v := .int z0.2.2.2.2.2.2.2.1) (C := RX1) (T := TX1) (N := 10) hx hb hts hin1 hown hK hP 0 rfl rfl 5 (by decide) (hts (.fieldLink RX1 32 "SignalBox" "made" "I") (by decide +kernel)) (fun _ h9 => h9) rfl dX1_count_37 ?_
    obtain ⟨rfl, rfl⟩ := o_s hF
    exact rt_i X hr hlocks hP hD hS dX1_count_40
  · have hF := o_f c1 hF
    by_cases c2 : x1 = 1
    · have hF := o_t c2 hF
      refine lv_tableIn (off := 40) (tgt := 41) hx hb dX1_count_1 (by rw [c2]; decide) (by rw [c2]; decide) (by rw [c2]; rfl) (by decide) ?_
      refine lv_aload_n hx hb dX1_count_41 rfl (lv_at hl 0 rfl) ?_
      obtain ⟨r6, z6, hG6, hF⟩ := o_b hF
      refine cl_V (C := RX1) (rest := []) X hK hN hA hP hD hS (kX1_countStanding l G cy cyO a z0 r6 z6 hG6) (cwV 0 hts gX1_count_X1_countStanding rfl rfl rfl (by decide +kernel) ⟨Nat.le_of_ble_eq_true rfl, Nat.le_of_ble_eq_true rfl⟩) (va_recv hK hP (ci := 1) (q0 := 0) rfl rfl) rfl hl.1 rfl (Nat.le_of_ble_eq_true rfl) dX1_count_42 ⟨Nat.zero_le _, Nat.zero_le _⟩ (fun H locs hP hD hS => ?_)
      refine W.eq (g2 := F0 m 45 ls [.int r6]) rfl ?_
      obtain ⟨rfl, rfl⟩ := o_s hF
      exact rt_i X hr hlocks hP hD hS dX1_count_45
    · have hF := o_f c2 hF
      by_cases c3 : x1 = 2
      · have hF := o_t c3 hF
        refine lv_tableIn (off := 45) (tgt := 46) hx hb dX1_count_1 (by rw [c3]; decide) (by rw [c3]; decide) (by rw [c3]; rfl) (by decide) ?_
        refine lv_aload_n hx hb dX1_count_46 rfl (lv_at hl 0 rfl) ?_
        refine va_get (D := G) (ci := 1) (v := .int z0.2.2.2.2.2.2.2.2.1) (C := RX1) (T := TX1) (N := 10) hx hb hts hin1 hown hK hP 0 rfl rfl 6 (by decide) (hts (.fieldLink RX1 48 "SignalBox" "runs" "I") (by decide +kernel)) (fun _ h9 => h9) rfl dX1_count_47 ?_
        obtain ⟨rfl, rfl⟩ := o_s hF
        exact rt_i X hr hlocks hP hD hS dX1_count_50
      · have hF := o_f c3 hF
        by_cases c4 : x1 = 3
        · have hF := o_t c4 hF
          refine lv_tableIn (off := 50) (tgt := 51) hx hb dX1_count_1 (by rw [c4]; decide) (by rw [c4]; decide) (by rw [c4]; rfl) (by decide) ?_
          refine lv_aload_n hx hb dX1_count_51 rfl (lv_at hl 0 rfl) ?_
          refine va_get (D := G) (ci := 1) (v := .int z0.2.2.2.2.2.2.2.2.2.1) (C := RX1) (T := TX1) (N := 10) hx hb hts hin1 hown hK hP 0 rfl rfl 7 (by decide) (hts (.fieldLink RX1 114 "SignalBox" "nullFailures" "I") (by decide +kernel)) (fun _ h9 => h9) rfl dX1_count_52 ?_
          obtain ⟨rfl, rfl⟩ := o_s hF
          exact rt_i X hr hlocks hP hD hS dX1_count_55
        · have hF := o_f c4 hF
          by_cases c5 : x1 = 4
          · have hF := o_t c5 hF
            refine lv_tableIn (off := 55) (tgt := 56) hx hb dX1_count_1 (by rw [c5]; decide) (by rw [c5]; decide) (by rw [c5]; rfl) (by decide) ?_
            refine lv_aload_n hx hb dX1_count_56 rfl (lv_at hl 0 rfl) ?_
            refine va_get (D := G) (ci := 1) (v := .int z0.2.2.2.2.2.2.2.2.2.2.1) (C := RX1) (T := TX1) (N := 10) hx hb hts hin1 hown hK hP 0 rfl rfl 8 (by decide) (hts (.fieldLink RX1 117 "SignalBox" "fullFailures" "I") (by decide +kernel)) (fun _ h9 => h9) rfl dX1_count_57 ?_
            obtain ⟨rfl, rfl⟩ := o_s hF
            exact rt_i X hr hlocks hP hD hS dX1_count_60
          · have hF := o_f c5 hF
            refine lv_tableOut (tgt := 61) hx hb dX1_count_1 (by have g1 := lv_neT c1 (a := 0) rfl; have g2 := lv_neT c2 (a := 1) rfl; have g3 := lv_neT c3 (a := 2) rfl; have g4 := lv_neT c4 (a := 3) rfl; have g5 := lv_neT c5 (a := 4) rfl; omega) (by decide) ?_
            refine lv_iload_n hx hb dX1_count_61 rfl (lv_at hl 1 rfl) ?_
            refine lv_iconst (v := 5) hx hb dX1_count_62 (by decide) ?_
            refine lv_isub hx hb dX1_count_63 ?_
            obtain ⟨r7, z7, hG7, hF⟩ := o_b hF
            refine cl_S (rest := []) X hK hN hA hP hD hS (kX1_isRoute l G cy cyO a z0 (x1 - 5) r7 z7 hG7) (va_cwS 1 hts gX1_count_X1_isRoute rfl rfl rfl (by decide +kernel) ⟨Nat.le_of_ble_eq_true rfl, Nat.le_of_ble_eq_true rfl⟩) rfl hl.1 rfl (Nat.le_of_ble_eq_true rfl) dX1_count_64 ⟨Nat.zero_le _, Nat.zero_le _⟩ (fun H locs hP hD hS => ?_)
            refine W.eq (g2 := F0 m 67 ls [.int r7]) rfl ?_
            refine lv_if_eq (tgt := 81) hx hb dX1_count_67 (by decide) (fun c8 => ?_) (fun c8 => ?_)
            · have hF := o_t c8 hF
              refine lv_iconst (v := (-1)) hx hb dX1_count_81 (by decide) ?_
              obtain ⟨rfl, rfl⟩ := o_s hF
              exact rt_i X hr hlocks hP hD hS dX1_count_82
            · have hF := o_f c8 hF
              refine lv_aload_n hx hb dX1_count_70 rfl (lv_at hl 0 rfl) ?_
              refine va_get (D := G) (ci := 1) (v := .ref (a 3)) (C := RX1) (T := TX1) (N := 10) hx hb hts hin1 hown hK hP 0 rfl rfl 2 (by decide) (hts (.fieldLink RX1 19 "SignalBox" "routeLengths" "[I") (by decide +kernel)) (fun _ h9 => h9) rfl dX1_count_71 ?_
              refine lv_iload_n hx hb dX1_count_74 rfl (lv_at hl 1 rfl) ?_
              refine lv_iconst (v := 5) hx hb dX1_count_75 (by decide) ?_
              refine lv_isub hx hb dX1_count_76 ?_
              obtain ⟨h9, hF⟩ := o_n hF
              refine va_iald (n := 6) (f := z7.2.2.2.2.1) (cA := cy) hx hb hK hP 3 0 rfl rfl h9 dX1_count_77 ?_
              obtain ⟨v9, e9, hF⟩ := o_l hF
              refine w_top e9 ?_
              refine lv_goto (tgt := 82) hx hb dX1_count_78 (by decide) ?_
              obtain ⟨rfl, rfl⟩ := o_s hF
              exact rt_i X hr hlocks hP hD hS dX1_count_82
end
section
/-! ===== the class beside the reference: what holds of both states ===== -/
theorem bd_some {α β γ : Type} (r : α) (u : β) (f : α → β → Option γ) : bd_ (some (r, u)) f = f r u := rfl
theorem setS_at (f : Nat → Nat → Int32) (x k : Nat) (v : Int32) (j : Nat) : setS f x k v x j = if j = k then v else f x j := by simp [setS]
theorem setA_at (f : Nat → Nat → Int32) (k : Nat) (g : Nat → Int32) (j : Nat) : setA f k g j = if j = k then g else f j := rfl
theorem setA_id (f : Nat → Nat → Int32) (k i : Nat) : setA f k (upd (f k) i (f k i)) = f := by
  funext j m
  by_cases h : j = k
  · subst h
    by_cases h2 : m = i
    · subst h2; simp [setA, upd]
    · simp [setA, upd, h2]
  · simp [setA, h]
def Ci (C : CC) : Prop := (∀ q, q < 48 → ∃ p, p < 12 ∧ C.1 q = nI p) ∧ (∀ r, r < 6 → ∃ j, j ≤ 8 ∧ C.2.1 r = nI j) ∧ ∃ t, t ≤ 150 ∧ C.2.2.2.1 = nI t
/-- one of n sections -/
def Rs (zc : SC) (zm : SM) : Prop := ∀ k x, zc.2.1[k]? = some x → zc.1 x 0 = nI k ∧ (zc.1 x 1 = 0 ∨ zc.1 x 1 = 1 ∨ zc.1 x 1 = 2) ∧ ∀ f, 1 ≤ f → f ≤ 8 → zc.1 x f = zm.1 f k
def Rp (zc : SC) (zm : SM) : Prop := ∀ p, p < 12 → (zc.2.2.1 p = none ∧ zm.2.1 p = -1) ∨ ∃ k x, zc.2.1[k]? = some x ∧ zc.2.2.1 p = some x ∧ zm.2.1 p = nI k
def Li (L : List Nat) : Prop := ∀ (i j x : Nat), L[i]? = some x → L[j]? = some x → i = j
def Rl (n : Nat) (zc : SC) (zm : SM) : Prop := zc.2.2.2 = zm.2.2 ∧ (zc.2.1.length = n ∧ n ≤ 600 ∧ Li zc.2.1) ∧ Rs zc zm ∧ Rp zc zm ∧ Ci zc.2.2.2 ∧ zc.2.2.2.2.2.2.2.1 = nI n
theorem Rl.lt {n : Nat} {zc : SC} {zm : SM} (h : Rl n zc zm) {k x : Nat} (hk : zc.2.1[k]? = some x) : k < 640 := by
  have h1 := (List.getElem?_eq_some_iff.mp hk).1
  have h2 := h.2.1.1
  have h3 := h.2.1.2.1
  omega
theorem Rl.mem {zc : SC} {k x : Nat} (hk : zc.2.1[k]? = some x) : x ∈ zc.2.1 := List.mem_of_getElem? hk
theorem Rl.set {n : Nat} {zc : SC} {zm : SM} (h : Rl n zc zm) {k x : Nat} (hk : zc.2.1[k]? = some x) (f : Nat) (hf : 2 ≤ f) (v : Int32) : Rl n (setS zc.1 x f v, zc.2) (setA zm.1 f (upd (zm.1 f) k v), zm.2) := by
  obtain ⟨h1, h2, h3, h4, h5, h6⟩ := h
  refine ⟨h1, h2, ?_, h4, h5, h6⟩
  intro k' x' hk'
  obtain ⟨a1, a2, a3⟩ := h3 k' x' hk'
  by_cases hx : x' = x
  · subst hx
    have hkk := h2.2.2 k' k x' hk' hk
    subst hkk
    refine ⟨?_, ?_, ?_⟩
    · show setS zc.1 x' f v x' 0 = _
      rw [setS_at, if_neg (by omega)]; exact a1
    · show setS zc.1 x' f v x' 1 = 0 ∨ setS zc.1 x' f v x' 1 = 1 ∨ setS zc.1 x' f v x' 1 = 2
      rw [setS_at, if_neg (by omega)]; exact a2
    · intro g hg1 hg8
      show setS zc.1 x' f v x' g = setA zm.1 f (upd (zm.1 f) k' v) g k'
      rw [setS_at, setA_at]
      by_cases hgf : g = f
      · rw [if_pos hgf, if_pos hgf, pk_us]
      · rw [if_neg hgf, if_neg hgf]; exact a3 g hg1 hg8
  · have hne : k' ≠ k := fun e => hx (by subst e; exact Option.some.inj (hk'.symm.trans hk))
    have e1 : ∀ j, setS zc.1 x f v x' j = zc.1 x' j := fun j => by simp [setS, hx]
    refine ⟨(e1 0).trans a1, ?_, ?_⟩
    · show setS zc.1 x f v x' 1 = 0 ∨ setS zc.1 x f v x' 1 = 1 ∨ setS zc.1 x f v x' 1 = 2
      rw [e1]; exact a2
    · intro g hg1 hg8
      show setS zc.1 x f v x' g = setA zm.1 f (upd (zm.1 f) k v) g k'
      rw [e1, setA_at]
      by_cases hgf : g = f
      · rw [if_pos hgf, pk_un hne, ← hgf]; exact a3 g hg1 hg8
      · rw [if_neg hgf]; exact a3 g hg1 hg8
theorem Rl.com {n : Nat} {zc : SC} {zm : SM} (h : Rl n zc zm) {C : CC} (hC : Ci C) (hm : C.2.2.2.2.1 = nI n) : Rl n (zc.1, zc.2.1, zc.2.2.1, C) (zm.1, zm.2.1, C) := by
  obtain ⟨h1, h2, h3, h4, h5, h6⟩ := h
  exact ⟨rfl, h2, h3, h4, hC, hm⟩
def lvC (v : Int32) (C : CC) : CC := if 150 ≤ C.2.2.2.1 then C else (C.1, C.2.1, upd C.2.2.1 C.2.2.2.1.toNatClampNeg v, C.2.2.2.1 + 1, C.2.2.2.2)
theorem tr_lt {t : Nat} {y : Int32} (ht : t ≤ 150) (e : y = nI t) (hc : ¬ 150 ≤ y) : t < 150 := by
  rcases Nat.lt_or_ge t 150 with h | h
  · exact h
  · exact absurd (by rw [e]; exact nI_le (a := 150) h (by omega)) hc
theorem Ci.lv {C : CC} (h : Ci C) (v : Int32) : Ci (lvC v C) := by
  obtain ⟨h1, h2, t, ht, e⟩ := h
  unfold lvC
  by_cases hc : 150 ≤ C.2.2.2.1
  · rw [if_pos hc]; exact ⟨h1, h2, t, ht, e⟩
  · rw [if_neg hc]
    have hlt := tr_lt ht e hc
    exact ⟨h1, h2, t + 1, hlt, by show C.2.2.2.1 + 1 = _; rw [e]; exact nI_1 t⟩
theorem lvC_1 (v : Int32) (C : CC) : (lvC v C).1 = C.1 ∧ (lvC v C).2.1 = C.2.1 ∧ (lvC v C).2.2.2.2 = C.2.2.2.2 := by
  unfold lvC
  by_cases hc : 150 ≤ C.2.2.2.1
  · rw [if_pos hc]; exact ⟨rfl, rfl, rfl⟩
  · rw [if_neg hc]; exact ⟨rfl, rfl, rfl⟩
theorem m_leave {zm : SM} (h : Ci zm.2.2) (v : Int32) : fX2_leave zm v = some (0, (zm.1, zm.2.1, lvC v zm.2.2)) := by
  obtain ⟨-, -, t, ht, e⟩ := h
  unfold fX2_leave lvC
  by_cases hc : 150 ≤ zm.2.2.2.2.2.1
  · rw [if_pos hc, if_pos hc]
  · have hlt := tr_lt ht e hc
    rw [if_neg hc, if_neg hc, if_neg (by rw [e]; exact nI_in hlt (by omega))]
    rfl
theorem c_leave {zc : SC} (h : Ci zc.2.2.2) {x : Nat} (hx : x ∈ zc.2.1) : fX1_claim_j39 zc x = some (0, (zc.1, zc.2.1, zc.2.2.1, lvC (1000 + zc.1 x 0) zc.2.2.2)) := by
  obtain ⟨-, -, t, ht, e⟩ := h
  unfold fX1_claim_j39 lvC
  by_cases hc : 150 ≤ zc.2.2.2.2.2.2.1
  · rw [if_pos hc, if_pos hc]
  · have hlt := tr_lt ht e hc
    rw [if_neg hc, if_neg hc]
    simp only [let_]
    rw [if_pos hx, if_neg (by rw [e]; exact nI_in hlt (by omega))]
theorem c_let {zc : SC} (h : Ci zc.2.2.2) {x : Nat} (hx : x ∈ zc.2.1) : fX1_let zc x = some (0, (setS zc.1 x 7 (zc.1 x 7 - 1), zc.2.1, zc.2.2.1, lvC (2000 + zc.1 x 0) zc.2.2.2)) := by
  obtain ⟨-, -, t, ht, e⟩ := h
  unfold fX1_let lvC
  simp only [let_]
  rw [if_pos hx, if_pos hx]
  by_cases hc : 150 ≤ zc.2.2.2.2.2.2.1
  · rw [if_pos hc, if_pos hc]
  · have hlt := tr_lt ht e hc
    rw [if_neg hc, if_neg hc, if_pos hx, if_neg (by rw [e]; exact nI_in hlt (by omega)), setS_at]
    rfl
theorem m_let {zm : SM} (h : Ci zm.2.2) {k : Nat} (hk : k < 640) : fX2_let zm (nI k) = some (0, (setA zm.1 7 (upd (zm.1 7) k (zm.1 7 k - 1)), zm.2.1, lvC (2000 + nI k) zm.2.2)) := by
  have hc := nI_in hk (by omega)
  have e := nI_clamp (n := k) (by omega)
  unfold fX2_let
  simp only [let_]
  rw [if_neg hc, e, if_neg (by rw [e] at hc; exact hc), m_leave (zm := (setA zm.1 7 (upd (zm.1 7) k (zm.1 7 k - 1)), zm.2)) h, bd_some]
def Fq (zc zd : SC) : Prop := zd.2.1 = zc.2.1 ∧ zd.2.2.1 = zc.2.2.1 ∧ zd.2.2.2.1 = zc.2.2.2.1 ∧ zd.2.2.2.2.1 = zc.2.2.2.2.1 ∧ zd.2.2.2.2.2.2.2 = zc.2.2.2.2.2.2.2
theorem Fq.rf {zc : SC} : Fq zc zc := ⟨rfl, rfl, rfl, rfl, rfl⟩
theorem Fq.tr {a b c : SC} (h : Fq a b) (g : Fq b c) : Fq a c := ⟨g.1.trans h.1, g.2.1.trans h.2.1, g.2.2.1.trans h.2.2.1, g.2.2.2.1.trans h.2.2.2.1, g.2.2.2.2.trans h.2.2.2.2⟩
theorem Fq.at {zc zd : SC} (h : Fq zc zd) {k x : Nat} (hk : zc.2.1[k]? = some x) : zd.2.1[k]? = some x := by rw [h.1]; exact hk
theorem Rl.leave {n : Nat} {zc : SC} {zm : SM} (h : Rl n zc zm) (v : Int32) : Rl n (zc.1, zc.2.1, zc.2.2.1, lvC v zc.2.2.2) (zm.1, zm.2.1, lvC v zm.2.2) := by
  have e := h.1
  rw [← e]
  exact h.com (h.2.2.2.2.1.lv v) (by rw [(lvC_1 v zc.2.2.2).2.2]; exact h.2.2.2.2.2)
theorem Fq.leave {zc : SC} (f : Nat → Nat → Int32) (v : Int32) : Fq zc (f, zc.2.1, zc.2.2.1, lvC v zc.2.2.2) := ⟨rfl, rfl, (lvC_1 v _).1, (lvC_1 v _).2.1, (lvC_1 v _).2.2⟩
theorem s_let {n : Nat} {zc : SC} {zm : SM} (h : Rl n zc zm) {k x : Nat} (hk : zc.2.1[k]? = some x) : ∃ zd zn, fX1_let zc x = some (0, zd) ∧ fX2_let zm (nI k) = some (0, zn) ∧ Rl n zd zn ∧ Fq zc zd := by
  obtain ⟨q0, -, q⟩ := h.2.2.1 k x hk
  have q7 := q 7 (by omega) (by omega)
  refine ⟨_, _, c_let h.2.2.2.2.1 (Rl.mem hk), m_let (h.1 ▸ h.2.2.2.2.1) (h.lt hk), ?_, Fq.leave _ _⟩
  rw [q0, q7]
  exact (h.set hk 7 (by omega) _).leave (2000 + nI k)
theorem s_claim {n : Nat} {zc : SC} {zm : SM} (h : Rl n zc zm) {k x : Nat} (hk : zc.2.1[k]? = some x) : ∃ zd zn, fX1_claim zc x = some (0, zd) ∧ fX2_claim zm (nI k) = some (0, zn) ∧ Rl n zd zn ∧ Fq zc zd := by
  obtain ⟨q0, -, q⟩ := h.2.2.1 k x hk
  have q7 := q 7 (by omega) (by omega)
  have q6 := q 6 (by omega) (by omega)
  have q8 := q 8 (by omega) (by omega)
  have hx := Rl.mem hk
  have hc := nI_in (h.lt hk) (by omega)
  have e := nI_clamp (n := k) (by have := h.lt hk; omega)
  rw [e] at hc
  have R2 := (h.set hk 7 (by omega) (zm.1 7 k + 1)).set hk 6 (by omega) (zm.1 6 k + 1)
  have hCi : Ci zm.2.2 := h.1 ▸ h.2.2.2.2.1
  unfold fX1_claim fX2_claim
  simp only [let_, if_pos hx, e, if_neg hc, setS_at, setA_at, pk_us, q7, q6, q8, if_true, if_false, Nat.reduceEqDiff]
  by_cases hm : zm.1 7 k + 1 ≤ zm.1 8 k
  · rw [if_pos hm, if_pos hm]
    rw [m_leave (zm := (setA (setA (setA zm.1 7 (upd (zm.1 7) k (zm.1 7 k + 1))) 6 (upd (zm.1 6) k (zm.1 6 k + 1))) 8 (upd (zm.1 8) k (zm.1 8 k)), zm.2)) hCi, c_leave (zc := (setS (setS zc.1 x 7 (zm.1 7 k + 1)) x 6 (zm.1 6 k + 1), zc.2)) h.2.2.2.2.1 hx]
    refine ⟨_, _, rfl, rfl, ?_, Fq.leave _ _⟩
    have e8 : setA (setA (setA zm.1 7 (upd (zm.1 7) k (zm.1 7 k + 1))) 6 (upd (zm.1 6) k (zm.1 6 k + 1))) 8 (upd (zm.1 8) k (zm.1 8 k)) = setA (setA zm.1 7 (upd (zm.1 7) k (zm.1 7 k + 1))) 6 (upd (zm.1 6) k (zm.1 6 k + 1)) := setA_id (setA (setA zm.1 7 (upd (zm.1 7) k (zm.1 7 k + 1))) 6 (upd (zm.1 6) k (zm.1 6 k + 1))) 8 k
    rw [e8]
    have e0 : setS (setS zc.1 x 7 (zm.1 7 k + 1)) x 6 (zm.1 6 k + 1) x 0 = nI k := by simp [setS_at, q0]
    have R3 := R2.leave (1000 + nI k)
    show Rl n (_, _, _, lvC (1000 + setS (setS zc.1 x 7 (zm.1 7 k + 1)) x 6 (zm.1 6 k + 1) x 0) _) _
    rw [e0]
    exact R3
  · rw [if_neg hm, if_neg hm]
    rw [m_leave (zm := (setA (setA (setA zm.1 7 (upd (zm.1 7) k (zm.1 7 k + 1))) 6 (upd (zm.1 6) k (zm.1 6 k + 1))) 8 (upd (zm.1 8) k (zm.1 7 k + 1)), zm.2)) hCi, c_leave (zc := (setS (setS (setS zc.1 x 7 (zm.1 7 k + 1)) x 6 (zm.1 6 k + 1)) x 8 (zm.1 7 k + 1), zc.2)) h.2.2.2.2.1 hx]
    refine ⟨_, _, rfl, rfl, ?_, Fq.leave _ _⟩
    have e0 : setS (setS (setS zc.1 x 7 (zm.1 7 k + 1)) x 6 (zm.1 6 k + 1)) x 8 (zm.1 7 k + 1) x 0 = nI k := by simp [setS_at, q0]
    have R3 := (R2.set hk 8 (by omega) (zm.1 7 k + 1)).leave (1000 + nI k)
    show Rl n (_, _, _, lvC (1000 + setS (setS (setS zc.1 x 7 (zm.1 7 k + 1)) x 6 (zm.1 6 k + 1)) x 8 (zm.1 7 k + 1) x 0) _) _
    rw [e0]
    exact R3
end
section
/-! ===== a pass ===== -/
theorem not_pos (c : Int32) : c ≤ 0 ↔ ¬ 0 < c := by
  constructor
  · intro h g; exact absurd (Int32.lt_iff_toInt_lt.mp g) (by have := Int32.le_iff_toInt_le.mp h; omega)
  · intro h; exact Int32.le_iff_toInt_le.mpr (by
      rcases Int.lt_or_le (0 : Int32).toInt c.toInt with g | g
      · exact absurd (Int32.lt_iff_toInt_lt.mpr g) h
      · exact g)
theorem c_room {zc : SC} {x : Nat} (hx : x ∈ zc.2.1) (v : Int32) : fX0_hasRoomFor zc x v = some (if 0 < lg_cmp ((zc.1 x 4).toInt64 + v.toInt64) (zc.1 x 2).toInt64 then 0 else 1, zc) := by
  unfold fX0_hasRoomFor
  rw [if_pos hx, if_pos hx]
  by_cases h : 0 < lg_cmp ((zc.1 x 4).toInt64 + v.toInt64) (zc.1 x 2).toInt64
  · rw [if_pos h, if_pos h]
  · rw [if_neg h, if_neg h]
theorem s_plain {n : Nat} {zc : SC} {zm : SM} (h : Rl n zc zm) {k x : Nat} (hk : zc.2.1[k]? = some x) (v : Int32) : ∃ r zd zn, fX1_passPlain zc x v = some (r, zd) ∧ fX2_passPlain zm (nI k) v = some (r, zn) ∧ Rl n zd zn ∧ Fq zc zd := by
  obtain ⟨zc1, zm1, e1, e2, R1, F1⟩ := s_claim h hk
  have hk1 := F1.at hk
  obtain ⟨q0, -, q⟩ := R1.2.2.1 k x hk1
  have q4 := q 4 (by omega) (by omega)
  have q2 := q 2 (by omega) (by omega)
  have hx := Rl.mem hk1
  have hc := nI_in (h.lt hk) (by omega)
  have e := nI_clamp (n := k) (by have := h.lt hk; omega)
  rw [e] at hc
  unfold fX1_passPlain fX2_passPlain fX2_passPlain_j32
  simp only [e1, e2, bd_some, let_, if_pos hx, e, if_neg hc, c_room hx, q4, q2, not_pos, ite_not]
  by_cases hl : 0 < lg_cmp ((zm1.1 4 k).toInt64 + v.toInt64) (zm1.1 2 k).toInt64
  · simp only [if_pos hl, if_true]
    rw [if_neg (by decide)]
    obtain ⟨zd, zn, a1, a2, R2, F2⟩ := s_let R1 hk1
    have e4 : (setA zm1.1 4 (upd (zm1.1 4) k (zm1.1 4 k + 0)), zm1.2) = zm1 := by rw [Int32.add_zero, setA_id]
    rw [e4, a1, a2]
    exact ⟨-30, zd, zn, rfl, rfl, R2, F1.tr F2⟩
  · simp only [if_neg hl, if_true]
    rw [if_neg (by decide)]
    have R1' := R1.set hk1 4 (by omega) (zm1.1 4 k + v)
    obtain ⟨zd, zn, a1, a2, R2, F2⟩ := s_let R1' hk1
    rw [a1, a2]
    exact ⟨0, zd, zn, rfl, rfl, R2, F1.tr F2⟩
theorem s_points {n : Nat} {zc : SC} {zm : SM} (h : Rl n zc zm) {k x : Nat} (hk : zc.2.1[k]? = some x) (v : Int32) : ∃ r zd zn, fX1_passPoints zc x v = some (r, zd) ∧ fX2_passPoints zm (nI k) v = some (r, zn) ∧ Rl n zd zn ∧ Fq zc zd := by
  obtain ⟨zc1, zm1, e1, e2, R1, F1⟩ := s_claim h hk
  have hk1 := F1.at hk
  obtain ⟨q0, -, q⟩ := R1.2.2.1 k x hk1
  have q5 := q 5 (by omega) (by omega)
  have hx := Rl.mem hk1
  have hc := nI_in (h.lt hk) (by omega)
  have e := nI_clamp (n := k) (by have := h.lt hk; omega)
  rw [e] at hc
  unfold fX1_passPoints fX2_passPoints
  simp only [e1, e2, bd_some, let_, if_pos hx, e, if_neg hc, q5]
  by_cases hl : zm1.1 5 k = 1
  · rw [if_pos hl, if_pos hl]
    obtain ⟨zd, zn, a1, a2, R2, F2⟩ := s_let (R1.set hk1 5 (by omega) 0) hk1
    rw [a1, a2]
    exact ⟨1, zd, zn, rfl, rfl, R2, F1.tr F2⟩
  · rw [if_neg hl, if_neg hl]
    obtain ⟨r, zd, zn, a1, a2, R2, F2⟩ := s_plain (R1.set hk1 5 (by omega) 1) hk1 v
    obtain ⟨zd', zn', b1, b2, R3, F3⟩ := s_let R2 (F2.at hk1)
    simp only [a1, a2, bd_some, b1, b2]
    exact ⟨r, zd', zn', rfl, rfl, R3, (F1.tr F2).tr F3⟩
theorem s_bridge {n : Nat} {zc : SC} {zm : SM} (h : Rl n zc zm) {k x : Nat} (hk : zc.2.1[k]? = some x) (v : Int32) : ∃ r zd zn, fX1_passBridge zc x v = some (r, zd) ∧ fX2_passBridge zm (nI k) v = some (r, zn) ∧ Rl n zd zn ∧ Fq zc zd := by
  obtain ⟨zc1, zm1, e1, e2, R1, F1⟩ := s_claim h hk
  have hk1 := F1.at hk
  obtain ⟨q0, -, q⟩ := R1.2.2.1 k x hk1
  have q3 := q 3 (by omega) (by omega)
  have hx := Rl.mem hk1
  have hc := nI_in (h.lt hk) (by omega)
  have e := nI_clamp (n := k) (by have := h.lt hk; omega)
  rw [e] at hc
  unfold fX1_passBridge fX2_passBridge
  simp only [e1, e2, bd_some, let_, if_pos hx, e, if_neg hc, q3]
  by_cases hl : zm1.1 3 k < v
  · rw [if_pos hl, if_pos hl]
    obtain ⟨zd, zn, a1, a2, R2, F2⟩ := s_let R1 hk1
    rw [a1, a2]
    exact ⟨2, zd, zn, rfl, rfl, R2, F1.tr F2⟩
  · rw [if_neg hl, if_neg hl]
    obtain ⟨r, zd, zn, a1, a2, R2, F2⟩ := s_points R1 hk1 v
    have hk2 := F2.at hk1
    obtain ⟨-, -, p⟩ := R2.2.2.1 k x hk2
    have p3 := p 3 (by omega) (by omega)
    have hx2 := Rl.mem hk2
    simp only [a1, a2, bd_some, if_pos hx2, p3]
    by_cases hr : r = 0
    · rw [if_pos hr, if_pos hr]
      obtain ⟨zd', zn', b1, b2, R3, F3⟩ := s_let (R2.set hk2 3 (by omega) (zn.1 3 k - 1)) hk2
      rw [b1, b2]
      exact ⟨r, zd', zn', rfl, rfl, R3, (F1.tr F2).tr F3⟩
    · rw [if_neg hr, if_neg hr]
      obtain ⟨zd', zn', b1, b2, R3, F3⟩ := s_let R2 hk2
      have e4 : (setA zn.1 3 (upd (zn.1 3) k (zn.1 3 k - 0)), zn.2) = zn := by rw [Int32.sub_zero, setA_id]
      rw [e4, b1, b2]
      exact ⟨r, zd', zn', rfl, rfl, R3, (F1.tr F2).tr F3⟩
/-- what a pass keeps; PASSED grows by one at most -/
def Fl (zc zd : SC) : Prop := zd.2.1 = zc.2.1 ∧ zd.2.2.1 = zc.2.2.1 ∧ zd.2.2.2.1 = zc.2.2.2.1 ∧ zd.2.2.2.2.1 = zc.2.2.2.2.1
theorem Fl.rf {zc : SC} : Fl zc zc := ⟨rfl, rfl, rfl, rfl⟩
theorem Fl.tr {a b c : SC} (h : Fl a b) (g : Fl b c) : Fl a c := ⟨g.1.trans h.1, g.2.1.trans h.2.1, g.2.2.1.trans h.2.2.1, g.2.2.2.trans h.2.2.2⟩
theorem Fl.at {zc zd : SC} (h : Fl zc zd) {k x : Nat} (hk : zc.2.1[k]? = some x) : zd.2.1[k]? = some x := by rw [h.1]; exact hk
theorem Fq.l {a b : SC} (h : Fq a b) : Fl a b := ⟨h.1, h.2.1, h.2.2.1, h.2.2.2.1⟩
def pb (b : Nat) (zc : SC) : Prop := ∃ t, t ≤ b ∧ zc.2.2.2.2.2.2.2.2.2.2.2 = nI t
theorem Fq.p {a b : SC} (h : Fq a b) {n : Nat} (g : pb n a) : pb n b := by
  obtain ⟨t, h1, h2⟩ := g
  exact ⟨t, h1, by rw [h.2.2.2.2]; exact h2⟩
theorem pb.mono {n m : Nat} {z : SC} (h : pb n z) (hm : n ≤ m) : pb m z := by
  obtain ⟨t, h1, h2⟩ := h
  exact ⟨t, by omega, h2⟩
theorem s_passj {n : Nat} {zc : SC} {zm : SM} (h : Rl n zc zm) (r : Int32) : ∃ zd zn, fX1_pass_j59 zc r = some (r, zd) ∧ fX2_pass_j43 zm r = some (r, zn) ∧ Rl n zd zn ∧ Fl zc zd ∧ ∀ b, pb b zc → pb (b + 1) zd := by
  unfold fX1_pass_j59 fX2_pass_j43
  simp only [let_]
  by_cases hr : r = 0
  · rw [if_pos hr, if_pos hr]
    refine ⟨_, _, rfl, rfl, ?_, ⟨rfl, rfl, rfl, rfl⟩, fun b hb => ?_⟩
    · have e := h.1
      rw [← e]
      exact h.com (C := (zc.2.2.2.1, zc.2.2.2.2.1, zc.2.2.2.2.2.1, zc.2.2.2.2.2.2.1, zc.2.2.2.2.2.2.2.1, zc.2.2.2.2.2.2.2.2.1, zc.2.2.2.2.2.2.2.2.2.1, zc.2.2.2.2.2.2.2.2.2.2.1, zc.2.2.2.2.2.2.2.2.2.2.2 + 1)) h.2.2.2.2.1 h.2.2.2.2.2
    · obtain ⟨t, h1, h2⟩ := hb
      exact ⟨t + 1, by omega, by show zc.2.2.2.2.2.2.2.2.2.2.2 + 1 = _; rw [h2]; exact nI_1 t⟩
  · rw [if_neg hr, if_neg hr]
    refine ⟨zc, zm, rfl, ?_, h, Fl.rf, fun b hb => hb.mono (by omega)⟩
    rw [Int32.add_zero]
theorem s_pass {n : Nat} {zc : SC} {zm : SM} (h : Rl n zc zm) {k x : Nat} (hk : zc.2.1[k]? = some x) (v : Int32) : ∃ r zd zn, fX1_pass zc x v = some (r, zd) ∧ fX2_pass zm (nI k) v = some (r, zn) ∧ Rl n zd zn ∧ Fl zc zd ∧ ∀ b, pb b zc → pb (b + 1) zd := by
  obtain ⟨q0, qk, q⟩ := h.2.2.1 k x hk
  have q1 := q 1 (by omega) (by omega)
  have hx := Rl.mem hk
  have hc := nI_in (h.lt hk) (by omega)
  have e := nI_clamp (n := k) (by have := h.lt hk; omega)
  rw [e] at hc
  rw [q1] at qk
  unfold fX1_pass fX2_pass
  simp only [let_, if_pos hx, e, if_neg hc, q1]
  rcases qk with g | g | g
  · obtain ⟨r, zd, zn, a1, a2, R2, F2⟩ := s_plain h hk v
    obtain ⟨zd', zn', b1, b2, R3, F3, P3⟩ := s_passj R2 r
    rw [g, if_neg (by decide), if_neg (by decide), if_pos rfl, a1, a2, bd_some, bd_some, b1, b2]
    exact ⟨r, zd', zn', rfl, rfl, R3, F2.l.tr F3, fun b hb => P3 b (F2.p hb)⟩
  · obtain ⟨r, zd, zn, a1, a2, R2, F2⟩ := s_points h hk v
    obtain ⟨zd', zn', b1, b2, R3, F3, P3⟩ := s_passj R2 r
    rw [g, if_pos rfl, if_neg (by decide), if_pos rfl, a1, a2, bd_some, bd_some, b1, b2]
    exact ⟨r, zd', zn', rfl, rfl, R3, F2.l.tr F3, fun b hb => P3 b (F2.p hb)⟩
  · obtain ⟨r, zd, zn, a1, a2, R2, F2⟩ := s_bridge h hk v
    obtain ⟨zd', zn', b1, b2, R3, F3, P3⟩ := s_passj R2 r
    rw [g, if_neg (by decide), if_pos rfl, if_neg (by decide), if_neg (by decide), a1, a2, bd_some, bd_some, b1, b2]
    exact ⟨r, zd', zn', rfl, rfl, R3, F2.l.tr F3, fun b hb => P3 b (F2.p hb)⟩
/-- the section of the i-th place of a route, on both sides -/
theorem s_sec {n : Nat} {zc : SC} {zm : SM} (h : Rl n zc zm) {r i : Nat} (hr : r < 6) (hi : i < 8) : (fX1_sectionOn zc (nI r) (nI i) = some (none, zc) ∧ fX2_sectionOf zm (nI r) (nI i) = some (-1, zm)) ∨ ∃ k x, zc.2.1[k]? = some x ∧ fX1_sectionOn zc (nI r) (nI i) = some (some x, zc) ∧ fX2_sectionOf zm (nI r) (nI i) = some (nI k, zm) := by
  have e1 : nI r * 8 + nI i = nI (r * 8 + i) := by rw [show (8 : Int32) = nI 8 from rfl, pk_mul, nI_add]
  have e2 : 8 * nI r + nI i = nI (r * 8 + i) := by rw [show (8 : Int32) = nI 8 from rfl, pk_mul, nI_add, Nat.mul_comm]
  obtain ⟨p, hp, ep⟩ := h.2.2.2.2.1.1 (r * 8 + i) (by omega)
  have hin := nI_in (c := r * 8 + i) (N := 48) (by omega) (by omega)
  have cl := nI_clamp (n := r * 8 + i) (by omega)
  have hin2 := nI_in (c := p) (N := 12) hp (by omega)
  have cl2 := nI_clamp (n := p) (by omega)
  rw [cl] at hin
  rw [cl2] at hin2
  have ep' : zm.2.2.1 (r * 8 + i) = nI p := by rw [← h.1]; exact ep
  unfold fX1_sectionOn fX2_sectionOf
  simp only [let_, e1, e2, cl, if_neg hin, ep, ep', cl2, if_neg hin2]
  rcases h.2.2.2.1 p hp with ⟨a, b⟩ | ⟨k, x, a, b, c⟩
  · left
    rw [a, b]
    exact ⟨rfl, rfl⟩
  · right
    refine ⟨k, x, a, ?_, ?_⟩
    · rw [b]; rfl
    · rw [c]
end
section
/-! ===== a run's ways ===== -/
def fin_ (r p : Int32) : Int32 := if r < 0 then r else p
def psC (z : SC) : Int32 := z.2.2.2.2.2.2.2.2.2.2.2
/-- a way's end: the class answers what the reference's number means -/
def Rn (n b : Nat) (zc : SC) (oc : Option (Int32 × SC)) (om : Option (Int32 × SM)) : Prop := ∃ r zd zn, om = some (r, zn) ∧ oc = some (fin_ r (psC zd), zd) ∧ Rl n zd zn ∧ Fl zc zd ∧ pb b zd
theorem end_ne {i : Nat} (hi : i < 8) : ¬ ((-100 : Int32) - nI i = 0) ∧ ((-100 : Int32) - nI i < 0) := by
  have h : i = 0 ∨ i = 1 ∨ i = 2 ∨ i = 3 ∨ i = 4 ∨ i = 5 ∨ i = 6 ∨ i = 7 := by omega
  rcases h with h | h | h | h | h | h | h | h <;> subst h <;> decide
/-- what the reference makes of a told number -/
def en_ (t : Int32) (i : Nat) : Int32 := if t = 2 then -100 - nI i else t
theorem m_ended (zm : SM) (t : Int32) (i : Nat) : fX2_ended zm t (nI i) = some (en_ t i, zm) := by
  unfold fX2_ended en_
  by_cases h : t = 2
  · rw [if_pos h, if_pos h]
  · rw [if_neg h, if_neg h]
theorem en_0 {t : Int32} {i : Nat} (hi : i < 8) : en_ t i = 0 ↔ t = 0 := by
  unfold en_
  by_cases h : t = 2
  · rw [if_pos h, h]
    exact ⟨fun q => absurd q (end_ne hi).1, fun q => absurd q (by decide)⟩
  · rw [if_neg h]
theorem nlt_iff (c : Int32) : (0 ≤ c) ↔ ¬ c < 0 := by
  constructor
  · intro h g; exact absurd (Int32.lt_iff_toInt_lt.mp g) (by have := Int32.le_iff_toInt_le.mp h; omega)
  · intro h; exact Int32.le_iff_toInt_le.mpr (by
      rcases Int.lt_or_le c.toInt (0 : Int32).toInt with g | g
      · exact absurd (Int32.lt_iff_toInt_lt.mpr g) h
      · exact g)
theorem c_answer {zc : SC} {t : Int32} {i : Nat} (hi : i < 8) : fX1_answerTo zc t (nI i) = some (fin_ (en_ t i) (psC zc), zc) := by
  unfold fX1_answerTo fin_ en_
  by_cases h2 : t = 2
  · rw [h2, if_pos (by decide), if_pos rfl, if_pos rfl, if_pos (end_ne hi).2]
  · rw [if_neg h2, if_neg h2]
    by_cases h0 : 0 ≤ t
    · rw [if_pos h0, if_neg ((nlt_iff t).mp h0)]; rfl
    · rw [if_neg h0, if_pos (by
        rcases Int.lt_or_le t.toInt (0 : Int32).toInt with g | g
        · exact Int32.lt_iff_toInt_lt.mpr g
        · exact absurd (Int32.le_iff_toInt_le.mpr g) h0)]
theorem m_alone_stop {zm : SM} {r : Nat} {v t : Int32} (y : Int32) (hr : r < 6) (ht : ¬ t = 0) (f : Nat) : fX2_alone_j5 (f + 1) zm (nI r) v t y = some (t, zm) := by
  have hin := nI_in hr (by omega)
  rw [fX2_alone_j5, if_neg hin]
  simp only [let_]
  by_cases h : zm.2.2.2.1 (nI r).toNatClampNeg ≤ y
  · rw [if_pos h]
  · rw [if_neg h, if_neg ht]
theorem len_of {n : Nat} {zc : SC} {zm : SM} (h : Rl n zc zm) {r : Nat} (hr : r < 6) : ∃ j, j ≤ 8 ∧ zc.2.2.2.2.1 r = nI j ∧ zm.2.2.2.1 r = nI j := by
  obtain ⟨j, hj, e⟩ := h.2.2.2.2.1.2.1 r hr
  exact ⟨j, hj, e, by rw [← h.1]; exact e⟩
theorem s_alone {n r : Nat} (hr : r < 6) (v : Int32) (K : SC → Int32 → Int32 → Int32 → Int32 → Option (Int32 × SC)) (y3 y4 : Int32) {j : Nat} (hj : j ≤ 8) :
    ∀ (d i : Nat), i + d = j → ∀ (fc fm b : Nat) (zc : SC) (zm : SM), d < fc → d + 1 < fm → Rl n zc zm → zc.2.2.2.2.1 r = nI j → pb b zc →
    ∃ t zd zn, fX2_alone_j5 fm zm (nI r) v 0 (nI i) = some (t, zn) ∧ Rl n zd zn ∧ Fl zc zd ∧ pb (b + d) zd ∧ ((t = 0 ∧ fX1_goAlone_j12 K fc zc (nI r) v y3 y4 (nI i) = K zd (nI r) v y3 (y4 + 1)) ∨ (¬ t = 0 ∧ fX1_goAlone_j12 K fc zc (nI r) v y3 y4 (nI i) = some (fin_ t (psC zd), zd))) := by
  have hin := nI_in (c := r) (N := 6) hr (by omega)
  have cl := nI_clamp (n := r) (by omega)
  intro d
  induction d with
  | zero =>
    intro i hi fc fm b zc zm hfc hfm h hlen hb
    have hlm : zm.2.2.2.1 r = nI j := by rw [← h.1]; exact hlen
    obtain ⟨fc, rfl⟩ : ∃ q, fc = q + 1 := ⟨fc - 1, by omega⟩
    obtain ⟨fm, rfl⟩ : ∃ q, fm = q + 1 := ⟨fm - 1, by omega⟩
    have hle : nI j ≤ nI i := nI_le (by omega) (by omega)
    refine ⟨0, zc, zm, ?_, h, Fl.rf, hb, Or.inl ⟨rfl, ?_⟩⟩
    · rw [fX2_alone_j5, if_neg hin]
      simp only [let_]
      rw [cl, hlm, if_pos hle]
    · rw [fX1_goAlone_j12, if_neg hin]
      simp only [let_]
      rw [cl, hlen, if_pos hle]
  | succ d ih =>
    intro i hi fc fm b zc zm hfc hfm h hlen hb
    have hlm : zm.2.2.2.1 r = nI j := by rw [← h.1]; exact hlen
    obtain ⟨fc, rfl⟩ : ∃ q, fc = q + 1 := ⟨fc - 1, by omega⟩
    obtain ⟨fm, rfl⟩ : ∃ q, fm = q + 1 := ⟨fm - 1, by omega⟩
    have hnl : ¬ nI j ≤ nI i := nI_ge (by omega) (by omega)
    have hi8 : i < 8 := by omega
    rw [fX2_alone_j5, fX1_goAlone_j12, if_neg hin, if_neg hin]
    simp only [let_]
    rw [cl, hlm, hlen, if_neg hnl, if_neg hnl, if_pos trivial]
    rcases s_sec h hr hi8 with ⟨a1, a2⟩ | ⟨k, x, hk, a1, a2⟩
    · rw [a1, a2, bd_some, bd_some, if_neg (by decide)]
      exact ⟨-11, zc, zm, rfl, h, Fl.rf, hb.mono (by omega), Or.inr ⟨by decide, rfl⟩⟩
    · rw [a1, a2, bd_some, bd_some, if_pos (nI_pos' (by have := h.lt hk; omega))]
      obtain ⟨zc1, zm1, b1, b2, R1, F1⟩ := s_claim h hk
      have hk1 := F1.at hk
      obtain ⟨t, zc2, zm2, c1, c2, R2, F2, P2⟩ := s_pass R1 hk1 v
      have hk2 := F2.at hk1
      obtain ⟨zc3, zm3, d1, d2, R3, F3⟩ := s_let R2 hk2
      have FF : Fl zc zc3 := (F1.l.tr F2).tr F3.l
      have P3 : pb (b + 1) zc3 := F3.p (P2 b (F1.p hb))
      simp only [opt_, b1, b2, bd_some, c1, c2, d1, m_ended, d2]
      by_cases ht : t = 0
      · have e0 : en_ t i = 0 := (en_0 hi8).mpr ht
        rw [e0, if_pos ht, nI_1]
        obtain ⟨t', zd, zn, g1, g2, g3, g4, g5⟩ := ih (i + 1) (by omega) fc fm (b + 1) zc3 zm3 (by omega) (by omega) R3 (by rw [FF.2.2.2]; exact hlen) P3
        exact ⟨t', zd, zn, g1, g2, FF.tr g3, g4.mono (by omega), g5⟩
      · have e0 : ¬ en_ t i = 0 := fun q => ht ((en_0 hi8).mp q)
        obtain ⟨fm, rfl⟩ : ∃ q, fm = q + 1 := ⟨fm - 1, by omega⟩
        rw [if_neg ht, c_answer hi8, bd_some, m_alone_stop _ hr e0]
        exact ⟨en_ t i, zc3, zm3, rfl, R3, FF, P3.mono (by omega), Or.inr ⟨e0, rfl⟩⟩
theorem s_goAlone1 {n r : Nat} (hr : r < 6) (v : Int32) {zc : SC} {zm : SM} (h : Rl n zc zm) (hb : pb 0 zc) : Rn n 100 zc (fX1_goAlone zc (nI r) v 1) (fX2_alone zm (nI r) v) := by
  obtain ⟨j, hj, e, -⟩ := len_of h hr
  obtain ⟨t, zd, zn, g1, g2, g3, g4, g5⟩ := s_alone hr v (fX1_goAlone_j3 19) 1 0 hj j 0 (by omega) 20 20 0 zc zm (by omega) (by omega) h e hb
  refine ⟨t, zd, zn, g1, ?_, g2, g3, g4.mono (by omega)⟩
  have e1 : fX1_goAlone zc (nI r) v 1 = fX1_goAlone_j12 (fX1_goAlone_j3 19) 20 zc (nI r) v 1 0 (nI 0) := by
    rw [fX1_goAlone, fX1_goAlone_j3, if_neg (by decide)]; rfl
  rw [e1]
  rcases g5 with ⟨rfl, g⟩ | ⟨-, g⟩
  · rw [g, fX1_goAlone_j3, if_pos (by decide)]; rfl
  · exact g
theorem s_round {n r : Nat} (hr : r < 6) (v : Int32) :
    ∀ (d i : Nat), i + d = 10 → ∀ (fc fm b : Nat) (zc : SC) (zm : SM), d < fc → d + 1 < fm → Rl n zc zm → pb b zc → Rn n (b + 8 * d) zc (fX1_goAlone_j3 fc zc (nI r) v 10 (nI i)) (fX2_round_j5 fm zm (nI r) v 0 (nI i)) := by
  intro d
  induction d with
  | zero =>
    intro i hi fc fm b zc zm hfc hfm h hb
    obtain ⟨fc, rfl⟩ : ∃ q, fc = q + 1 := ⟨fc - 1, by omega⟩
    obtain ⟨fm, rfl⟩ : ∃ q, fm = q + 1 := ⟨fm - 1, by omega⟩
    have hi : i = 10 := by omega
    subst hi
    rw [fX1_goAlone_j3, fX2_round_j5, if_pos (by decide), if_pos (by decide)]
    exact ⟨0, zc, zm, rfl, rfl, h, Fl.rf, hb⟩
  | succ d ih =>
    intro i hi fc fm b zc zm hfc hfm h hb
    obtain ⟨fc, rfl⟩ : ∃ q, fc = q + 1 := ⟨fc - 1, by omega⟩
    obtain ⟨fm, rfl⟩ : ∃ q, fm = q + 1 := ⟨fm - 1, by omega⟩
    have hnl : ¬ (10 : Int32) ≤ nI i := nI_ge (b := 10) (by omega) (by omega)
    obtain ⟨j, hj, e, -⟩ := len_of h hr
    rw [fX1_goAlone_j3, fX2_round_j5, if_neg hnl, if_neg hnl, if_pos rfl]
    obtain ⟨t, zd, zn, g1, g2, g3, g4, g5⟩ := s_alone hr v (fX1_goAlone_j3 fc) 10 (nI i) hj j 0 (by omega) 20 20 b zc zm (by omega) (by omega) h e hb
    have e2 : fX2_alone zm (nI r) v = some (t, zn) := g1
    rw [e2, bd_some, nI_1]
    rw [nI_1] at g5
    rcases g5 with ⟨rfl, g⟩ | ⟨ht, g⟩
    · have g' : fX1_goAlone_j12 (fX1_goAlone_j3 fc) 20 zc (nI r) v 10 (nI i) 0 = _ := g
      rw [g']
      obtain ⟨t', zd', zn', a1, a2, a3, a4, a5⟩ := ih (i + 1) (by omega) fc fm (b + j) zd zn (by omega) (by omega) g2 g4
      exact ⟨t', zd', zn', a1, a2, a3, g3.tr a4, a5.mono (by omega)⟩
    · have g' : fX1_goAlone_j12 (fX1_goAlone_j3 fc) 20 zc (nI r) v 10 (nI i) 0 = _ := g
      rw [g']
      obtain ⟨fm, rfl⟩ : ∃ q, fm = q + 1 := ⟨fm - 1, by omega⟩
      refine ⟨t, zd, zn, ?_, rfl, g2, g3, g4.mono (by omega)⟩
      rw [fX2_round_j5, if_neg ht]
      by_cases hq : (10 : Int32) ≤ nI (i + 1)
      · rw [if_pos hq]
      · rw [if_neg hq]
theorem s_goRound {n r : Nat} (hr : r < 6) (v : Int32) {zc : SC} {zm : SM} (h : Rl n zc zm) (hb : pb 0 zc) : Rn n 100 zc (fX1_goAlone zc (nI r) v 10) (fX2_round zm (nI r) v) := by
  obtain ⟨t, zd, zn, a1, a2, a3, a4, a5⟩ := s_round hr v 10 0 (by omega) 20 20 0 zc zm (by omega) (by omega) h hb
  exact ⟨t, zd, zn, a1, a2, a3, a4, a5.mono (by omega)⟩
end
section
/-! ===== two by two, the first, all ===== -/
theorem m_two_stop {zm : SM} {r : Nat} {v t : Int32} (y : Int32) (hr : r < 6) (ht : ¬ t = 0) (f : Nat) : fX2_twoByTwo_j5 (f + 1) zm (nI r) v t y = some (t, zm) := by
  have hin := nI_in hr (by omega)
  rw [fX2_twoByTwo_j5, if_neg hin]
  simp only [let_]
  by_cases h : zm.2.2.2.1 (nI r).toNatClampNeg ≤ y
  · rw [if_pos h]
  · rw [if_neg h, if_neg ht]
/-- between the claim of the section and its letting: both come to one told number -/
theorem s_two_mid {n r i : Nat} (hr : r < 6) (v : Int32) {j : Nat} (hj : j ≤ 8) (hi : i < j) (K2 : SC → Int32 → Int32 → Int32 → Option (Int32 × SC)) (K5 : SM → Int32 → Int32 → Int32 → Int32 → Option (Int32 × SM)) {zc : SC} {zm : SM} {k x b : Nat} (h : Rl n zc zm) (hk : zc.2.1[k]? = some x) (hb : pb b zc) :
    ∃ t zd zn, (if nI i + 1 = nI j then fX1_goTwoByTwo_j51 K2 zc (nI r) v (nI i) x 1 else fX1_goTwoByTwo_j51 K2 zc (nI r) v (nI i) x 0) = fX1_goTwoByTwo_j119 K2 zd (nI r) v (nI i) x t ∧ (if nI j ≤ nI i + 1 then fX2_twoByTwo_j61 K5 zm (nI r) v (nI i) (nI k) 0 else fX2_twoByTwo_j61 K5 zm (nI r) v (nI i) (nI k) 1) = fX2_twoByTwo_j134 K5 zn (nI r) v (en_ t i) (nI i) (nI k) ∧ Rl n zd zn ∧ Fl zc zd ∧ pb (b + 1) zd := by
  rw [nI_1]
  by_cases hl : i + 1 = j
  · rw [if_pos (by rw [hl]), if_pos (nI_le (by omega) (by omega))]
    unfold fX1_goTwoByTwo_j51 fX2_twoByTwo_j61 fX2_twoByTwo_j81 fX2_twoByTwo_j99 fX2_twoByTwo_j110
    rw [if_neg (by decide), if_neg (by decide), if_pos rfl, if_pos rfl, if_pos rfl]
    obtain ⟨t, zd, zn, c1, c2, R2, F2, P2⟩ := s_pass h hk v
    simp only [c1, c2, bd_some, m_ended, if_true]
    exact ⟨t, zd, zn, rfl, rfl, R2, F2, P2 b hb⟩
  · rw [if_neg (fun q => hl ((nI_eq (by omega) (by omega)).mp q)), if_neg (nI_ge (by omega) (by omega))]
    unfold fX1_goTwoByTwo_j51 fX2_twoByTwo_j61
    rw [if_pos rfl, if_neg (by decide), nI_1]
    rcases s_sec h hr (i := i + 1) (by omega) with ⟨a1, a2⟩ | ⟨k2, x2, hk2, a1, a2⟩
    · rw [a1, a2, bd_some, bd_some]
      simp only [opt_, if_true]
      unfold fX2_twoByTwo_j81
      rw [if_neg (by decide), if_neg (by decide)]
      exact ⟨-11, zc, zm, rfl, rfl, h, Fl.rf, hb.mono (by omega)⟩
    · rw [a1, a2, bd_some, bd_some]
      simp only [opt_]
      unfold fX2_twoByTwo_j81 fX2_twoByTwo_j99 fX2_twoByTwo_j110
      rw [if_neg (by decide), if_pos (nI_pos' (by have := h.lt hk2; omega)), if_neg (by decide)]
      obtain ⟨zc1, zm1, b1, b2, R1, F1⟩ := s_claim h hk2
      have hk1 := F1.at hk
      obtain ⟨t, zc2, zm2, c1, c2, R2, F2, P2⟩ := s_pass R1 hk1 v
      obtain ⟨zc3, zm3, d1, d2, R3, F3⟩ := s_let R2 (F2.at (F1.at hk2))
      simp only [b1, b2, bd_some, c1, c2, m_ended, d1]
      rw [if_neg (by decide), d2, bd_some]
      exact ⟨t, zc3, zm3, rfl, rfl, R3, (F1.l.tr F2).tr F3.l, F3.p (P2 b (F1.p hb))⟩
theorem s_two {n r : Nat} (hr : r < 6) (v : Int32) {j : Nat} (hj : j ≤ 8) :
    ∀ (d i : Nat), i + d = j → ∀ (fc fm b : Nat) (zc : SC) (zm : SM), d < fc → d + 1 < fm → Rl n zc zm → zc.2.2.2.2.1 r = nI j → pb b zc → Rn n (b + d) zc (fX1_goTwoByTwo_j2 fc zc (nI r) v (nI i)) (fX2_twoByTwo_j5 fm zm (nI r) v 0 (nI i)) := by
  have hin := nI_in (c := r) (N := 6) hr (by omega)
  have cl := nI_clamp (n := r) (by omega)
  intro d
  induction d with
  | zero =>
    intro i hi fc fm b zc zm hfc hfm h hlen hb
    have hlm : zm.2.2.2.1 r = nI j := by rw [← h.1]; exact hlen
    obtain ⟨fc, rfl⟩ : ∃ q, fc = q + 1 := ⟨fc - 1, by omega⟩
    obtain ⟨fm, rfl⟩ : ∃ q, fm = q + 1 := ⟨fm - 1, by omega⟩
    have hle : nI j ≤ nI i := nI_le (by omega) (by omega)
    rw [fX1_goTwoByTwo_j2, fX2_twoByTwo_j5, if_neg hin, if_neg hin]
    simp only [let_]
    rw [cl, hlm, hlen, if_pos hle, if_pos hle]
    exact ⟨0, zc, zm, rfl, rfl, h, Fl.rf, hb⟩
  | succ d ih =>
    intro i hi fc fm b zc zm hfc hfm h hlen hb
    have hlm : zm.2.2.2.1 r = nI j := by rw [← h.1]; exact hlen
    obtain ⟨fc, rfl⟩ : ∃ q, fc = q + 1 := ⟨fc - 1, by omega⟩
    obtain ⟨fm, rfl⟩ : ∃ q, fm = q + 1 := ⟨fm - 1, by omega⟩
    have hnl : ¬ nI j ≤ nI i := nI_ge (by omega) (by omega)
    have hi8 : i < 8 := by omega
    rw [fX1_goTwoByTwo_j2, fX2_twoByTwo_j5, if_neg hin, if_neg hin]
    simp only [let_]
    rw [cl, hlm, hlen, if_neg hnl, if_neg hnl, if_pos trivial]
    rcases s_sec h hr hi8 with ⟨a1, a2⟩ | ⟨k, x, hk, a1, a2⟩
    · rw [a1, a2, bd_some, bd_some, if_neg (by decide)]
      exact ⟨-11, zc, zm, rfl, rfl, h, Fl.rf, hb.mono (by omega)⟩
    · rw [a1, a2, bd_some, bd_some, if_pos (nI_pos' (by have := h.lt hk; omega))]
      obtain ⟨zc1, zm1, b1, b2, R1, F1⟩ := s_claim h hk
      have hk1 := F1.at hk
      have hl1 : zc1.2.2.2.2.1 r = nI j := by rw [F1.2.2.2.1]; exact hlen
      have hm1 : zm1.2.2.2.1 r = nI j := by rw [← R1.1]; exact hl1
      rw [cl] at hin
      simp only [opt_, b1, b2, bd_some, if_neg hin, hl1, hm1]
      obtain ⟨t, zd, zn, m1, m2, R2, F2, P2⟩ := s_two_mid hr v hj (by omega) (fX1_goTwoByTwo_j2 fc) (fX2_twoByTwo_j5 fm) R1 hk1 (F1.p hb) (i := i)
      rw [m1, m2]
      unfold fX1_goTwoByTwo_j119 fX2_twoByTwo_j134
      obtain ⟨zc3, zm3, d1, d2, R3, F3⟩ := s_let R2 (F2.at hk1)
      have FF : Fl zc zc3 := (F1.l.tr F2).tr F3.l
      have P3 : pb (b + 1) zc3 := F3.p P2
      rw [d1, d2, bd_some, bd_some, nI_1]
      by_cases ht : t = 0
      · have e0 : en_ t i = 0 := (en_0 hi8).mpr ht
        rw [e0, if_pos ht]
        obtain ⟨t', zd', zn', g1, g2, g3, g4, g5⟩ := ih (i + 1) (by omega) fc fm (b + 1) zc3 zm3 (by omega) (by omega) R3 (by rw [FF.2.2.2]; exact hlen) P3
        exact ⟨t', zd', zn', g1, g2, g3, FF.tr g4, g5.mono (by omega)⟩
      · have e0 : ¬ en_ t i = 0 := fun q => ht ((en_0 hi8).mp q)
        obtain ⟨fm, rfl⟩ : ∃ q, fm = q + 1 := ⟨fm - 1, by omega⟩
        rw [if_neg ht, c_answer hi8, bd_some, m_two_stop _ hr e0]
        exact ⟨en_ t i, zc3, zm3, rfl, rfl, R3, FF, P3.mono (by omega)⟩
theorem s_goTwo {n r : Nat} (hr : r < 6) (v : Int32) {zc : SC} {zm : SM} (h : Rl n zc zm) (hb : pb 0 zc) : Rn n 100 zc (fX1_goTwoByTwo zc (nI r) v) (fX2_twoByTwo zm (nI r) v) := by
  obtain ⟨j, hj, e, -⟩ := len_of h hr
  obtain ⟨t, zd, zn, a1, a2, a3, a4, a5⟩ := s_two hr v hj j 0 (by omega) 20 20 0 zc zm (by omega) (by omega) h e hb
  exact ⟨t, zd, zn, a1, a2, a3, a4, a5.mono (by omega)⟩
theorem s_first {n r : Nat} (hr : r < 6) (v : Int32) {j : Nat} (hj : j ≤ 8) :
    ∀ (d i : Nat), i + d = j → ∀ (fc fm b : Nat) (zc : SC) (zm : SM), d < fc → d < fm → Rl n zc zm → zc.2.2.2.2.1 r = nI j → pb b zc → Rn n (b + 1) zc (fX1_goFirst_j2 fc zc (nI r) v (nI i)) (fX2_first_j2 fm zm (nI r) v (nI i)) := by
  have hin := nI_in (c := r) (N := 6) hr (by omega)
  have cl := nI_clamp (n := r) (by omega)
  intro d
  induction d with
  | zero =>
    intro i hi fc fm b zc zm hfc hfm h hlen hb
    have hlm : zm.2.2.2.1 r = nI j := by rw [← h.1]; exact hlen
    obtain ⟨fc, rfl⟩ : ∃ q, fc = q + 1 := ⟨fc - 1, by omega⟩
    obtain ⟨fm, rfl⟩ : ∃ q, fm = q + 1 := ⟨fm - 1, by omega⟩
    have hle : nI j ≤ nI i := nI_le (by omega) (by omega)
    rw [fX1_goFirst_j2, fX2_first_j2, if_neg hin, if_neg hin]
    simp only [let_]
    rw [cl, hlm, hlen, if_pos hle, if_pos hle]
    exact ⟨0, zc, zm, rfl, rfl, h, Fl.rf, hb.mono (by omega)⟩
  | succ d ih =>
    intro i hi fc fm b zc zm hfc hfm h hlen hb
    have hlm : zm.2.2.2.1 r = nI j := by rw [← h.1]; exact hlen
    obtain ⟨fc, rfl⟩ : ∃ q, fc = q + 1 := ⟨fc - 1, by omega⟩
    obtain ⟨fm, rfl⟩ : ∃ q, fm = q + 1 := ⟨fm - 1, by omega⟩
    have hnl : ¬ nI j ≤ nI i := nI_ge (by omega) (by omega)
    have hi8 : i < 8 := by omega
    rw [fX1_goFirst_j2, fX2_first_j2, if_neg hin, if_neg hin]
    simp only [let_]
    rw [cl, hlm, hlen, if_neg hnl, if_neg hnl]
    rcases s_sec h hr hi8 with ⟨a1, a2⟩ | ⟨k, x, hk, a1, a2⟩
    · rw [a1, a2, bd_some, bd_some, if_neg (by decide)]
      unfold fX1_goFirst_j95 fX2_first_j110
      simp only [opt_]
      rw [nI_1]
      exact ih (i + 1) (by omega) fc fm b zc zm (by omega) (by omega) h hlen hb
    · rw [a1, a2, bd_some, bd_some, if_pos (nI_pos' (by have := h.lt hk; omega))]
      obtain ⟨zc1, zm1, b1, b2, R1, F1⟩ := s_claim h hk
      have hk1 := F1.at hk
      obtain ⟨q0, -, q⟩ := R1.2.2.1 k x hk1
      have q2 := q 2 (by omega) (by omega)
      have q4 := q 4 (by omega) (by omega)
      have q5 := q 5 (by omega) (by omega)
      have hx := Rl.mem hk1
      have hc := nI_in (h.lt hk) (by omega)
      have e := nI_clamp (n := k) (by have := h.lt hk; omega)
      rw [e] at hc
      simp only [opt_, b1, b2, bd_some, if_pos hx, c_room hx, e, if_neg hc, q2, q4, q5]
      have skip : ∀ zc' : SC, ∀ zm' : SM, Rl n zc' zm' → Fl zc zc' → pb b zc' → zc'.2.1[k]? = some x → Rn n (b + 1) zc (fX1_goFirst_j55 (fX1_goFirst_j2 fc) zc' (nI r) v (nI i) x) (fX2_first_j71 (fX2_first_j2 fm) zm' (nI r) v (nI i) (nI k)) := by
        intro zc' zm' R' F' P' hk'
        unfold fX1_goFirst_j55 fX1_goFirst_j56 fX1_goFirst_j74 fX1_goFirst_j95 fX2_first_j71 fX2_first_j72 fX2_first_j94 fX2_first_j110
        obtain ⟨zc3, zm3, d1, d2, R3, F3⟩ := s_let R' hk'
        rw [if_pos rfl, if_pos rfl, d1, d2, bd_some, bd_some, if_pos rfl, if_pos rfl, nI_1]
        obtain ⟨t', zd', zn', g1, g2, g3, g4, g5⟩ := ih (i + 1) (by omega) fc fm b zc3 zm3 (by omega) (by omega) R3 (by rw [F3.2.2.2.1, F'.2.2.2]; exact hlen) (F3.p P')
        exact ⟨t', zd', zn', g1, g2, g3, (F'.tr F3.l).tr g4, g5⟩
      by_cases hl : 0 < lg_cmp ((zm1.1 4 k).toInt64 + v.toInt64) (zm1.1 2 k).toInt64
      · simp only [if_pos hl, if_true]
        exact skip zc1 zm1 R1 F1.l (F1.p hb) hk1
      · simp only [if_neg hl]
        rw [if_neg (by decide)]
        by_cases h5 : zm1.1 5 k = 0
        · rw [if_pos h5, if_pos h5]
          unfold fX1_goFirst_j56 fX1_goFirst_j74 fX2_first_j72 fX2_first_j94
          obtain ⟨t, zc2, zm2, c1, c2, R2, F2, P2⟩ := s_pass R1 hk1 v
          obtain ⟨zc3, zm3, d1, d2, R3, F3⟩ := s_let R2 (F2.at hk1)
          rw [if_neg (by decide), if_neg (by decide), c1, c2, bd_some, bd_some, m_ended, bd_some, d1, d2, bd_some, bd_some, if_neg (by decide), if_neg (by decide), c_answer hi8, bd_some]
          exact ⟨en_ t i, zc3, zm3, rfl, rfl, R3, (F1.l.tr F2).tr F3.l, F3.p (P2 b (F1.p hb))⟩
        · rw [if_neg h5, if_neg h5]
          exact skip zc1 zm1 R1 F1.l (F1.p hb) hk1
theorem s_goFirst {n r : Nat} (hr : r < 6) (v : Int32) {zc : SC} {zm : SM} (h : Rl n zc zm) (hb : pb 0 zc) : Rn n 100 zc (fX1_goFirst zc (nI r) v) (fX2_first zm (nI r) v) := by
  obtain ⟨j, hj, e, -⟩ := len_of h hr
  obtain ⟨t, zd, zn, a1, a2, a3, a4, a5⟩ := s_first hr v hj j 0 (by omega) 20 20 0 zc zm (by omega) (by omega) h e hb
  exact ⟨t, zd, zn, a1, a2, a3, a4, a5.mono (by omega)⟩
end
section
/-! ===== all of a route ===== -/
theorem sec_keep {zc zd : SC} (F : Fl zc zd) {y z : Int32} {o : Option Nat} (h : fX1_sectionOn zc y z = some (o, zc)) : fX1_sectionOn zd y z = some (o, zd) := by
  unfold fX1_sectionOn at h ⊢
  simp only [let_] at h ⊢
  rw [F.2.1, F.2.2.1]
  by_cases c1 : y * 8 + z < 0 ∨ 48 ≤ (y * 8 + z).toNatClampNeg
  · rw [if_pos c1] at h; cases h
  · rw [if_neg c1] at h ⊢
    by_cases c2 : zc.2.2.2.1 (y * 8 + z).toNatClampNeg < 0 ∨ 12 ≤ (zc.2.2.2.1 (y * 8 + z).toNatClampNeg).toNatClampNeg
    · rw [if_pos c2] at h; cases h
    · rw [if_neg c2] at h ⊢
      cases hs : zc.2.2.1 (zc.2.2.2.1 (y * 8 + z).toNatClampNeg).toNatClampNeg with
      | none =>
        rw [hs] at h
        have e := (o_s (h : some ((none : Option Nat), zc) = some (o, zc))).1
        rw [e]; rfl
      | some w =>
        rw [hs] at h
        have e := (o_s (h : some ((some w : Option Nat), zc) = some (o, zc))).1
        rw [e]; rfl
/-- the place has a section -/
def nn (zc : SC) (r q : Nat) : Prop := ∃ x, fX1_sectionOn zc (nI r) (nI q) = some (some x, zc)
theorem nn.keep {zc zd : SC} (F : Fl zc zd) {r q : Nat} (h : nn zc r q) : nn zd r q := by
  obtain ⟨x, hx⟩ := h
  exact ⟨x, sec_keep F hx⟩
theorem nn.sec {n : Nat} {zc : SC} {zm : SM} (h : Rl n zc zm) {r i : Nat} (hr : r < 6) (hi : i < 8) (hn : nn zc r i) : ∃ k x, zc.2.1[k]? = some x ∧ fX1_sectionOn zc (nI r) (nI i) = some (some x, zc) ∧ fX2_sectionOf zm (nI r) (nI i) = some (nI k, zm) := by
  obtain ⟨x, hx⟩ := hn
  rcases s_sec h hr hi with ⟨a, -⟩ | g
  · rw [a] at hx; cases hx
  · exact g
theorem s_claimAll {n r : Nat} (hr : r < 6) (v : Int32) {j : Nat} (hj : j ≤ 8) :
    ∀ (d i : Nat), i + d = j → ∀ (fc fm : Nat) (zc : SC) (zm : SM), d < fc → d < fm → Rl n zc zm → zc.2.2.2.2.1 r = nI j →
    ∃ q zd zn, i ≤ q ∧ q ≤ j ∧ fX1_claimAll_j2 fc zc (nI r) (nI i) = some (nI q, zd) ∧ fX2_all_j2 fm zm (nI r) v (nI i) = fX2_all_j37 zn (nI r) v (nI q) ∧ Rl n zd zn ∧ Fq zc zd ∧ ∀ p, i ≤ p → p < q → nn zc r p := by
  have hin := nI_in (c := r) (N := 6) hr (by omega)
  have cl := nI_clamp (n := r) (by omega)
  rw [cl] at hin
  intro d
  induction d with
  | zero =>
    intro i hi fc fm zc zm hfc hfm h hlen
    have hlm : zm.2.2.2.1 r = nI j := by rw [← h.1]; exact hlen
    obtain ⟨fc, rfl⟩ : ∃ q, fc = q + 1 := ⟨fc - 1, by omega⟩
    obtain ⟨fm, rfl⟩ : ∃ q, fm = q + 1 := ⟨fm - 1, by omega⟩
    have hle : nI j ≤ nI i := nI_le (by omega) (by omega)
    rw [fX1_claimAll_j2, fX2_all_j2]
    simp only [let_, cl, if_neg hin, hlm, hlen, if_pos hle]
    exact ⟨j, zc, zm, by omega, by omega, rfl, by rw [show j = i by omega], h, Fq.rf, fun p h1 h2 => by omega⟩
  | succ d ih =>
    intro i hi fc fm zc zm hfc hfm h hlen
    have hlm : zm.2.2.2.1 r = nI j := by rw [← h.1]; exact hlen
    obtain ⟨fc, rfl⟩ : ∃ q, fc = q + 1 := ⟨fc - 1, by omega⟩
    obtain ⟨fm, rfl⟩ : ∃ q, fm = q + 1 := ⟨fm - 1, by omega⟩
    have hnl : ¬ nI j ≤ nI i := nI_ge (by omega) (by omega)
    rw [fX1_claimAll_j2, fX2_all_j2]
    simp only [let_, cl, if_neg hin, hlm, hlen, if_neg hnl]
    rcases s_sec h hr (i := i) (by omega) with ⟨a1, a2⟩ | ⟨k, x, hk, a1, a2⟩
    · rw [a1, a2, bd_some, bd_some, if_pos (by decide)]
      exact ⟨i, zc, zm, by omega, by omega, rfl, rfl, h, Fq.rf, fun p h1 h2 => by omega⟩
    · obtain ⟨zc1, zm1, b1, b2, R1, F1⟩ := s_claim h hk
      rw [a1, a2, bd_some, bd_some, if_neg (nI_pos (by have := h.lt hk; omega)), a2, bd_some]
      simp only [opt_, b1, b2, bd_some, nI_1]
      obtain ⟨q, zd, zn, g1, g2, g3, g4, g5, g6, g7⟩ := ih (i + 1) (by omega) fc fm zc1 zm1 (by omega) (by omega) R1 (by rw [F1.2.2.2.1]; exact hlen)
      refine ⟨q, zd, zn, by omega, g2, g3, g4, g5, F1.tr g6, fun p h1 h2 => ?_⟩
      by_cases hp : p = i
      · rw [hp]; exact ⟨x, a1⟩
      · obtain ⟨y, hy⟩ := g7 p (by omega) h2
        exact ⟨y, sec_keep ⟨F1.1.symm, F1.2.1.symm, F1.2.2.1.symm, F1.2.2.2.1.symm⟩ hy⟩
theorem s_letAll {n r : Nat} (hr : r < 6) (t : Int32) :
    ∀ (q : Nat), q ≤ 8 → ∀ (fc fm : Nat) (zc : SC) (zm : SM) (y : Int32), q < fc → q < fm → Rl n zc zm → (∀ p, p < q → nn zc r p) → y = nI q - 1 →
    ∃ zd zn, fX1_letAll_j4 fc zc (nI r) y = some (0, zd) ∧ fX2_all_j99 fm zm (nI r) t y = some (t, zn) ∧ Rl n zd zn ∧ Fq zc zd := by
  intro q
  induction q with
  | zero =>
    intro _ fc fm zc zm y hfc hfm h hn hy
    obtain ⟨fc, rfl⟩ : ∃ q, fc = q + 1 := ⟨fc - 1, by omega⟩
    obtain ⟨fm, rfl⟩ : ∃ q, fm = q + 1 := ⟨fm - 1, by omega⟩
    have hl : y < 0 := by rw [hy]; decide
    rw [fX1_letAll_j4, fX2_all_j99, if_pos hl, if_pos hl]
    exact ⟨zc, zm, rfl, rfl, h, Fq.rf⟩
  | succ q ih =>
    intro hq fc fm zc zm y hfc hfm h hn hy
    obtain ⟨fc, rfl⟩ : ∃ q, fc = q + 1 := ⟨fc - 1, by omega⟩
    obtain ⟨fm, rfl⟩ : ∃ q, fm = q + 1 := ⟨fm - 1, by omega⟩
    rw [nI_pred] at hy
    subst hy
    have hl : ¬ nI q < 0 := nI_pos (by omega)
    rw [fX1_letAll_j4, fX2_all_j99, if_neg hl, if_neg hl]
    obtain ⟨k, x, hk, a1, a2⟩ := nn.sec h hr (by omega) (hn q (by omega))
    obtain ⟨zc1, zm1, b1, b2, R1, F1⟩ := s_let h hk
    rw [a1, a2, bd_some, bd_some]
    simp only [opt_, b1, b2, bd_some, fX1_letAll_j27]
    obtain ⟨zd, zn, g1, g2, g3, g4⟩ := ih (by omega) fc fm zc1 zm1 (nI q + -1) (by omega) (by omega) R1 (fun p hp => (hn p (by omega)).keep F1.l) (by rw [Int32.sub_eq_add_neg])
    exact ⟨zd, zn, g1, g2, g3, F1.tr g4⟩
/-- the end of 'all': each is let, the latest first; what it answers stays -/
theorem s_allEnd {n r : Nat} (hr : r < 6) (t : Int32) {q : Nat} (hq : q ≤ 8) {zc : SC} {zm : SM} (h : Rl n zc zm) (hn : ∀ p, p < q → nn zc r p) {b : Nat} (hb : pb b zc) :
    Rn n b zc (bd_ (fX1_letAll zc (nI r) (nI q)) (fun _ z2 => some (fin_ t (psC zc), z2))) (fX2_all_j94 zm (nI r) (nI q) t) := by
  obtain ⟨zd, zn, g1, g2, g3, g4⟩ := s_letAll hr t q hq 20 20 zc zm (nI q - 1) (by omega) (by omega) h hn rfl
  have e1 : fX1_letAll zc (nI r) (nI q) = some (0, zd) := g1
  have e2 : fX2_all_j94 zm (nI r) (nI q) t = some (t, zn) := g2
  have e3 : psC zc = psC zd := by
    have := g4.2.2.2.2
    unfold psC
    rw [this]
  rw [e1, e2, bd_some, e3]
  exact ⟨t, zd, zn, rfl, rfl, g3, g4.l, g4.p hb⟩
/-- at the head of the passes, something other than 0 was told already -/
theorem s_allStop {n r : Nat} (hr : r < 6) (v t : Int32) (tc : Int32) (htc : ¬ tc = 0) (ht : ¬ t = 0) {q : Nat} (hq : q ≤ 8) {zc : SC} {zm : SM} (h : Rl n zc zm) (hn : ∀ p, p < q → nn zc r p) {b : Nat} (hb : pb b zc) (y : Int32) (fc fm : Nat) :
    Rn n b zc (fX1_goAll_j36 (fc + 1) zc (nI r) v (nI q) tc (fin_ t (psC zc)) y) (fX2_all_j58 (fm + 1) zm (nI r) v (nI q) t y) := by
  have E := s_allEnd hr t hq h hn hb
  rw [fX1_goAll_j36, fX2_all_j58]
  by_cases c : nI q ≤ y
  · rw [if_pos c, if_pos c]; exact E
  · rw [if_neg c, if_neg c, if_neg htc, if_neg ht]; exact E
theorem s_allPass {n r : Nat} (hr : r < 6) (v : Int32) {q : Nat} (hq : q ≤ 8) :
    ∀ (d i : Nat), i + d = q → ∀ (fc fm b : Nat) (zc : SC) (zm : SM), d < fc → d < fm → Rl n zc zm → (∀ p, p < q → nn zc r p) → pb b zc →
    Rn n (b + d) zc (fX1_goAll_j36 (fc + 1) zc (nI r) v (nI q) 0 (psC zc) (nI i)) (fX2_all_j58 (fm + 1) zm (nI r) v (nI q) 0 (nI i)) := by
  intro d
  induction d with
  | zero =>
    intro i hi fc fm b zc zm hfc hfm h hn hb
    have hle : nI q ≤ nI i := nI_le (by omega) (by omega)
    rw [fX1_goAll_j36, fX2_all_j58, if_pos hle, if_pos hle]
    exact s_allEnd hr 0 hq h hn hb
  | succ d ih =>
    intro i hi fc fm b zc zm hfc hfm h hn hb
    have hnl : ¬ nI q ≤ nI i := nI_ge (by omega) (by omega)
    have hi8 : i < 8 := by omega
    rw [fX1_goAll_j36, fX2_all_j58, if_neg hnl, if_neg hnl, if_pos rfl, if_pos rfl]
    obtain ⟨k, x, hk, a1, a2⟩ := nn.sec h hr hi8 (hn i (by omega))
    obtain ⟨t, zc2, zm2, c1, c2, R2, F2, P2⟩ := s_pass h hk v
    rw [a1, a2, bd_some, bd_some]
    simp only [opt_, c1, c2, bd_some, m_ended, fX1_goAll_j73, c_answer hi8, nI_1]
    obtain ⟨fc, rfl⟩ : ∃ q, fc = q + 1 := ⟨fc - 1, by omega⟩
    obtain ⟨fm, rfl⟩ : ∃ q, fm = q + 1 := ⟨fm - 1, by omega⟩
    have hn2 : ∀ p, p < q → nn zc2 r p := fun p hp => (hn p hp).keep F2
    by_cases ht : t = 0
    · have e0 : en_ t i = 0 := (en_0 hi8).mpr ht
      rw [e0, ht]
      obtain ⟨t', zd', zn', g1, g2, g3, g4, g5⟩ := ih (i + 1) (by omega) fc fm (b + 1) zc2 zm2 (by omega) (by omega) R2 hn2 (P2 b hb)
      exact ⟨t', zd', zn', g1, g2, g3, F2.tr g4, g5.mono (by omega)⟩
    · have e0 : ¬ en_ t i = 0 := fun q => ht ((en_0 hi8).mp q)
      obtain ⟨t', zd', zn', g1, g2, g3, g4, g5⟩ := s_allStop hr v (en_ t i) t ht e0 hq R2 hn2 (P2 b hb) (nI (i + 1)) fc fm
      exact ⟨t', zd', zn', g1, g2, g3, F2.tr g4, g5.mono (by omega)⟩
theorem s_goAll {n r : Nat} (hr : r < 6) (v : Int32) {zc : SC} {zm : SM} (h : Rl n zc zm) (hb : pb 0 zc) : Rn n 100 zc (fX1_goAll zc (nI r) v) (fX2_all zm (nI r) v) := by
  have hin := nI_in (c := r) (N := 6) hr (by omega)
  have cl := nI_clamp (n := r) (by omega)
  rw [cl] at hin
  obtain ⟨j, hj, e, -⟩ := len_of h hr
  obtain ⟨q, zd, zn, g1, g2, g3, g4, g5, g6, g7⟩ := s_claimAll hr v hj j 0 (by omega) 20 20 zc zm (by omega) (by omega) h e
  have e1 : fX1_claimAll zc (nI r) = some (nI q, zd) := g3
  have e2 : fX2_all zm (nI r) v = fX2_all_j37 zn (nI r) v (nI q) := g4
  have ed : zd.2.2.2.2.1 r = nI j := by rw [g6.2.2.2.1]; exact e
  have en : zn.2.2.2.1 r = nI j := by rw [← g5.1]; exact ed
  have hn : ∀ p, p < q → nn zd r p := fun p hp => (g7 p (by omega) hp).keep g6.l
  have hb1 : pb 0 zd := g6.p hb
  rw [e2]
  unfold fX1_goAll fX2_all_j37 fX1_goAll_j22 fX2_all_j53
  simp only [e1, bd_some, let_, cl, if_neg hin, ed, en]
  by_cases hl : nI j ≤ nI q
  · rw [if_pos hl, if_pos hl]
    have ea : fX1_answerTo zd 0 0 = some (psC zd, zd) := by
      have := c_answer (zc := zd) (t := 0) (i := 0) (by omega)
      exact this
    rw [ea, bd_some]
    obtain ⟨t', zd', zn', a1, a2, a3, a4, a5⟩ := s_allPass hr v (q := q) (by omega) q 0 (by omega) 19 19 0 zd zn (by omega) (by omega) g5 hn hb1
    exact ⟨t', zd', zn', a1, a2, a3, g6.l.tr a4, a5.mono (by omega)⟩
  · rw [if_neg hl, if_neg hl]
    have ea : fX1_answerTo zd (-11) 0 = some (fin_ (-11) (psC zd), zd) := by
      have := c_answer (zc := zd) (t := -11) (i := 0) (by omega)
      exact this
    rw [ea, bd_some]
    obtain ⟨t', zd', zn', a1, a2, a3, a4, a5⟩ := s_allStop hr v (-11) (-11) (by decide) (by decide) (q := q) (by omega) g5 hn hb1 0 19 19
    exact ⟨t', zd', zn', a1, a2, a3, g6.l.tr a4, a5.mono (by omega)⟩
end
section
/-! ===== the public calls beside the reference's ===== -/
theorem ne10 : ¬ (1 : Int32) = 0 := by decide
theorem lt_of_sle {x : Int32} {N : Nat} (hN : N < 2 ^ 30) (h : nI (N + 1) ≤ x) : nI N < x := by
  have h1 := Int32.le_iff_toInt_le.mp h
  rw [nI_toInt (by omega)] at h1
  exact Int32.lt_iff_toInt_lt.mpr (by rw [nI_toInt (by omega)]; omega)
theorem sle_of_lt {x : Int32} {N : Nat} (hN : N < 2 ^ 30) (h : nI N < x) : nI (N + 1) ≤ x := by
  have h1 := Int32.lt_iff_toInt_lt.mp h
  rw [nI_toInt (by omega)] at h1
  exact Int32.le_iff_toInt_le.mpr (by rw [nI_toInt (by omega)]; omega)
theorem in_cases (x : Int32) (N : Nat) (hN : N < 2 ^ 30) : ((x < 0 ∨ (¬ x < 0 ∧ nI N < x)) ∧ ∀ zm, fX2_in zm x 0 (nI N) = some (0, zm)) ∨ ∃ j, j ≤ N ∧ x = nI j ∧ ∀ zm, fX2_in zm x 0 (nI N) = some (1, zm) := by
  by_cases h0 : x < 0
  · left
    exact ⟨Or.inl h0, fun zm => by unfold fX2_in; rw [if_pos h0]⟩
  · rcases pk_ix x (n := N + 1) (by omega) with h | h | ⟨j, hj, e⟩
    · exact absurd h h0
    · left
      have h1 := lt_of_sle hN h
      exact ⟨Or.inr ⟨h0, h1⟩, fun zm => by unfold fX2_in; rw [if_neg h0, if_pos h1]⟩
    · right
      refine ⟨j, by omega, e, fun zm => ?_⟩
      unfold fX2_in
      rw [if_neg h0, if_neg (by rw [e]; exact nI_nlt (by omega) (by omega))]
theorem pl_cases (x : Int32) : (∀ zc zm, fX1_isPlace zc x = some (0, zc) ∧ fX2_isPlace zm x = some (0, zm)) ∨ ∃ p, p < 12 ∧ x = nI p ∧ ∀ zc zm, fX1_isPlace zc x = some (1, zc) ∧ fX2_isPlace zm x = some (1, zm) := by
  rcases in_cases x 11 (by omega) with ⟨h, g⟩ | ⟨j, hj, e, g⟩
  · left
    intro zc zm
    refine ⟨?_, ?_⟩
    · unfold fX1_isPlace
      rcases h with h | ⟨h, h1⟩
      · rw [if_pos h]
      · rw [if_neg h, if_pos (show (12 : Int32) ≤ x from sle_of_lt (N := 11) (by omega) h1)]
    · unfold fX2_isPlace
      rw [show fX2_in zm x 0 11 = some (0, zm) from g zm, bd_some, if_pos (by decide)]
  · right
    refine ⟨j, by omega, e, fun zc zm => ⟨?_, ?_⟩⟩
    · unfold fX1_isPlace
      rw [e, if_neg (nI_pos (by omega)), if_neg (show ¬ (12 : Int32) ≤ nI j from nI_ge (b := 12) (by omega) (by omega))]
    · unfold fX2_isPlace
      rw [show fX2_in zm x 0 11 = some (1, zm) from g zm, bd_some, if_pos (by decide)]
theorem ro_cases (x : Int32) : (∀ zc zm, fX1_isRoute zc x = some (0, zc) ∧ fX2_isRoute zm x = some (0, zm)) ∨ ∃ p, p < 6 ∧ x = nI p ∧ ∀ zc zm, fX1_isRoute zc x = some (1, zc) ∧ fX2_isRoute zm x = some (1, zm) := by
  rcases in_cases x 5 (by omega) with ⟨h, g⟩ | ⟨j, hj, e, g⟩
  · left
    intro zc zm
    refine ⟨?_, ?_⟩
    · unfold fX1_isRoute
      rcases h with h | ⟨h, h1⟩
      · rw [if_pos h]
      · rw [if_neg h, if_pos (show (6 : Int32) ≤ x from sle_of_lt (N := 5) (by omega) h1)]
    · unfold fX2_isRoute
      rw [show fX2_in zm x 0 5 = some (0, zm) from g zm, bd_some, if_pos (by decide)]
  · right
    refine ⟨j, by omega, e, fun zc zm => ⟨?_, ?_⟩⟩
    · unfold fX1_isRoute
      rw [e, if_neg (nI_pos (by omega)), if_neg (show ¬ (6 : Int32) ≤ nI j from nI_ge (b := 6) (by omega) (by omega))]
    · unfold fX2_isRoute
      rw [show fX2_in zm x 0 5 = some (1, zm) from g zm, bd_some, if_pos (by decide)]
theorem ax_cases (x : Int32) : (∀ zc zm, fX1_isAxles zc x = some (0, zc) ∧ fX2_in zm x 0 1000 = some (0, zm)) ∨ ∀ zc zm, fX1_isAxles zc x = some (1, zc) ∧ fX2_in zm x 0 1000 = some (1, zm) := by
  rcases in_cases x 1000 (by omega) with ⟨h, g⟩ | ⟨j, hj, e, g⟩
  · left
    intro zc zm
    refine ⟨?_, g zm⟩
    unfold fX1_isAxles
    rcases h with h | ⟨h, h1⟩
    · rw [if_pos h]
    · rw [if_neg h, if_pos (show (1000 : Int32) < x from h1)]
  · right
    intro zc zm
    refine ⟨?_, g zm⟩
    unfold fX1_isAxles
    rw [e, if_neg (nI_pos (by omega)), if_neg (show ¬ (1000 : Int32) < nI j from nI_nlt (a := 1000) (by omega) (by omega))]
def Sm (n : Nat) (oc : Option (Int32 × SC)) (om : Option (Int32 × SM)) : Prop := ∃ r zd zn, oc = some (r, zd) ∧ om = some (r, zn) ∧ Rl n zd zn
def Ro (zc : SC) (o : Option Nat) (a : Int32) : Prop := (o = none ∧ a = -1) ∨ ∃ k x, zc.2.1[k]? = some x ∧ o = some x ∧ a = nI k
theorem Rl.place {n : Nat} {zc : SC} {zm : SM} (h : Rl n zc zm) (q : Nat) {o : Option Nat} {a : Int32} (ho : Ro zc o a) : Rl n (zc.1, zc.2.1, va_up zc.2.2.1 q o, zc.2.2.2) (zm.1, upd zm.2.1 q a, zm.2.2) := by
  obtain ⟨h1, h2, h3, h4, h5, h6⟩ := h
  refine ⟨h1, h2, h3, ?_, h5, h6⟩
  intro p hp
  show (va_up zc.2.2.1 q o p = none ∧ upd zm.2.1 q a p = -1) ∨ ∃ k x, zc.2.1[k]? = some x ∧ va_up zc.2.2.1 q o p = some x ∧ upd zm.2.1 q a p = nI k
  by_cases hq : p = q
  · subst hq
    rw [va_up_self, pk_us]; exact ho
  · rw [va_up_ne _ _ hq, pk_un hq]; exact h4 p hp
theorem Rl.at {n : Nat} {zc : SC} {zm : SM} (h : Rl n zc zm) {p : Nat} (hp : p < 12) : Ro zc (zc.2.2.1 p) (zm.2.1 p) := h.2.2.2.1 p hp
theorem t_share {n : Nat} {zc : SC} {zm : SM} (h : Rl n zc zm) (x y : Int32) : Sm n (fX1_share zc x y) (fX2_share zm x y) := by
  unfold fX1_share fX2_share
  rcases pl_cases x with g | ⟨p, hp, e, g⟩
  · rw [(g zc zm).1, (g zc zm).2, bd_some, bd_some, if_pos rfl, if_pos rfl]
    exact ⟨-1, zc, zm, rfl, rfl, h⟩
  · rw [(g zc zm).1, (g zc zm).2, bd_some, bd_some, if_neg ne10, if_neg ne10]
    rcases pl_cases y with g2 | ⟨q, hq, e2, g2⟩
    · rw [(g2 zc zm).1, (g2 zc zm).2, bd_some, bd_some, if_pos rfl, if_pos rfl]
      exact ⟨-1, zc, zm, rfl, rfl, h⟩
    · rw [(g2 zc zm).1, (g2 zc zm).2, bd_some, bd_some, if_neg ne10, if_neg ne10]
      subst e; subst e2
      have cp := nI_clamp (n := p) (by omega)
      have cq := nI_clamp (n := q) (by omega)
      have ip := nI_in (c := p) (N := 12) hp (by omega)
      have iq := nI_in (c := q) (N := 12) hq (by omega)
      rw [cp] at ip
      rw [cq] at iq
      simp only [let_, cp, cq, if_neg ip, if_neg iq, va_up_self, pk_us]
      have R := h.place q (h.at hp)
      rcases h.at hp with ⟨a, b⟩ | ⟨k, w, hk, a, b⟩
      · rw [a, b] at R ⊢
        simp only [opt_]
        rw [if_neg (by decide)]
        exact ⟨0, _, _, rfl, rfl, R⟩
      · rw [a, b] at R ⊢
        simp only [opt_, if_pos (Rl.mem hk)]
        rw [if_pos (nI_pos' (by have := h.lt hk; omega))]
        exact ⟨1, _, _, rfl, rfl, R⟩
theorem t_remove {n : Nat} {zc : SC} {zm : SM} (h : Rl n zc zm) (x : Int32) : Sm n (fX1_remove zc x) (fX2_remove zm x) := by
  unfold fX1_remove fX2_remove fX1_remove_j23 fX2_remove_j23
  rcases pl_cases x with g | ⟨p, hp, e, g⟩
  · rw [(g zc zm).1, (g zc zm).2, bd_some, bd_some, if_pos rfl, if_pos rfl]
    exact ⟨-1, zc, zm, rfl, rfl, h⟩
  · rw [(g zc zm).1, (g zc zm).2, bd_some, bd_some, if_neg ne10, if_neg ne10]
    subst e
    have cp := nI_clamp (n := p) (by omega)
    have ip := nI_in (c := p) (N := 12) hp (by omega)
    rw [cp] at ip
    simp only [let_, cp, if_neg ip]
    have R := h.place p (o := none) (a := -1) (Or.inl ⟨rfl, rfl⟩)
    rcases h.at hp with ⟨a, b⟩ | ⟨k, w, hk, a, b⟩
    · rw [a, b, if_neg (by decide)]
      exact ⟨0, _, _, rfl, rfl, R⟩
    · rw [a, b, if_pos (nI_pos' (by have := h.lt hk; omega))]
      exact ⟨1, _, _, rfl, rfl, R⟩
theorem nI_nm1 {k : Nat} (hk : k < 640) : ¬ nI k = -1 := fun e => absurd (show nI k < 0 by rw [e]; decide) (nI_pos (by omega))
theorem t_same {n : Nat} {zc : SC} {zm : SM} (h : Rl n zc zm) (x y : Int32) : Sm n (fX1_same zc x y) (fX2_same zm x y) := by
  unfold fX1_same fX2_same
  rcases pl_cases x with g | ⟨p, hp, e, g⟩
  · rw [(g zc zm).1, (g zc zm).2, bd_some, bd_some, if_pos rfl, if_pos rfl]
    exact ⟨-1, zc, zm, rfl, rfl, h⟩
  · rw [(g zc zm).1, (g zc zm).2, bd_some, bd_some, if_neg ne10, if_neg ne10]
    rcases pl_cases y with g2 | ⟨q, hq, e2, g2⟩
    · rw [(g2 zc zm).1, (g2 zc zm).2, bd_some, bd_some, if_pos rfl, if_pos rfl]
      exact ⟨-1, zc, zm, rfl, rfl, h⟩
    · rw [(g2 zc zm).1, (g2 zc zm).2, bd_some, bd_some, if_neg ne10, if_neg ne10]
      subst e; subst e2
      have cp := nI_clamp (n := p) (by omega)
      have cq := nI_clamp (n := q) (by omega)
      have ip := nI_in (c := p) (N := 12) hp (by omega)
      have iq := nI_in (c := q) (N := 12) hq (by omega)
      rw [cp] at ip
      rw [cq] at iq
      simp only [let_, cp, cq, if_neg ip, if_neg iq]
      rcases h.at hp with ⟨a, b⟩ | ⟨k, w, hk, a, b⟩
      · rcases h.at hq with ⟨a', b'⟩ | ⟨k', w', hk', a', b'⟩
        · rw [a, b, a', b']
          exact ⟨1, zc, zm, rfl, rfl, h⟩
        · rw [a, b, a', b', if_neg (show ¬ (-1 : Int32) = nI k' from fun e => nI_nm1 (h.lt hk') e.symm)]
          exact ⟨0, zc, zm, rfl, rfl, h⟩
      · rcases h.at hq with ⟨a', b'⟩ | ⟨k', w', hk', a', b'⟩
        · rw [a, b, a', b', if_neg (nI_nm1 (h.lt hk))]
          exact ⟨0, zc, zm, rfl, rfl, h⟩
        · rw [a, b, a', b']
          simp only [opt_]
          by_cases hw : w = w'
          · subst hw
            have hkk := h.2.1.2.2 k k' w hk hk'
            subst hkk
            rw [if_pos rfl, if_pos rfl]
            exact ⟨1, zc, zm, rfl, rfl, h⟩
          · rw [if_neg (fun e => hw (Option.some.inj e)), if_neg (fun e => hw (by
              have e2 := (nI_eq (by have := h.lt hk; omega) (by have := h.lt hk'; omega)).mp e
              subst e2
              exact Option.some.inj (hk.symm.trans hk')))]
            exact ⟨0, zc, zm, rfl, rfl, h⟩
theorem t_lead {n : Nat} {zc : SC} {zm : SM} (h : Rl n zc zm) (x y : Int32) : Sm n (fX1_lead zc x y) (fX2_lead zm x y) := by
  unfold fX1_lead fX2_lead
  rcases ro_cases x with g | ⟨r, hr, e, g⟩
  · rw [(g zc zm).1, (g zc zm).2, bd_some, bd_some, if_pos rfl, if_pos rfl]
    exact ⟨-1, zc, zm, rfl, rfl, h⟩
  · rw [(g zc zm).1, (g zc zm).2, bd_some, bd_some, if_neg ne10, if_neg ne10]
    rcases pl_cases y with g2 | ⟨q, hq, e2, g2⟩
    · rw [(g2 zc zm).1, (g2 zc zm).2, bd_some, bd_some, if_pos rfl, if_pos rfl]
      exact ⟨-1, zc, zm, rfl, rfl, h⟩
    · rw [(g2 zc zm).1, (g2 zc zm).2, bd_some, bd_some, if_neg ne10, if_neg ne10]
      subst e; subst e2
      have cr := nI_clamp (n := r) (by omega)
      have ir := nI_in (c := r) (N := 6) hr (by omega)
      rw [cr] at ir
      obtain ⟨j, hj, ej, em⟩ := len_of h hr
      have e1 : nI r * 8 + nI j = nI (r * 8 + j) := by rw [show (8 : Int32) = nI 8 from rfl, pk_mul, nI_add]
      have e2 : 8 * nI r + nI j = nI (r * 8 + j) := by rw [show (8 : Int32) = nI 8 from rfl, pk_mul, nI_add, Nat.mul_comm]
      have ci := nI_clamp (n := r * 8 + j) (by omega)
      simp only [let_, cr, if_neg ir, ej, em, e1, e2, ci, pk_us, nI_1]
      by_cases h8 : j = 8
      · subst h8
        rw [if_neg (by decide), if_pos (by decide)]
        exact ⟨-2, zc, zm, rfl, rfl, h⟩
      · have ii := nI_in (c := r * 8 + j) (N := 48) (by omega) (by omega)
        rw [ci] at ii
        rw [if_pos (show nI j < (8 : Int32) from nI_lt (b := 8) (by omega) (by omega)), if_neg (show ¬ nI j = (8 : Int32) from fun e => h8 ((nI_eq (b := 8) (by omega) (by omega)).mp e)), if_neg ii, if_neg ii]
        have hC : Ci (upd zc.2.2.2.1 (r * 8 + j) (nI q), upd zc.2.2.2.2.1 r (nI (j + 1)), zc.2.2.2.2.2) := by
          obtain ⟨c1, c2, c3⟩ := h.2.2.2.2.1
          refine ⟨fun i hi => ?_, fun i hi => ?_, c3⟩
          · show ∃ p, p < 12 ∧ upd zc.2.2.2.1 (r * 8 + j) (nI q) i = nI p
            by_cases hh : i = r * 8 + j
            · exact ⟨q, hq, by rw [hh, pk_us]⟩
            · rw [pk_un hh]; exact c1 i hi
          · show ∃ p, p ≤ 8 ∧ upd zc.2.2.2.2.1 r (nI (j + 1)) i = nI p
            by_cases hh : i = r
            · exact ⟨j + 1, by omega, by rw [hh, pk_us]⟩
            · rw [pk_un hh]; exact c2 i hi
        have R := h.com hC h.2.2.2.2.2
        refine ⟨nI (j + 1), _, _, rfl, rfl, ?_⟩
        have e := h.1
        rw [← e]
        exact R
theorem t_unlead {n : Nat} {zc : SC} {zm : SM} (h : Rl n zc zm) (x : Int32) : Sm n (fX1_unlead zc x) (fX2_unlead zm x) := by
  unfold fX1_unlead fX2_unlead
  rcases ro_cases x with g | ⟨r, hr, e, g⟩
  · rw [(g zc zm).1, (g zc zm).2, bd_some, bd_some, if_pos rfl, if_pos rfl]
    exact ⟨-1, zc, zm, rfl, rfl, h⟩
  · rw [(g zc zm).1, (g zc zm).2, bd_some, bd_some, if_neg ne10, if_neg ne10]
    subst e
    have cr := nI_clamp (n := r) (by omega)
    have ir := nI_in (c := r) (N := 6) hr (by omega)
    rw [cr] at ir
    obtain ⟨j, hj, ej, em⟩ := len_of h hr
    simp only [let_, cr, if_neg ir, ej, em]
    have hC : Ci (zc.2.2.2.1, upd zc.2.2.2.2.1 r 0, zc.2.2.2.2.2) := by
      obtain ⟨c1, c2, c3⟩ := h.2.2.2.2.1
      refine ⟨c1, fun i hi => ?_, c3⟩
      show ∃ p, p ≤ 8 ∧ upd zc.2.2.2.2.1 r 0 i = nI p
      by_cases hh : i = r
      · exact ⟨0, by omega, by rw [hh, pk_us]; rfl⟩
      · rw [pk_un hh]; exact c2 i hi
    have R := h.com hC h.2.2.2.2.2
    refine ⟨nI j, _, _, rfl, rfl, ?_⟩
    have e := h.1
    rw [← e]
    exact R
theorem t_passed {n : Nat} {zc : SC} {zm : SM} (h : Rl n zc zm) : Sm n (fX1_passed zc) (fX2_passed zm) := by
  unfold fX1_passed fX2_passed
  rw [← h.1]
  exact ⟨_, zc, zm, rfl, rfl, h⟩
theorem t_trace {n : Nat} {zc : SC} {zm : SM} (h : Rl n zc zm) (x : Int32) : Sm n (fX1_trace zc x) (fX2_trace zm x) := by
  unfold fX1_trace fX2_trace
  rw [← h.1]
  obtain ⟨-, -, t, ht, et⟩ := h.2.2.2.2.1
  by_cases hm : x = -1
  · rw [if_pos hm, if_pos hm]
    exact ⟨_, zc, zm, rfl, rfl, h⟩
  · rw [if_neg hm, if_neg hm, et]
    unfold fX2_in
    by_cases h0 : x < 0
    · rw [if_pos h0, if_pos h0, bd_some, if_pos rfl]
      exact ⟨_, zc, zm, rfl, rfl, h⟩
    · rw [if_neg h0, if_neg h0]
      rcases pk_ix x (n := t) (by omega) with g | g | ⟨j, hj, e⟩
      · exact absurd g h0
      · have g2 : nI t - 1 < x := by
          by_cases hz : t = 0
          · subst hz
            have h1 : ¬ x.toInt < (0 : Int32).toInt := fun q => h0 (Int32.lt_iff_toInt_lt.mpr q)
            have h2 : (nI 0 - 1).toInt = -1 := by decide
            have h3 : (0 : Int32).toInt = 0 := by decide
            exact Int32.lt_iff_toInt_lt.mpr (by rw [h2]; omega)
          · obtain ⟨u, rfl⟩ : ∃ u, t = u + 1 := ⟨t - 1, by omega⟩
            rw [nI_pred]; exact lt_of_sle (by omega) g
        rw [if_pos g, if_pos g2, bd_some, if_pos rfl]
        exact ⟨_, zc, zm, rfl, rfl, h⟩
      · have g2 : ¬ nI t - 1 < x := by
          obtain ⟨u, rfl⟩ : ∃ u, t = u + 1 := ⟨t - 1, by omega⟩
          rw [nI_pred, e]; exact nI_nlt (by omega) (by omega)
        have g3 : ¬ nI t ≤ x := by rw [e]; exact nI_ge hj (by omega)
        have ij : ¬ (x < 0 ∨ 150 ≤ x.toNatClampNeg) := by rw [e]; exact nI_in (by omega) (by omega)
        rw [if_neg g2, if_neg g3, bd_some, if_neg ne10, if_neg ij, if_neg ij]
        simp only [let_]
        rw [← h.1]
        exact ⟨_, zc, zm, rfl, rfl, h⟩
theorem t_told {n : Nat} {zc : SC} {zm : SM} (h : Rl n zc zm) (x y : Int32) : Sm n (fX1_told zc x y) (fX2_told zm x y) := by
  unfold fX1_told fX2_told
  rcases pl_cases x with g | ⟨p, hp, e, g⟩
  · rw [(g zc zm).1, (g zc zm).2, bd_some, bd_some, if_pos rfl, if_pos rfl]
    exact ⟨-1, zc, zm, rfl, rfl, h⟩
  · rw [(g zc zm).1, (g zc zm).2, bd_some, bd_some, if_neg ne10, if_neg ne10]
    subst e
    have cp := nI_clamp (n := p) (by omega)
    have ip := nI_in (c := p) (N := 12) hp (by omega)
    rw [cp] at ip
    simp only [let_, cp, if_neg ip]
    rcases h.at hp with ⟨a, b⟩ | ⟨k, w, hk, a, b⟩
    · rw [a, b, if_neg (by decide)]
      exact ⟨-1, zc, zm, rfl, rfl, h⟩
    · rw [a, b, if_pos (nI_pos' (by have := h.lt hk; omega))]
      obtain ⟨q0, -, q⟩ := h.2.2.1 k w hk
      have hw := Rl.mem hk
      have hc := nI_in (h.lt hk) (by omega)
      have ek := nI_clamp (n := k) (by have := h.lt hk; omega)
      rw [ek] at hc
      simp only [opt_, if_pos hw, ek, if_neg hc, q0, q 1 (by omega) (by omega), q 2 (by omega) (by omega), q 3 (by omega) (by omega), q 4 (by omega) (by omega), q 5 (by omega) (by omega), q 6 (by omega) (by omega), q 7 (by omega) (by omega), q 8 (by omega) (by omega)]
      by_cases c0 : y = 0
      · rw [if_pos c0, if_pos c0]; exact ⟨_, zc, zm, rfl, rfl, h⟩
      rw [if_neg c0, if_neg c0]
      by_cases c1 : y = 1
      · rw [if_pos c1, if_pos c1]; exact ⟨_, zc, zm, rfl, rfl, h⟩
      rw [if_neg c1, if_neg c1]
      by_cases c2 : y = 2
      · rw [if_pos c2, if_pos c2]; exact ⟨_, zc, zm, rfl, rfl, h⟩
      rw [if_neg c2, if_neg c2]
      by_cases c3 : y = 3
      · rw [if_pos c3, if_pos c3]; exact ⟨_, zc, zm, rfl, rfl, h⟩
      rw [if_neg c3, if_neg c3]
      by_cases c4 : y = 4
      · rw [if_pos c4, if_pos c4]; exact ⟨_, zc, zm, rfl, rfl, h⟩
      rw [if_neg c4, if_neg c4]
      by_cases c5 : y = 5
      · rw [if_pos c5, if_pos c5]; exact ⟨_, zc, zm, rfl, rfl, h⟩
      rw [if_neg c5, if_neg c5]
      by_cases c6 : y = 6
      · rw [if_pos c6, if_pos c6]; exact ⟨_, zc, zm, rfl, rfl, h⟩
      rw [if_neg c6, if_neg c6]
      by_cases c7 : y = 7
      · rw [if_pos c7, if_pos c7]; exact ⟨_, zc, zm, rfl, rfl, h⟩
      rw [if_neg c7, if_neg c7]
      by_cases c8 : y = 8
      · rw [if_pos c8, if_pos c8]; exact ⟨_, zc, zm, rfl, rfl, h⟩
      rw [if_neg c8, if_neg c8]
      exact ⟨_, zc, zm, rfl, rfl, h⟩
end
section
/-! ===== count, run, shunt, section ===== -/
def mch (x c : Int32) (zm : SM) : Option (Int32 × SM) := (if x = 0 then some (zm.2.2.2.2.2.2.1, zm) else (if x = 1 then some (c, zm) else (if x = 2 then some (zm.2.2.2.2.2.2.2.1, zm) else (if x = 3 then some (zm.2.2.2.2.2.2.2.2.1, zm) else (if x = 4 then some (zm.2.2.2.2.2.2.2.2.2.1, zm) else some ((-1), zm))))))
theorem s_cnt {n : Nat} {zc : SC} {zm : SM} (h : Rl n zc zm) (x : Int32) :
    ∀ (d i : Nat), i + d = 12 → ∀ (fc fm : Nat) (c : Int32), d < fc → d < fm → ∃ c', fX1_countStanding_j4 fc zc c (nI i) = some (c', zc) ∧ fX2_count_j23 fm zm x c (nI i) = mch x c' zm := by
  intro d
  induction d with
  | zero =>
    intro i hi fc fm c hfc hfm
    obtain ⟨fc, rfl⟩ : ∃ q, fc = q + 1 := ⟨fc - 1, by omega⟩
    obtain ⟨fm, rfl⟩ : ∃ q, fm = q + 1 := ⟨fm - 1, by omega⟩
    have hi : i = 12 := by omega
    subst hi
    rw [fX1_countStanding_j4, fX2_count_j23, if_pos (by decide), if_pos (by decide)]
    exact ⟨c, rfl, rfl⟩
  | succ d ih =>
    intro i hi fc fm c hfc hfm
    obtain ⟨fc, rfl⟩ : ∃ q, fc = q + 1 := ⟨fc - 1, by omega⟩
    obtain ⟨fm, rfl⟩ : ∃ q, fm = q + 1 := ⟨fm - 1, by omega⟩
    have hnl : ¬ (12 : Int32) ≤ nI i := nI_ge (b := 12) (by omega) (by omega)
    have ci := nI_clamp (n := i) (by omega)
    have ii := nI_in (c := i) (N := 12) (by omega) (by omega)
    rw [ci] at ii
    rw [fX1_countStanding_j4, fX2_count_j23]
    simp only [let_, if_neg hnl, ci, if_neg ii]
    rcases h.at (p := i) (by omega) with ⟨a, b⟩ | ⟨k, w, hk, a, b⟩
    · rw [a, b, if_neg (by decide)]
      simp only [opt_, fX1_countStanding_j22, fX2_count_j44, nI_1, Int32.add_zero]
      exact ih (i + 1) (by omega) fc fm c (by omega) (by omega)
    · rw [a, b, if_pos (nI_pos' (by have := h.lt hk; omega))]
      simp only [opt_, fX1_countStanding_j22, fX2_count_j44, nI_1]
      exact ih (i + 1) (by omega) fc fm (c + 1) (by omega) (by omega)
theorem t_count {n : Nat} {zc : SC} {zm : SM} (h : Rl n zc zm) (x : Int32) : Sm n (fX1_count zc x) (fX2_count zm x) := by
  have e5 : x = (x - 5) + 5 := by rw [Int32.sub_add_cancel]
  obtain ⟨c', g1, g2⟩ := s_cnt h x 12 0 (by omega) 20 20 0 (by omega) (by omega)
  have g1' : fX1_countStanding zc = some (c', zc) := g1
  have g2' : fX2_count_j23 20 zm x 0 0 = mch x c' zm := g2
  rcases ro_cases (x - 5) with g | ⟨r, hr, e, g⟩
  · have hin : fX2_in zm x 5 10 = some (0, zm) := by
      unfold fX2_in
      by_cases a : x < 5
      · rw [if_pos a]
      · by_cases b : 10 < x
        · rw [if_neg a, if_pos b]
        · exfalso
          rcases pk_ix x (n := 11) (by omega) with q | q | ⟨j, hj, q⟩
          · have h0 := Int32.lt_iff_toInt_lt.mp q
            have h1 : (0 : Int32).toInt = 0 := by decide
            have h2 : (5 : Int32).toInt = 5 := by decide
            exact a (Int32.lt_iff_toInt_lt.mpr (by omega))
          · exact b (lt_of_sle (N := 10) (by omega) q)
          · have hj5 : 5 ≤ j := by
              rcases Nat.lt_or_ge j 5 with z | z
              · exact absurd (by rw [q]; exact nI_lt (b := 5) z (by omega)) a
              · exact z
            have e6 : x - 5 = nI (j - 5) := by rw [q]; exact pk_sub (b := 5) hj5
            have hz := (g zc zm).1
            rw [e6] at hz
            unfold fX1_isRoute at hz
            rw [if_neg (nI_pos (by omega)), if_neg (show ¬ (6 : Int32) ≤ nI (j - 5) from nI_ge (b := 6) (by omega) (by omega))] at hz
            have := (o_s hz).1
            exact absurd this (by decide)
    unfold fX1_count fX2_count
    rw [hin, bd_some, if_pos rfl, g2']
    unfold mch
    rw [g1', (g zc zm).1]
    simp only [bd_some]
    rw [← h.1]
    by_cases c0 : x = 0
    · rw [if_pos c0, if_pos c0]; exact ⟨_, zc, zm, rfl, rfl, h⟩
    rw [if_neg c0, if_neg c0]
    by_cases c1 : x = 1
    · rw [if_pos c1, if_pos c1]; exact ⟨_, zc, zm, rfl, rfl, h⟩
    rw [if_neg c1, if_neg c1]
    by_cases c2 : x = 2
    · rw [if_pos c2, if_pos c2]; exact ⟨_, zc, zm, rfl, rfl, h⟩
    rw [if_neg c2, if_neg c2]
    by_cases c3 : x = 3
    · rw [if_pos c3, if_pos c3]; exact ⟨_, zc, zm, rfl, rfl, h⟩
    rw [if_neg c3, if_neg c3]
    by_cases c4 : x = 4
    · rw [if_pos c4, if_pos c4]; exact ⟨_, zc, zm, rfl, rfl, h⟩
    rw [if_neg c4, if_neg c4]
    exact ⟨_, zc, zm, rfl, rfl, h⟩
  · have ex : x = nI (r + 5) := by rw [e5, e]; exact nI_add r 5
    have hin : fX2_in zm x 5 10 = some (1, zm) := by
      unfold fX2_in
      rw [ex, if_neg (show ¬ nI (r + 5) < (5 : Int32) from nI_nlt (b := 5) (by omega) (by omega)), if_neg (show ¬ (10 : Int32) < nI (r + 5) from nI_nlt (a := 10) (by omega) (by omega))]
    have cr := nI_clamp (n := r) (by omega)
    have ir := nI_in (c := r) (N := 6) hr (by omega)
    rw [cr] at ir
    obtain ⟨j, hj, ej, em⟩ := len_of h hr
    have ne : ∀ q : Nat, q < 5 → ¬ x = nI q := fun q hq z => by
      rw [ex] at z
      have := (nI_eq (by omega) (by omega)).mp z
      omega
    unfold fX1_count fX2_count
    rw [if_neg (show ¬ x = (0 : Int32) from ne 0 (by omega)), if_neg (show ¬ x = (1 : Int32) from ne 1 (by omega)), if_neg (show ¬ x = (2 : Int32) from ne 2 (by omega)), if_neg (show ¬ x = (3 : Int32) from ne 3 (by omega)), if_neg (show ¬ x = (4 : Int32) from ne 4 (by omega)), hin, (g zc zm).1]
    simp only [bd_some, let_]
    rw [if_neg ne10, if_neg ne10]
    simp only [e, cr, if_neg ir, ej, em]
    exact ⟨nI j, zc, zm, rfl, rfl, h⟩
theorem s_counted {n : Nat} {zc : SC} {oc : Option (Int32 × SC)} {om : Option (Int32 × SM)} (H : Rn n 100 zc oc om) : Sm n (bd_ oc (fun r14 z14 => bd_ (fX1_counted z14 r14) (fun r15 z15 => some (r15, z15)))) (bd_ om (fun r18 z18 => (fX2_run_j110 z18 r18))) := by
  obtain ⟨t, zd, zn, a1, a2, R, F, s, hs, es⟩ := H
  have ep : psC zd = nI s := es
  have em : zn.2.2 = zd.2.2.2 := R.1.symm
  rw [a1, a2]
  simp only [bd_some]
  have key : ∀ m : Int32, m < 0 → (fin_ t (psC zd) = m ↔ t = m) := by
    intro m hm
    unfold fin_
    by_cases ht : t < 0
    · rw [if_pos ht]
    · rw [if_neg ht, ep]
      constructor
      · intro q; rw [← q] at hm; exact absurd hm (nI_pos (by omega))
      · intro q; rw [q] at ht; exact absurd hm ht
  have k11 := key (-11) (by decide)
  have k30 := key (-30) (by decide)
  have R1 : ∀ C : CC, Ci C → C.2.2.2.2.1 = nI n → Rl n (zd.1, zd.2.1, zd.2.2.1, C) (zn.1, zn.2.1, C) := fun C hC hm => R.com hC hm
  have hCi := R.2.2.2.2.1
  have hmd := R.2.2.2.2.2
  unfold fX1_counted fX1_counted_j16 fX2_run_j110 fX2_run_j129 fX2_run_j150
  simp only [let_, em]
  by_cases c11 : t = -11
  · have c30 : ¬ t = -30 := by rw [c11]; decide
    have d30 : ¬ fin_ t (psC zd) = -30 := fun q => c30 (k30.mp q)
    have hlt : t < 0 := by rw [c11]; decide
    simp only [if_pos c11, if_pos (k11.mpr c11), if_neg c30, if_neg d30, if_pos hlt, bd_some, Int32.add_zero]
    refine ⟨t, _, _, by rw [show fin_ t (psC zd) = t from if_pos hlt], rfl, ?_⟩
    exact R1 (zd.2.2.2.1, zd.2.2.2.2.1, zd.2.2.2.2.2.1, zd.2.2.2.2.2.2.1, zd.2.2.2.2.2.2.2.1, zd.2.2.2.2.2.2.2.2.1, zd.2.2.2.2.2.2.2.2.2.1 + 1, zd.2.2.2.2.2.2.2.2.2.2) hCi hmd
  · have d11 : ¬ fin_ t (psC zd) = -11 := fun q => c11 (k11.mp q)
    by_cases c30 : t = -30
    · have hlt : t < 0 := by rw [c30]; decide
      simp only [if_neg c11, if_neg d11, if_pos c30, if_pos (k30.mpr c30), if_pos hlt, bd_some, Int32.add_zero]
      refine ⟨t, _, _, by rw [show fin_ t (psC zd) = t from if_pos hlt], rfl, ?_⟩
      exact R1 (zd.2.2.2.1, zd.2.2.2.2.1, zd.2.2.2.2.2.1, zd.2.2.2.2.2.2.1, zd.2.2.2.2.2.2.2.1, zd.2.2.2.2.2.2.2.2.1, zd.2.2.2.2.2.2.2.2.2.1, zd.2.2.2.2.2.2.2.2.2.2.1 + 1, zd.2.2.2.2.2.2.2.2.2.2.2) hCi hmd
    · have d30 : ¬ fin_ t (psC zd) = -30 := fun q => c30 (k30.mp q)
      simp only [if_neg c11, if_neg d11, if_neg c30, if_neg d30, bd_some, Int32.add_zero]
      by_cases hlt : t < 0
      · rw [if_pos hlt]
        refine ⟨t, _, _, by rw [show fin_ t (psC zd) = t from if_pos hlt], rfl, R1 zd.2.2.2 hCi hmd⟩
      · rw [if_neg hlt]
        refine ⟨psC zd, _, _, by rw [show fin_ t (psC zd) = psC zd from if_neg hlt], rfl, R1 zd.2.2.2 hCi hmd⟩
theorem t_run {n : Nat} {zc : SC} {zm : SM} (h : Rl n zc zm) (x y v : Int32) : Sm n (fX1_run zc x y v) (fX2_run zm x y v) := by
  unfold fX1_run fX2_run
  rcases ro_cases x with g | ⟨r, hr, e, g⟩
  · rw [(g zc zm).1, (g zc zm).2, bd_some, bd_some, if_pos rfl, if_pos rfl]
    exact ⟨-1, zc, zm, rfl, rfl, h⟩
  · rw [(g zc zm).1, (g zc zm).2, bd_some, bd_some, if_neg ne10, if_neg ne10]
    rcases in_cases y 4 (by omega) with ⟨hy, gy⟩ | ⟨j, hj, ej, gy⟩
    · rw [show fX2_in zm y 0 4 = some (0, zm) from gy zm, bd_some]
      rcases hy with q | ⟨q, q2⟩
      · rw [if_pos q, if_pos rfl]
        exact ⟨-1, zc, zm, rfl, rfl, h⟩
      · rw [if_neg q, if_pos (show (4 : Int32) < y from q2), if_pos rfl]
        exact ⟨-1, zc, zm, rfl, rfl, h⟩
    · rw [show fX2_in zm y 0 4 = some (1, zm) from gy zm, bd_some, if_neg ne10, if_neg (show ¬ y < 0 by rw [ej]; exact nI_pos (by omega)), if_neg (show ¬ (4 : Int32) < y by rw [ej]; exact nI_nlt (a := 4) (by omega) (by omega))]
      rcases ax_cases v with ga | ga
      · rw [(ga zc zm).1, (ga zc zm).2, bd_some, bd_some, if_pos rfl, if_pos rfl]
        exact ⟨-1, zc, zm, rfl, rfl, h⟩
      · rw [(ga zc zm).1, (ga zc zm).2, bd_some, bd_some, if_neg ne10, if_neg ne10]
        subst e
        simp only [let_]
        have R := h.com (C := (zc.2.2.2.1, zc.2.2.2.2.1, zc.2.2.2.2.2.1, 0, zc.2.2.2.2.2.2.2.1, zc.2.2.2.2.2.2.2.2.1 + 1, zc.2.2.2.2.2.2.2.2.2.1, zc.2.2.2.2.2.2.2.2.2.2.1, 0)) ⟨h.2.2.2.2.1.1, h.2.2.2.2.1.2.1, 0, by omega, rfl⟩ h.2.2.2.2.2
        have P : pb 0 (zc.1, zc.2.1, zc.2.2.1, zc.2.2.2.1, zc.2.2.2.2.1, zc.2.2.2.2.2.1, 0, zc.2.2.2.2.2.2.2.1, zc.2.2.2.2.2.2.2.2.1 + 1, zc.2.2.2.2.2.2.2.2.2.1, zc.2.2.2.2.2.2.2.2.2.2.1, 0) := ⟨0, by omega, rfl⟩
        rw [← h.1]
        by_cases c0 : y = 0
        · rw [if_pos c0, if_pos c0]; exact s_counted (s_goAlone1 hr v R P)
        rw [if_neg c0, if_neg c0]
        by_cases c1 : y = 1
        · rw [if_pos c1, if_pos c1]; exact s_counted (s_goTwo hr v R P)
        rw [if_neg c1, if_neg c1]
        by_cases c2 : y = 2
        · rw [if_pos c2, if_pos c2]; exact s_counted (s_goAll hr v R P)
        rw [if_neg c2, if_neg c2]
        by_cases c3 : y = 3
        · rw [if_pos c3, if_pos c3]; exact s_counted (s_goFirst hr v R P)
        rw [if_neg c3, if_neg c3]
        exact s_counted (s_goRound hr v R P)
theorem s_shuntEnd {n : Nat} {zc : SC} {zm : SM} (h : Rl n zc zm) {k x k2 x2 : Nat} (hk : zc.2.1[k]? = some x) (hk2 : zc.2.1[k2]? = some x2) (t : Int32) : ∃ zd zn, bd_ (bd_ (fX1_let zc x2) (fun _ z5 => some (t, z5))) (fun r13 z13 => bd_ (fX1_let z13 x) (fun _ z14 => some (r13, z14))) = some (t, zd) ∧ bd_ (fX2_let zm (nI k2)) (fun _ z3 => bd_ (fX2_let z3 (nI k)) (fun _ z4 => some (t, z4))) = some (t, zn) ∧ Rl n zd zn := by
  obtain ⟨zc1, zm1, b1, b2, R1, F1⟩ := s_let h hk2
  obtain ⟨zc2, zm2, d1, d2, R2, F2⟩ := s_let R1 (F1.at hk)
  rw [b1, b2, bd_some, bd_some, bd_some, d1, d2, bd_some, bd_some]
  exact ⟨zc2, zm2, rfl, rfl, R2⟩
theorem t_shunt {n : Nat} {zc : SC} {zm : SM} (h : Rl n zc zm) (x y v : Int32) : Sm n (fX1_shunt zc x y v) (fX2_shunt zm x y v) := by
  unfold fX1_shunt fX2_shunt
  rcases pl_cases x with g | ⟨p, hp, e, g⟩
  · rw [(g zc zm).1, (g zc zm).2, bd_some, bd_some, if_pos rfl, if_pos rfl]
    exact ⟨-1, zc, zm, rfl, rfl, h⟩
  · rw [(g zc zm).1, (g zc zm).2, bd_some, bd_some, if_neg ne10, if_neg ne10]
    rcases pl_cases y with g2 | ⟨q, hq, e2, g2⟩
    · rw [(g2 zc zm).1, (g2 zc zm).2, bd_some, bd_some, if_pos rfl, if_pos rfl]
      exact ⟨-1, zc, zm, rfl, rfl, h⟩
    · rw [(g2 zc zm).1, (g2 zc zm).2, bd_some, bd_some, if_neg ne10, if_neg ne10]
      rcases ax_cases v with ga | ga
      · rw [(ga zc zm).1, (ga zc zm).2, bd_some, bd_some, if_pos rfl, if_pos rfl]
        exact ⟨-1, zc, zm, rfl, rfl, h⟩
      · rw [(ga zc zm).1, (ga zc zm).2, bd_some, bd_some, if_neg ne10, if_neg ne10]
        subst e; subst e2
        have cp := nI_clamp (n := p) (by omega)
        have cq := nI_clamp (n := q) (by omega)
        have ip := nI_in (c := p) (N := 12) hp (by omega)
        have iq := nI_in (c := q) (N := 12) hq (by omega)
        rw [cp] at ip
        rw [cq] at iq
        simp only [let_, cp, cq, if_neg ip, if_neg iq]
        have R := h.com (C := (zc.2.2.2.1, zc.2.2.2.2.1, zc.2.2.2.2.2.1, 0, zc.2.2.2.2.2.2.2)) ⟨h.2.2.2.2.1.1, h.2.2.2.2.1.2.1, 0, by omega, rfl⟩ h.2.2.2.2.2
        rw [← h.1]
        rcases h.at hp with ⟨a, b⟩ | ⟨k, w, hk, a, b⟩
        · rw [a, b, if_neg (by decide)]
          exact ⟨-11, _, _, rfl, rfl, R⟩
        · rw [a, b, if_pos (nI_pos' (by have := h.lt hk; omega))]
          obtain ⟨zc1, zm1, b1, b2, R1, F1⟩ := s_claim R hk
          have hk1 := F1.at hk
          have st1 : zc1.2.2.1 q = zc.2.2.1 q := by rw [F1.2.1]
          simp only [opt_, b1, b2, bd_some, st1]
          rcases h.at hq with ⟨a', b'⟩ | ⟨k', w', hk', a', b'⟩
          · rw [a', b', if_pos (by decide)]
            obtain ⟨zc2, zm2, d1, d2, R2, F2⟩ := s_let R1 hk1
            simp only [fX1_shuntOntoN, bd_some, d1, d2]
            exact ⟨-11, zc2, zm2, rfl, rfl, R2⟩
          · have hk1' := F1.at (zc := (zc.1, zc.2.1, zc.2.2.1, zc.2.2.2.1, zc.2.2.2.2.1, zc.2.2.2.2.2.1, 0, zc.2.2.2.2.2.2.2)) hk'
            obtain ⟨zc2, zm2, d1, d2, R2, F2⟩ := s_claim R1 hk1'
            have k2 := F2.at hk1
            have k2' := F2.at hk1'
            obtain ⟨-, -, q1⟩ := R2.2.2.1 k w k2
            obtain ⟨-, -, q2⟩ := R2.2.2.1 k' w' k2'
            have hw := Rl.mem k2
            have hw' := Rl.mem k2'
            have hc := nI_in (h.lt hk) (by omega)
            have ek := nI_clamp (n := k) (by have := h.lt hk; omega)
            rw [ek] at hc
            have hc' := nI_in (h.lt hk') (by omega)
            have ek' := nI_clamp (n := k') (by have := h.lt hk'; omega)
            rw [ek'] at hc'
            have q14 := q1 4 (by omega) (by omega)
            have q24 := q2 4 (by omega) (by omega)
            have q22 := q2 2 (by omega) (by omega)
            rw [a', b', if_neg (nI_pos (by have := h.lt hk'; omega))]
            have no : Sm n (bd_ (bd_ (fX1_let zc2 w') (fun _ z5 => some (0, z5))) (fun r13 z13 => bd_ (fX1_let z13 w) (fun _ z14 => some (r13, z14)))) (fX2_shunt_j122 zm2 v (nI k) (nI k')) := by
              unfold fX2_shunt_j122 fX2_shunt_j123 fX2_shunt_j144 fX2_shunt_j165
              simp only [let_, ek, if_neg hc, ek', if_neg hc', Int32.sub_zero, Int32.add_zero, setA_id]
              rw [if_neg (by decide), if_neg (by decide)]
              obtain ⟨zd, zn, e1, e2, R3⟩ := s_shuntEnd R2 k2 k2' 0
              rw [e1, e2]
              exact ⟨0, zd, zn, rfl, rfl, R3⟩
            have yes : Sm n (bd_ (fX1_shuntOnto_j36 zc2 w w' v) (fun r13 z13 => bd_ (fX1_let z13 w) (fun _ z14 => some (r13, z14)))) (fX2_shunt_j118 zm2 v (nI k) (nI k')) := by
              unfold fX1_shuntOnto_j36 fX2_shunt_j118 fX2_shunt_j123 fX2_shunt_j144 fX2_shunt_j165
              have Ra := R2.set k2 4 (by omega) (zm2.1 4 k - v)
              obtain ⟨-, -, q3⟩ := Ra.2.2.1 k' w' k2'
              have q34 := q3 4 (by omega) (by omega)
              have Rb := Ra.set k2' 4 (by omega) (setA zm2.1 4 (upd (zm2.1 4) k (zm2.1 4 k - v)) 4 k' + v)
              simp only [let_, ek, if_neg hc, ek', if_neg hc', if_pos hw, if_pos hw', q14, if_true]
              have q34' : setS zc2.1 w 4 (zm2.1 4 k - v) w' 4 = setA zm2.1 4 (upd (zm2.1 4) k (zm2.1 4 k - v)) 4 k' := q34
              rw [q34']
              obtain ⟨zd, zn, e1, e2, R3⟩ := s_shuntEnd Rb k2 k2' 1
              rw [e1, e2]
              exact ⟨1, zd, zn, rfl, rfl, R3⟩
            unfold fX1_shuntOnto
            simp only [d1, d2, bd_some, if_pos hw, if_pos hw', c_room hw', ek, if_neg hc, ek', if_neg hc', q14, q24, q22]
            by_cases hlt : zm2.1 4 k < v
            · rw [if_pos hlt, if_pos hlt]; exact no
            · rw [if_neg hlt, if_neg hlt]
              by_cases hww : w = w'
              · have hkk := h.2.1.2.2 k k' w hk (by rw [hww]; exact hk')
                rw [if_pos (by rw [hww]), if_pos (by rw [hkk])]
                exact yes
              · have hkk : ¬ nI k = nI k' := fun e => hww (by
                  have e2 := (nI_eq (by have := h.lt hk; omega) (by have := h.lt hk'; omega)).mp e
                  subst e2
                  exact Option.some.inj (hk.symm.trans hk'))
                rw [if_neg (fun e => hww (Option.some.inj e)), if_neg hkk]
                by_cases hl : 0 < lg_cmp ((zm2.1 4 k').toInt64 + v.toInt64) (zm2.1 2 k').toInt64
                · simp only [if_pos hl, if_true]
                  exact no
                · simp only [if_neg hl]
                  rw [if_neg (by decide)]
                  exact yes
end
