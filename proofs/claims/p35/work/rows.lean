section
-- ===== PART A: goes FIRST, ahead of the names: the tables' words, and 'selects' of the private methods out of them =====
/-- a private method of a class that the tables say can be made, by its rows of tables_1 -/
def lw_okq (q : MethodName × Nat) : Prop := (q.1.cls ≠ "java/lang/invoke/MethodHandle" ∧ q.1.cls ≠ "java/lang/invoke/VarHandle") ∧ Cond.instantiable q.1.cls q.2 ∈ tables_1 ∧ Cond.privateMethod q.1 ∈ tables_1 ∧ Cond.instanceMethod q.1 ∈ tables_1
theorem lw_p0 : lw_okq (⟨"GuardOfSums", "refuse", "(I)I"⟩, 9) := ⟨⟨by decide +kernel, by decide +kernel⟩, List.mem_of_getElem? (i := 11) (by decide +kernel), List.mem_of_getElem? (i := 173) (by decide +kernel), List.mem_of_getElem? (i := 174) (by decide +kernel)⟩
theorem lw_p1 : lw_okq (⟨"GuardOfSums", "narrowed", "(II)I"⟩, 9) := ⟨⟨by decide +kernel, by decide +kernel⟩, List.mem_of_getElem? (i := 11) (by decide +kernel), List.mem_of_getElem? (i := 214) (by decide +kernel), List.mem_of_getElem? (i := 215) (by decide +kernel)⟩
theorem lw_p2 : lw_okq (⟨"GuardOfSums$Narrowing", "narrowByRow", "(LGuardOfSums$World;I)Z"⟩, 3) := ⟨⟨by decide +kernel, by decide +kernel⟩, List.mem_of_getElem? (i := 109) (by decide +kernel), List.mem_of_getElem? (i := 227) (by decide +kernel), List.mem_of_getElem? (i := 228) (by decide +kernel)⟩
theorem lw_p3 : lw_okq (⟨"GuardOfSums$Narrowing", "lowEnd", "(II)I"⟩, 3) := ⟨⟨by decide +kernel, by decide +kernel⟩, List.mem_of_getElem? (i := 109) (by decide +kernel), List.mem_of_getElem? (i := 232) (by decide +kernel), List.mem_of_getElem? (i := 233) (by decide +kernel)⟩
theorem lw_p4 : lw_okq (⟨"GuardOfSums$Narrowing", "highEnd", "(II)I"⟩, 3) := ⟨⟨by decide +kernel, by decide +kernel⟩, List.mem_of_getElem? (i := 109) (by decide +kernel), List.mem_of_getElem? (i := 245) (by decide +kernel), List.mem_of_getElem? (i := 246) (by decide +kernel)⟩
theorem lw_p5 : lw_okq (⟨"GuardOfSums$Narrowing", "narrowOne", "(IIII)Z"⟩, 3) := ⟨⟨by decide +kernel, by decide +kernel⟩, List.mem_of_getElem? (i := 109) (by decide +kernel), List.mem_of_getElem? (i := 253) (by decide +kernel), List.mem_of_getElem? (i := 254) (by decide +kernel)⟩
theorem lw_p6 : lw_okq (⟨"GuardOfSums$World", "findRest", "(LGuardOfSums$Question;)V"⟩, 14) := ⟨⟨by decide +kernel, by decide +kernel⟩, List.mem_of_getElem? (i := 19) (by decide +kernel), List.mem_of_getElem? (i := 294) (by decide +kernel), List.mem_of_getElem? (i := 295) (by decide +kernel)⟩
theorem lw_p7 : lw_okq (⟨"GuardOfSums", "leastJoining", "()I"⟩, 9) := ⟨⟨by decide +kernel, by decide +kernel⟩, List.mem_of_getElem? (i := 11) (by decide +kernel), List.mem_of_getElem? (i := 352) (by decide +kernel), List.mem_of_getElem? (i := 353) (by decide +kernel)⟩
theorem lw_p8 : lw_okq (⟨"GuardOfSums", "meetingOfSum", "(LGuardOfSums$World;I)I"⟩, 9) := ⟨⟨by decide +kernel, by decide +kernel⟩, List.mem_of_getElem? (i := 11) (by decide +kernel), List.mem_of_getElem? (i := 356) (by decide +kernel), List.mem_of_getElem? (i := 357) (by decide +kernel)⟩
theorem lw_p9 : lw_okq (⟨"GuardOfSums", "howMany", "(I)I"⟩, 9) := ⟨⟨by decide +kernel, by decide +kernel⟩, List.mem_of_getElem? (i := 11) (by decide +kernel), List.mem_of_getElem? (i := 360) (by decide +kernel), List.mem_of_getElem? (i := 361) (by decide +kernel)⟩
theorem lw_p10 : lw_okq (⟨"GuardOfSums$Space", "pivotOf", "(I)I"⟩, 3) := ⟨⟨by decide +kernel, by decide +kernel⟩, List.mem_of_getElem? (i := 27) (by decide +kernel), List.mem_of_getElem? (i := 378) (by decide +kernel), List.mem_of_getElem? (i := 379) (by decide +kernel)⟩
theorem lw_p11 : lw_okq (⟨"GuardOfSums$World", "set", "(II)V"⟩, 14) := ⟨⟨by decide +kernel, by decide +kernel⟩, List.mem_of_getElem? (i := 19) (by decide +kernel), List.mem_of_getElem? (i := 455) (by decide +kernel), List.mem_of_getElem? (i := 456) (by decide +kernel)⟩
def lw_privs_1 : List (MethodName × Nat) := [(⟨"GuardOfSums", "refuse", "(I)I"⟩, 9), (⟨"GuardOfSums", "narrowed", "(II)I"⟩, 9), (⟨"GuardOfSums$Narrowing", "narrowByRow", "(LGuardOfSums$World;I)Z"⟩, 3), (⟨"GuardOfSums$Narrowing", "lowEnd", "(II)I"⟩, 3), (⟨"GuardOfSums$Narrowing", "highEnd", "(II)I"⟩, 3), (⟨"GuardOfSums$Narrowing", "narrowOne", "(IIII)Z"⟩, 3), (⟨"GuardOfSums$World", "findRest", "(LGuardOfSums$Question;)V"⟩, 14), (⟨"GuardOfSums", "leastJoining", "()I"⟩, 9), (⟨"GuardOfSums", "meetingOfSum", "(LGuardOfSums$World;I)I"⟩, 9), (⟨"GuardOfSums", "howMany", "(I)I"⟩, 9), (⟨"GuardOfSums$Space", "pivotOf", "(I)I"⟩, 3), (⟨"GuardOfSums$World", "set", "(II)V"⟩, 14)]
theorem lw_r1 : ∀ q ∈ lw_privs_1, lw_okq q := List.forall_mem_cons.mpr ⟨lw_p0, List.forall_mem_cons.mpr ⟨lw_p1, List.forall_mem_cons.mpr ⟨lw_p2, List.forall_mem_cons.mpr ⟨lw_p3, List.forall_mem_cons.mpr ⟨lw_p4, List.forall_mem_cons.mpr ⟨lw_p5, List.forall_mem_cons.mpr ⟨lw_p6, List.forall_mem_cons.mpr ⟨lw_p7, List.forall_mem_cons.mpr ⟨lw_p8, List.forall_mem_cons.mpr ⟨lw_p9, List.forall_mem_cons.mpr ⟨lw_p10, List.forall_mem_cons.mpr ⟨lw_p11, fun _ h => absurd h List.not_mem_nil⟩⟩⟩⟩⟩⟩⟩⟩⟩⟩⟩⟩
def lw_privs : List (MethodName × Nat) := lw_privs_1
def lw_tbl : List Cond := k2_sels lw_privs ++ tables_1
theorem lw_privs_ok : ∀ q ∈ lw_privs, lw_okq q := lw_r1
end
section
def RX0 : String := "GuardOfSums$Narrowing"
def TX0 : u_T := fun k => match k with
  | 0 => ("GuardOfSums$Narrowing", "least", "[I", true)
  | 1 => ("GuardOfSums$Narrowing", "most", "[I", true)
  | _ => ("GuardOfSums$Narrowing", "variables", "I", false)
abbrev cX0_init : ByteArray := prog_2_method_1_code
def yX0_init : MethodName := ⟨RX0, "<init>", "()V"⟩
abbrev cX0_narrow : ByteArray := prog_2_method_2_code
def yX0_narrow : MethodName := ⟨RX0, "narrow", "(LGuardOfSums$World;)V"⟩
abbrev cX0_narrowByRow : ByteArray := prog_2_method_3_code
def yX0_narrowByRow : MethodName := ⟨RX0, "narrowByRow", "(LGuardOfSums$World;I)Z"⟩
abbrev cX0_narrowOne : ByteArray := prog_2_method_4_code
def yX0_narrowOne : MethodName := ⟨RX0, "narrowOne", "(IIII)Z"⟩
abbrev cX0_lowEnd : ByteArray := prog_2_method_5_code
def yX0_lowEnd : MethodName := ⟨RX0, "lowEnd", "(II)I"⟩
abbrev cX0_highEnd : ByteArray := prog_2_method_6_code
def yX0_highEnd : MethodName := ⟨RX0, "highEnd", "(II)I"⟩
abbrev cX0_leastOf : ByteArray := prog_2_method_7_code
def yX0_leastOf : MethodName := ⟨RX0, "leastOf", "(I)I"⟩
abbrev cX0_mostOf : ByteArray := prog_2_method_8_code
def yX0_mostOf : MethodName := ⟨RX0, "mostOf", "(I)I"⟩
abbrev cX0_widthOf : ByteArray := prog_2_method_9_code
def yX0_widthOf : MethodName := ⟨RX0, "widthOf", "(I)I"⟩
def RX1 : String := "GuardOfSums$Numbers"
def TX1 : u_T := fun k => match k with
  | 0 => ("GuardOfSums$Numbers", "size", "I", false)
  | _ => ("GuardOfSums$Numbers", "numbers", "[I", true)
abbrev cX1_init : ByteArray := prog_3_method_1_code
def yX1_init : MethodName := ⟨RX1, "<init>", "(I)V"⟩
def RX2 : String := "GuardOfSums$Question"
def TX2 : u_T := fun k => match k with
  | _ => ("GuardOfSums$Question", "weights", "[I", true)
abbrev cX2_init : ByteArray := prog_4_method_1_code
def yX2_init : MethodName := ⟨RX2, "<init>", "()V"⟩
abbrev cX2_misfitOf : ByteArray := prog_4_method_2_code
def yX2_misfitOf : MethodName := ⟨RX2, "misfitOf", "(III)I"⟩
abbrev cX2_make : ByteArray := prog_4_method_3_code
def yX2_make : MethodName := ⟨RX2, "make", "(III)V"⟩
abbrev cX2_size : ByteArray := prog_4_method_4_code
def yX2_size : MethodName := ⟨RX2, "size", "()I"⟩
def RX3 : String := "GuardOfSums$Script"
def TX3 : u_T := fun k => match k with
  | _ => ("", "", "", false)
def RX4 : String := "GuardOfSums$Space"
def TX4 : u_T := fun k => match k with
  | 0 => ("GuardOfSums$Space", "left", "[[J", true)
  | 1 => ("GuardOfSums$Space", "scale", "J", false)
  | _ => ("GuardOfSums$Space", "pivotBits", "I", false)
abbrev cX4_init : ByteArray := prog_6_method_1_code
def yX4_init : MethodName := ⟨RX4, "<init>", "()V"⟩
abbrev cX4_copyFrom : ByteArray := prog_6_method_2_code
def yX4_copyFrom : MethodName := ⟨RX4, "copyFrom", "(LGuardOfSums$Space;)V"⟩
abbrev cX4_leave : ByteArray := prog_6_method_3_code
def yX4_leave : MethodName := ⟨RX4, "leave", "([I[J)V"⟩
abbrev cX4_join : ByteArray := prog_6_method_4_code
def yX4_join : MethodName := ⟨RX4, "join", "([J)V"⟩
abbrev cX4_fixedBitsWith : ByteArray := prog_6_method_5_code
def yX4_fixedBitsWith : MethodName := ⟨RX4, "fixedBitsWith", "([J)I"⟩
abbrev cX4_hasPair : ByteArray := prog_6_method_6_code
def yX4_hasPair : MethodName := ⟨RX4, "hasPair", "()Z"⟩
abbrev cX4_reducedPart : ByteArray := prog_6_method_7_code
def yX4_reducedPart : MethodName := ⟨RX4, "reducedPart", "(III)J"⟩
abbrev cX4_pivotOf : ByteArray := prog_6_method_8_code
def yX4_pivotOf : MethodName := ⟨RX4, "pivotOf", "(I)I"⟩
abbrev cX4_firstIn : ByteArray := prog_6_method_9_code
def yX4_firstIn : MethodName := ⟨RX4, "firstIn", "([J)I"⟩
abbrev cX4_isOneLine : ByteArray := prog_6_method_10_code
def yX4_isOneLine : MethodName := ⟨RX4, "isOneLine", "([J[JI)Z"⟩
def RX5 : String := "GuardOfSums$World"
def TX5 : u_T := fun k => match k with
  | 0 => ("GuardOfSums$World", "owned", "[I", true)
  | 1 => ("GuardOfSums$World", "values", "[I", true)
  | 2 => ("GuardOfSums$World", "lows", "[I", true)
  | 3 => ("GuardOfSums$World", "highs", "[I", true)
  | 4 => ("GuardOfSums$World", "variables", "I", false)
  | 5 => ("GuardOfSums$World", "rule", "I", false)
  | 6 => ("GuardOfSums$World", "limit", "I", false)
  | 7 => ("GuardOfSums$World", "rows", "[[I", true)
  | 8 => ("GuardOfSums$World", "answers", "[I", true)
  | 9 => ("GuardOfSums$World", "rank", "I", false)
  | 10 => ("GuardOfSums$World", "space", "LGuardOfSums$Space;", true)
  | 11 => ("GuardOfSums$World", "trial", "LGuardOfSums$Space;", true)
  | 12 => ("GuardOfSums$World", "asked", "[I", true)
  | _ => ("GuardOfSums$World", "rest", "[J", true)
abbrev cX5_init : ByteArray := prog_7_method_1_code
def yX5_init : MethodName := ⟨RX5, "<init>", "()V"⟩
abbrev cX5_copyFrom : ByteArray := prog_7_method_2_code
def yX5_copyFrom : MethodName := ⟨RX5, "copyFrom", "(LGuardOfSums$World;)V"⟩
abbrev cX5_has : ByteArray := prog_7_method_3_code
def yX5_has : MethodName := ⟨RX5, "has", "(I)Z"⟩
abbrev cX5_variableOf : ByteArray := prog_7_method_4_code
def yX5_variableOf : MethodName := ⟨RX5, "variableOf", "(I)I"⟩
abbrev cX5_valueOf : ByteArray := prog_7_method_5_code
def yX5_valueOf : MethodName := ⟨RX5, "valueOf", "(I)I"⟩
abbrev cX5_lowOf : ByteArray := prog_7_method_6_code
def yX5_lowOf : MethodName := ⟨RX5, "lowOf", "(I)I"⟩
abbrev cX5_highOf : ByteArray := prog_7_method_7_code
def yX5_highOf : MethodName := ⟨RX5, "highOf", "(I)I"⟩
abbrev cX5_coefficient : ByteArray := prog_7_method_8_code
def yX5_coefficient : MethodName := ⟨RX5, "coefficient", "(II)I"⟩
abbrev cX5_answerOf : ByteArray := prog_7_method_9_code
def yX5_answerOf : MethodName := ⟨RX5, "answerOf", "(I)I"⟩
abbrev cX5_isFree : ByteArray := prog_7_method_10_code
def yX5_isFree : MethodName := ⟨RX5, "isFree", "(I)Z"⟩
abbrev cX5_usedBits : ByteArray := prog_7_method_11_code
def yX5_usedBits : MethodName := ⟨RX5, "usedBits", "()I"⟩
abbrev cX5_valuesOfPeople : ByteArray := prog_7_method_12_code
def yX5_valuesOfPeople : MethodName := ⟨RX5, "valuesOfPeople", "()I"⟩
abbrev cX5_takeTold : ByteArray := prog_7_method_14_code
def yX5_takeTold : MethodName := ⟨RX5, "takeTold", "(II)Z"⟩
abbrev cX5_takeChange : ByteArray := prog_7_method_15_code
def yX5_takeChange : MethodName := ⟨RX5, "takeChange", "(II)Z"⟩
abbrev cX5_set : ByteArray := prog_7_method_16_code
def yX5_set : MethodName := ⟨RX5, "set", "(II)V"⟩
abbrev cX5_takeBounds : ByteArray := prog_7_method_17_code
def yX5_takeBounds : MethodName := ⟨RX5, "takeBounds", "(III)Z"⟩
abbrev cX5_takeRule : ByteArray := prog_7_method_18_code
def yX5_takeRule : MethodName := ⟨RX5, "takeRule", "(I)Z"⟩
abbrev cX5_takeLimit : ByteArray := prog_7_method_19_code
def yX5_takeLimit : MethodName := ⟨RX5, "takeLimit", "(I)Z"⟩
abbrev cX5_takeQuestion : ByteArray := prog_7_method_20_code
def yX5_takeQuestion : MethodName := ⟨RX5, "takeQuestion", "(LGuardOfSums$Question;)I"⟩
abbrev cX5_meetingBy : ByteArray := prog_7_method_21_code
def yX5_meetingBy : MethodName := ⟨RX5, "meetingBy", "(LGuardOfSums$Question;II)I"⟩
abbrev cX5_fixedBitsWith : ByteArray := prog_7_method_22_code
def yX5_fixedBitsWith : MethodName := ⟨RX5, "fixedBitsWith", "(LGuardOfSums$Question;)I"⟩
abbrev cX5_join : ByteArray := prog_7_method_23_code
def yX5_join : MethodName := ⟨RX5, "join", "(LGuardOfSums$Question;)V"⟩
abbrev cX5_trueAnswer : ByteArray := prog_7_method_24_code
def yX5_trueAnswer : MethodName := ⟨RX5, "trueAnswer", "(LGuardOfSums$Question;)I"⟩
abbrev cX5_findRest : ByteArray := prog_7_method_25_code
def yX5_findRest : MethodName := ⟨RX5, "findRest", "(LGuardOfSums$Question;)V"⟩
def RX6 : String := "GuardOfSums"
def TX6 : u_T := fun k => match k with
  | 0 => ("GuardOfSums", "world", "LGuardOfSums$World;", true)
  | 1 => ("GuardOfSums", "draft", "LGuardOfSums$World;", true)
  | 2 => ("GuardOfSums", "kept", "LGuardOfSums$World;", true)
  | 3 => ("GuardOfSums", "isKept", "Z", false)
  | 4 => ("GuardOfSums", "question", "LGuardOfSums$Question;", true)
  | 5 => ("GuardOfSums", "narrowing", "LGuardOfSums$Narrowing;", true)
  | 6 => ("GuardOfSums", "letters", "LGuardOfSums$Numbers;", true)
  | 7 => ("GuardOfSums", "told", "LGuardOfSums$Numbers;", true)
  | _ => ("GuardOfSums", "refusals", "[I", true)
abbrev cX6_init : ByteArray := prog_1_method_1_code
def yX6_init : MethodName := ⟨RX6, "<init>", "()V"⟩
abbrev cX6_person : ByteArray := prog_1_method_4_code
def yX6_person : MethodName := ⟨RX6, "person", "(II)I"⟩
abbrev cX6_variable : ByteArray := prog_1_method_5_code
def yX6_variable : MethodName := ⟨RX6, "variable", "(II)I"⟩
abbrev cX6_narrowed : ByteArray := prog_1_method_6_code
def yX6_narrowed : MethodName := ⟨RX6, "narrowed", "(II)I"⟩
abbrev cX6_tells : ByteArray := prog_1_method_7_code
def yX6_tells : MethodName := ⟨RX6, "tells", "(II)I"⟩
abbrev cX6_changes : ByteArray := prog_1_method_8_code
def yX6_changes : MethodName := ⟨RX6, "changes", "(II)I"⟩
abbrev cX6_misfitOfValue : ByteArray := prog_1_method_9_code
def yX6_misfitOfValue : MethodName := ⟨RX6, "misfitOfValue", "(II)I"⟩
abbrev cX6_bounds : ByteArray := prog_1_method_10_code
def yX6_bounds : MethodName := ⟨RX6, "bounds", "(III)I"⟩
abbrev cX6_rule : ByteArray := prog_1_method_11_code
def yX6_rule : MethodName := ⟨RX6, "rule", "(I)I"⟩
abbrev cX6_limit : ByteArray := prog_1_method_12_code
def yX6_limit : MethodName := ⟨RX6, "limit", "(I)I"⟩
abbrev cX6_ask : ByteArray := prog_1_method_13_code
def yX6_ask : MethodName := ⟨RX6, "ask", "(III)I"⟩
abbrev cX6_would : ByteArray := prog_1_method_14_code
def yX6_would : MethodName := ⟨RX6, "would", "(III)I"⟩
abbrev cX6_sums : ByteArray := prog_1_method_15_code
def yX6_sums : MethodName := ⟨RX6, "sums", "(I)I"⟩
abbrev cX6_leastJoining : ByteArray := prog_1_method_16_code
def yX6_leastJoining : MethodName := ⟨RX6, "leastJoining", "()I"⟩
abbrev cX6_howMany : ByteArray := prog_1_method_17_code
def yX6_howMany : MethodName := ⟨RX6, "howMany", "(I)I"⟩
abbrev cX6_meetingOfSum : ByteArray := prog_1_method_18_code
def yX6_meetingOfSum : MethodName := ⟨RX6, "meetingOfSum", "(LGuardOfSums$World;I)I"⟩
abbrev cX6_answer : ByteArray := prog_1_method_21_code
def yX6_answer : MethodName := ⟨RX6, "answer", "(I)J"⟩
abbrev cX6_reduced : ByteArray := prog_1_method_22_code
def yX6_reduced : MethodName := ⟨RX6, "reduced", "(III)J"⟩
abbrev cX6_pivots : ByteArray := prog_1_method_23_code
def yX6_pivots : MethodName := ⟨RX6, "pivots", "()I"⟩
abbrev cX6_attack : ByteArray := prog_1_method_24_code
def yX6_attack : MethodName := ⟨RX6, "attack", "(II)I"⟩
abbrev cX6_image : ByteArray := prog_1_method_42_code
def yX6_image : MethodName := ⟨RX6, "image", "()I"⟩
abbrev cX6_on : ByteArray := prog_1_method_43_code
def yX6_on : MethodName := ⟨RX6, "on", "()I"⟩
abbrev cX6_count : ByteArray := prog_1_method_44_code
def yX6_count : MethodName := ⟨RX6, "count", "(I)I"⟩
abbrev cX6_refuse : ByteArray := prog_1_method_45_code
def yX6_refuse : MethodName := ⟨RX6, "refuse", "(I)I"⟩
abbrev cX6_misfit : ByteArray := prog_1_method_48_code
def yX6_misfit : MethodName := ⟨RX6, "misfit", "(III)I"⟩
abbrev cX6_isWithin : ByteArray := prog_1_method_49_code
def yX6_isWithin : MethodName := ⟨RX6, "isWithin", "(II)Z"⟩
abbrev cX6_asNumber : ByteArray := prog_1_method_50_code
def yX6_asNumber : MethodName := ⟨RX6, "asNumber", "(Z)I"⟩
abbrev cX6_partInLeastTerms : ByteArray := prog_1_method_51_code
def yX6_partInLeastTerms : MethodName := ⟨RX6, "partInLeastTerms", "(JJI)J"⟩
abbrev cX6_greatestDivisor : ByteArray := prog_1_method_52_code
def yX6_greatestDivisor : MethodName := ⟨RX6, "greatestDivisor", "(JJ)J"⟩
def RX7 : String := "GuardOfSumsModel"
def TX7 : u_T := fun k => match k with
  | _ => ("", "", "", false)
def RJ6 : String := "java/lang/Integer"
abbrev cJ6_bitCount_0f7a4 : ByteArray := prog_10_method_49_code
def yJ6_bitCount_0f7a4 : MethodName := ⟨RJ6, "bitCount", "(I)I"⟩
def RJ9 : String := "java/lang/Math"
abbrev cJ9_floorDiv_7cf53 : ByteArray := prog_11_method_47_code
def yJ9_floorDiv_7cf53 : MethodName := ⟨RJ9, "floorDiv", "(II)I"⟩
abbrev cJ9_abs_067f4 : ByteArray := prog_11_method_61_code
def yJ9_abs_067f4 : MethodName := ⟨RJ9, "abs", "(J)J"⟩
abbrev cJ9_max_7cf53 : ByteArray := prog_11_method_65_code
def yJ9_max_7cf53 : MethodName := ⟨RJ9, "max", "(II)I"⟩
abbrev cJ9_min_7cf53 : ByteArray := prog_11_method_69_code
def yJ9_min_7cf53 : MethodName := ⟨RJ9, "min", "(II)I"⟩
def RJ10 : String := "java/lang/System"
def RL : String := "GuardOfSumsLaw"
abbrev cL_cell : ByteArray := method_2_code
def yL_cell : MethodName := ⟨RL, "cell", "([II)I"⟩
abbrev cL_pick : ByteArray := method_3_code
def yL_pick : MethodName := ⟨RL, "pick", "(II)I"⟩
abbrev cL_guard : ByteArray := method_5_code
def yL_guard : MethodName := ⟨RL, "guard", "(LGuardOfSums;[II)V"⟩
abbrev cL_bound : ByteArray := method_6_code
def yL_bound : MethodName := ⟨RL, "bound", "(LGuardOfSums;III)V"⟩
abbrev cL_law : ByteArray := code
def yL_law : MethodName := ⟨RL, "law", "([I)Z"⟩
abbrev classes : List vw_C := [(RX0, TX0, 3), (RX1, TX1, 2), (RX2, TX2, 1), (RX4, TX4, 3), (RX5, TX5, 14), (RX6, TX6, 9)]
def zz_all : List Cond := lw_tbl.filter goodWord
theorem zz_in {w : Cond} (i : Nat) (h : lw_tbl[i]? = some w) (g : goodWord w = true) : w ∈ zz_all := List.mem_filter.mpr ⟨List.mem_of_getElem? h, g⟩
abbrev zz_N : Type := String × Nat × MethodName × String
def zz_nest : List zz_N := [(RX6, 24, yX2_init, RX6), (RX6, 31, yX0_init, RX6), (RX5, 72, yX6_isWithin, RX6), (RX0, 61, yX6_isWithin, RX6), (RX4, 34, yX6_isWithin, RX6), (RX4, 46, yX6_asNumber, RX6), (RX4, 50, yX6_partInLeastTerms, RX6)]
theorem zz_lay {ws : List Cond} (ps : List Nat) (hp : ws = ps.filterMap (fun i => lw_tbl[i]?)) (h : ws.all goodWord = true) : ∀ w ∈ ws, w ∈ zz_all := by
  intro w hw
  have h1 := List.all_eq_true.mp h w hw
  rw [hp] at hw
  obtain ⟨i, -, hi⟩ := List.mem_filterMap.mp hw
  exact zz_in i hi h1
set_option maxRecDepth 100000 in
theorem cls_in : ∀ (ci : Nat) (q : vw_C), classes[ci]? = some q → ∀ w ∈ u_ws q.1 q.2.1 q.2.2, w ∈ zz_all := by
  intro ci q h
  match ci, h with
  | 0, h => cases h; exact zz_lay [129, 131, 133] rfl (by decide +kernel)
  | 1, h => cases h; exact zz_lay [144, 146] rfl (by decide +kernel)
  | 2, h => cases h; exact zz_lay [117] rfl (by decide +kernel)
  | 3, h => cases h; exact zz_lay [50, 52, 54] rfl (by decide +kernel)
  | 4, h => cases h; exact zz_lay [80, 82, 84, 86, 88, 90, 92, 94, 96, 98, 100, 102, 104, 106] rfl (by decide +kernel)
  | 5, h => cases h; exact zz_lay [158, 160, 162, 164, 166, 168, 170, 172, 174] rfl (by decide +kernel)
  | _ + 6, h => cases h
set_option maxRecDepth 100000 in
theorem cls_nm : ∀ (ci : Nat) (q : vw_C), classes[ci]? = some q → ∀ a, a < q.2.2 → ∀ b, b < q.2.2 → (a ≠ b → (q.2.1 a).2.1 ≠ (q.2.1 b).2.1) ∧ (parseFieldDescriptor (q.2.1 a).2.2.1).isSome = true := by
  intro ci q h
  match ci, h with
  | 0, h => cases h; decide +kernel
  | 1, h => cases h; decide +kernel
  | 2, h => cases h; decide +kernel
  | 3, h => cases h; decide +kernel
  | 4, h => cases h; decide +kernel
  | 5, h => cases h; decide +kernel
  | _ + 6, h => cases h
theorem wd_0 : Cond.selects RX6 yX6_refuse yX6_refuse ∈ zz_all := zz_in 0 (by decide +kernel) (by decide +kernel)
theorem wd_1 : Cond.selects RX6 yX6_narrowed yX6_narrowed ∈ zz_all := zz_in 1 (by decide +kernel) (by decide +kernel)
theorem wd_2 : Cond.selects RX0 yX0_narrowByRow yX0_narrowByRow ∈ zz_all := zz_in 2 (by decide +kernel) (by decide +kernel)
theorem wd_3 : Cond.selects RX0 yX0_lowEnd yX0_lowEnd ∈ zz_all := zz_in 3 (by decide +kernel) (by decide +kernel)
theorem wd_4 : Cond.selects RX0 yX0_highEnd yX0_highEnd ∈ zz_all := zz_in 4 (by decide +kernel) (by decide +kernel)
theorem wd_5 : Cond.selects RX0 yX0_narrowOne yX0_narrowOne ∈ zz_all := zz_in 5 (by decide +kernel) (by decide +kernel)
theorem wd_6 : Cond.selects RX5 yX5_findRest yX5_findRest ∈ zz_all := zz_in 6 (by decide +kernel) (by decide +kernel)
theorem wd_7 : Cond.selects RX6 yX6_leastJoining yX6_leastJoining ∈ zz_all := zz_in 7 (by decide +kernel) (by decide +kernel)
theorem wd_8 : Cond.selects RX6 yX6_meetingOfSum yX6_meetingOfSum ∈ zz_all := zz_in 8 (by decide +kernel) (by decide +kernel)
theorem wd_9 : Cond.selects RX6 yX6_howMany yX6_howMany ∈ zz_all := zz_in 9 (by decide +kernel) (by decide +kernel)
theorem wd_10 : Cond.selects RX4 yX4_pivotOf yX4_pivotOf ∈ zz_all := zz_in 10 (by decide +kernel) (by decide +kernel)
theorem wd_11 : Cond.selects RX5 yX5_set yX5_set ∈ zz_all := zz_in 11 (by decide +kernel) (by decide +kernel)
theorem wd_12 : Cond.initialized RL ∈ zz_all := zz_in 12 (by decide +kernel) (by decide +kernel)
theorem wd_13 : Cond.initialized RX6 ∈ zz_all := zz_in 13 (by decide +kernel) (by decide +kernel)
theorem wd_14 : Cond.initialized RX5 ∈ zz_all := zz_in 14 (by decide +kernel) (by decide +kernel)
theorem wd_15 : Cond.initialized RX4 ∈ zz_all := zz_in 15 (by decide +kernel) (by decide +kernel)
theorem wd_16 : Cond.initialized RX2 ∈ zz_all := zz_in 16 (by decide +kernel) (by decide +kernel)
theorem wd_17 : Cond.initialized RX0 ∈ zz_all := zz_in 17 (by decide +kernel) (by decide +kernel)
theorem wd_18 : Cond.initialized RX1 ∈ zz_all := zz_in 18 (by decide +kernel) (by decide +kernel)
theorem wd_19 : Cond.initialized RJ10 ∈ zz_all := zz_in 19 (by decide +kernel) (by decide +kernel)
theorem wd_20 : Cond.initialized RJ9 ∈ zz_all := zz_in 20 (by decide +kernel) (by decide +kernel)
theorem wd_21 : Cond.initialized RJ6 ∈ zz_all := zz_in 21 (by decide +kernel) (by decide +kernel)
theorem wd_22 : Cond.classLink RL 9 RX6 ∈ zz_all := zz_in 22 (by decide +kernel) (by decide +kernel)
theorem wd_23 : Cond.instantiable RX6 9 ∈ zz_all := zz_in 23 (by decide +kernel) (by decide +kernel)
theorem wd_24 : Cond.methodLink RL 62 yX6_init ∈ zz_all := zz_in 24 (by decide +kernel) (by decide +kernel)
theorem wd_25 : Cond.instanceMethod yX6_init ∈ zz_all := zz_in 25 (by decide +kernel) (by decide +kernel)
theorem wd_26 : Cond.code yX6_init cX6_init 1 none ∈ zz_all := zz_in 26 (by decide +kernel) (by decide +kernel)
theorem wd_27 : Cond.methodLink RX6 1 objectInit ∈ zz_all := zz_in 27 (by decide +kernel) (by decide +kernel)
theorem wd_28 : Cond.instanceMethod objectInit ∈ zz_all := zz_in 28 (by decide +kernel) (by decide +kernel)
theorem wd_29 : Cond.code objectInit ⟨#[0xb1]⟩ 1 none ∈ zz_all := zz_in 29 (by decide +kernel) (by decide +kernel)
theorem wd_30 : Cond.classLink RX6 7 RX5 ∈ zz_all := zz_in 30 (by decide +kernel) (by decide +kernel)
theorem wd_31 : Cond.instantiable RX5 14 ∈ zz_all := zz_in 31 (by decide +kernel) (by decide +kernel)
theorem wd_32 : Cond.methodLink RX6 9 yX5_init ∈ zz_all := zz_in 32 (by decide +kernel) (by decide +kernel)
theorem wd_33 : Cond.instanceMethod yX5_init ∈ zz_all := zz_in 33 (by decide +kernel) (by decide +kernel)
theorem wd_34 : Cond.code yX5_init cX5_init 2 none ∈ zz_all := zz_in 34 (by decide +kernel) (by decide +kernel)
theorem wd_35 : Cond.methodLink RX5 3 objectInit ∈ zz_all := zz_in 35 (by decide +kernel) (by decide +kernel)
theorem wd_36 : Cond.classLink RX5 31 "[[I" ∈ zz_all := zz_in 36 (by decide +kernel) (by decide +kernel)
theorem wd_38 : Cond.classLink RX5 39 RX4 ∈ zz_all := zz_in 38 (by decide +kernel) (by decide +kernel)
theorem wd_39 : Cond.instantiable RX4 3 ∈ zz_all := zz_in 39 (by decide +kernel) (by decide +kernel)
theorem wd_40 : Cond.methodLink RX5 41 yX4_init ∈ zz_all := zz_in 40 (by decide +kernel) (by decide +kernel)
theorem wd_41 : Cond.instanceMethod yX4_init ∈ zz_all := zz_in 41 (by decide +kernel) (by decide +kernel)
theorem wd_42 : Cond.code yX4_init cX4_init 2 none ∈ zz_all := zz_in 42 (by decide +kernel) (by decide +kernel)
theorem wd_43 : Cond.methodLink RX4 3 objectInit ∈ zz_all := zz_in 43 (by decide +kernel) (by decide +kernel)
theorem wd_44 : Cond.classLink RX4 9 "[[J" ∈ zz_all := zz_in 44 (by decide +kernel) (by decide +kernel)
theorem wd_46 : Cond.fieldLink RX4 11 "GuardOfSums$Space" "left" "[[J" ∈ zz_all := zz_in 46 (by decide +kernel) (by decide +kernel)
theorem wd_47 : Cond.fieldLink RX4 16 "GuardOfSums$Space" "scale" "J" ∈ zz_all := zz_in 47 (by decide +kernel) (by decide +kernel)
theorem wd_48 : Cond.fieldLink RX4 26 "GuardOfSums$Space" "pivotBits" "I" ∈ zz_all := zz_in 48 (by decide +kernel) (by decide +kernel)
theorem wd_49 : Cond.fieldLink RX6 197 "GuardOfSums$Space" "pivotBits" "I" ∈ zz_all := zz_in 49 (by decide +kernel) (by decide +kernel)
theorem wd_59 : Cond.fieldLink RX5 9 "GuardOfSums$World" "owned" "[I" ∈ zz_all := zz_in 59 (by decide +kernel) (by decide +kernel)
theorem wd_60 : Cond.fieldLink RX5 15 "GuardOfSums$World" "values" "[I" ∈ zz_all := zz_in 60 (by decide +kernel) (by decide +kernel)
theorem wd_61 : Cond.fieldLink RX5 18 "GuardOfSums$World" "lows" "[I" ∈ zz_all := zz_in 61 (by decide +kernel) (by decide +kernel)
theorem wd_62 : Cond.fieldLink RX5 21 "GuardOfSums$World" "highs" "[I" ∈ zz_all := zz_in 62 (by decide +kernel) (by decide +kernel)
theorem wd_63 : Cond.fieldLink RX5 24 "GuardOfSums$World" "variables" "I" ∈ zz_all := zz_in 63 (by decide +kernel) (by decide +kernel)
theorem wd_64 : Cond.fieldLink RX0 18 "GuardOfSums$World" "variables" "I" ∈ zz_all := zz_in 64 (by decide +kernel) (by decide +kernel)
theorem wd_65 : Cond.fieldLink RX6 221 "GuardOfSums$World" "variables" "I" ∈ zz_all := zz_in 65 (by decide +kernel) (by decide +kernel)
theorem wd_66 : Cond.fieldLink RX5 62 "GuardOfSums$World" "rule" "I" ∈ zz_all := zz_in 66 (by decide +kernel) (by decide +kernel)
theorem wd_67 : Cond.fieldLink RX6 133 "GuardOfSums$World" "rule" "I" ∈ zz_all := zz_in 67 (by decide +kernel) (by decide +kernel)
theorem wd_68 : Cond.fieldLink RX5 28 "GuardOfSums$World" "limit" "I" ∈ zz_all := zz_in 68 (by decide +kernel) (by decide +kernel)
theorem wd_69 : Cond.fieldLink RX6 140 "GuardOfSums$World" "limit" "I" ∈ zz_all := zz_in 69 (by decide +kernel) (by decide +kernel)
theorem wd_70 : Cond.fieldLink RX5 33 "GuardOfSums$World" "rows" "[[I" ∈ zz_all := zz_in 70 (by decide +kernel) (by decide +kernel)
theorem wd_71 : Cond.fieldLink RX5 36 "GuardOfSums$World" "answers" "[I" ∈ zz_all := zz_in 71 (by decide +kernel) (by decide +kernel)
theorem wd_72 : Cond.fieldLink RX0 38 "GuardOfSums$World" "rank" "I" ∈ zz_all := zz_in 72 (by decide +kernel) (by decide +kernel)
theorem wd_73 : Cond.fieldLink RX5 65 "GuardOfSums$World" "rank" "I" ∈ zz_all := zz_in 73 (by decide +kernel) (by decide +kernel)
theorem wd_74 : Cond.fieldLink RX6 176 "GuardOfSums$World" "rank" "I" ∈ zz_all := zz_in 74 (by decide +kernel) (by decide +kernel)
theorem wd_75 : Cond.fieldLink RX5 42 "GuardOfSums$World" "space" "LGuardOfSums$Space;" ∈ zz_all := zz_in 75 (by decide +kernel) (by decide +kernel)
theorem wd_76 : Cond.fieldLink RX6 187 "GuardOfSums$World" "space" "LGuardOfSums$Space;" ∈ zz_all := zz_in 76 (by decide +kernel) (by decide +kernel)
theorem wd_77 : Cond.fieldLink RX5 46 "GuardOfSums$World" "trial" "LGuardOfSums$Space;" ∈ zz_all := zz_in 77 (by decide +kernel) (by decide +kernel)
theorem wd_78 : Cond.fieldLink RX5 49 "GuardOfSums$World" "asked" "[I" ∈ zz_all := zz_in 78 (by decide +kernel) (by decide +kernel)
theorem wd_79 : Cond.fieldLink RX5 52 "GuardOfSums$World" "rest" "[J" ∈ zz_all := zz_in 79 (by decide +kernel) (by decide +kernel)
theorem wd_109 : Cond.classLink RX6 22 RX2 ∈ zz_all := zz_in 109 (by decide +kernel) (by decide +kernel)
theorem wd_110 : Cond.instantiable RX2 1 ∈ zz_all := zz_in 110 (by decide +kernel) (by decide +kernel)
theorem wd_112 : Cond.instanceMethod yX2_init ∈ zz_all := zz_in 112 (by decide +kernel) (by decide +kernel)
theorem wd_113 : Cond.code yX2_init cX2_init 1 none ∈ zz_all := zz_in 113 (by decide +kernel) (by decide +kernel)
theorem wd_114 : Cond.methodLink RX2 3 objectInit ∈ zz_all := zz_in 114 (by decide +kernel) (by decide +kernel)
theorem wd_115 : Cond.fieldLink RX2 9 "GuardOfSums$Question" "weights" "[I" ∈ zz_all := zz_in 115 (by decide +kernel) (by decide +kernel)
theorem wd_116 : Cond.fieldLink RX5 140 "GuardOfSums$Question" "weights" "[I" ∈ zz_all := zz_in 116 (by decide +kernel) (by decide +kernel)
theorem wd_120 : Cond.classLink RX6 29 RX0 ∈ zz_all := zz_in 120 (by decide +kernel) (by decide +kernel)
theorem wd_121 : Cond.instantiable RX0 3 ∈ zz_all := zz_in 121 (by decide +kernel) (by decide +kernel)
theorem wd_123 : Cond.instanceMethod yX0_init ∈ zz_all := zz_in 123 (by decide +kernel) (by decide +kernel)
theorem wd_124 : Cond.code yX0_init cX0_init 1 none ∈ zz_all := zz_in 124 (by decide +kernel) (by decide +kernel)
theorem wd_125 : Cond.methodLink RX0 3 objectInit ∈ zz_all := zz_in 125 (by decide +kernel) (by decide +kernel)
theorem wd_126 : Cond.fieldLink RX0 9 "GuardOfSums$Narrowing" "least" "[I" ∈ zz_all := zz_in 126 (by decide +kernel) (by decide +kernel)
theorem wd_127 : Cond.fieldLink RX0 15 "GuardOfSums$Narrowing" "most" "[I" ∈ zz_all := zz_in 127 (by decide +kernel) (by decide +kernel)
theorem wd_128 : Cond.fieldLink RX0 30 "GuardOfSums$Narrowing" "variables" "I" ∈ zz_all := zz_in 128 (by decide +kernel) (by decide +kernel)
theorem wd_136 : Cond.classLink RX6 36 RX1 ∈ zz_all := zz_in 136 (by decide +kernel) (by decide +kernel)
theorem wd_137 : Cond.instantiable RX1 2 ∈ zz_all := zz_in 137 (by decide +kernel) (by decide +kernel)
theorem wd_138 : Cond.methodLink RX6 38 yX1_init ∈ zz_all := zz_in 138 (by decide +kernel) (by decide +kernel)
theorem wd_139 : Cond.instanceMethod yX1_init ∈ zz_all := zz_in 139 (by decide +kernel) (by decide +kernel)
theorem wd_140 : Cond.code yX1_init cX1_init 2 none ∈ zz_all := zz_in 140 (by decide +kernel) (by decide +kernel)
theorem wd_141 : Cond.methodLink RX1 3 objectInit ∈ zz_all := zz_in 141 (by decide +kernel) (by decide +kernel)
theorem wd_142 : Cond.fieldLink RX6 257 "GuardOfSums$Numbers" "size" "I" ∈ zz_all := zz_in 142 (by decide +kernel) (by decide +kernel)
theorem wd_143 : Cond.fieldLink RX1 9 "GuardOfSums$Numbers" "numbers" "[I" ∈ zz_all := zz_in 143 (by decide +kernel) (by decide +kernel)
theorem wd_149 : Cond.fieldLink RX6 10 "GuardOfSums" "world" "LGuardOfSums$World;" ∈ zz_all := zz_in 149 (by decide +kernel) (by decide +kernel)
theorem wd_150 : Cond.fieldLink RX6 16 "GuardOfSums" "draft" "LGuardOfSums$World;" ∈ zz_all := zz_in 150 (by decide +kernel) (by decide +kernel)
theorem wd_151 : Cond.fieldLink RX6 19 "GuardOfSums" "kept" "LGuardOfSums$World;" ∈ zz_all := zz_in 151 (by decide +kernel) (by decide +kernel)
theorem wd_152 : Cond.fieldLink RX6 274 "GuardOfSums" "isKept" "Z" ∈ zz_all := zz_in 152 (by decide +kernel) (by decide +kernel)
theorem wd_153 : Cond.fieldLink RX6 25 "GuardOfSums" "question" "LGuardOfSums$Question;" ∈ zz_all := zz_in 153 (by decide +kernel) (by decide +kernel)
theorem wd_154 : Cond.fieldLink RX6 32 "GuardOfSums" "narrowing" "LGuardOfSums$Narrowing;" ∈ zz_all := zz_in 154 (by decide +kernel) (by decide +kernel)
theorem wd_155 : Cond.fieldLink RX6 41 "GuardOfSums" "letters" "LGuardOfSums$Numbers;" ∈ zz_all := zz_in 155 (by decide +kernel) (by decide +kernel)
theorem wd_156 : Cond.fieldLink RX6 45 "GuardOfSums" "told" "LGuardOfSums$Numbers;" ∈ zz_all := zz_in 156 (by decide +kernel) (by decide +kernel)
theorem wd_157 : Cond.fieldLink RX6 48 "GuardOfSums" "refusals" "[I" ∈ zz_all := zz_in 157 (by decide +kernel) (by decide +kernel)
theorem wd_177 : Cond.methodLink RL 75 yX6_person ∈ zz_all := zz_in 177 (by decide +kernel) (by decide +kernel)
theorem wd_178 : Cond.instanceMethod yX6_person ∈ zz_all := zz_in 178 (by decide +kernel) (by decide +kernel)
theorem wd_179 : Cond.selects RX6 yX6_person yX6_person ∈ zz_all := zz_in 179 (by decide +kernel) (by decide +kernel)
theorem wd_180 : Cond.code yX6_person cX6_person 4 (some .int) ∈ zz_all := zz_in 180 (by decide +kernel) (by decide +kernel)
theorem wd_181 : Cond.methodLink RX6 69 yX6_isWithin ∈ zz_all := zz_in 181 (by decide +kernel) (by decide +kernel)
theorem wd_182 : Cond.static yX6_isWithin ∈ zz_all := zz_in 182 (by decide +kernel) (by decide +kernel)
theorem wd_183 : Cond.code yX6_isWithin cX6_isWithin 2 (some .boolean) ∈ zz_all := zz_in 183 (by decide +kernel) (by decide +kernel)
theorem wd_184 : Cond.methodLink RX6 73 yX6_refuse ∈ zz_all := zz_in 184 (by decide +kernel) (by decide +kernel)
theorem wd_186 : Cond.instanceMethod yX6_refuse ∈ zz_all := zz_in 186 (by decide +kernel) (by decide +kernel)
theorem wd_187 : Cond.code yX6_refuse cX6_refuse 3 (some .int) ∈ zz_all := zz_in 187 (by decide +kernel) (by decide +kernel)
theorem wd_188 : Cond.methodLink RX6 77 yX5_variableOf ∈ zz_all := zz_in 188 (by decide +kernel) (by decide +kernel)
theorem wd_189 : Cond.instanceMethod yX5_variableOf ∈ zz_all := zz_in 189 (by decide +kernel) (by decide +kernel)
theorem wd_190 : Cond.selects RX5 yX5_variableOf yX5_variableOf ∈ zz_all := zz_in 190 (by decide +kernel) (by decide +kernel)
theorem wd_191 : Cond.code yX5_variableOf cX5_variableOf 2 (some .int) ∈ zz_all := zz_in 191 (by decide +kernel) (by decide +kernel)
theorem wd_193 : Cond.methodLink RX6 80 yX5_valueOf ∈ zz_all := zz_in 193 (by decide +kernel) (by decide +kernel)
theorem wd_194 : Cond.instanceMethod yX5_valueOf ∈ zz_all := zz_in 194 (by decide +kernel) (by decide +kernel)
theorem wd_195 : Cond.selects RX5 yX5_valueOf yX5_valueOf ∈ zz_all := zz_in 195 (by decide +kernel) (by decide +kernel)
theorem wd_196 : Cond.code yX5_valueOf cX5_valueOf 2 (some .int) ∈ zz_all := zz_in 196 (by decide +kernel) (by decide +kernel)
theorem wd_197 : Cond.methodLink RX5 76 yX5_has ∈ zz_all := zz_in 197 (by decide +kernel) (by decide +kernel)
theorem wd_198 : Cond.instanceMethod yX5_has ∈ zz_all := zz_in 198 (by decide +kernel) (by decide +kernel)
theorem wd_199 : Cond.selects RX5 yX5_has yX5_has ∈ zz_all := zz_in 199 (by decide +kernel) (by decide +kernel)
theorem wd_200 : Cond.code yX5_has cX5_has 2 (some .boolean) ∈ zz_all := zz_in 200 (by decide +kernel) (by decide +kernel)
theorem wd_201 : Cond.methodLink RX6 83 yX5_isFree ∈ zz_all := zz_in 201 (by decide +kernel) (by decide +kernel)
theorem wd_202 : Cond.instanceMethod yX5_isFree ∈ zz_all := zz_in 202 (by decide +kernel) (by decide +kernel)
theorem wd_203 : Cond.selects RX5 yX5_isFree yX5_isFree ∈ zz_all := zz_in 203 (by decide +kernel) (by decide +kernel)
theorem wd_204 : Cond.code yX5_isFree cX5_isFree 3 (some .boolean) ∈ zz_all := zz_in 204 (by decide +kernel) (by decide +kernel)
theorem wd_205 : Cond.methodLink RX5 80 yX5_coefficient ∈ zz_all := zz_in 205 (by decide +kernel) (by decide +kernel)
theorem wd_206 : Cond.instanceMethod yX5_coefficient ∈ zz_all := zz_in 206 (by decide +kernel) (by decide +kernel)
theorem wd_207 : Cond.selects RX5 yX5_coefficient yX5_coefficient ∈ zz_all := zz_in 207 (by decide +kernel) (by decide +kernel)
theorem wd_208 : Cond.code yX5_coefficient cX5_coefficient 3 (some .int) ∈ zz_all := zz_in 208 (by decide +kernel) (by decide +kernel)
theorem wd_209 : Cond.methodLink RX6 87 yX6_asNumber ∈ zz_all := zz_in 209 (by decide +kernel) (by decide +kernel)
theorem wd_210 : Cond.static yX6_asNumber ∈ zz_all := zz_in 210 (by decide +kernel) (by decide +kernel)
theorem wd_211 : Cond.code yX6_asNumber cX6_asNumber 1 (some .int) ∈ zz_all := zz_in 211 (by decide +kernel) (by decide +kernel)
theorem wd_212 : Cond.methodLink RL 48 yX6_variable ∈ zz_all := zz_in 212 (by decide +kernel) (by decide +kernel)
theorem wd_213 : Cond.instanceMethod yX6_variable ∈ zz_all := zz_in 213 (by decide +kernel) (by decide +kernel)
theorem wd_214 : Cond.selects RX6 yX6_variable yX6_variable ∈ zz_all := zz_in 214 (by decide +kernel) (by decide +kernel)
theorem wd_215 : Cond.code yX6_variable cX6_variable 3 (some .int) ∈ zz_all := zz_in 215 (by decide +kernel) (by decide +kernel)
theorem wd_216 : Cond.methodLink RX6 91 yX5_has ∈ zz_all := zz_in 216 (by decide +kernel) (by decide +kernel)
theorem wd_217 : Cond.methodLink RX6 94 yX5_lowOf ∈ zz_all := zz_in 217 (by decide +kernel) (by decide +kernel)
theorem wd_218 : Cond.instanceMethod yX5_lowOf ∈ zz_all := zz_in 218 (by decide +kernel) (by decide +kernel)
theorem wd_219 : Cond.selects RX5 yX5_lowOf yX5_lowOf ∈ zz_all := zz_in 219 (by decide +kernel) (by decide +kernel)
theorem wd_220 : Cond.code yX5_lowOf cX5_lowOf 2 (some .int) ∈ zz_all := zz_in 220 (by decide +kernel) (by decide +kernel)
theorem wd_221 : Cond.methodLink RX6 97 yX5_highOf ∈ zz_all := zz_in 221 (by decide +kernel) (by decide +kernel)
theorem wd_222 : Cond.instanceMethod yX5_highOf ∈ zz_all := zz_in 222 (by decide +kernel) (by decide +kernel)
theorem wd_223 : Cond.selects RX5 yX5_highOf yX5_highOf ∈ zz_all := zz_in 223 (by decide +kernel) (by decide +kernel)
theorem wd_224 : Cond.code yX5_highOf cX5_highOf 2 (some .int) ∈ zz_all := zz_in 224 (by decide +kernel) (by decide +kernel)
theorem wd_225 : Cond.methodLink RX6 100 yX6_narrowed ∈ zz_all := zz_in 225 (by decide +kernel) (by decide +kernel)
theorem wd_227 : Cond.instanceMethod yX6_narrowed ∈ zz_all := zz_in 227 (by decide +kernel) (by decide +kernel)
theorem wd_228 : Cond.code yX6_narrowed cX6_narrowed 3 (some .int) ∈ zz_all := zz_in 228 (by decide +kernel) (by decide +kernel)
theorem wd_229 : Cond.methodLink RX6 104 yX0_narrow ∈ zz_all := zz_in 229 (by decide +kernel) (by decide +kernel)
theorem wd_230 : Cond.instanceMethod yX0_narrow ∈ zz_all := zz_in 230 (by decide +kernel) (by decide +kernel)
theorem wd_231 : Cond.selects RX0 yX0_narrow yX0_narrow ∈ zz_all := zz_in 231 (by decide +kernel) (by decide +kernel)
theorem wd_232 : Cond.code yX0_narrow cX0_narrow 5 none ∈ zz_all := zz_in 232 (by decide +kernel) (by decide +kernel)
theorem wd_233 : Cond.methodLink RX0 24 yJ9_min_7cf53 ∈ zz_all := zz_in 233 (by decide +kernel) (by decide +kernel)
theorem wd_234 : Cond.static yJ9_min_7cf53 ∈ zz_all := zz_in 234 (by decide +kernel) (by decide +kernel)
theorem wd_235 : Cond.code yJ9_min_7cf53 cJ9_min_7cf53 2 (some .int) ∈ zz_all := zz_in 235 (by decide +kernel) (by decide +kernel)
theorem wd_236 : Cond.methodLink RX0 31 yX5_lowOf ∈ zz_all := zz_in 236 (by decide +kernel) (by decide +kernel)
theorem wd_237 : Cond.methodLink RX0 35 yX5_highOf ∈ zz_all := zz_in 237 (by decide +kernel) (by decide +kernel)
theorem wd_238 : Cond.methodLink RX0 41 yX0_narrowByRow ∈ zz_all := zz_in 238 (by decide +kernel) (by decide +kernel)
theorem wd_240 : Cond.instanceMethod yX0_narrowByRow ∈ zz_all := zz_in 240 (by decide +kernel) (by decide +kernel)
theorem wd_241 : Cond.code yX0_narrowByRow cX0_narrowByRow 11 (some .boolean) ∈ zz_all := zz_in 241 (by decide +kernel) (by decide +kernel)
theorem wd_242 : Cond.methodLink RX0 45 yX5_coefficient ∈ zz_all := zz_in 242 (by decide +kernel) (by decide +kernel)
theorem wd_243 : Cond.methodLink RX0 48 yX0_lowEnd ∈ zz_all := zz_in 243 (by decide +kernel) (by decide +kernel)
theorem wd_245 : Cond.instanceMethod yX0_lowEnd ∈ zz_all := zz_in 245 (by decide +kernel) (by decide +kernel)
theorem wd_246 : Cond.code yX0_lowEnd cX0_lowEnd 3 (some .int) ∈ zz_all := zz_in 246 (by decide +kernel) (by decide +kernel)
theorem wd_247 : Cond.methodLink RX0 68 yX0_leastOf ∈ zz_all := zz_in 247 (by decide +kernel) (by decide +kernel)
theorem wd_248 : Cond.instanceMethod yX0_leastOf ∈ zz_all := zz_in 248 (by decide +kernel) (by decide +kernel)
theorem wd_249 : Cond.selects RX0 yX0_leastOf yX0_leastOf ∈ zz_all := zz_in 249 (by decide +kernel) (by decide +kernel)
theorem wd_250 : Cond.code yX0_leastOf cX0_leastOf 2 (some .int) ∈ zz_all := zz_in 250 (by decide +kernel) (by decide +kernel)
theorem wd_252 : Cond.methodLink RX0 71 yX0_mostOf ∈ zz_all := zz_in 252 (by decide +kernel) (by decide +kernel)
theorem wd_253 : Cond.instanceMethod yX0_mostOf ∈ zz_all := zz_in 253 (by decide +kernel) (by decide +kernel)
theorem wd_254 : Cond.selects RX0 yX0_mostOf yX0_mostOf ∈ zz_all := zz_in 254 (by decide +kernel) (by decide +kernel)
theorem wd_255 : Cond.code yX0_mostOf cX0_mostOf 2 (some .int) ∈ zz_all := zz_in 255 (by decide +kernel) (by decide +kernel)
theorem wd_256 : Cond.methodLink RX0 51 yX0_highEnd ∈ zz_all := zz_in 256 (by decide +kernel) (by decide +kernel)
theorem wd_258 : Cond.instanceMethod yX0_highEnd ∈ zz_all := zz_in 258 (by decide +kernel) (by decide +kernel)
theorem wd_259 : Cond.code yX0_highEnd cX0_highEnd 3 (some .int) ∈ zz_all := zz_in 259 (by decide +kernel) (by decide +kernel)
theorem wd_260 : Cond.methodLink RX0 54 yX5_answerOf ∈ zz_all := zz_in 260 (by decide +kernel) (by decide +kernel)
theorem wd_261 : Cond.instanceMethod yX5_answerOf ∈ zz_all := zz_in 261 (by decide +kernel) (by decide +kernel)
theorem wd_262 : Cond.selects RX5 yX5_answerOf yX5_answerOf ∈ zz_all := zz_in 262 (by decide +kernel) (by decide +kernel)
theorem wd_263 : Cond.code yX5_answerOf cX5_answerOf 2 (some .int) ∈ zz_all := zz_in 263 (by decide +kernel) (by decide +kernel)
theorem wd_264 : Cond.methodLink RX0 57 yX0_narrowOne ∈ zz_all := zz_in 264 (by decide +kernel) (by decide +kernel)
theorem wd_266 : Cond.instanceMethod yX0_narrowOne ∈ zz_all := zz_in 266 (by decide +kernel) (by decide +kernel)
theorem wd_267 : Cond.code yX0_narrowOne cX0_narrowOne 8 (some .boolean) ∈ zz_all := zz_in 267 (by decide +kernel) (by decide +kernel)
theorem wd_268 : Cond.methodLink RX0 65 yJ9_floorDiv_7cf53 ∈ zz_all := zz_in 268 (by decide +kernel) (by decide +kernel)
theorem wd_269 : Cond.static yJ9_floorDiv_7cf53 ∈ zz_all := zz_in 269 (by decide +kernel) (by decide +kernel)
theorem wd_270 : Cond.code yJ9_floorDiv_7cf53 cJ9_floorDiv_7cf53 3 (some .int) ∈ zz_all := zz_in 270 (by decide +kernel) (by decide +kernel)
theorem wd_271 : Cond.methodLink RX6 107 yX0_leastOf ∈ zz_all := zz_in 271 (by decide +kernel) (by decide +kernel)
theorem wd_272 : Cond.methodLink RX6 110 yX0_mostOf ∈ zz_all := zz_in 272 (by decide +kernel) (by decide +kernel)
theorem wd_273 : Cond.methodLink RX6 113 yX0_widthOf ∈ zz_all := zz_in 273 (by decide +kernel) (by decide +kernel)
theorem wd_274 : Cond.instanceMethod yX0_widthOf ∈ zz_all := zz_in 274 (by decide +kernel) (by decide +kernel)
theorem wd_275 : Cond.selects RX0 yX0_widthOf yX0_widthOf ∈ zz_all := zz_in 275 (by decide +kernel) (by decide +kernel)
theorem wd_276 : Cond.code yX0_widthOf cX0_widthOf 2 (some .int) ∈ zz_all := zz_in 276 (by decide +kernel) (by decide +kernel)
theorem wd_277 : Cond.methodLink RL 34 yX6_rule ∈ zz_all := zz_in 277 (by decide +kernel) (by decide +kernel)
theorem wd_278 : Cond.instanceMethod yX6_rule ∈ zz_all := zz_in 278 (by decide +kernel) (by decide +kernel)
theorem wd_279 : Cond.selects RX6 yX6_rule yX6_rule ∈ zz_all := zz_in 279 (by decide +kernel) (by decide +kernel)
theorem wd_280 : Cond.code yX6_rule cX6_rule 3 (some .int) ∈ zz_all := zz_in 280 (by decide +kernel) (by decide +kernel)
theorem wd_281 : Cond.methodLink RX6 137 yX5_takeRule ∈ zz_all := zz_in 281 (by decide +kernel) (by decide +kernel)
theorem wd_282 : Cond.instanceMethod yX5_takeRule ∈ zz_all := zz_in 282 (by decide +kernel) (by decide +kernel)
theorem wd_283 : Cond.selects RX5 yX5_takeRule yX5_takeRule ∈ zz_all := zz_in 283 (by decide +kernel) (by decide +kernel)
theorem wd_284 : Cond.code yX5_takeRule cX5_takeRule 2 (some .boolean) ∈ zz_all := zz_in 284 (by decide +kernel) (by decide +kernel)
theorem wd_285 : Cond.methodLink RL 37 yX6_ask ∈ zz_all := zz_in 285 (by decide +kernel) (by decide +kernel)
theorem wd_286 : Cond.instanceMethod yX6_ask ∈ zz_all := zz_in 286 (by decide +kernel) (by decide +kernel)
theorem wd_287 : Cond.selects RX6 yX6_ask yX6_ask ∈ zz_all := zz_in 287 (by decide +kernel) (by decide +kernel)
theorem wd_288 : Cond.code yX6_ask cX6_ask 5 (some .int) ∈ zz_all := zz_in 288 (by decide +kernel) (by decide +kernel)
theorem wd_289 : Cond.methodLink RX6 146 yX2_misfitOf ∈ zz_all := zz_in 289 (by decide +kernel) (by decide +kernel)
theorem wd_290 : Cond.static yX2_misfitOf ∈ zz_all := zz_in 290 (by decide +kernel) (by decide +kernel)
theorem wd_291 : Cond.code yX2_misfitOf cX2_misfitOf 5 (some .int) ∈ zz_all := zz_in 291 (by decide +kernel) (by decide +kernel)
theorem wd_292 : Cond.constant RX6 149 (1000000000 : Int32) ∈ zz_all := zz_in 292 (by decide +kernel) (by decide +kernel)
theorem wd_293 : Cond.methodLink RX6 150 yX2_make ∈ zz_all := zz_in 293 (by decide +kernel) (by decide +kernel)
theorem wd_294 : Cond.instanceMethod yX2_make ∈ zz_all := zz_in 294 (by decide +kernel) (by decide +kernel)
theorem wd_295 : Cond.selects RX2 yX2_make yX2_make ∈ zz_all := zz_in 295 (by decide +kernel) (by decide +kernel)
theorem wd_296 : Cond.code yX2_make cX2_make 8 none ∈ zz_all := zz_in 296 (by decide +kernel) (by decide +kernel)
theorem wd_297 : Cond.methodLink RX6 154 yX5_takeQuestion ∈ zz_all := zz_in 297 (by decide +kernel) (by decide +kernel)
theorem wd_298 : Cond.instanceMethod yX5_takeQuestion ∈ zz_all := zz_in 298 (by decide +kernel) (by decide +kernel)
theorem wd_299 : Cond.selects RX5 yX5_takeQuestion yX5_takeQuestion ∈ zz_all := zz_in 299 (by decide +kernel) (by decide +kernel)
theorem wd_300 : Cond.code yX5_takeQuestion cX5_takeQuestion 3 (some .int) ∈ zz_all := zz_in 300 (by decide +kernel) (by decide +kernel)
theorem wd_301 : Cond.methodLink RX5 106 yX5_meetingBy ∈ zz_all := zz_in 301 (by decide +kernel) (by decide +kernel)
theorem wd_302 : Cond.instanceMethod yX5_meetingBy ∈ zz_all := zz_in 302 (by decide +kernel) (by decide +kernel)
theorem wd_303 : Cond.selects RX5 yX5_meetingBy yX5_meetingBy ∈ zz_all := zz_in 303 (by decide +kernel) (by decide +kernel)
theorem wd_304 : Cond.code yX5_meetingBy cX5_meetingBy 6 (some .int) ∈ zz_all := zz_in 304 (by decide +kernel) (by decide +kernel)
theorem wd_305 : Cond.methodLink RX5 114 yX5_findRest ∈ zz_all := zz_in 305 (by decide +kernel) (by decide +kernel)
theorem wd_307 : Cond.instanceMethod yX5_findRest ∈ zz_all := zz_in 307 (by decide +kernel) (by decide +kernel)
theorem wd_308 : Cond.code yX5_findRest cX5_findRest 4 none ∈ zz_all := zz_in 308 (by decide +kernel) (by decide +kernel)
theorem wd_309 : Cond.methodLink RX5 143 yX4_leave ∈ zz_all := zz_in 309 (by decide +kernel) (by decide +kernel)
theorem wd_310 : Cond.instanceMethod yX4_leave ∈ zz_all := zz_in 310 (by decide +kernel) (by decide +kernel)
theorem wd_311 : Cond.selects RX4 yX4_leave yX4_leave ∈ zz_all := zz_in 311 (by decide +kernel) (by decide +kernel)
theorem wd_312 : Cond.code yX4_leave cX4_leave 6 none ∈ zz_all := zz_in 312 (by decide +kernel) (by decide +kernel)
theorem wd_313 : Cond.methodLink RX5 117 yX4_firstIn ∈ zz_all := zz_in 313 (by decide +kernel) (by decide +kernel)
theorem wd_314 : Cond.static yX4_firstIn ∈ zz_all := zz_in 314 (by decide +kernel) (by decide +kernel)
theorem wd_315 : Cond.code yX4_firstIn cX4_firstIn 2 (some .int) ∈ zz_all := zz_in 315 (by decide +kernel) (by decide +kernel)
theorem wd_316 : Cond.methodLink RX5 121 yX4_fixedBitsWith ∈ zz_all := zz_in 316 (by decide +kernel) (by decide +kernel)
theorem wd_317 : Cond.instanceMethod yX4_fixedBitsWith ∈ zz_all := zz_in 317 (by decide +kernel) (by decide +kernel)
theorem wd_318 : Cond.selects RX4 yX4_fixedBitsWith yX4_fixedBitsWith ∈ zz_all := zz_in 318 (by decide +kernel) (by decide +kernel)
theorem wd_319 : Cond.code yX4_fixedBitsWith cX4_fixedBitsWith 5 (some .int) ∈ zz_all := zz_in 319 (by decide +kernel) (by decide +kernel)
theorem wd_320 : Cond.methodLink RX4 30 yX4_firstIn ∈ zz_all := zz_in 320 (by decide +kernel) (by decide +kernel)
theorem wd_321 : Cond.methodLink RX4 38 yX4_isOneLine ∈ zz_all := zz_in 321 (by decide +kernel) (by decide +kernel)
theorem wd_322 : Cond.static yX4_isOneLine ∈ zz_all := zz_in 322 (by decide +kernel) (by decide +kernel)
theorem wd_323 : Cond.code yX4_isOneLine cX4_isOneLine 4 (some .boolean) ∈ zz_all := zz_in 323 (by decide +kernel) (by decide +kernel)
theorem wd_324 : Cond.methodLink RX5 124 yX2_size ∈ zz_all := zz_in 324 (by decide +kernel) (by decide +kernel)
theorem wd_325 : Cond.instanceMethod yX2_size ∈ zz_all := zz_in 325 (by decide +kernel) (by decide +kernel)
theorem wd_326 : Cond.selects RX2 yX2_size yX2_size ∈ zz_all := zz_in 326 (by decide +kernel) (by decide +kernel)
theorem wd_327 : Cond.code yX2_size cX2_size 3 (some .int) ∈ zz_all := zz_in 327 (by decide +kernel) (by decide +kernel)
theorem wd_328 : Cond.methodLink RX5 68 yX4_copyFrom ∈ zz_all := zz_in 328 (by decide +kernel) (by decide +kernel)
theorem wd_329 : Cond.instanceMethod yX4_copyFrom ∈ zz_all := zz_in 329 (by decide +kernel) (by decide +kernel)
theorem wd_330 : Cond.selects RX4 yX4_copyFrom yX4_copyFrom ∈ zz_all := zz_in 330 (by decide +kernel) (by decide +kernel)
theorem wd_331 : Cond.code yX4_copyFrom cX4_copyFrom 3 none ∈ zz_all := zz_in 331 (by decide +kernel) (by decide +kernel)
theorem wd_332 : Cond.methodLink RX4 20 arraycopyName ∈ zz_all := zz_in 332 (by decide +kernel) (by decide +kernel)
theorem wd_333 : Cond.static arraycopyName ∈ zz_all := zz_in 333 (by decide +kernel) (by decide +kernel)
theorem wd_334 : Cond.native arraycopyName ∈ zz_all := zz_in 334 (by decide +kernel) (by decide +kernel)
theorem wd_335 : Cond.methodLink RX5 129 yX4_join ∈ zz_all := zz_in 335 (by decide +kernel) (by decide +kernel)
theorem wd_336 : Cond.instanceMethod yX4_join ∈ zz_all := zz_in 336 (by decide +kernel) (by decide +kernel)
theorem wd_337 : Cond.selects RX4 yX4_join yX4_join ∈ zz_all := zz_in 337 (by decide +kernel) (by decide +kernel)
theorem wd_338 : Cond.code yX4_join cX4_join 9 none ∈ zz_all := zz_in 338 (by decide +kernel) (by decide +kernel)
theorem wd_340 : Cond.methodLink RX5 132 yX4_hasPair ∈ zz_all := zz_in 340 (by decide +kernel) (by decide +kernel)
theorem wd_341 : Cond.instanceMethod yX4_hasPair ∈ zz_all := zz_in 341 (by decide +kernel) (by decide +kernel)
theorem wd_342 : Cond.selects RX4 yX4_hasPair yX4_hasPair ∈ zz_all := zz_in 342 (by decide +kernel) (by decide +kernel)
theorem wd_343 : Cond.code yX4_hasPair cX4_hasPair 4 (some .boolean) ∈ zz_all := zz_in 343 (by decide +kernel) (by decide +kernel)
theorem wd_344 : Cond.methodLink RX5 110 yX5_join ∈ zz_all := zz_in 344 (by decide +kernel) (by decide +kernel)
theorem wd_345 : Cond.instanceMethod yX5_join ∈ zz_all := zz_in 345 (by decide +kernel) (by decide +kernel)
theorem wd_346 : Cond.selects RX5 yX5_join yX5_join ∈ zz_all := zz_in 346 (by decide +kernel) (by decide +kernel)
theorem wd_347 : Cond.code yX5_join cX5_join 2 none ∈ zz_all := zz_in 347 (by decide +kernel) (by decide +kernel)
theorem wd_348 : Cond.methodLink RX5 56 arraycopyName ∈ zz_all := zz_in 348 (by decide +kernel) (by decide +kernel)
theorem wd_349 : Cond.methodLink RX5 136 yX5_trueAnswer ∈ zz_all := zz_in 349 (by decide +kernel) (by decide +kernel)
theorem wd_350 : Cond.instanceMethod yX5_trueAnswer ∈ zz_all := zz_in 350 (by decide +kernel) (by decide +kernel)
theorem wd_351 : Cond.selects RX5 yX5_trueAnswer yX5_trueAnswer ∈ zz_all := zz_in 351 (by decide +kernel) (by decide +kernel)
theorem wd_352 : Cond.code yX5_trueAnswer cX5_trueAnswer 5 (some .int) ∈ zz_all := zz_in 352 (by decide +kernel) (by decide +kernel)
theorem wd_353 : Cond.methodLink RX6 158 yX5_trueAnswer ∈ zz_all := zz_in 353 (by decide +kernel) (by decide +kernel)
theorem wd_354 : Cond.methodLink RL 72 yX6_would ∈ zz_all := zz_in 354 (by decide +kernel) (by decide +kernel)
theorem wd_355 : Cond.instanceMethod yX6_would ∈ zz_all := zz_in 355 (by decide +kernel) (by decide +kernel)
theorem wd_356 : Cond.selects RX6 yX6_would yX6_would ∈ zz_all := zz_in 356 (by decide +kernel) (by decide +kernel)
theorem wd_357 : Cond.code yX6_would cX6_would 5 (some .int) ∈ zz_all := zz_in 357 (by decide +kernel) (by decide +kernel)
theorem wd_358 : Cond.methodLink RX6 161 yX5_meetingBy ∈ zz_all := zz_in 358 (by decide +kernel) (by decide +kernel)
theorem wd_359 : Cond.methodLink RL 93 yX6_sums ∈ zz_all := zz_in 359 (by decide +kernel) (by decide +kernel)
theorem wd_360 : Cond.instanceMethod yX6_sums ∈ zz_all := zz_in 360 (by decide +kernel) (by decide +kernel)
theorem wd_361 : Cond.selects RX6 yX6_sums yX6_sums ∈ zz_all := zz_in 361 (by decide +kernel) (by decide +kernel)
theorem wd_362 : Cond.code yX6_sums cX6_sums 2 (some .int) ∈ zz_all := zz_in 362 (by decide +kernel) (by decide +kernel)
theorem wd_363 : Cond.methodLink RX6 165 yX6_leastJoining ∈ zz_all := zz_in 363 (by decide +kernel) (by decide +kernel)
theorem wd_365 : Cond.instanceMethod yX6_leastJoining ∈ zz_all := zz_in 365 (by decide +kernel) (by decide +kernel)
theorem wd_366 : Cond.code yX6_leastJoining cX6_leastJoining 2 (some .int) ∈ zz_all := zz_in 366 (by decide +kernel) (by decide +kernel)
theorem wd_367 : Cond.methodLink RX6 172 yX6_meetingOfSum ∈ zz_all := zz_in 367 (by decide +kernel) (by decide +kernel)
theorem wd_369 : Cond.instanceMethod yX6_meetingOfSum ∈ zz_all := zz_in 369 (by decide +kernel) (by decide +kernel)
theorem wd_370 : Cond.code yX6_meetingOfSum cX6_meetingOfSum 3 (some .int) ∈ zz_all := zz_in 370 (by decide +kernel) (by decide +kernel)
theorem wd_371 : Cond.methodLink RX6 169 yX6_howMany ∈ zz_all := zz_in 371 (by decide +kernel) (by decide +kernel)
theorem wd_373 : Cond.instanceMethod yX6_howMany ∈ zz_all := zz_in 373 (by decide +kernel) (by decide +kernel)
theorem wd_374 : Cond.code yX6_howMany cX6_howMany 4 (some .int) ∈ zz_all := zz_in 374 (by decide +kernel) (by decide +kernel)
theorem wd_375 : Cond.methodLink RL 100 yX6_answer ∈ zz_all := zz_in 375 (by decide +kernel) (by decide +kernel)
theorem wd_376 : Cond.instanceMethod yX6_answer ∈ zz_all := zz_in 376 (by decide +kernel) (by decide +kernel)
theorem wd_377 : Cond.selects RX6 yX6_answer yX6_answer ∈ zz_all := zz_in 377 (by decide +kernel) (by decide +kernel)
theorem wd_378 : Cond.code yX6_answer cX6_answer 2 (some .long) ∈ zz_all := zz_in 378 (by decide +kernel) (by decide +kernel)
theorem wd_379 : Cond.constantLong RX6 182 (4000000000000000000 : Int64) ∈ zz_all := zz_in 379 (by decide +kernel) (by decide +kernel)
theorem wd_380 : Cond.methodLink RX6 184 yX5_answerOf ∈ zz_all := zz_in 380 (by decide +kernel) (by decide +kernel)
theorem wd_381 : Cond.methodLink RL 96 yX6_reduced ∈ zz_all := zz_in 381 (by decide +kernel) (by decide +kernel)
theorem wd_382 : Cond.instanceMethod yX6_reduced ∈ zz_all := zz_in 382 (by decide +kernel) (by decide +kernel)
theorem wd_383 : Cond.selects RX6 yX6_reduced yX6_reduced ∈ zz_all := zz_in 383 (by decide +kernel) (by decide +kernel)
theorem wd_384 : Cond.code yX6_reduced cX6_reduced 4 (some .long) ∈ zz_all := zz_in 384 (by decide +kernel) (by decide +kernel)
theorem wd_385 : Cond.methodLink RX6 191 yX4_reducedPart ∈ zz_all := zz_in 385 (by decide +kernel) (by decide +kernel)
theorem wd_386 : Cond.instanceMethod yX4_reducedPart ∈ zz_all := zz_in 386 (by decide +kernel) (by decide +kernel)
theorem wd_387 : Cond.selects RX4 yX4_reducedPart yX4_reducedPart ∈ zz_all := zz_in 387 (by decide +kernel) (by decide +kernel)
theorem wd_388 : Cond.code yX4_reducedPart cX4_reducedPart 5 (some .long) ∈ zz_all := zz_in 388 (by decide +kernel) (by decide +kernel)
theorem wd_389 : Cond.methodLink RX4 42 yX4_pivotOf ∈ zz_all := zz_in 389 (by decide +kernel) (by decide +kernel)
theorem wd_391 : Cond.instanceMethod yX4_pivotOf ∈ zz_all := zz_in 391 (by decide +kernel) (by decide +kernel)
theorem wd_392 : Cond.code yX4_pivotOf cX4_pivotOf 4 (some .int) ∈ zz_all := zz_in 392 (by decide +kernel) (by decide +kernel)
theorem wd_395 : Cond.static yX6_partInLeastTerms ∈ zz_all := zz_in 395 (by decide +kernel) (by decide +kernel)
theorem wd_396 : Cond.code yX6_partInLeastTerms cX6_partInLeastTerms 9 (some .long) ∈ zz_all := zz_in 396 (by decide +kernel) (by decide +kernel)
theorem wd_397 : Cond.methodLink RX6 287 yJ9_abs_067f4 ∈ zz_all := zz_in 397 (by decide +kernel) (by decide +kernel)
theorem wd_398 : Cond.static yJ9_abs_067f4 ∈ zz_all := zz_in 398 (by decide +kernel) (by decide +kernel)
theorem wd_399 : Cond.code yJ9_abs_067f4 cJ9_abs_067f4 2 (some .long) ∈ zz_all := zz_in 399 (by decide +kernel) (by decide +kernel)
theorem wd_400 : Cond.methodLink RX6 291 yX6_greatestDivisor ∈ zz_all := zz_in 400 (by decide +kernel) (by decide +kernel)
theorem wd_401 : Cond.static yX6_greatestDivisor ∈ zz_all := zz_in 401 (by decide +kernel) (by decide +kernel)
theorem wd_402 : Cond.code yX6_greatestDivisor cX6_greatestDivisor 11 (some .long) ∈ zz_all := zz_in 402 (by decide +kernel) (by decide +kernel)
theorem wd_403 : Cond.methodLink RL 85 yX6_pivots ∈ zz_all := zz_in 403 (by decide +kernel) (by decide +kernel)
theorem wd_404 : Cond.instanceMethod yX6_pivots ∈ zz_all := zz_in 404 (by decide +kernel) (by decide +kernel)
theorem wd_405 : Cond.selects RX6 yX6_pivots yX6_pivots ∈ zz_all := zz_in 405 (by decide +kernel) (by decide +kernel)
theorem wd_406 : Cond.code yX6_pivots cX6_pivots 1 (some .int) ∈ zz_all := zz_in 406 (by decide +kernel) (by decide +kernel)
theorem wd_407 : Cond.methodLink RL 82 yX6_attack ∈ zz_all := zz_in 407 (by decide +kernel) (by decide +kernel)
theorem wd_408 : Cond.instanceMethod yX6_attack ∈ zz_all := zz_in 408 (by decide +kernel) (by decide +kernel)
theorem wd_409 : Cond.selects RX6 yX6_attack yX6_attack ∈ zz_all := zz_in 409 (by decide +kernel) (by decide +kernel)
theorem wd_410 : Cond.code yX6_attack cX6_attack 6 (some .int) ∈ zz_all := zz_in 410 (by decide +kernel) (by decide +kernel)
theorem wd_411 : Cond.methodLink RX6 200 yX5_fixedBitsWith ∈ zz_all := zz_in 411 (by decide +kernel) (by decide +kernel)
theorem wd_412 : Cond.instanceMethod yX5_fixedBitsWith ∈ zz_all := zz_in 412 (by decide +kernel) (by decide +kernel)
theorem wd_413 : Cond.selects RX5 yX5_fixedBitsWith yX5_fixedBitsWith ∈ zz_all := zz_in 413 (by decide +kernel) (by decide +kernel)
theorem wd_414 : Cond.code yX5_fixedBitsWith cX5_fixedBitsWith 2 (some .int) ∈ zz_all := zz_in 414 (by decide +kernel) (by decide +kernel)
theorem wd_415 : Cond.methodLink RL 66 yX6_image ∈ zz_all := zz_in 415 (by decide +kernel) (by decide +kernel)
theorem wd_416 : Cond.instanceMethod yX6_image ∈ zz_all := zz_in 416 (by decide +kernel) (by decide +kernel)
theorem wd_417 : Cond.selects RX6 yX6_image yX6_image ∈ zz_all := zz_in 417 (by decide +kernel) (by decide +kernel)
theorem wd_418 : Cond.code yX6_image cX6_image 1 (some .int) ∈ zz_all := zz_in 418 (by decide +kernel) (by decide +kernel)
theorem wd_419 : Cond.methodLink RX6 56 yX5_copyFrom ∈ zz_all := zz_in 419 (by decide +kernel) (by decide +kernel)
theorem wd_420 : Cond.instanceMethod yX5_copyFrom ∈ zz_all := zz_in 420 (by decide +kernel) (by decide +kernel)
theorem wd_421 : Cond.selects RX5 yX5_copyFrom yX5_copyFrom ∈ zz_all := zz_in 421 (by decide +kernel) (by decide +kernel)
theorem wd_422 : Cond.code yX5_copyFrom cX5_copyFrom 3 none ∈ zz_all := zz_in 422 (by decide +kernel) (by decide +kernel)
theorem wd_423 : Cond.methodLink RL 79 yX6_on ∈ zz_all := zz_in 423 (by decide +kernel) (by decide +kernel)
theorem wd_424 : Cond.instanceMethod yX6_on ∈ zz_all := zz_in 424 (by decide +kernel) (by decide +kernel)
theorem wd_425 : Cond.selects RX6 yX6_on yX6_on ∈ zz_all := zz_in 425 (by decide +kernel) (by decide +kernel)
theorem wd_426 : Cond.code yX6_on cX6_on 1 (some .int) ∈ zz_all := zz_in 426 (by decide +kernel) (by decide +kernel)
theorem wd_427 : Cond.methodLink RL 69 yX6_count ∈ zz_all := zz_in 427 (by decide +kernel) (by decide +kernel)
theorem wd_428 : Cond.instanceMethod yX6_count ∈ zz_all := zz_in 428 (by decide +kernel) (by decide +kernel)
theorem wd_429 : Cond.selects RX6 yX6_count yX6_count ∈ zz_all := zz_in 429 (by decide +kernel) (by decide +kernel)
theorem wd_430 : Cond.code yX6_count cX6_count 2 (some .int) ∈ zz_all := zz_in 430 (by decide +kernel) (by decide +kernel)
theorem wd_431 : Cond.methodLink RX6 278 yX5_usedBits ∈ zz_all := zz_in 431 (by decide +kernel) (by decide +kernel)
theorem wd_432 : Cond.instanceMethod yX5_usedBits ∈ zz_all := zz_in 432 (by decide +kernel) (by decide +kernel)
theorem wd_433 : Cond.selects RX5 yX5_usedBits yX5_usedBits ∈ zz_all := zz_in 433 (by decide +kernel) (by decide +kernel)
theorem wd_434 : Cond.code yX5_usedBits cX5_usedBits 3 (some .int) ∈ zz_all := zz_in 434 (by decide +kernel) (by decide +kernel)
theorem wd_435 : Cond.methodLink RX5 84 yX5_isFree ∈ zz_all := zz_in 435 (by decide +kernel) (by decide +kernel)
theorem wd_436 : Cond.methodLink RX6 281 yX5_valuesOfPeople ∈ zz_all := zz_in 436 (by decide +kernel) (by decide +kernel)
theorem wd_437 : Cond.instanceMethod yX5_valuesOfPeople ∈ zz_all := zz_in 437 (by decide +kernel) (by decide +kernel)
theorem wd_438 : Cond.selects RX5 yX5_valuesOfPeople yX5_valuesOfPeople ∈ zz_all := zz_in 438 (by decide +kernel) (by decide +kernel)
theorem wd_439 : Cond.code yX5_valuesOfPeople cX5_valuesOfPeople 3 (some .int) ∈ zz_all := zz_in 439 (by decide +kernel) (by decide +kernel)
theorem wd_440 : Cond.methodLink RX5 87 yX5_valueOf ∈ zz_all := zz_in 440 (by decide +kernel) (by decide +kernel)
theorem wd_441 : Cond.methodLink RL 18 yL_cell ∈ zz_all := zz_in 441 (by decide +kernel) (by decide +kernel)
theorem wd_442 : Cond.static yL_cell ∈ zz_all := zz_in 442 (by decide +kernel) (by decide +kernel)
theorem wd_443 : Cond.code yL_cell cL_cell 2 (some .int) ∈ zz_all := zz_in 443 (by decide +kernel) (by decide +kernel)
theorem wd_444 : Cond.methodLink RL 24 yL_pick ∈ zz_all := zz_in 444 (by decide +kernel) (by decide +kernel)
theorem wd_445 : Cond.static yL_pick ∈ zz_all := zz_in 445 (by decide +kernel) (by decide +kernel)
theorem wd_446 : Cond.code yL_pick cL_pick 2 (some .int) ∈ zz_all := zz_in 446 (by decide +kernel) (by decide +kernel)
theorem wd_447 : Cond.constant RL 7 (2147483647 : Int32) ∈ zz_all := zz_in 447 (by decide +kernel) (by decide +kernel)
theorem wd_448 : Cond.methodLink RL 63 yL_guard ∈ zz_all := zz_in 448 (by decide +kernel) (by decide +kernel)
theorem wd_449 : Cond.static yL_guard ∈ zz_all := zz_in 449 (by decide +kernel) (by decide +kernel)
theorem wd_450 : Cond.code yL_guard cL_guard 7 none ∈ zz_all := zz_in 450 (by decide +kernel) (by decide +kernel)
theorem wd_451 : Cond.methodLink RL 28 yX6_tells ∈ zz_all := zz_in 451 (by decide +kernel) (by decide +kernel)
theorem wd_452 : Cond.instanceMethod yX6_tells ∈ zz_all := zz_in 452 (by decide +kernel) (by decide +kernel)
theorem wd_453 : Cond.selects RX6 yX6_tells yX6_tells ∈ zz_all := zz_in 453 (by decide +kernel) (by decide +kernel)
theorem wd_454 : Cond.code yX6_tells cX6_tells 5 (some .int) ∈ zz_all := zz_in 454 (by decide +kernel) (by decide +kernel)
theorem wd_455 : Cond.methodLink RX6 116 yX6_misfitOfValue ∈ zz_all := zz_in 455 (by decide +kernel) (by decide +kernel)
theorem wd_456 : Cond.static yX6_misfitOfValue ∈ zz_all := zz_in 456 (by decide +kernel) (by decide +kernel)
theorem wd_457 : Cond.code yX6_misfitOfValue cX6_misfitOfValue 2 (some .int) ∈ zz_all := zz_in 457 (by decide +kernel) (by decide +kernel)
theorem wd_458 : Cond.methodLink RX6 125 yX6_misfit ∈ zz_all := zz_in 458 (by decide +kernel) (by decide +kernel)
theorem wd_459 : Cond.static yX6_misfit ∈ zz_all := zz_in 459 (by decide +kernel) (by decide +kernel)
theorem wd_460 : Cond.code yX6_misfit cX6_misfit 3 (some .int) ∈ zz_all := zz_in 460 (by decide +kernel) (by decide +kernel)
theorem wd_461 : Cond.methodLink RX6 119 yX5_takeTold ∈ zz_all := zz_in 461 (by decide +kernel) (by decide +kernel)
theorem wd_462 : Cond.instanceMethod yX5_takeTold ∈ zz_all := zz_in 462 (by decide +kernel) (by decide +kernel)
theorem wd_463 : Cond.selects RX5 yX5_takeTold yX5_takeTold ∈ zz_all := zz_in 463 (by decide +kernel) (by decide +kernel)
theorem wd_464 : Cond.code yX5_takeTold cX5_takeTold 4 (some .boolean) ∈ zz_all := zz_in 464 (by decide +kernel) (by decide +kernel)
theorem wd_465 : Cond.methodLink RX5 99 yX5_variableOf ∈ zz_all := zz_in 465 (by decide +kernel) (by decide +kernel)
theorem wd_466 : Cond.methodLink RX5 102 yX5_set ∈ zz_all := zz_in 466 (by decide +kernel) (by decide +kernel)
theorem wd_468 : Cond.instanceMethod yX5_set ∈ zz_all := zz_in 468 (by decide +kernel) (by decide +kernel)
theorem wd_469 : Cond.code yX5_set cX5_set 3 none ∈ zz_all := zz_in 469 (by decide +kernel) (by decide +kernel)
theorem wd_470 : Cond.methodLink RL 31 yX6_limit ∈ zz_all := zz_in 470 (by decide +kernel) (by decide +kernel)
theorem wd_471 : Cond.instanceMethod yX6_limit ∈ zz_all := zz_in 471 (by decide +kernel) (by decide +kernel)
theorem wd_472 : Cond.selects RX6 yX6_limit yX6_limit ∈ zz_all := zz_in 472 (by decide +kernel) (by decide +kernel)
theorem wd_473 : Cond.code yX6_limit cX6_limit 4 (some .int) ∈ zz_all := zz_in 473 (by decide +kernel) (by decide +kernel)
theorem wd_474 : Cond.methodLink RX6 143 yX5_takeLimit ∈ zz_all := zz_in 474 (by decide +kernel) (by decide +kernel)
theorem wd_475 : Cond.instanceMethod yX5_takeLimit ∈ zz_all := zz_in 475 (by decide +kernel) (by decide +kernel)
theorem wd_476 : Cond.selects RX5 yX5_takeLimit yX5_takeLimit ∈ zz_all := zz_in 476 (by decide +kernel) (by decide +kernel)
theorem wd_477 : Cond.code yX5_takeLimit cX5_takeLimit 2 (some .boolean) ∈ zz_all := zz_in 477 (by decide +kernel) (by decide +kernel)
theorem wd_478 : Cond.methodLink RL 41 yX6_changes ∈ zz_all := zz_in 478 (by decide +kernel) (by decide +kernel)
theorem wd_479 : Cond.instanceMethod yX6_changes ∈ zz_all := zz_in 479 (by decide +kernel) (by decide +kernel)
theorem wd_480 : Cond.selects RX6 yX6_changes yX6_changes ∈ zz_all := zz_in 480 (by decide +kernel) (by decide +kernel)
theorem wd_481 : Cond.code yX6_changes cX6_changes 4 (some .int) ∈ zz_all := zz_in 481 (by decide +kernel) (by decide +kernel)
theorem wd_482 : Cond.methodLink RX6 122 yX5_takeChange ∈ zz_all := zz_in 482 (by decide +kernel) (by decide +kernel)
theorem wd_483 : Cond.instanceMethod yX5_takeChange ∈ zz_all := zz_in 483 (by decide +kernel) (by decide +kernel)
theorem wd_484 : Cond.selects RX5 yX5_takeChange yX5_takeChange ∈ zz_all := zz_in 484 (by decide +kernel) (by decide +kernel)
theorem wd_485 : Cond.code yX5_takeChange cX5_takeChange 3 (some .boolean) ∈ zz_all := zz_in 485 (by decide +kernel) (by decide +kernel)
theorem wd_486 : Cond.methodLink RL 44 yL_bound ∈ zz_all := zz_in 486 (by decide +kernel) (by decide +kernel)
theorem wd_487 : Cond.static yL_bound ∈ zz_all := zz_in 487 (by decide +kernel) (by decide +kernel)
theorem wd_488 : Cond.code yL_bound cL_bound 5 none ∈ zz_all := zz_in 488 (by decide +kernel) (by decide +kernel)
theorem wd_489 : Cond.methodLink RL 51 yJ9_max_7cf53 ∈ zz_all := zz_in 489 (by decide +kernel) (by decide +kernel)
theorem wd_490 : Cond.static yJ9_max_7cf53 ∈ zz_all := zz_in 490 (by decide +kernel) (by decide +kernel)
theorem wd_491 : Cond.code yJ9_max_7cf53 cJ9_max_7cf53 2 (some .int) ∈ zz_all := zz_in 491 (by decide +kernel) (by decide +kernel)
theorem wd_492 : Cond.methodLink RL 56 yJ9_min_7cf53 ∈ zz_all := zz_in 492 (by decide +kernel) (by decide +kernel)
theorem wd_493 : Cond.methodLink RL 59 yX6_bounds ∈ zz_all := zz_in 493 (by decide +kernel) (by decide +kernel)
theorem wd_494 : Cond.instanceMethod yX6_bounds ∈ zz_all := zz_in 494 (by decide +kernel) (by decide +kernel)
theorem wd_495 : Cond.selects RX6 yX6_bounds yX6_bounds ∈ zz_all := zz_in 495 (by decide +kernel) (by decide +kernel)
theorem wd_496 : Cond.code yX6_bounds cX6_bounds 4 (some .int) ∈ zz_all := zz_in 496 (by decide +kernel) (by decide +kernel)
theorem wd_497 : Cond.methodLink RX6 129 yX5_takeBounds ∈ zz_all := zz_in 497 (by decide +kernel) (by decide +kernel)
theorem wd_498 : Cond.instanceMethod yX5_takeBounds ∈ zz_all := zz_in 498 (by decide +kernel) (by decide +kernel)
theorem wd_499 : Cond.selects RX5 yX5_takeBounds yX5_takeBounds ∈ zz_all := zz_in 499 (by decide +kernel) (by decide +kernel)
theorem wd_500 : Cond.code yX5_takeBounds cX5_takeBounds 4 (some .boolean) ∈ zz_all := zz_in 500 (by decide +kernel) (by decide +kernel)
theorem wd_501 : Cond.methodLink RL 88 yJ6_bitCount_0f7a4 ∈ zz_all := zz_in 501 (by decide +kernel) (by decide +kernel)
theorem wd_502 : Cond.static yJ6_bitCount_0f7a4 ∈ zz_all := zz_in 502 (by decide +kernel) (by decide +kernel)
theorem wd_503 : Cond.code yJ6_bitCount_0f7a4 cJ6_bitCount_0f7a4 1 (some .int) ∈ zz_all := zz_in 503 (by decide +kernel) (by decide +kernel)
theorem wd_504 : Cond.constant RJ6 265 (1431655765 : Int32) ∈ zz_all := zz_in 504 (by decide +kernel) (by decide +kernel)
theorem wd_505 : Cond.constant RJ6 266 (858993459 : Int32) ∈ zz_all := zz_in 505 (by decide +kernel) (by decide +kernel)
theorem wd_506 : Cond.constant RJ6 267 (252645135 : Int32) ∈ zz_all := zz_in 506 (by decide +kernel) (by decide +kernel)
theorem wd_507 : Cond.constant RL 78 (1000000005 : Int32) ∈ zz_all := zz_in 507 (by decide +kernel) (by decide +kernel)
end
section
theorem dX0_init_0 : decode cX0_init 0 = .ok (.aload_n 0, 1) := by decide +kernel
theorem dX0_init_1 : decode cX0_init 1 = .ok (.invokespecial 3, 3) := by decide +kernel
theorem dX0_init_4 : decode cX0_init 4 = .ok (.aload_n 0, 1) := by decide +kernel
theorem dX0_init_5 : decode cX0_init 5 = .ok (.bipush 10, 2) := by decide +kernel
theorem dX0_init_7 : decode cX0_init 7 = .ok (.newarray .int, 2) := by decide +kernel
theorem dX0_init_9 : decode cX0_init 9 = .ok (.putfield 9, 3) := by decide +kernel
theorem dX0_init_12 : decode cX0_init 12 = .ok (.aload_n 0, 1) := by decide +kernel
theorem dX0_init_13 : decode cX0_init 13 = .ok (.bipush 10, 2) := by decide +kernel
theorem dX0_init_15 : decode cX0_init 15 = .ok (.newarray .int, 2) := by decide +kernel
theorem dX0_init_17 : decode cX0_init 17 = .ok (.putfield 15, 3) := by decide +kernel
theorem dX0_init_20 : decode cX0_init 20 = .ok (.return_, 1) := by decide +kernel
theorem dX0_narrow_0 : decode cX0_narrow 0 = .ok (.aload_n 0, 1) := by decide +kernel
theorem dX0_narrow_1 : decode cX0_narrow 1 = .ok (.aload_n 1, 1) := by decide +kernel
theorem dX0_narrow_2 : decode cX0_narrow 2 = .ok (.getfield 18, 3) := by decide +kernel
theorem dX0_narrow_5 : decode cX0_narrow 5 = .ok (.bipush 10, 2) := by decide +kernel
theorem dX0_narrow_7 : decode cX0_narrow 7 = .ok (.invokestatic 24, 3) := by decide +kernel
theorem dX0_narrow_10 : decode cX0_narrow 10 = .ok (.putfield 30, 3) := by decide +kernel
theorem dX0_narrow_13 : decode cX0_narrow 13 = .ok (.iconst 0, 1) := by decide +kernel
theorem dX0_narrow_14 : decode cX0_narrow 14 = .ok (.istore_n 2, 1) := by decide +kernel
theorem dX0_narrow_15 : decode cX0_narrow 15 = .ok (.iload_n 2, 1) := by decide +kernel
theorem dX0_narrow_16 : decode cX0_narrow 16 = .ok (.aload_n 0, 1) := by decide +kernel
theorem dX0_narrow_17 : decode cX0_narrow 17 = .ok (.getfield 30, 3) := by decide +kernel
theorem dX0_narrow_20 : decode cX0_narrow 20 = .ok (.if_icmp .ge 31, 3) := by decide +kernel
theorem dX0_narrow_23 : decode cX0_narrow 23 = .ok (.aload_n 0, 1) := by decide +kernel
theorem dX0_narrow_24 : decode cX0_narrow 24 = .ok (.getfield 9, 3) := by decide +kernel
theorem dX0_narrow_27 : decode cX0_narrow 27 = .ok (.iload_n 2, 1) := by decide +kernel
theorem dX0_narrow_28 : decode cX0_narrow 28 = .ok (.aload_n 1, 1) := by decide +kernel
theorem dX0_narrow_29 : decode cX0_narrow 29 = .ok (.iload_n 2, 1) := by decide +kernel
theorem dX0_narrow_30 : decode cX0_narrow 30 = .ok (.invokevirtual 31, 3) := by decide +kernel
theorem dX0_narrow_33 : decode cX0_narrow 33 = .ok (.iastore, 1) := by decide +kernel
theorem dX0_narrow_34 : decode cX0_narrow 34 = .ok (.aload_n 0, 1) := by decide +kernel
theorem dX0_narrow_35 : decode cX0_narrow 35 = .ok (.getfield 15, 3) := by decide +kernel
theorem dX0_narrow_38 : decode cX0_narrow 38 = .ok (.iload_n 2, 1) := by decide +kernel
theorem dX0_narrow_39 : decode cX0_narrow 39 = .ok (.aload_n 1, 1) := by decide +kernel
theorem dX0_narrow_40 : decode cX0_narrow 40 = .ok (.iload_n 2, 1) := by decide +kernel
theorem dX0_narrow_41 : decode cX0_narrow 41 = .ok (.invokevirtual 35, 3) := by decide +kernel
theorem dX0_narrow_44 : decode cX0_narrow 44 = .ok (.iastore, 1) := by decide +kernel
theorem dX0_narrow_45 : decode cX0_narrow 45 = .ok (.iinc 2 1, 3) := by decide +kernel
theorem dX0_narrow_48 : decode cX0_narrow 48 = .ok (.goto (-33), 3) := by decide +kernel
theorem dX0_narrow_51 : decode cX0_narrow 51 = .ok (.iconst 1, 1) := by decide +kernel
theorem dX0_narrow_52 : decode cX0_narrow 52 = .ok (.istore_n 2, 1) := by decide +kernel
theorem dX0_narrow_53 : decode cX0_narrow 53 = .ok (.iconst 0, 1) := by decide +kernel
theorem dX0_narrow_54 : decode cX0_narrow 54 = .ok (.istore_n 3, 1) := by decide +kernel
theorem dX0_narrow_55 : decode cX0_narrow 55 = .ok (.iload_n 3, 1) := by decide +kernel
theorem dX0_narrow_56 : decode cX0_narrow 56 = .ok (.bipush 60, 2) := by decide +kernel
theorem dX0_narrow_58 : decode cX0_narrow 58 = .ok (.if_icmp .ge 45, 3) := by decide +kernel
theorem dX0_narrow_61 : decode cX0_narrow 61 = .ok (.iload_n 2, 1) := by decide +kernel
theorem dX0_narrow_62 : decode cX0_narrow 62 = .ok (.ifCond .eq 41, 3) := by decide +kernel
theorem dX0_narrow_65 : decode cX0_narrow 65 = .ok (.iconst 0, 1) := by decide +kernel
theorem dX0_narrow_66 : decode cX0_narrow 66 = .ok (.istore_n 2, 1) := by decide +kernel
theorem dX0_narrow_67 : decode cX0_narrow 67 = .ok (.iconst 0, 1) := by decide +kernel
theorem dX0_narrow_68 : decode cX0_narrow 68 = .ok (.istore 4, 2) := by decide +kernel
theorem dX0_narrow_70 : decode cX0_narrow 70 = .ok (.iload 4, 2) := by decide +kernel
theorem dX0_narrow_72 : decode cX0_narrow 72 = .ok (.aload_n 1, 1) := by decide +kernel
theorem dX0_narrow_73 : decode cX0_narrow 73 = .ok (.getfield 38, 3) := by decide +kernel
theorem dX0_narrow_76 : decode cX0_narrow 76 = .ok (.if_icmp .ge 21, 3) := by decide +kernel
theorem dX0_narrow_79 : decode cX0_narrow 79 = .ok (.aload_n 0, 1) := by decide +kernel
theorem dX0_narrow_80 : decode cX0_narrow 80 = .ok (.aload_n 1, 1) := by decide +kernel
theorem dX0_narrow_81 : decode cX0_narrow 81 = .ok (.iload 4, 2) := by decide +kernel
theorem dX0_narrow_83 : decode cX0_narrow 83 = .ok (.invokevirtual 41, 3) := by decide +kernel
theorem dX0_narrow_86 : decode cX0_narrow 86 = .ok (.ifCond .eq 5, 3) := by decide +kernel
theorem dX0_narrow_89 : decode cX0_narrow 89 = .ok (.iconst 1, 1) := by decide +kernel
theorem dX0_narrow_90 : decode cX0_narrow 90 = .ok (.istore_n 2, 1) := by decide +kernel
theorem dX0_narrow_91 : decode cX0_narrow 91 = .ok (.iinc 4 1, 3) := by decide +kernel
theorem dX0_narrow_94 : decode cX0_narrow 94 = .ok (.goto (-24), 3) := by decide +kernel
theorem dX0_narrow_97 : decode cX0_narrow 97 = .ok (.iinc 3 1, 3) := by decide +kernel
theorem dX0_narrow_100 : decode cX0_narrow 100 = .ok (.goto (-45), 3) := by decide +kernel
theorem dX0_narrow_103 : decode cX0_narrow 103 = .ok (.return_, 1) := by decide +kernel
theorem dX0_narrowByRow_0 : decode cX0_narrowByRow 0 = .ok (.iconst 0, 1) := by decide +kernel
theorem dX0_narrowByRow_1 : decode cX0_narrowByRow 1 = .ok (.istore_n 3, 1) := by decide +kernel
theorem dX0_narrowByRow_2 : decode cX0_narrowByRow 2 = .ok (.iconst 0, 1) := by decide +kernel
theorem dX0_narrowByRow_3 : decode cX0_narrowByRow 3 = .ok (.istore 4, 2) := by decide +kernel
theorem dX0_narrowByRow_5 : decode cX0_narrowByRow 5 = .ok (.iconst 0, 1) := by decide +kernel
theorem dX0_narrowByRow_6 : decode cX0_narrowByRow 6 = .ok (.istore 5, 2) := by decide +kernel
theorem dX0_narrowByRow_8 : decode cX0_narrowByRow 8 = .ok (.iload 5, 2) := by decide +kernel
theorem dX0_narrowByRow_10 : decode cX0_narrowByRow 10 = .ok (.aload_n 0, 1) := by decide +kernel
theorem dX0_narrowByRow_11 : decode cX0_narrowByRow 11 = .ok (.getfield 30, 3) := by decide +kernel
theorem dX0_narrowByRow_14 : decode cX0_narrowByRow 14 = .ok (.if_icmp .ge 42, 3) := by decide +kernel
theorem dX0_narrowByRow_17 : decode cX0_narrowByRow 17 = .ok (.aload_n 1, 1) := by decide +kernel
theorem dX0_narrowByRow_18 : decode cX0_narrowByRow 18 = .ok (.iload_n 2, 1) := by decide +kernel
theorem dX0_narrowByRow_19 : decode cX0_narrowByRow 19 = .ok (.iload 5, 2) := by decide +kernel
theorem dX0_narrowByRow_21 : decode cX0_narrowByRow 21 = .ok (.invokevirtual 45, 3) := by decide +kernel
theorem dX0_narrowByRow_24 : decode cX0_narrowByRow 24 = .ok (.istore 6, 2) := by decide +kernel
theorem dX0_narrowByRow_26 : decode cX0_narrowByRow 26 = .ok (.iload_n 3, 1) := by decide +kernel
theorem dX0_narrowByRow_27 : decode cX0_narrowByRow 27 = .ok (.aload_n 0, 1) := by decide +kernel
theorem dX0_narrowByRow_28 : decode cX0_narrowByRow 28 = .ok (.iload 6, 2) := by decide +kernel
theorem dX0_narrowByRow_30 : decode cX0_narrowByRow 30 = .ok (.iload 5, 2) := by decide +kernel
theorem dX0_narrowByRow_32 : decode cX0_narrowByRow 32 = .ok (.invokevirtual 48, 3) := by decide +kernel
theorem dX0_narrowByRow_35 : decode cX0_narrowByRow 35 = .ok (.iadd, 1) := by decide +kernel
theorem dX0_narrowByRow_36 : decode cX0_narrowByRow 36 = .ok (.istore_n 3, 1) := by decide +kernel
theorem dX0_narrowByRow_37 : decode cX0_narrowByRow 37 = .ok (.iload 4, 2) := by decide +kernel
theorem dX0_narrowByRow_39 : decode cX0_narrowByRow 39 = .ok (.aload_n 0, 1) := by decide +kernel
theorem dX0_narrowByRow_40 : decode cX0_narrowByRow 40 = .ok (.iload 6, 2) := by decide +kernel
theorem dX0_narrowByRow_42 : decode cX0_narrowByRow 42 = .ok (.iload 5, 2) := by decide +kernel
theorem dX0_narrowByRow_44 : decode cX0_narrowByRow 44 = .ok (.invokevirtual 51, 3) := by decide +kernel
theorem dX0_narrowByRow_47 : decode cX0_narrowByRow 47 = .ok (.iadd, 1) := by decide +kernel
theorem dX0_narrowByRow_48 : decode cX0_narrowByRow 48 = .ok (.istore 4, 2) := by decide +kernel
theorem dX0_narrowByRow_50 : decode cX0_narrowByRow 50 = .ok (.iinc 5 1, 3) := by decide +kernel
theorem dX0_narrowByRow_53 : decode cX0_narrowByRow 53 = .ok (.goto (-45), 3) := by decide +kernel
theorem dX0_narrowByRow_56 : decode cX0_narrowByRow 56 = .ok (.aload_n 1, 1) := by decide +kernel
theorem dX0_narrowByRow_57 : decode cX0_narrowByRow 57 = .ok (.iload_n 2, 1) := by decide +kernel
theorem dX0_narrowByRow_58 : decode cX0_narrowByRow 58 = .ok (.invokevirtual 54, 3) := by decide +kernel
theorem dX0_narrowByRow_61 : decode cX0_narrowByRow 61 = .ok (.istore 5, 2) := by decide +kernel
theorem dX0_narrowByRow_63 : decode cX0_narrowByRow 63 = .ok (.iconst 0, 1) := by decide +kernel
theorem dX0_narrowByRow_64 : decode cX0_narrowByRow 64 = .ok (.istore 6, 2) := by decide +kernel
theorem dX0_narrowByRow_66 : decode cX0_narrowByRow 66 = .ok (.iconst 0, 1) := by decide +kernel
theorem dX0_narrowByRow_67 : decode cX0_narrowByRow 67 = .ok (.istore 7, 2) := by decide +kernel
theorem dX0_narrowByRow_69 : decode cX0_narrowByRow 69 = .ok (.iload 7, 2) := by decide +kernel
theorem dX0_narrowByRow_71 : decode cX0_narrowByRow 71 = .ok (.aload_n 0, 1) := by decide +kernel
theorem dX0_narrowByRow_72 : decode cX0_narrowByRow 72 = .ok (.getfield 30, 3) := by decide +kernel
theorem dX0_narrowByRow_75 : decode cX0_narrowByRow 75 = .ok (.if_icmp .ge 100, 3) := by decide +kernel
theorem dX0_narrowByRow_78 : decode cX0_narrowByRow 78 = .ok (.aload_n 1, 1) := by decide +kernel
theorem dX0_narrowByRow_79 : decode cX0_narrowByRow 79 = .ok (.iload_n 2, 1) := by decide +kernel
theorem dX0_narrowByRow_80 : decode cX0_narrowByRow 80 = .ok (.iload 7, 2) := by decide +kernel
theorem dX0_narrowByRow_82 : decode cX0_narrowByRow 82 = .ok (.invokevirtual 45, 3) := by decide +kernel
theorem dX0_narrowByRow_85 : decode cX0_narrowByRow 85 = .ok (.istore 8, 2) := by decide +kernel
theorem dX0_narrowByRow_87 : decode cX0_narrowByRow 87 = .ok (.iload 8, 2) := by decide +kernel
theorem dX0_narrowByRow_89 : decode cX0_narrowByRow 89 = .ok (.ifCond .ne 6, 3) := by decide +kernel
theorem dX0_narrowByRow_92 : decode cX0_narrowByRow 92 = .ok (.goto 77, 3) := by decide +kernel
theorem dX0_narrowByRow_95 : decode cX0_narrowByRow 95 = .ok (.iload_n 3, 1) := by decide +kernel
theorem dX0_narrowByRow_96 : decode cX0_narrowByRow 96 = .ok (.aload_n 0, 1) := by decide +kernel
theorem dX0_narrowByRow_97 : decode cX0_narrowByRow 97 = .ok (.iload 8, 2) := by decide +kernel
theorem dX0_narrowByRow_99 : decode cX0_narrowByRow 99 = .ok (.iload 7, 2) := by decide +kernel
theorem dX0_narrowByRow_101 : decode cX0_narrowByRow 101 = .ok (.invokevirtual 48, 3) := by decide +kernel
theorem dX0_narrowByRow_104 : decode cX0_narrowByRow 104 = .ok (.isub, 1) := by decide +kernel
theorem dX0_narrowByRow_105 : decode cX0_narrowByRow 105 = .ok (.istore 9, 2) := by decide +kernel
theorem dX0_narrowByRow_107 : decode cX0_narrowByRow 107 = .ok (.iload 4, 2) := by decide +kernel
theorem dX0_narrowByRow_109 : decode cX0_narrowByRow 109 = .ok (.aload_n 0, 1) := by decide +kernel
theorem dX0_narrowByRow_110 : decode cX0_narrowByRow 110 = .ok (.iload 8, 2) := by decide +kernel
theorem dX0_narrowByRow_112 : decode cX0_narrowByRow 112 = .ok (.iload 7, 2) := by decide +kernel
theorem dX0_narrowByRow_114 : decode cX0_narrowByRow 114 = .ok (.invokevirtual 51, 3) := by decide +kernel
theorem dX0_narrowByRow_117 : decode cX0_narrowByRow 117 = .ok (.isub, 1) := by decide +kernel
theorem dX0_narrowByRow_118 : decode cX0_narrowByRow 118 = .ok (.istore 10, 2) := by decide +kernel
theorem dX0_narrowByRow_120 : decode cX0_narrowByRow 120 = .ok (.aload_n 0, 1) := by decide +kernel
theorem dX0_narrowByRow_121 : decode cX0_narrowByRow 121 = .ok (.iload 7, 2) := by decide +kernel
theorem dX0_narrowByRow_123 : decode cX0_narrowByRow 123 = .ok (.iload 8, 2) := by decide +kernel
theorem dX0_narrowByRow_125 : decode cX0_narrowByRow 125 = .ok (.iload 5, 2) := by decide +kernel
theorem dX0_narrowByRow_127 : decode cX0_narrowByRow 127 = .ok (.iload 10, 2) := by decide +kernel
theorem dX0_narrowByRow_129 : decode cX0_narrowByRow 129 = .ok (.isub, 1) := by decide +kernel
theorem dX0_narrowByRow_130 : decode cX0_narrowByRow 130 = .ok (.iload 5, 2) := by decide +kernel
theorem dX0_narrowByRow_132 : decode cX0_narrowByRow 132 = .ok (.iload 9, 2) := by decide +kernel
theorem dX0_narrowByRow_134 : decode cX0_narrowByRow 134 = .ok (.isub, 1) := by decide +kernel
theorem dX0_narrowByRow_135 : decode cX0_narrowByRow 135 = .ok (.invokevirtual 57, 3) := by decide +kernel
theorem dX0_narrowByRow_138 : decode cX0_narrowByRow 138 = .ok (.ifCond .eq 6, 3) := by decide +kernel
theorem dX0_narrowByRow_141 : decode cX0_narrowByRow 141 = .ok (.iconst 1, 1) := by decide +kernel
theorem dX0_narrowByRow_142 : decode cX0_narrowByRow 142 = .ok (.istore 6, 2) := by decide +kernel
theorem dX0_narrowByRow_144 : decode cX0_narrowByRow 144 = .ok (.iload 9, 2) := by decide +kernel
theorem dX0_narrowByRow_146 : decode cX0_narrowByRow 146 = .ok (.aload_n 0, 1) := by decide +kernel
theorem dX0_narrowByRow_147 : decode cX0_narrowByRow 147 = .ok (.iload 8, 2) := by decide +kernel
theorem dX0_narrowByRow_149 : decode cX0_narrowByRow 149 = .ok (.iload 7, 2) := by decide +kernel
theorem dX0_narrowByRow_151 : decode cX0_narrowByRow 151 = .ok (.invokevirtual 48, 3) := by decide +kernel
theorem dX0_narrowByRow_154 : decode cX0_narrowByRow 154 = .ok (.iadd, 1) := by decide +kernel
theorem dX0_narrowByRow_155 : decode cX0_narrowByRow 155 = .ok (.istore_n 3, 1) := by decide +kernel
theorem dX0_narrowByRow_156 : decode cX0_narrowByRow 156 = .ok (.iload 10, 2) := by decide +kernel
theorem dX0_narrowByRow_158 : decode cX0_narrowByRow 158 = .ok (.aload_n 0, 1) := by decide +kernel
theorem dX0_narrowByRow_159 : decode cX0_narrowByRow 159 = .ok (.iload 8, 2) := by decide +kernel
theorem dX0_narrowByRow_161 : decode cX0_narrowByRow 161 = .ok (.iload 7, 2) := by decide +kernel
theorem dX0_narrowByRow_163 : decode cX0_narrowByRow 163 = .ok (.invokevirtual 51, 3) := by decide +kernel
theorem dX0_narrowByRow_166 : decode cX0_narrowByRow 166 = .ok (.iadd, 1) := by decide +kernel
theorem dX0_narrowByRow_167 : decode cX0_narrowByRow 167 = .ok (.istore 4, 2) := by decide +kernel
theorem dX0_narrowByRow_169 : decode cX0_narrowByRow 169 = .ok (.iinc 7 1, 3) := by decide +kernel
theorem dX0_narrowByRow_172 : decode cX0_narrowByRow 172 = .ok (.goto (-103), 3) := by decide +kernel
theorem dX0_narrowByRow_175 : decode cX0_narrowByRow 175 = .ok (.iload 6, 2) := by decide +kernel
theorem dX0_narrowByRow_177 : decode cX0_narrowByRow 177 = .ok (.ireturn, 1) := by decide +kernel
theorem dX0_narrowOne_0 : decode cX0_narrowOne 0 = .ok (.iload_n 1, 1) := by decide +kernel
theorem dX0_narrowOne_1 : decode cX0_narrowOne 1 = .ok (.bipush 10, 2) := by decide +kernel
theorem dX0_narrowOne_3 : decode cX0_narrowOne 3 = .ok (.invokestatic 61, 3) := by decide +kernel
theorem dX0_narrowOne_6 : decode cX0_narrowOne 6 = .ok (.ifCond .eq 7, 3) := by decide +kernel
theorem dX0_narrowOne_9 : decode cX0_narrowOne 9 = .ok (.iload_n 2, 1) := by decide +kernel
theorem dX0_narrowOne_10 : decode cX0_narrowOne 10 = .ok (.ifCond .ne 5, 3) := by decide +kernel
theorem dX0_narrowOne_13 : decode cX0_narrowOne 13 = .ok (.iconst 0, 1) := by decide +kernel
theorem dX0_narrowOne_14 : decode cX0_narrowOne 14 = .ok (.ireturn, 1) := by decide +kernel
theorem dX0_narrowOne_15 : decode cX0_narrowOne 15 = .ok (.iload_n 2, 1) := by decide +kernel
theorem dX0_narrowOne_16 : decode cX0_narrowOne 16 = .ok (.ifCond .le 8, 3) := by decide +kernel
theorem dX0_narrowOne_19 : decode cX0_narrowOne 19 = .ok (.iload_n 3, 1) := by decide +kernel
theorem dX0_narrowOne_20 : decode cX0_narrowOne 20 = .ok (.ineg, 1) := by decide +kernel
theorem dX0_narrowOne_21 : decode cX0_narrowOne 21 = .ok (.goto 6, 3) := by decide +kernel
theorem dX0_narrowOne_24 : decode cX0_narrowOne 24 = .ok (.iload 4, 2) := by decide +kernel
theorem dX0_narrowOne_26 : decode cX0_narrowOne 26 = .ok (.ineg, 1) := by decide +kernel
theorem dX0_narrowOne_27 : decode cX0_narrowOne 27 = .ok (.iload_n 2, 1) := by decide +kernel
theorem dX0_narrowOne_28 : decode cX0_narrowOne 28 = .ok (.invokestatic 65, 3) := by decide +kernel
theorem dX0_narrowOne_31 : decode cX0_narrowOne 31 = .ok (.ineg, 1) := by decide +kernel
theorem dX0_narrowOne_32 : decode cX0_narrowOne 32 = .ok (.istore 5, 2) := by decide +kernel
theorem dX0_narrowOne_34 : decode cX0_narrowOne 34 = .ok (.iload_n 2, 1) := by decide +kernel
theorem dX0_narrowOne_35 : decode cX0_narrowOne 35 = .ok (.ifCond .le 8, 3) := by decide +kernel
theorem dX0_narrowOne_38 : decode cX0_narrowOne 38 = .ok (.iload 4, 2) := by decide +kernel
theorem dX0_narrowOne_40 : decode cX0_narrowOne 40 = .ok (.goto 4, 3) := by decide +kernel
theorem dX0_narrowOne_43 : decode cX0_narrowOne 43 = .ok (.iload_n 3, 1) := by decide +kernel
theorem dX0_narrowOne_44 : decode cX0_narrowOne 44 = .ok (.iload_n 2, 1) := by decide +kernel
theorem dX0_narrowOne_45 : decode cX0_narrowOne 45 = .ok (.invokestatic 65, 3) := by decide +kernel
theorem dX0_narrowOne_48 : decode cX0_narrowOne 48 = .ok (.istore 6, 2) := by decide +kernel
theorem dX0_narrowOne_50 : decode cX0_narrowOne 50 = .ok (.iconst 0, 1) := by decide +kernel
theorem dX0_narrowOne_51 : decode cX0_narrowOne 51 = .ok (.istore 7, 2) := by decide +kernel
theorem dX0_narrowOne_53 : decode cX0_narrowOne 53 = .ok (.iload 5, 2) := by decide +kernel
theorem dX0_narrowOne_55 : decode cX0_narrowOne 55 = .ok (.aload_n 0, 1) := by decide +kernel
theorem dX0_narrowOne_56 : decode cX0_narrowOne 56 = .ok (.getfield 9, 3) := by decide +kernel
theorem dX0_narrowOne_59 : decode cX0_narrowOne 59 = .ok (.iload_n 1, 1) := by decide +kernel
theorem dX0_narrowOne_60 : decode cX0_narrowOne 60 = .ok (.iaload, 1) := by decide +kernel
theorem dX0_narrowOne_61 : decode cX0_narrowOne 61 = .ok (.if_icmp .le 14, 3) := by decide +kernel
theorem dX0_narrowOne_64 : decode cX0_narrowOne 64 = .ok (.aload_n 0, 1) := by decide +kernel
theorem dX0_narrowOne_65 : decode cX0_narrowOne 65 = .ok (.getfield 9, 3) := by decide +kernel
theorem dX0_narrowOne_68 : decode cX0_narrowOne 68 = .ok (.iload_n 1, 1) := by decide +kernel
theorem dX0_narrowOne_69 : decode cX0_narrowOne 69 = .ok (.iload 5, 2) := by decide +kernel
theorem dX0_narrowOne_71 : decode cX0_narrowOne 71 = .ok (.iastore, 1) := by decide +kernel
theorem dX0_narrowOne_72 : decode cX0_narrowOne 72 = .ok (.iconst 1, 1) := by decide +kernel
theorem dX0_narrowOne_73 : decode cX0_narrowOne 73 = .ok (.istore 7, 2) := by decide +kernel
theorem dX0_narrowOne_75 : decode cX0_narrowOne 75 = .ok (.iload 6, 2) := by decide +kernel
theorem dX0_narrowOne_77 : decode cX0_narrowOne 77 = .ok (.aload_n 0, 1) := by decide +kernel
theorem dX0_narrowOne_78 : decode cX0_narrowOne 78 = .ok (.getfield 15, 3) := by decide +kernel
theorem dX0_narrowOne_81 : decode cX0_narrowOne 81 = .ok (.iload_n 1, 1) := by decide +kernel
theorem dX0_narrowOne_82 : decode cX0_narrowOne 82 = .ok (.iaload, 1) := by decide +kernel
theorem dX0_narrowOne_83 : decode cX0_narrowOne 83 = .ok (.if_icmp .ge 14, 3) := by decide +kernel
theorem dX0_narrowOne_86 : decode cX0_narrowOne 86 = .ok (.aload_n 0, 1) := by decide +kernel
theorem dX0_narrowOne_87 : decode cX0_narrowOne 87 = .ok (.getfield 15, 3) := by decide +kernel
theorem dX0_narrowOne_90 : decode cX0_narrowOne 90 = .ok (.iload_n 1, 1) := by decide +kernel
theorem dX0_narrowOne_91 : decode cX0_narrowOne 91 = .ok (.iload 6, 2) := by decide +kernel
theorem dX0_narrowOne_93 : decode cX0_narrowOne 93 = .ok (.iastore, 1) := by decide +kernel
theorem dX0_narrowOne_94 : decode cX0_narrowOne 94 = .ok (.iconst 1, 1) := by decide +kernel
theorem dX0_narrowOne_95 : decode cX0_narrowOne 95 = .ok (.istore 7, 2) := by decide +kernel
theorem dX0_narrowOne_97 : decode cX0_narrowOne 97 = .ok (.iload 7, 2) := by decide +kernel
theorem dX0_narrowOne_99 : decode cX0_narrowOne 99 = .ok (.ireturn, 1) := by decide +kernel
theorem dX0_lowEnd_0 : decode cX0_lowEnd 0 = .ok (.iload_n 1, 1) := by decide +kernel
theorem dX0_lowEnd_1 : decode cX0_lowEnd 1 = .ok (.iload_n 1, 1) := by decide +kernel
theorem dX0_lowEnd_2 : decode cX0_lowEnd 2 = .ok (.ifCond .le 11, 3) := by decide +kernel
theorem dX0_lowEnd_5 : decode cX0_lowEnd 5 = .ok (.aload_n 0, 1) := by decide +kernel
theorem dX0_lowEnd_6 : decode cX0_lowEnd 6 = .ok (.iload_n 2, 1) := by decide +kernel
theorem dX0_lowEnd_7 : decode cX0_lowEnd 7 = .ok (.invokevirtual 68, 3) := by decide +kernel
theorem dX0_lowEnd_10 : decode cX0_lowEnd 10 = .ok (.goto 8, 3) := by decide +kernel
theorem dX0_lowEnd_13 : decode cX0_lowEnd 13 = .ok (.aload_n 0, 1) := by decide +kernel
theorem dX0_lowEnd_14 : decode cX0_lowEnd 14 = .ok (.iload_n 2, 1) := by decide +kernel
theorem dX0_lowEnd_15 : decode cX0_lowEnd 15 = .ok (.invokevirtual 71, 3) := by decide +kernel
theorem dX0_lowEnd_18 : decode cX0_lowEnd 18 = .ok (.imul, 1) := by decide +kernel
theorem dX0_lowEnd_19 : decode cX0_lowEnd 19 = .ok (.ireturn, 1) := by decide +kernel
theorem dX0_highEnd_0 : decode cX0_highEnd 0 = .ok (.iload_n 1, 1) := by decide +kernel
theorem dX0_highEnd_1 : decode cX0_highEnd 1 = .ok (.iload_n 1, 1) := by decide +kernel
theorem dX0_highEnd_2 : decode cX0_highEnd 2 = .ok (.ifCond .le 11, 3) := by decide +kernel
theorem dX0_highEnd_5 : decode cX0_highEnd 5 = .ok (.aload_n 0, 1) := by decide +kernel
theorem dX0_highEnd_6 : decode cX0_highEnd 6 = .ok (.iload_n 2, 1) := by decide +kernel
theorem dX0_highEnd_7 : decode cX0_highEnd 7 = .ok (.invokevirtual 71, 3) := by decide +kernel
theorem dX0_highEnd_10 : decode cX0_highEnd 10 = .ok (.goto 8, 3) := by decide +kernel
theorem dX0_highEnd_13 : decode cX0_highEnd 13 = .ok (.aload_n 0, 1) := by decide +kernel
theorem dX0_highEnd_14 : decode cX0_highEnd 14 = .ok (.iload_n 2, 1) := by decide +kernel
theorem dX0_highEnd_15 : decode cX0_highEnd 15 = .ok (.invokevirtual 68, 3) := by decide +kernel
theorem dX0_highEnd_18 : decode cX0_highEnd 18 = .ok (.imul, 1) := by decide +kernel
theorem dX0_highEnd_19 : decode cX0_highEnd 19 = .ok (.ireturn, 1) := by decide +kernel
theorem dX0_leastOf_0 : decode cX0_leastOf 0 = .ok (.iload_n 1, 1) := by decide +kernel
theorem dX0_leastOf_1 : decode cX0_leastOf 1 = .ok (.bipush 10, 2) := by decide +kernel
theorem dX0_leastOf_3 : decode cX0_leastOf 3 = .ok (.invokestatic 61, 3) := by decide +kernel
theorem dX0_leastOf_6 : decode cX0_leastOf 6 = .ok (.ifCond .eq 12, 3) := by decide +kernel
theorem dX0_leastOf_9 : decode cX0_leastOf 9 = .ok (.aload_n 0, 1) := by decide +kernel
theorem dX0_leastOf_10 : decode cX0_leastOf 10 = .ok (.getfield 9, 3) := by decide +kernel
theorem dX0_leastOf_13 : decode cX0_leastOf 13 = .ok (.iload_n 1, 1) := by decide +kernel
theorem dX0_leastOf_14 : decode cX0_leastOf 14 = .ok (.iaload, 1) := by decide +kernel
theorem dX0_leastOf_15 : decode cX0_leastOf 15 = .ok (.goto 4, 3) := by decide +kernel
theorem dX0_leastOf_18 : decode cX0_leastOf 18 = .ok (.iconst 0, 1) := by decide +kernel
theorem dX0_leastOf_19 : decode cX0_leastOf 19 = .ok (.ireturn, 1) := by decide +kernel
theorem dX0_mostOf_0 : decode cX0_mostOf 0 = .ok (.iload_n 1, 1) := by decide +kernel
theorem dX0_mostOf_1 : decode cX0_mostOf 1 = .ok (.bipush 10, 2) := by decide +kernel
theorem dX0_mostOf_3 : decode cX0_mostOf 3 = .ok (.invokestatic 61, 3) := by decide +kernel
theorem dX0_mostOf_6 : decode cX0_mostOf 6 = .ok (.ifCond .eq 12, 3) := by decide +kernel
theorem dX0_mostOf_9 : decode cX0_mostOf 9 = .ok (.aload_n 0, 1) := by decide +kernel
theorem dX0_mostOf_10 : decode cX0_mostOf 10 = .ok (.getfield 15, 3) := by decide +kernel
theorem dX0_mostOf_13 : decode cX0_mostOf 13 = .ok (.iload_n 1, 1) := by decide +kernel
theorem dX0_mostOf_14 : decode cX0_mostOf 14 = .ok (.iaload, 1) := by decide +kernel
theorem dX0_mostOf_15 : decode cX0_mostOf 15 = .ok (.goto 4, 3) := by decide +kernel
theorem dX0_mostOf_18 : decode cX0_mostOf 18 = .ok (.iconst 0, 1) := by decide +kernel
theorem dX0_mostOf_19 : decode cX0_mostOf 19 = .ok (.ireturn, 1) := by decide +kernel
theorem dX0_widthOf_0 : decode cX0_widthOf 0 = .ok (.aload_n 0, 1) := by decide +kernel
theorem dX0_widthOf_1 : decode cX0_widthOf 1 = .ok (.iload_n 1, 1) := by decide +kernel
theorem dX0_widthOf_2 : decode cX0_widthOf 2 = .ok (.invokevirtual 71, 3) := by decide +kernel
theorem dX0_widthOf_5 : decode cX0_widthOf 5 = .ok (.aload_n 0, 1) := by decide +kernel
theorem dX0_widthOf_6 : decode cX0_widthOf 6 = .ok (.iload_n 1, 1) := by decide +kernel
theorem dX0_widthOf_7 : decode cX0_widthOf 7 = .ok (.invokevirtual 68, 3) := by decide +kernel
theorem dX0_widthOf_10 : decode cX0_widthOf 10 = .ok (.isub, 1) := by decide +kernel
theorem dX0_widthOf_11 : decode cX0_widthOf 11 = .ok (.iconst 1, 1) := by decide +kernel
theorem dX0_widthOf_12 : decode cX0_widthOf 12 = .ok (.iadd, 1) := by decide +kernel
theorem dX0_widthOf_13 : decode cX0_widthOf 13 = .ok (.ireturn, 1) := by decide +kernel
theorem dX1_init_0 : decode cX1_init 0 = .ok (.aload_n 0, 1) := by decide +kernel
theorem dX1_init_1 : decode cX1_init 1 = .ok (.invokespecial 3, 3) := by decide +kernel
theorem dX1_init_4 : decode cX1_init 4 = .ok (.aload_n 0, 1) := by decide +kernel
theorem dX1_init_5 : decode cX1_init 5 = .ok (.iload_n 1, 1) := by decide +kernel
theorem dX1_init_6 : decode cX1_init 6 = .ok (.ifCond .ge 7, 3) := by decide +kernel
theorem dX1_init_9 : decode cX1_init 9 = .ok (.iconst 0, 1) := by decide +kernel
theorem dX1_init_10 : decode cX1_init 10 = .ok (.goto 4, 3) := by decide +kernel
theorem dX1_init_13 : decode cX1_init 13 = .ok (.iload_n 1, 1) := by decide +kernel
theorem dX1_init_14 : decode cX1_init 14 = .ok (.newarray .int, 2) := by decide +kernel
theorem dX1_init_16 : decode cX1_init 16 = .ok (.putfield 9, 3) := by decide +kernel
theorem dX1_init_19 : decode cX1_init 19 = .ok (.return_, 1) := by decide +kernel
theorem dX2_init_0 : decode cX2_init 0 = .ok (.aload_n 0, 1) := by decide +kernel
theorem dX2_init_1 : decode cX2_init 1 = .ok (.invokespecial 3, 3) := by decide +kernel
theorem dX2_init_4 : decode cX2_init 4 = .ok (.aload_n 0, 1) := by decide +kernel
theorem dX2_init_5 : decode cX2_init 5 = .ok (.bipush 8, 2) := by decide +kernel
theorem dX2_init_7 : decode cX2_init 7 = .ok (.newarray .int, 2) := by decide +kernel
theorem dX2_init_9 : decode cX2_init 9 = .ok (.putfield 9, 3) := by decide +kernel
theorem dX2_init_12 : decode cX2_init 12 = .ok (.return_, 1) := by decide +kernel
theorem dX2_misfitOf_0 : decode cX2_misfitOf 0 = .ok (.iload_n 0, 1) := by decide +kernel
theorem dX2_misfitOf_1 : decode cX2_misfitOf 1 = .ok (.ifCond .eq 16, 3) := by decide +kernel
theorem dX2_misfitOf_4 : decode cX2_misfitOf 4 = .ok (.iload_n 0, 1) := by decide +kernel
theorem dX2_misfitOf_5 : decode cX2_misfitOf 5 = .ok (.iconst 1, 1) := by decide +kernel
theorem dX2_misfitOf_6 : decode cX2_misfitOf 6 = .ok (.if_icmp .eq 11, 3) := by decide +kernel
theorem dX2_misfitOf_9 : decode cX2_misfitOf 9 = .ok (.iload_n 0, 1) := by decide +kernel
theorem dX2_misfitOf_10 : decode cX2_misfitOf 10 = .ok (.iconst 2, 1) := by decide +kernel
theorem dX2_misfitOf_11 : decode cX2_misfitOf 11 = .ok (.if_icmp .eq 6, 3) := by decide +kernel
theorem dX2_misfitOf_14 : decode cX2_misfitOf 14 = .ok (.bipush (-2), 2) := by decide +kernel
theorem dX2_misfitOf_16 : decode cX2_misfitOf 16 = .ok (.ireturn, 1) := by decide +kernel
theorem dX2_misfitOf_17 : decode cX2_misfitOf 17 = .ok (.iload_n 0, 1) := by decide +kernel
theorem dX2_misfitOf_18 : decode cX2_misfitOf 18 = .ok (.ifCond .eq 7, 3) := by decide +kernel
theorem dX2_misfitOf_21 : decode cX2_misfitOf 21 = .ok (.iconst 1, 1) := by decide +kernel
theorem dX2_misfitOf_22 : decode cX2_misfitOf 22 = .ok (.goto 4, 3) := by decide +kernel
theorem dX2_misfitOf_25 : decode cX2_misfitOf 25 = .ok (.iconst 0, 1) := by decide +kernel
theorem dX2_misfitOf_26 : decode cX2_misfitOf 26 = .ok (.istore_n 3, 1) := by decide +kernel
theorem dX2_misfitOf_27 : decode cX2_misfitOf 27 = .ok (.iload_n 1, 1) := by decide +kernel
theorem dX2_misfitOf_28 : decode cX2_misfitOf 28 = .ok (.iconst 1, 1) := by decide +kernel
theorem dX2_misfitOf_29 : decode cX2_misfitOf 29 = .ok (.if_icmp .lt 12, 3) := by decide +kernel
theorem dX2_misfitOf_32 : decode cX2_misfitOf 32 = .ok (.iload_n 3, 1) := by decide +kernel
theorem dX2_misfitOf_33 : decode cX2_misfitOf 33 = .ok (.ifCond .eq 11, 3) := by decide +kernel
theorem dX2_misfitOf_36 : decode cX2_misfitOf 36 = .ok (.iload_n 2, 1) := by decide +kernel
theorem dX2_misfitOf_37 : decode cX2_misfitOf 37 = .ok (.iconst 1, 1) := by decide +kernel
theorem dX2_misfitOf_38 : decode cX2_misfitOf 38 = .ok (.if_icmp .ge 6, 3) := by decide +kernel
theorem dX2_misfitOf_41 : decode cX2_misfitOf 41 = .ok (.bipush (-4), 2) := by decide +kernel
theorem dX2_misfitOf_43 : decode cX2_misfitOf 43 = .ok (.ireturn, 1) := by decide +kernel
theorem dX2_misfitOf_44 : decode cX2_misfitOf 44 = .ok (.iload_n 0, 1) := by decide +kernel
theorem dX2_misfitOf_45 : decode cX2_misfitOf 45 = .ok (.iconst 2, 1) := by decide +kernel
theorem dX2_misfitOf_46 : decode cX2_misfitOf 46 = .ok (.if_icmp .ne 7, 3) := by decide +kernel
theorem dX2_misfitOf_49 : decode cX2_misfitOf 49 = .ok (.iconst 3, 1) := by decide +kernel
theorem dX2_misfitOf_50 : decode cX2_misfitOf 50 = .ok (.goto 6, 3) := by decide +kernel
theorem dX2_misfitOf_53 : decode cX2_misfitOf 53 = .ok (.sipush 255, 3) := by decide +kernel
theorem dX2_misfitOf_56 : decode cX2_misfitOf 56 = .ok (.istore 4, 2) := by decide +kernel
theorem dX2_misfitOf_58 : decode cX2_misfitOf 58 = .ok (.iload_n 1, 1) := by decide +kernel
theorem dX2_misfitOf_59 : decode cX2_misfitOf 59 = .ok (.sipush 255, 3) := by decide +kernel
theorem dX2_misfitOf_62 : decode cX2_misfitOf 62 = .ok (.if_icmp .gt 13, 3) := by decide +kernel
theorem dX2_misfitOf_65 : decode cX2_misfitOf 65 = .ok (.iload_n 3, 1) := by decide +kernel
theorem dX2_misfitOf_66 : decode cX2_misfitOf 66 = .ok (.ifCond .eq 12, 3) := by decide +kernel
theorem dX2_misfitOf_69 : decode cX2_misfitOf 69 = .ok (.iload_n 2, 1) := by decide +kernel
theorem dX2_misfitOf_70 : decode cX2_misfitOf 70 = .ok (.iload 4, 2) := by decide +kernel
theorem dX2_misfitOf_72 : decode cX2_misfitOf 72 = .ok (.if_icmp .le 6, 3) := by decide +kernel
theorem dX2_misfitOf_75 : decode cX2_misfitOf 75 = .ok (.bipush (-6), 2) := by decide +kernel
theorem dX2_misfitOf_77 : decode cX2_misfitOf 77 = .ok (.ireturn, 1) := by decide +kernel
theorem dX2_misfitOf_78 : decode cX2_misfitOf 78 = .ok (.iload_n 0, 1) := by decide +kernel
theorem dX2_misfitOf_79 : decode cX2_misfitOf 79 = .ok (.iconst 1, 1) := by decide +kernel
theorem dX2_misfitOf_80 : decode cX2_misfitOf 80 = .ok (.if_icmp .ne 14, 3) := by decide +kernel
theorem dX2_misfitOf_83 : decode cX2_misfitOf 83 = .ok (.iload_n 1, 1) := by decide +kernel
theorem dX2_misfitOf_84 : decode cX2_misfitOf 84 = .ok (.iload_n 2, 1) := by decide +kernel
theorem dX2_misfitOf_85 : decode cX2_misfitOf 85 = .ok (.iand, 1) := by decide +kernel
theorem dX2_misfitOf_86 : decode cX2_misfitOf 86 = .ok (.ifCond .eq 8, 3) := by decide +kernel
theorem dX2_misfitOf_89 : decode cX2_misfitOf 89 = .ok (.bipush (-3), 2) := by decide +kernel
theorem dX2_misfitOf_91 : decode cX2_misfitOf 91 = .ok (.goto 4, 3) := by decide +kernel
theorem dX2_misfitOf_94 : decode cX2_misfitOf 94 = .ok (.iconst 0, 1) := by decide +kernel
theorem dX2_misfitOf_95 : decode cX2_misfitOf 95 = .ok (.ireturn, 1) := by decide +kernel
theorem dX2_make_0 : decode cX2_make 0 = .ok (.iconst 0, 1) := by decide +kernel
theorem dX2_make_1 : decode cX2_make 1 = .ok (.istore 4, 2) := by decide +kernel
theorem dX2_make_3 : decode cX2_make 3 = .ok (.iload 4, 2) := by decide +kernel
theorem dX2_make_5 : decode cX2_make 5 = .ok (.bipush 8, 2) := by decide +kernel
theorem dX2_make_7 : decode cX2_make 7 = .ok (.if_icmp .ge 73, 3) := by decide +kernel
theorem dX2_make_10 : decode cX2_make 10 = .ok (.iload_n 2, 1) := by decide +kernel
theorem dX2_make_11 : decode cX2_make 11 = .ok (.iload 4, 2) := by decide +kernel
theorem dX2_make_13 : decode cX2_make 13 = .ok (.ishr, 1) := by decide +kernel
theorem dX2_make_14 : decode cX2_make 14 = .ok (.iconst 1, 1) := by decide +kernel
theorem dX2_make_15 : decode cX2_make 15 = .ok (.iand, 1) := by decide +kernel
theorem dX2_make_16 : decode cX2_make 16 = .ok (.istore 5, 2) := by decide +kernel
theorem dX2_make_18 : decode cX2_make 18 = .ok (.iload_n 3, 1) := by decide +kernel
theorem dX2_make_19 : decode cX2_make 19 = .ok (.iload 4, 2) := by decide +kernel
theorem dX2_make_21 : decode cX2_make 21 = .ok (.ishr, 1) := by decide +kernel
theorem dX2_make_22 : decode cX2_make 22 = .ok (.iconst 1, 1) := by decide +kernel
theorem dX2_make_23 : decode cX2_make 23 = .ok (.iand, 1) := by decide +kernel
theorem dX2_make_24 : decode cX2_make 24 = .ok (.istore 6, 2) := by decide +kernel
theorem dX2_make_26 : decode cX2_make 26 = .ok (.iload 5, 2) := by decide +kernel
theorem dX2_make_28 : decode cX2_make 28 = .ok (.istore 7, 2) := by decide +kernel
theorem dX2_make_30 : decode cX2_make 30 = .ok (.iload_n 1, 1) := by decide +kernel
theorem dX2_make_31 : decode cX2_make 31 = .ok (.iconst 1, 1) := by decide +kernel
theorem dX2_make_32 : decode cX2_make 32 = .ok (.if_icmp .ne 13, 3) := by decide +kernel
theorem dX2_make_35 : decode cX2_make 35 = .ok (.iload 5, 2) := by decide +kernel
theorem dX2_make_37 : decode cX2_make 37 = .ok (.iload 6, 2) := by decide +kernel
theorem dX2_make_39 : decode cX2_make 39 = .ok (.isub, 1) := by decide +kernel
theorem dX2_make_40 : decode cX2_make 40 = .ok (.istore 7, 2) := by decide +kernel
theorem dX2_make_42 : decode cX2_make 42 = .ok (.goto 23, 3) := by decide +kernel
theorem dX2_make_45 : decode cX2_make 45 = .ok (.iload_n 1, 1) := by decide +kernel
theorem dX2_make_46 : decode cX2_make 46 = .ok (.iconst 2, 1) := by decide +kernel
theorem dX2_make_47 : decode cX2_make 47 = .ok (.if_icmp .ne 18, 3) := by decide +kernel
theorem dX2_make_50 : decode cX2_make 50 = .ok (.iload_n 3, 1) := by decide +kernel
theorem dX2_make_51 : decode cX2_make 51 = .ok (.ifCond .eq 14, 3) := by decide +kernel
theorem dX2_make_54 : decode cX2_make 54 = .ok (.iload 5, 2) := by decide +kernel
theorem dX2_make_56 : decode cX2_make 56 = .ok (.iconst 1, 1) := by decide +kernel
theorem dX2_make_57 : decode cX2_make 57 = .ok (.iload 4, 2) := by decide +kernel
theorem dX2_make_59 : decode cX2_make 59 = .ok (.iload_n 3, 1) := by decide +kernel
theorem dX2_make_60 : decode cX2_make 60 = .ok (.irem, 1) := by decide +kernel
theorem dX2_make_61 : decode cX2_make 61 = .ok (.iadd, 1) := by decide +kernel
theorem dX2_make_62 : decode cX2_make 62 = .ok (.imul, 1) := by decide +kernel
theorem dX2_make_63 : decode cX2_make 63 = .ok (.istore 7, 2) := by decide +kernel
theorem dX2_make_65 : decode cX2_make 65 = .ok (.aload_n 0, 1) := by decide +kernel
theorem dX2_make_66 : decode cX2_make 66 = .ok (.getfield 9, 3) := by decide +kernel
theorem dX2_make_69 : decode cX2_make 69 = .ok (.iload 4, 2) := by decide +kernel
theorem dX2_make_71 : decode cX2_make 71 = .ok (.iload 7, 2) := by decide +kernel
theorem dX2_make_73 : decode cX2_make 73 = .ok (.iastore, 1) := by decide +kernel
theorem dX2_make_74 : decode cX2_make 74 = .ok (.iinc 4 1, 3) := by decide +kernel
theorem dX2_make_77 : decode cX2_make 77 = .ok (.goto (-74), 3) := by decide +kernel
theorem dX2_make_80 : decode cX2_make 80 = .ok (.return_, 1) := by decide +kernel
theorem dX2_size_0 : decode cX2_size 0 = .ok (.iconst 0, 1) := by decide +kernel
theorem dX2_size_1 : decode cX2_size 1 = .ok (.istore_n 1, 1) := by decide +kernel
theorem dX2_size_2 : decode cX2_size 2 = .ok (.iconst 0, 1) := by decide +kernel
theorem dX2_size_3 : decode cX2_size 3 = .ok (.istore_n 2, 1) := by decide +kernel
theorem dX2_size_4 : decode cX2_size 4 = .ok (.iload_n 2, 1) := by decide +kernel
theorem dX2_size_5 : decode cX2_size 5 = .ok (.bipush 8, 2) := by decide +kernel
theorem dX2_size_7 : decode cX2_size 7 = .ok (.if_icmp .ge 21, 3) := by decide +kernel
theorem dX2_size_10 : decode cX2_size 10 = .ok (.aload_n 0, 1) := by decide +kernel
theorem dX2_size_11 : decode cX2_size 11 = .ok (.getfield 9, 3) := by decide +kernel
theorem dX2_size_14 : decode cX2_size 14 = .ok (.iload_n 2, 1) := by decide +kernel
theorem dX2_size_15 : decode cX2_size 15 = .ok (.iaload, 1) := by decide +kernel
theorem dX2_size_16 : decode cX2_size 16 = .ok (.ifCond .eq 6, 3) := by decide +kernel
theorem dX2_size_19 : decode cX2_size 19 = .ok (.iinc 1 1, 3) := by decide +kernel
theorem dX2_size_22 : decode cX2_size 22 = .ok (.iinc 2 1, 3) := by decide +kernel
theorem dX2_size_25 : decode cX2_size 25 = .ok (.goto (-21), 3) := by decide +kernel
theorem dX2_size_28 : decode cX2_size 28 = .ok (.iload_n 1, 1) := by decide +kernel
theorem dX2_size_29 : decode cX2_size 29 = .ok (.ireturn, 1) := by decide +kernel
theorem dX4_init_0 : decode cX4_init 0 = .ok (.aload_n 0, 1) := by decide +kernel
theorem dX4_init_1 : decode cX4_init 1 = .ok (.invokespecial 3, 3) := by decide +kernel
theorem dX4_init_4 : decode cX4_init 4 = .ok (.aload_n 0, 1) := by decide +kernel
theorem dX4_init_5 : decode cX4_init 5 = .ok (.bipush 10, 2) := by decide +kernel
theorem dX4_init_7 : decode cX4_init 7 = .ok (.bipush 10, 2) := by decide +kernel
theorem dX4_init_9 : decode cX4_init 9 = .ok (.multianewarray 9 2, 4) := by decide +kernel
theorem dX4_init_13 : decode cX4_init 13 = .ok (.putfield 11, 3) := by decide +kernel
theorem dX4_init_16 : decode cX4_init 16 = .ok (.aload_n 0, 1) := by decide +kernel
theorem dX4_init_17 : decode cX4_init 17 = .ok (.lconst 1, 1) := by decide +kernel
theorem dX4_init_18 : decode cX4_init 18 = .ok (.putfield 16, 3) := by decide +kernel
theorem dX4_init_21 : decode cX4_init 21 = .ok (.iconst 0, 1) := by decide +kernel
theorem dX4_init_22 : decode cX4_init 22 = .ok (.istore_n 1, 1) := by decide +kernel
theorem dX4_init_23 : decode cX4_init 23 = .ok (.iload_n 1, 1) := by decide +kernel
theorem dX4_init_24 : decode cX4_init 24 = .ok (.bipush 10, 2) := by decide +kernel
theorem dX4_init_26 : decode cX4_init 26 = .ok (.if_icmp .ge 18, 3) := by decide +kernel
theorem dX4_init_29 : decode cX4_init 29 = .ok (.aload_n 0, 1) := by decide +kernel
theorem dX4_init_30 : decode cX4_init 30 = .ok (.getfield 11, 3) := by decide +kernel
theorem dX4_init_33 : decode cX4_init 33 = .ok (.iload_n 1, 1) := by decide +kernel
theorem dX4_init_34 : decode cX4_init 34 = .ok (.aaload, 1) := by decide +kernel
theorem dX4_init_35 : decode cX4_init 35 = .ok (.iload_n 1, 1) := by decide +kernel
theorem dX4_init_36 : decode cX4_init 36 = .ok (.lconst 1, 1) := by decide +kernel
theorem dX4_init_37 : decode cX4_init 37 = .ok (.lastore, 1) := by decide +kernel
theorem dX4_init_38 : decode cX4_init 38 = .ok (.iinc 1 1, 3) := by decide +kernel
theorem dX4_init_41 : decode cX4_init 41 = .ok (.goto (-18), 3) := by decide +kernel
theorem dX4_init_44 : decode cX4_init 44 = .ok (.return_, 1) := by decide +kernel
theorem dX4_copyFrom_0 : decode cX4_copyFrom 0 = .ok (.iconst 0, 1) := by decide +kernel
theorem dX4_copyFrom_1 : decode cX4_copyFrom 1 = .ok (.istore_n 2, 1) := by decide +kernel
theorem dX4_copyFrom_2 : decode cX4_copyFrom 2 = .ok (.iload_n 2, 1) := by decide +kernel
theorem dX4_copyFrom_3 : decode cX4_copyFrom 3 = .ok (.bipush 10, 2) := by decide +kernel
theorem dX4_copyFrom_5 : decode cX4_copyFrom 5 = .ok (.if_icmp .ge 28, 3) := by decide +kernel
theorem dX4_copyFrom_8 : decode cX4_copyFrom 8 = .ok (.aload_n 1, 1) := by decide +kernel
theorem dX4_copyFrom_9 : decode cX4_copyFrom 9 = .ok (.getfield 11, 3) := by decide +kernel
theorem dX4_copyFrom_12 : decode cX4_copyFrom 12 = .ok (.iload_n 2, 1) := by decide +kernel
theorem dX4_copyFrom_13 : decode cX4_copyFrom 13 = .ok (.aaload, 1) := by decide +kernel
theorem dX4_copyFrom_14 : decode cX4_copyFrom 14 = .ok (.iconst 0, 1) := by decide +kernel
theorem dX4_copyFrom_15 : decode cX4_copyFrom 15 = .ok (.aload_n 0, 1) := by decide +kernel
theorem dX4_copyFrom_16 : decode cX4_copyFrom 16 = .ok (.getfield 11, 3) := by decide +kernel
theorem dX4_copyFrom_19 : decode cX4_copyFrom 19 = .ok (.iload_n 2, 1) := by decide +kernel
theorem dX4_copyFrom_20 : decode cX4_copyFrom 20 = .ok (.aaload, 1) := by decide +kernel
theorem dX4_copyFrom_21 : decode cX4_copyFrom 21 = .ok (.iconst 0, 1) := by decide +kernel
theorem dX4_copyFrom_22 : decode cX4_copyFrom 22 = .ok (.bipush 10, 2) := by decide +kernel
theorem dX4_copyFrom_24 : decode cX4_copyFrom 24 = .ok (.invokestatic 20, 3) := by decide +kernel
theorem dX4_copyFrom_27 : decode cX4_copyFrom 27 = .ok (.iinc 2 1, 3) := by decide +kernel
theorem dX4_copyFrom_30 : decode cX4_copyFrom 30 = .ok (.goto (-28), 3) := by decide +kernel
theorem dX4_copyFrom_33 : decode cX4_copyFrom 33 = .ok (.aload_n 0, 1) := by decide +kernel
theorem dX4_copyFrom_34 : decode cX4_copyFrom 34 = .ok (.aload_n 1, 1) := by decide +kernel
theorem dX4_copyFrom_35 : decode cX4_copyFrom 35 = .ok (.getfield 16, 3) := by decide +kernel
theorem dX4_copyFrom_38 : decode cX4_copyFrom 38 = .ok (.putfield 16, 3) := by decide +kernel
theorem dX4_copyFrom_41 : decode cX4_copyFrom 41 = .ok (.aload_n 0, 1) := by decide +kernel
theorem dX4_copyFrom_42 : decode cX4_copyFrom 42 = .ok (.aload_n 1, 1) := by decide +kernel
theorem dX4_copyFrom_43 : decode cX4_copyFrom 43 = .ok (.getfield 26, 3) := by decide +kernel
theorem dX4_copyFrom_46 : decode cX4_copyFrom 46 = .ok (.putfield 26, 3) := by decide +kernel
theorem dX4_copyFrom_49 : decode cX4_copyFrom 49 = .ok (.return_, 1) := by decide +kernel
theorem dX4_leave_0 : decode cX4_leave 0 = .ok (.iconst 0, 1) := by decide +kernel
theorem dX4_leave_1 : decode cX4_leave 1 = .ok (.istore_n 3, 1) := by decide +kernel
theorem dX4_leave_2 : decode cX4_leave 2 = .ok (.iload_n 3, 1) := by decide +kernel
theorem dX4_leave_3 : decode cX4_leave 3 = .ok (.bipush 10, 2) := by decide +kernel
theorem dX4_leave_5 : decode cX4_leave 5 = .ok (.if_icmp .ge 13, 3) := by decide +kernel
theorem dX4_leave_8 : decode cX4_leave 8 = .ok (.aload_n 2, 1) := by decide +kernel
theorem dX4_leave_9 : decode cX4_leave 9 = .ok (.iload_n 3, 1) := by decide +kernel
theorem dX4_leave_10 : decode cX4_leave 10 = .ok (.lconst 0, 1) := by decide +kernel
theorem dX4_leave_11 : decode cX4_leave 11 = .ok (.lastore, 1) := by decide +kernel
theorem dX4_leave_12 : decode cX4_leave 12 = .ok (.iinc 3 1, 3) := by decide +kernel
theorem dX4_leave_15 : decode cX4_leave 15 = .ok (.goto (-13), 3) := by decide +kernel
theorem dX4_leave_18 : decode cX4_leave 18 = .ok (.iconst 0, 1) := by decide +kernel
theorem dX4_leave_19 : decode cX4_leave 19 = .ok (.istore_n 3, 1) := by decide +kernel
theorem dX4_leave_20 : decode cX4_leave 20 = .ok (.iload_n 3, 1) := by decide +kernel
theorem dX4_leave_21 : decode cX4_leave 21 = .ok (.bipush 10, 2) := by decide +kernel
theorem dX4_leave_23 : decode cX4_leave 23 = .ok (.if_icmp .ge 58, 3) := by decide +kernel
theorem dX4_leave_26 : decode cX4_leave 26 = .ok (.aload_n 1, 1) := by decide +kernel
theorem dX4_leave_27 : decode cX4_leave 27 = .ok (.iload_n 3, 1) := by decide +kernel
theorem dX4_leave_28 : decode cX4_leave 28 = .ok (.iaload, 1) := by decide +kernel
theorem dX4_leave_29 : decode cX4_leave 29 = .ok (.istore 4, 2) := by decide +kernel
theorem dX4_leave_31 : decode cX4_leave 31 = .ok (.iload 4, 2) := by decide +kernel
theorem dX4_leave_33 : decode cX4_leave 33 = .ok (.ifCond .ne 6, 3) := by decide +kernel
theorem dX4_leave_36 : decode cX4_leave 36 = .ok (.goto 39, 3) := by decide +kernel
theorem dX4_leave_39 : decode cX4_leave 39 = .ok (.iconst 0, 1) := by decide +kernel
theorem dX4_leave_40 : decode cX4_leave 40 = .ok (.istore 5, 2) := by decide +kernel
theorem dX4_leave_42 : decode cX4_leave 42 = .ok (.iload 5, 2) := by decide +kernel
theorem dX4_leave_44 : decode cX4_leave 44 = .ok (.bipush 10, 2) := by decide +kernel
theorem dX4_leave_46 : decode cX4_leave 46 = .ok (.if_icmp .ge 29, 3) := by decide +kernel
theorem dX4_leave_49 : decode cX4_leave 49 = .ok (.aload_n 2, 1) := by decide +kernel
theorem dX4_leave_50 : decode cX4_leave 50 = .ok (.iload 5, 2) := by decide +kernel
theorem dX4_leave_52 : decode cX4_leave 52 = .ok (.dup2, 1) := by decide +kernel
theorem dX4_leave_53 : decode cX4_leave 53 = .ok (.laload, 1) := by decide +kernel
theorem dX4_leave_54 : decode cX4_leave 54 = .ok (.iload 4, 2) := by decide +kernel
theorem dX4_leave_56 : decode cX4_leave 56 = .ok (.i2l, 1) := by decide +kernel
theorem dX4_leave_57 : decode cX4_leave 57 = .ok (.aload_n 0, 1) := by decide +kernel
theorem dX4_leave_58 : decode cX4_leave 58 = .ok (.getfield 11, 3) := by decide +kernel
theorem dX4_leave_61 : decode cX4_leave 61 = .ok (.iload_n 3, 1) := by decide +kernel
theorem dX4_leave_62 : decode cX4_leave 62 = .ok (.aaload, 1) := by decide +kernel
theorem dX4_leave_63 : decode cX4_leave 63 = .ok (.iload 5, 2) := by decide +kernel
theorem dX4_leave_65 : decode cX4_leave 65 = .ok (.laload, 1) := by decide +kernel
theorem dX4_leave_66 : decode cX4_leave 66 = .ok (.lmul, 1) := by decide +kernel
theorem dX4_leave_67 : decode cX4_leave 67 = .ok (.ladd, 1) := by decide +kernel
theorem dX4_leave_68 : decode cX4_leave 68 = .ok (.lastore, 1) := by decide +kernel
theorem dX4_leave_69 : decode cX4_leave 69 = .ok (.iinc 5 1, 3) := by decide +kernel
theorem dX4_leave_72 : decode cX4_leave 72 = .ok (.goto (-30), 3) := by decide +kernel
theorem dX4_leave_75 : decode cX4_leave 75 = .ok (.iinc 3 1, 3) := by decide +kernel
theorem dX4_leave_78 : decode cX4_leave 78 = .ok (.goto (-58), 3) := by decide +kernel
theorem dX4_leave_81 : decode cX4_leave 81 = .ok (.return_, 1) := by decide +kernel
theorem dX4_join_0 : decode cX4_join 0 = .ok (.aload_n 1, 1) := by decide +kernel
theorem dX4_join_1 : decode cX4_join 1 = .ok (.invokestatic 30, 3) := by decide +kernel
theorem dX4_join_4 : decode cX4_join 4 = .ok (.istore_n 2, 1) := by decide +kernel
theorem dX4_join_5 : decode cX4_join 5 = .ok (.iload_n 2, 1) := by decide +kernel
theorem dX4_join_6 : decode cX4_join 6 = .ok (.bipush 10, 2) := by decide +kernel
theorem dX4_join_8 : decode cX4_join 8 = .ok (.invokestatic 34, 3) := by decide +kernel
theorem dX4_join_11 : decode cX4_join 11 = .ok (.ifCond .eq 12, 3) := by decide +kernel
theorem dX4_join_14 : decode cX4_join 14 = .ok (.aload_n 0, 1) := by decide +kernel
theorem dX4_join_15 : decode cX4_join 15 = .ok (.getfield 16, 3) := by decide +kernel
theorem dX4_join_18 : decode cX4_join 18 = .ok (.lconst 0, 1) := by decide +kernel
theorem dX4_join_19 : decode cX4_join 19 = .ok (.lcmp, 1) := by decide +kernel
theorem dX4_join_20 : decode cX4_join 20 = .ok (.ifCond .ne 4, 3) := by decide +kernel
theorem dX4_join_23 : decode cX4_join 23 = .ok (.return_, 1) := by decide +kernel
theorem dX4_join_24 : decode cX4_join 24 = .ok (.aload_n 1, 1) := by decide +kernel
theorem dX4_join_25 : decode cX4_join 25 = .ok (.iload_n 2, 1) := by decide +kernel
theorem dX4_join_26 : decode cX4_join 26 = .ok (.laload, 1) := by decide +kernel
theorem dX4_join_27 : decode cX4_join 27 = .ok (.lstore_n 3, 1) := by decide +kernel
theorem dX4_join_28 : decode cX4_join 28 = .ok (.iconst 0, 1) := by decide +kernel
theorem dX4_join_29 : decode cX4_join 29 = .ok (.istore 5, 2) := by decide +kernel
theorem dX4_join_31 : decode cX4_join 31 = .ok (.iload 5, 2) := by decide +kernel
theorem dX4_join_33 : decode cX4_join 33 = .ok (.bipush 10, 2) := by decide +kernel
theorem dX4_join_35 : decode cX4_join 35 = .ok (.if_icmp .ge 71, 3) := by decide +kernel
theorem dX4_join_38 : decode cX4_join 38 = .ok (.aload_n 0, 1) := by decide +kernel
theorem dX4_join_39 : decode cX4_join 39 = .ok (.getfield 11, 3) := by decide +kernel
theorem dX4_join_42 : decode cX4_join 42 = .ok (.iload 5, 2) := by decide +kernel
theorem dX4_join_44 : decode cX4_join 44 = .ok (.aaload, 1) := by decide +kernel
theorem dX4_join_45 : decode cX4_join 45 = .ok (.iload_n 2, 1) := by decide +kernel
theorem dX4_join_46 : decode cX4_join 46 = .ok (.laload, 1) := by decide +kernel
theorem dX4_join_47 : decode cX4_join 47 = .ok (.lstore 6, 2) := by decide +kernel
theorem dX4_join_49 : decode cX4_join 49 = .ok (.iconst 0, 1) := by decide +kernel
theorem dX4_join_50 : decode cX4_join 50 = .ok (.istore 8, 2) := by decide +kernel
theorem dX4_join_52 : decode cX4_join 52 = .ok (.iload 8, 2) := by decide +kernel
theorem dX4_join_54 : decode cX4_join 54 = .ok (.bipush 10, 2) := by decide +kernel
theorem dX4_join_56 : decode cX4_join 56 = .ok (.if_icmp .ge 44, 3) := by decide +kernel
theorem dX4_join_59 : decode cX4_join 59 = .ok (.aload_n 0, 1) := by decide +kernel
theorem dX4_join_60 : decode cX4_join 60 = .ok (.getfield 11, 3) := by decide +kernel
theorem dX4_join_63 : decode cX4_join 63 = .ok (.iload 5, 2) := by decide +kernel
theorem dX4_join_65 : decode cX4_join 65 = .ok (.aaload, 1) := by decide +kernel
theorem dX4_join_66 : decode cX4_join 66 = .ok (.iload 8, 2) := by decide +kernel
theorem dX4_join_68 : decode cX4_join 68 = .ok (.aload_n 0, 1) := by decide +kernel
theorem dX4_join_69 : decode cX4_join 69 = .ok (.getfield 11, 3) := by decide +kernel
theorem dX4_join_72 : decode cX4_join 72 = .ok (.iload 5, 2) := by decide +kernel
theorem dX4_join_74 : decode cX4_join 74 = .ok (.aaload, 1) := by decide +kernel
theorem dX4_join_75 : decode cX4_join 75 = .ok (.iload 8, 2) := by decide +kernel
theorem dX4_join_77 : decode cX4_join 77 = .ok (.laload, 1) := by decide +kernel
theorem dX4_join_78 : decode cX4_join 78 = .ok (.lload_n 3, 1) := by decide +kernel
theorem dX4_join_79 : decode cX4_join 79 = .ok (.lmul, 1) := by decide +kernel
theorem dX4_join_80 : decode cX4_join 80 = .ok (.lload 6, 2) := by decide +kernel
theorem dX4_join_82 : decode cX4_join 82 = .ok (.aload_n 1, 1) := by decide +kernel
theorem dX4_join_83 : decode cX4_join 83 = .ok (.iload 8, 2) := by decide +kernel
theorem dX4_join_85 : decode cX4_join 85 = .ok (.laload, 1) := by decide +kernel
theorem dX4_join_86 : decode cX4_join 86 = .ok (.lmul, 1) := by decide +kernel
theorem dX4_join_87 : decode cX4_join 87 = .ok (.lsub, 1) := by decide +kernel
theorem dX4_join_88 : decode cX4_join 88 = .ok (.aload_n 0, 1) := by decide +kernel
theorem dX4_join_89 : decode cX4_join 89 = .ok (.getfield 16, 3) := by decide +kernel
theorem dX4_join_92 : decode cX4_join 92 = .ok (.ldiv, 1) := by decide +kernel
theorem dX4_join_93 : decode cX4_join 93 = .ok (.lastore, 1) := by decide +kernel
theorem dX4_join_94 : decode cX4_join 94 = .ok (.iinc 8 1, 3) := by decide +kernel
theorem dX4_join_97 : decode cX4_join 97 = .ok (.goto (-45), 3) := by decide +kernel
theorem dX4_join_100 : decode cX4_join 100 = .ok (.iinc 5 1, 3) := by decide +kernel
theorem dX4_join_103 : decode cX4_join 103 = .ok (.goto (-72), 3) := by decide +kernel
theorem dX4_join_106 : decode cX4_join 106 = .ok (.aload_n 0, 1) := by decide +kernel
theorem dX4_join_107 : decode cX4_join 107 = .ok (.lload_n 3, 1) := by decide +kernel
theorem dX4_join_108 : decode cX4_join 108 = .ok (.putfield 16, 3) := by decide +kernel
theorem dX4_join_111 : decode cX4_join 111 = .ok (.aload_n 0, 1) := by decide +kernel
theorem dX4_join_112 : decode cX4_join 112 = .ok (.dup, 1) := by decide +kernel
theorem dX4_join_113 : decode cX4_join 113 = .ok (.getfield 26, 3) := by decide +kernel
theorem dX4_join_116 : decode cX4_join 116 = .ok (.iconst 1, 1) := by decide +kernel
theorem dX4_join_117 : decode cX4_join 117 = .ok (.iload_n 2, 1) := by decide +kernel
theorem dX4_join_118 : decode cX4_join 118 = .ok (.ishl, 1) := by decide +kernel
theorem dX4_join_119 : decode cX4_join 119 = .ok (.ior, 1) := by decide +kernel
theorem dX4_join_120 : decode cX4_join 120 = .ok (.putfield 26, 3) := by decide +kernel
theorem dX4_join_123 : decode cX4_join 123 = .ok (.return_, 1) := by decide +kernel
theorem dX4_fixedBitsWith_0 : decode cX4_fixedBitsWith 0 = .ok (.iconst 0, 1) := by decide +kernel
theorem dX4_fixedBitsWith_1 : decode cX4_fixedBitsWith 1 = .ok (.istore_n 2, 1) := by decide +kernel
theorem dX4_fixedBitsWith_2 : decode cX4_fixedBitsWith 2 = .ok (.iconst 0, 1) := by decide +kernel
theorem dX4_fixedBitsWith_3 : decode cX4_fixedBitsWith 3 = .ok (.istore_n 3, 1) := by decide +kernel
theorem dX4_fixedBitsWith_4 : decode cX4_fixedBitsWith 4 = .ok (.iload_n 3, 1) := by decide +kernel
theorem dX4_fixedBitsWith_5 : decode cX4_fixedBitsWith 5 = .ok (.bipush 10, 2) := by decide +kernel
theorem dX4_fixedBitsWith_7 : decode cX4_fixedBitsWith 7 = .ok (.if_icmp .ge 46, 3) := by decide +kernel
theorem dX4_fixedBitsWith_10 : decode cX4_fixedBitsWith 10 = .ok (.aload_n 0, 1) := by decide +kernel
theorem dX4_fixedBitsWith_11 : decode cX4_fixedBitsWith 11 = .ok (.getfield 11, 3) := by decide +kernel
theorem dX4_fixedBitsWith_14 : decode cX4_fixedBitsWith 14 = .ok (.iload_n 3, 1) := by decide +kernel
theorem dX4_fixedBitsWith_15 : decode cX4_fixedBitsWith 15 = .ok (.aaload, 1) := by decide +kernel
theorem dX4_fixedBitsWith_16 : decode cX4_fixedBitsWith 16 = .ok (.invokestatic 30, 3) := by decide +kernel
theorem dX4_fixedBitsWith_19 : decode cX4_fixedBitsWith 19 = .ok (.istore 4, 2) := by decide +kernel
theorem dX4_fixedBitsWith_21 : decode cX4_fixedBitsWith 21 = .ok (.iload 4, 2) := by decide +kernel
theorem dX4_fixedBitsWith_23 : decode cX4_fixedBitsWith 23 = .ok (.ifCond .lt 18, 3) := by decide +kernel
theorem dX4_fixedBitsWith_26 : decode cX4_fixedBitsWith 26 = .ok (.aload_n 0, 1) := by decide +kernel
theorem dX4_fixedBitsWith_27 : decode cX4_fixedBitsWith 27 = .ok (.getfield 11, 3) := by decide +kernel
theorem dX4_fixedBitsWith_30 : decode cX4_fixedBitsWith 30 = .ok (.iload_n 3, 1) := by decide +kernel
theorem dX4_fixedBitsWith_31 : decode cX4_fixedBitsWith 31 = .ok (.aaload, 1) := by decide +kernel
theorem dX4_fixedBitsWith_32 : decode cX4_fixedBitsWith 32 = .ok (.aload_n 1, 1) := by decide +kernel
theorem dX4_fixedBitsWith_33 : decode cX4_fixedBitsWith 33 = .ok (.iload 4, 2) := by decide +kernel
theorem dX4_fixedBitsWith_35 : decode cX4_fixedBitsWith 35 = .ok (.invokestatic 38, 3) := by decide +kernel
theorem dX4_fixedBitsWith_38 : decode cX4_fixedBitsWith 38 = .ok (.ifCond .eq 9, 3) := by decide +kernel
theorem dX4_fixedBitsWith_41 : decode cX4_fixedBitsWith 41 = .ok (.iload_n 2, 1) := by decide +kernel
theorem dX4_fixedBitsWith_42 : decode cX4_fixedBitsWith 42 = .ok (.iconst 1, 1) := by decide +kernel
theorem dX4_fixedBitsWith_43 : decode cX4_fixedBitsWith 43 = .ok (.iload_n 3, 1) := by decide +kernel
theorem dX4_fixedBitsWith_44 : decode cX4_fixedBitsWith 44 = .ok (.ishl, 1) := by decide +kernel
theorem dX4_fixedBitsWith_45 : decode cX4_fixedBitsWith 45 = .ok (.ior, 1) := by decide +kernel
theorem dX4_fixedBitsWith_46 : decode cX4_fixedBitsWith 46 = .ok (.istore_n 2, 1) := by decide +kernel
theorem dX4_fixedBitsWith_47 : decode cX4_fixedBitsWith 47 = .ok (.iinc 3 1, 3) := by decide +kernel
theorem dX4_fixedBitsWith_50 : decode cX4_fixedBitsWith 50 = .ok (.goto (-46), 3) := by decide +kernel
theorem dX4_fixedBitsWith_53 : decode cX4_fixedBitsWith 53 = .ok (.iload_n 2, 1) := by decide +kernel
theorem dX4_fixedBitsWith_54 : decode cX4_fixedBitsWith 54 = .ok (.ireturn, 1) := by decide +kernel
theorem dX4_hasPair_0 : decode cX4_hasPair 0 = .ok (.iconst 0, 1) := by decide +kernel
theorem dX4_hasPair_1 : decode cX4_hasPair 1 = .ok (.istore_n 1, 1) := by decide +kernel
theorem dX4_hasPair_2 : decode cX4_hasPair 2 = .ok (.iload_n 1, 1) := by decide +kernel
theorem dX4_hasPair_3 : decode cX4_hasPair 3 = .ok (.bipush 10, 2) := by decide +kernel
theorem dX4_hasPair_5 : decode cX4_hasPair 5 = .ok (.if_icmp .ge 56, 3) := by decide +kernel
theorem dX4_hasPair_8 : decode cX4_hasPair 8 = .ok (.aload_n 0, 1) := by decide +kernel
theorem dX4_hasPair_9 : decode cX4_hasPair 9 = .ok (.getfield 11, 3) := by decide +kernel
theorem dX4_hasPair_12 : decode cX4_hasPair 12 = .ok (.iload_n 1, 1) := by decide +kernel
theorem dX4_hasPair_13 : decode cX4_hasPair 13 = .ok (.aaload, 1) := by decide +kernel
theorem dX4_hasPair_14 : decode cX4_hasPair 14 = .ok (.invokestatic 30, 3) := by decide +kernel
theorem dX4_hasPair_17 : decode cX4_hasPair 17 = .ok (.istore_n 2, 1) := by decide +kernel
theorem dX4_hasPair_18 : decode cX4_hasPair 18 = .ok (.iload_n 1, 1) := by decide +kernel
theorem dX4_hasPair_19 : decode cX4_hasPair 19 = .ok (.iconst 1, 1) := by decide +kernel
theorem dX4_hasPair_20 : decode cX4_hasPair 20 = .ok (.iadd, 1) := by decide +kernel
theorem dX4_hasPair_21 : decode cX4_hasPair 21 = .ok (.istore_n 3, 1) := by decide +kernel
theorem dX4_hasPair_22 : decode cX4_hasPair 22 = .ok (.iload_n 3, 1) := by decide +kernel
theorem dX4_hasPair_23 : decode cX4_hasPair 23 = .ok (.bipush 10, 2) := by decide +kernel
theorem dX4_hasPair_25 : decode cX4_hasPair 25 = .ok (.if_icmp .ge 30, 3) := by decide +kernel
theorem dX4_hasPair_28 : decode cX4_hasPair 28 = .ok (.aload_n 0, 1) := by decide +kernel
theorem dX4_hasPair_29 : decode cX4_hasPair 29 = .ok (.getfield 11, 3) := by decide +kernel
theorem dX4_hasPair_32 : decode cX4_hasPair 32 = .ok (.iload_n 1, 1) := by decide +kernel
theorem dX4_hasPair_33 : decode cX4_hasPair 33 = .ok (.aaload, 1) := by decide +kernel
theorem dX4_hasPair_34 : decode cX4_hasPair 34 = .ok (.aload_n 0, 1) := by decide +kernel
theorem dX4_hasPair_35 : decode cX4_hasPair 35 = .ok (.getfield 11, 3) := by decide +kernel
theorem dX4_hasPair_38 : decode cX4_hasPair 38 = .ok (.iload_n 3, 1) := by decide +kernel
theorem dX4_hasPair_39 : decode cX4_hasPair 39 = .ok (.aaload, 1) := by decide +kernel
theorem dX4_hasPair_40 : decode cX4_hasPair 40 = .ok (.iload_n 2, 1) := by decide +kernel
theorem dX4_hasPair_41 : decode cX4_hasPair 41 = .ok (.invokestatic 38, 3) := by decide +kernel
theorem dX4_hasPair_44 : decode cX4_hasPair 44 = .ok (.ifCond .eq 5, 3) := by decide +kernel
theorem dX4_hasPair_47 : decode cX4_hasPair 47 = .ok (.iconst 1, 1) := by decide +kernel
theorem dX4_hasPair_48 : decode cX4_hasPair 48 = .ok (.ireturn, 1) := by decide +kernel
theorem dX4_hasPair_49 : decode cX4_hasPair 49 = .ok (.iinc 3 1, 3) := by decide +kernel
theorem dX4_hasPair_52 : decode cX4_hasPair 52 = .ok (.goto (-30), 3) := by decide +kernel
theorem dX4_hasPair_55 : decode cX4_hasPair 55 = .ok (.iinc 1 1, 3) := by decide +kernel
theorem dX4_hasPair_58 : decode cX4_hasPair 58 = .ok (.goto (-56), 3) := by decide +kernel
theorem dX4_hasPair_61 : decode cX4_hasPair 61 = .ok (.iconst 0, 1) := by decide +kernel
theorem dX4_hasPair_62 : decode cX4_hasPair 62 = .ok (.ireturn, 1) := by decide +kernel
theorem dX4_reducedPart_0 : decode cX4_reducedPart 0 = .ok (.aload_n 0, 1) := by decide +kernel
theorem dX4_reducedPart_1 : decode cX4_reducedPart 1 = .ok (.iload_n 1, 1) := by decide +kernel
theorem dX4_reducedPart_2 : decode cX4_reducedPart 2 = .ok (.invokevirtual 42, 3) := by decide +kernel
theorem dX4_reducedPart_5 : decode cX4_reducedPart 5 = .ok (.istore 4, 2) := by decide +kernel
theorem dX4_reducedPart_7 : decode cX4_reducedPart 7 = .ok (.iload 4, 2) := by decide +kernel
theorem dX4_reducedPart_9 : decode cX4_reducedPart 9 = .ok (.bipush 10, 2) := by decide +kernel
theorem dX4_reducedPart_11 : decode cX4_reducedPart 11 = .ok (.invokestatic 34, 3) := by decide +kernel
theorem dX4_reducedPart_14 : decode cX4_reducedPart 14 = .ok (.ifCond .eq 12, 3) := by decide +kernel
theorem dX4_reducedPart_17 : decode cX4_reducedPart 17 = .ok (.iload_n 2, 1) := by decide +kernel
theorem dX4_reducedPart_18 : decode cX4_reducedPart 18 = .ok (.bipush 10, 2) := by decide +kernel
theorem dX4_reducedPart_20 : decode cX4_reducedPart 20 = .ok (.invokestatic 34, 3) := by decide +kernel
theorem dX4_reducedPart_23 : decode cX4_reducedPart 23 = .ok (.ifCond .ne 5, 3) := by decide +kernel
theorem dX4_reducedPart_26 : decode cX4_reducedPart 26 = .ok (.lconst 0, 1) := by decide +kernel
theorem dX4_reducedPart_27 : decode cX4_reducedPart 27 = .ok (.lreturn, 1) := by decide +kernel
theorem dX4_reducedPart_28 : decode cX4_reducedPart 28 = .ok (.aload_n 0, 1) := by decide +kernel
theorem dX4_reducedPart_29 : decode cX4_reducedPart 29 = .ok (.getfield 26, 3) := by decide +kernel
theorem dX4_reducedPart_32 : decode cX4_reducedPart 32 = .ok (.iload_n 2, 1) := by decide +kernel
theorem dX4_reducedPart_33 : decode cX4_reducedPart 33 = .ok (.ishr, 1) := by decide +kernel
theorem dX4_reducedPart_34 : decode cX4_reducedPart 34 = .ok (.iconst 1, 1) := by decide +kernel
theorem dX4_reducedPart_35 : decode cX4_reducedPart 35 = .ok (.iand, 1) := by decide +kernel
theorem dX4_reducedPart_36 : decode cX4_reducedPart 36 = .ok (.iconst 1, 1) := by decide +kernel
theorem dX4_reducedPart_37 : decode cX4_reducedPart 37 = .ok (.if_icmp .ne 24, 3) := by decide +kernel
theorem dX4_reducedPart_40 : decode cX4_reducedPart 40 = .ok (.iload_n 2, 1) := by decide +kernel
theorem dX4_reducedPart_41 : decode cX4_reducedPart 41 = .ok (.iload 4, 2) := by decide +kernel
theorem dX4_reducedPart_43 : decode cX4_reducedPart 43 = .ok (.if_icmp .ne 7, 3) := by decide +kernel
theorem dX4_reducedPart_46 : decode cX4_reducedPart 46 = .ok (.iconst 1, 1) := by decide +kernel
theorem dX4_reducedPart_47 : decode cX4_reducedPart 47 = .ok (.goto 4, 3) := by decide +kernel
theorem dX4_reducedPart_50 : decode cX4_reducedPart 50 = .ok (.iconst 0, 1) := by decide +kernel
theorem dX4_reducedPart_51 : decode cX4_reducedPart 51 = .ok (.invokestatic 46, 3) := by decide +kernel
theorem dX4_reducedPart_54 : decode cX4_reducedPart 54 = .ok (.i2l, 1) := by decide +kernel
theorem dX4_reducedPart_55 : decode cX4_reducedPart 55 = .ok (.lconst 1, 1) := by decide +kernel
theorem dX4_reducedPart_56 : decode cX4_reducedPart 56 = .ok (.iload_n 3, 1) := by decide +kernel
theorem dX4_reducedPart_57 : decode cX4_reducedPart 57 = .ok (.invokestatic 50, 3) := by decide +kernel
theorem dX4_reducedPart_60 : decode cX4_reducedPart 60 = .ok (.lreturn, 1) := by decide +kernel
theorem dX4_reducedPart_61 : decode cX4_reducedPart 61 = .ok (.aload_n 0, 1) := by decide +kernel
theorem dX4_reducedPart_62 : decode cX4_reducedPart 62 = .ok (.getfield 11, 3) := by decide +kernel
theorem dX4_reducedPart_65 : decode cX4_reducedPart 65 = .ok (.iload 4, 2) := by decide +kernel
theorem dX4_reducedPart_67 : decode cX4_reducedPart 67 = .ok (.aaload, 1) := by decide +kernel
theorem dX4_reducedPart_68 : decode cX4_reducedPart 68 = .ok (.iload_n 2, 1) := by decide +kernel
theorem dX4_reducedPart_69 : decode cX4_reducedPart 69 = .ok (.laload, 1) := by decide +kernel
theorem dX4_reducedPart_70 : decode cX4_reducedPart 70 = .ok (.lneg, 1) := by decide +kernel
theorem dX4_reducedPart_71 : decode cX4_reducedPart 71 = .ok (.aload_n 0, 1) := by decide +kernel
theorem dX4_reducedPart_72 : decode cX4_reducedPart 72 = .ok (.getfield 16, 3) := by decide +kernel
theorem dX4_reducedPart_75 : decode cX4_reducedPart 75 = .ok (.iload_n 3, 1) := by decide +kernel
theorem dX4_reducedPart_76 : decode cX4_reducedPart 76 = .ok (.invokestatic 50, 3) := by decide +kernel
theorem dX4_reducedPart_79 : decode cX4_reducedPart 79 = .ok (.lreturn, 1) := by decide +kernel
theorem dX4_pivotOf_0 : decode cX4_pivotOf 0 = .ok (.iconst 0, 1) := by decide +kernel
theorem dX4_pivotOf_1 : decode cX4_pivotOf 1 = .ok (.istore_n 2, 1) := by decide +kernel
theorem dX4_pivotOf_2 : decode cX4_pivotOf 2 = .ok (.iconst 0, 1) := by decide +kernel
theorem dX4_pivotOf_3 : decode cX4_pivotOf 3 = .ok (.istore_n 3, 1) := by decide +kernel
theorem dX4_pivotOf_4 : decode cX4_pivotOf 4 = .ok (.iload_n 3, 1) := by decide +kernel
theorem dX4_pivotOf_5 : decode cX4_pivotOf 5 = .ok (.bipush 10, 2) := by decide +kernel
theorem dX4_pivotOf_7 : decode cX4_pivotOf 7 = .ok (.if_icmp .ge 31, 3) := by decide +kernel
theorem dX4_pivotOf_10 : decode cX4_pivotOf 10 = .ok (.aload_n 0, 1) := by decide +kernel
theorem dX4_pivotOf_11 : decode cX4_pivotOf 11 = .ok (.getfield 26, 3) := by decide +kernel
theorem dX4_pivotOf_14 : decode cX4_pivotOf 14 = .ok (.iload_n 3, 1) := by decide +kernel
theorem dX4_pivotOf_15 : decode cX4_pivotOf 15 = .ok (.ishr, 1) := by decide +kernel
theorem dX4_pivotOf_16 : decode cX4_pivotOf 16 = .ok (.iconst 1, 1) := by decide +kernel
theorem dX4_pivotOf_17 : decode cX4_pivotOf 17 = .ok (.iand, 1) := by decide +kernel
theorem dX4_pivotOf_18 : decode cX4_pivotOf 18 = .ok (.iconst 1, 1) := by decide +kernel
theorem dX4_pivotOf_19 : decode cX4_pivotOf 19 = .ok (.if_icmp .ne 13, 3) := by decide +kernel
theorem dX4_pivotOf_22 : decode cX4_pivotOf 22 = .ok (.iload_n 2, 1) := by decide +kernel
theorem dX4_pivotOf_23 : decode cX4_pivotOf 23 = .ok (.iload_n 1, 1) := by decide +kernel
theorem dX4_pivotOf_24 : decode cX4_pivotOf 24 = .ok (.if_icmp .ne 5, 3) := by decide +kernel
theorem dX4_pivotOf_27 : decode cX4_pivotOf 27 = .ok (.iload_n 3, 1) := by decide +kernel
theorem dX4_pivotOf_28 : decode cX4_pivotOf 28 = .ok (.ireturn, 1) := by decide +kernel
theorem dX4_pivotOf_29 : decode cX4_pivotOf 29 = .ok (.iinc 2 1, 3) := by decide +kernel
theorem dX4_pivotOf_32 : decode cX4_pivotOf 32 = .ok (.iinc 3 1, 3) := by decide +kernel
theorem dX4_pivotOf_35 : decode cX4_pivotOf 35 = .ok (.goto (-31), 3) := by decide +kernel
theorem dX4_pivotOf_38 : decode cX4_pivotOf 38 = .ok (.bipush (-9), 2) := by decide +kernel
theorem dX4_pivotOf_40 : decode cX4_pivotOf 40 = .ok (.ireturn, 1) := by decide +kernel
theorem dX4_firstIn_0 : decode cX4_firstIn 0 = .ok (.iconst 0, 1) := by decide +kernel
theorem dX4_firstIn_1 : decode cX4_firstIn 1 = .ok (.istore_n 1, 1) := by decide +kernel
theorem dX4_firstIn_2 : decode cX4_firstIn 2 = .ok (.iload_n 1, 1) := by decide +kernel
theorem dX4_firstIn_3 : decode cX4_firstIn 3 = .ok (.bipush 10, 2) := by decide +kernel
theorem dX4_firstIn_5 : decode cX4_firstIn 5 = .ok (.if_icmp .ge 19, 3) := by decide +kernel
theorem dX4_firstIn_8 : decode cX4_firstIn 8 = .ok (.aload_n 0, 1) := by decide +kernel
theorem dX4_firstIn_9 : decode cX4_firstIn 9 = .ok (.iload_n 1, 1) := by decide +kernel
theorem dX4_firstIn_10 : decode cX4_firstIn 10 = .ok (.laload, 1) := by decide +kernel
theorem dX4_firstIn_11 : decode cX4_firstIn 11 = .ok (.lconst 0, 1) := by decide +kernel
theorem dX4_firstIn_12 : decode cX4_firstIn 12 = .ok (.lcmp, 1) := by decide +kernel
theorem dX4_firstIn_13 : decode cX4_firstIn 13 = .ok (.ifCond .eq 5, 3) := by decide +kernel
theorem dX4_firstIn_16 : decode cX4_firstIn 16 = .ok (.iload_n 1, 1) := by decide +kernel
theorem dX4_firstIn_17 : decode cX4_firstIn 17 = .ok (.ireturn, 1) := by decide +kernel
theorem dX4_firstIn_18 : decode cX4_firstIn 18 = .ok (.iinc 1 1, 3) := by decide +kernel
theorem dX4_firstIn_21 : decode cX4_firstIn 21 = .ok (.goto (-19), 3) := by decide +kernel
theorem dX4_firstIn_24 : decode cX4_firstIn 24 = .ok (.bipush (-9), 2) := by decide +kernel
theorem dX4_firstIn_26 : decode cX4_firstIn 26 = .ok (.ireturn, 1) := by decide +kernel
theorem dX4_isOneLine_0 : decode cX4_isOneLine 0 = .ok (.iload_n 2, 1) := by decide +kernel
theorem dX4_isOneLine_1 : decode cX4_isOneLine 1 = .ok (.ifCond .lt 17, 3) := by decide +kernel
theorem dX4_isOneLine_4 : decode cX4_isOneLine 4 = .ok (.iload_n 2, 1) := by decide +kernel
theorem dX4_isOneLine_5 : decode cX4_isOneLine 5 = .ok (.bipush 10, 2) := by decide +kernel
theorem dX4_isOneLine_7 : decode cX4_isOneLine 7 = .ok (.if_icmp .ge 11, 3) := by decide +kernel
theorem dX4_isOneLine_10 : decode cX4_isOneLine 10 = .ok (.aload_n 1, 1) := by decide +kernel
theorem dX4_isOneLine_11 : decode cX4_isOneLine 11 = .ok (.iload_n 2, 1) := by decide +kernel
theorem dX4_isOneLine_12 : decode cX4_isOneLine 12 = .ok (.laload, 1) := by decide +kernel
theorem dX4_isOneLine_13 : decode cX4_isOneLine 13 = .ok (.lconst 0, 1) := by decide +kernel
theorem dX4_isOneLine_14 : decode cX4_isOneLine 14 = .ok (.lcmp, 1) := by decide +kernel
theorem dX4_isOneLine_15 : decode cX4_isOneLine 15 = .ok (.ifCond .ne 5, 3) := by decide +kernel
theorem dX4_isOneLine_18 : decode cX4_isOneLine 18 = .ok (.iconst 0, 1) := by decide +kernel
theorem dX4_isOneLine_19 : decode cX4_isOneLine 19 = .ok (.ireturn, 1) := by decide +kernel
theorem dX4_isOneLine_20 : decode cX4_isOneLine 20 = .ok (.iconst 0, 1) := by decide +kernel
theorem dX4_isOneLine_21 : decode cX4_isOneLine 21 = .ok (.istore_n 3, 1) := by decide +kernel
theorem dX4_isOneLine_22 : decode cX4_isOneLine 22 = .ok (.iload_n 3, 1) := by decide +kernel
theorem dX4_isOneLine_23 : decode cX4_isOneLine 23 = .ok (.bipush 10, 2) := by decide +kernel
theorem dX4_isOneLine_25 : decode cX4_isOneLine 25 = .ok (.if_icmp .ge 29, 3) := by decide +kernel
theorem dX4_isOneLine_28 : decode cX4_isOneLine 28 = .ok (.aload_n 0, 1) := by decide +kernel
theorem dX4_isOneLine_29 : decode cX4_isOneLine 29 = .ok (.iload_n 3, 1) := by decide +kernel
theorem dX4_isOneLine_30 : decode cX4_isOneLine 30 = .ok (.laload, 1) := by decide +kernel
theorem dX4_isOneLine_31 : decode cX4_isOneLine 31 = .ok (.aload_n 1, 1) := by decide +kernel
theorem dX4_isOneLine_32 : decode cX4_isOneLine 32 = .ok (.iload_n 2, 1) := by decide +kernel
theorem dX4_isOneLine_33 : decode cX4_isOneLine 33 = .ok (.laload, 1) := by decide +kernel
theorem dX4_isOneLine_34 : decode cX4_isOneLine 34 = .ok (.lmul, 1) := by decide +kernel
theorem dX4_isOneLine_35 : decode cX4_isOneLine 35 = .ok (.aload_n 1, 1) := by decide +kernel
theorem dX4_isOneLine_36 : decode cX4_isOneLine 36 = .ok (.iload_n 3, 1) := by decide +kernel
theorem dX4_isOneLine_37 : decode cX4_isOneLine 37 = .ok (.laload, 1) := by decide +kernel
theorem dX4_isOneLine_38 : decode cX4_isOneLine 38 = .ok (.aload_n 0, 1) := by decide +kernel
theorem dX4_isOneLine_39 : decode cX4_isOneLine 39 = .ok (.iload_n 2, 1) := by decide +kernel
theorem dX4_isOneLine_40 : decode cX4_isOneLine 40 = .ok (.laload, 1) := by decide +kernel
theorem dX4_isOneLine_41 : decode cX4_isOneLine 41 = .ok (.lmul, 1) := by decide +kernel
theorem dX4_isOneLine_42 : decode cX4_isOneLine 42 = .ok (.lcmp, 1) := by decide +kernel
theorem dX4_isOneLine_43 : decode cX4_isOneLine 43 = .ok (.ifCond .eq 5, 3) := by decide +kernel
theorem dX4_isOneLine_46 : decode cX4_isOneLine 46 = .ok (.iconst 0, 1) := by decide +kernel
theorem dX4_isOneLine_47 : decode cX4_isOneLine 47 = .ok (.ireturn, 1) := by decide +kernel
theorem dX4_isOneLine_48 : decode cX4_isOneLine 48 = .ok (.iinc 3 1, 3) := by decide +kernel
theorem dX4_isOneLine_51 : decode cX4_isOneLine 51 = .ok (.goto (-29), 3) := by decide +kernel
theorem dX4_isOneLine_54 : decode cX4_isOneLine 54 = .ok (.iconst 1, 1) := by decide +kernel
theorem dX4_isOneLine_55 : decode cX4_isOneLine 55 = .ok (.ireturn, 1) := by decide +kernel
theorem dX5_init_0 : decode cX5_init 0 = .ok (.aload_n 0, 1) := by decide +kernel
theorem dX5_init_1 : decode cX5_init 1 = .ok (.invokespecial 3, 3) := by decide +kernel
theorem dX5_init_4 : decode cX5_init 4 = .ok (.aload_n 0, 1) := by decide +kernel
theorem dX5_init_5 : decode cX5_init 5 = .ok (.bipush 8, 2) := by decide +kernel
theorem dX5_init_7 : decode cX5_init 7 = .ok (.newarray .int, 2) := by decide +kernel
theorem dX5_init_9 : decode cX5_init 9 = .ok (.putfield 9, 3) := by decide +kernel
theorem dX5_init_12 : decode cX5_init 12 = .ok (.aload_n 0, 1) := by decide +kernel
theorem dX5_init_13 : decode cX5_init 13 = .ok (.bipush 10, 2) := by decide +kernel
theorem dX5_init_15 : decode cX5_init 15 = .ok (.newarray .int, 2) := by decide +kernel
theorem dX5_init_17 : decode cX5_init 17 = .ok (.putfield 15, 3) := by decide +kernel
theorem dX5_init_20 : decode cX5_init 20 = .ok (.aload_n 0, 1) := by decide +kernel
theorem dX5_init_21 : decode cX5_init 21 = .ok (.bipush 10, 2) := by decide +kernel
theorem dX5_init_23 : decode cX5_init 23 = .ok (.newarray .int, 2) := by decide +kernel
theorem dX5_init_25 : decode cX5_init 25 = .ok (.putfield 18, 3) := by decide +kernel
theorem dX5_init_28 : decode cX5_init 28 = .ok (.aload_n 0, 1) := by decide +kernel
theorem dX5_init_29 : decode cX5_init 29 = .ok (.bipush 10, 2) := by decide +kernel
theorem dX5_init_31 : decode cX5_init 31 = .ok (.newarray .int, 2) := by decide +kernel
theorem dX5_init_33 : decode cX5_init 33 = .ok (.putfield 21, 3) := by decide +kernel
theorem dX5_init_36 : decode cX5_init 36 = .ok (.aload_n 0, 1) := by decide +kernel
theorem dX5_init_37 : decode cX5_init 37 = .ok (.bipush 8, 2) := by decide +kernel
theorem dX5_init_39 : decode cX5_init 39 = .ok (.putfield 24, 3) := by decide +kernel
theorem dX5_init_42 : decode cX5_init 42 = .ok (.aload_n 0, 1) := by decide +kernel
theorem dX5_init_43 : decode cX5_init 43 = .ok (.iconst 4, 1) := by decide +kernel
theorem dX5_init_44 : decode cX5_init 44 = .ok (.putfield 28, 3) := by decide +kernel
theorem dX5_init_47 : decode cX5_init 47 = .ok (.aload_n 0, 1) := by decide +kernel
theorem dX5_init_48 : decode cX5_init 48 = .ok (.bipush 10, 2) := by decide +kernel
theorem dX5_init_50 : decode cX5_init 50 = .ok (.bipush 10, 2) := by decide +kernel
theorem dX5_init_52 : decode cX5_init 52 = .ok (.multianewarray 31 2, 4) := by decide +kernel
theorem dX5_init_56 : decode cX5_init 56 = .ok (.putfield 33, 3) := by decide +kernel
theorem dX5_init_59 : decode cX5_init 59 = .ok (.aload_n 0, 1) := by decide +kernel
theorem dX5_init_60 : decode cX5_init 60 = .ok (.bipush 10, 2) := by decide +kernel
theorem dX5_init_62 : decode cX5_init 62 = .ok (.newarray .int, 2) := by decide +kernel
theorem dX5_init_64 : decode cX5_init 64 = .ok (.putfield 36, 3) := by decide +kernel
theorem dX5_init_67 : decode cX5_init 67 = .ok (.aload_n 0, 1) := by decide +kernel
theorem dX5_init_68 : decode cX5_init 68 = .ok (.new 39, 3) := by decide +kernel
theorem dX5_init_71 : decode cX5_init 71 = .ok (.dup, 1) := by decide +kernel
theorem dX5_init_72 : decode cX5_init 72 = .ok (.invokespecial 41, 3) := by decide +kernel
theorem dX5_init_75 : decode cX5_init 75 = .ok (.putfield 42, 3) := by decide +kernel
theorem dX5_init_78 : decode cX5_init 78 = .ok (.aload_n 0, 1) := by decide +kernel
theorem dX5_init_79 : decode cX5_init 79 = .ok (.new 39, 3) := by decide +kernel
theorem dX5_init_82 : decode cX5_init 82 = .ok (.dup, 1) := by decide +kernel
theorem dX5_init_83 : decode cX5_init 83 = .ok (.invokespecial 41, 3) := by decide +kernel
theorem dX5_init_86 : decode cX5_init 86 = .ok (.putfield 46, 3) := by decide +kernel
theorem dX5_init_89 : decode cX5_init 89 = .ok (.aload_n 0, 1) := by decide +kernel
theorem dX5_init_90 : decode cX5_init 90 = .ok (.bipush 10, 2) := by decide +kernel
theorem dX5_init_92 : decode cX5_init 92 = .ok (.newarray .int, 2) := by decide +kernel
theorem dX5_init_94 : decode cX5_init 94 = .ok (.putfield 49, 3) := by decide +kernel
theorem dX5_init_97 : decode cX5_init 97 = .ok (.aload_n 0, 1) := by decide +kernel
theorem dX5_init_98 : decode cX5_init 98 = .ok (.bipush 10, 2) := by decide +kernel
theorem dX5_init_100 : decode cX5_init 100 = .ok (.newarray .long, 2) := by decide +kernel
theorem dX5_init_102 : decode cX5_init 102 = .ok (.putfield 52, 3) := by decide +kernel
theorem dX5_init_105 : decode cX5_init 105 = .ok (.iconst 0, 1) := by decide +kernel
theorem dX5_init_106 : decode cX5_init 106 = .ok (.istore_n 1, 1) := by decide +kernel
theorem dX5_init_107 : decode cX5_init 107 = .ok (.iload_n 1, 1) := by decide +kernel
theorem dX5_init_108 : decode cX5_init 108 = .ok (.bipush 8, 2) := by decide +kernel
theorem dX5_init_110 : decode cX5_init 110 = .ok (.if_icmp .ge 16, 3) := by decide +kernel
theorem dX5_init_113 : decode cX5_init 113 = .ok (.aload_n 0, 1) := by decide +kernel
theorem dX5_init_114 : decode cX5_init 114 = .ok (.getfield 9, 3) := by decide +kernel
theorem dX5_init_117 : decode cX5_init 117 = .ok (.iload_n 1, 1) := by decide +kernel
theorem dX5_init_118 : decode cX5_init 118 = .ok (.iload_n 1, 1) := by decide +kernel
theorem dX5_init_119 : decode cX5_init 119 = .ok (.iastore, 1) := by decide +kernel
theorem dX5_init_120 : decode cX5_init 120 = .ok (.iinc 1 1, 3) := by decide +kernel
theorem dX5_init_123 : decode cX5_init 123 = .ok (.goto (-16), 3) := by decide +kernel
theorem dX5_init_126 : decode cX5_init 126 = .ok (.iconst 0, 1) := by decide +kernel
theorem dX5_init_127 : decode cX5_init 127 = .ok (.istore_n 1, 1) := by decide +kernel
theorem dX5_init_128 : decode cX5_init 128 = .ok (.iload_n 1, 1) := by decide +kernel
theorem dX5_init_129 : decode cX5_init 129 = .ok (.bipush 10, 2) := by decide +kernel
theorem dX5_init_131 : decode cX5_init 131 = .ok (.if_icmp .ge 17, 3) := by decide +kernel
theorem dX5_init_134 : decode cX5_init 134 = .ok (.aload_n 0, 1) := by decide +kernel
theorem dX5_init_135 : decode cX5_init 135 = .ok (.getfield 21, 3) := by decide +kernel
theorem dX5_init_138 : decode cX5_init 138 = .ok (.iload_n 1, 1) := by decide +kernel
theorem dX5_init_139 : decode cX5_init 139 = .ok (.bipush 99, 2) := by decide +kernel
theorem dX5_init_141 : decode cX5_init 141 = .ok (.iastore, 1) := by decide +kernel
theorem dX5_init_142 : decode cX5_init 142 = .ok (.iinc 1 1, 3) := by decide +kernel
theorem dX5_init_145 : decode cX5_init 145 = .ok (.goto (-17), 3) := by decide +kernel
theorem dX5_init_148 : decode cX5_init 148 = .ok (.return_, 1) := by decide +kernel
theorem dX5_copyFrom_0 : decode cX5_copyFrom 0 = .ok (.aload_n 1, 1) := by decide +kernel
theorem dX5_copyFrom_1 : decode cX5_copyFrom 1 = .ok (.getfield 9, 3) := by decide +kernel
theorem dX5_copyFrom_4 : decode cX5_copyFrom 4 = .ok (.iconst 0, 1) := by decide +kernel
theorem dX5_copyFrom_5 : decode cX5_copyFrom 5 = .ok (.aload_n 0, 1) := by decide +kernel
theorem dX5_copyFrom_6 : decode cX5_copyFrom 6 = .ok (.getfield 9, 3) := by decide +kernel
theorem dX5_copyFrom_9 : decode cX5_copyFrom 9 = .ok (.iconst 0, 1) := by decide +kernel
theorem dX5_copyFrom_10 : decode cX5_copyFrom 10 = .ok (.bipush 8, 2) := by decide +kernel
theorem dX5_copyFrom_12 : decode cX5_copyFrom 12 = .ok (.invokestatic 56, 3) := by decide +kernel
theorem dX5_copyFrom_15 : decode cX5_copyFrom 15 = .ok (.aload_n 1, 1) := by decide +kernel
theorem dX5_copyFrom_16 : decode cX5_copyFrom 16 = .ok (.getfield 15, 3) := by decide +kernel
theorem dX5_copyFrom_19 : decode cX5_copyFrom 19 = .ok (.iconst 0, 1) := by decide +kernel
theorem dX5_copyFrom_20 : decode cX5_copyFrom 20 = .ok (.aload_n 0, 1) := by decide +kernel
theorem dX5_copyFrom_21 : decode cX5_copyFrom 21 = .ok (.getfield 15, 3) := by decide +kernel
theorem dX5_copyFrom_24 : decode cX5_copyFrom 24 = .ok (.iconst 0, 1) := by decide +kernel
theorem dX5_copyFrom_25 : decode cX5_copyFrom 25 = .ok (.bipush 10, 2) := by decide +kernel
theorem dX5_copyFrom_27 : decode cX5_copyFrom 27 = .ok (.invokestatic 56, 3) := by decide +kernel
theorem dX5_copyFrom_30 : decode cX5_copyFrom 30 = .ok (.aload_n 1, 1) := by decide +kernel
theorem dX5_copyFrom_31 : decode cX5_copyFrom 31 = .ok (.getfield 18, 3) := by decide +kernel
theorem dX5_copyFrom_34 : decode cX5_copyFrom 34 = .ok (.iconst 0, 1) := by decide +kernel
theorem dX5_copyFrom_35 : decode cX5_copyFrom 35 = .ok (.aload_n 0, 1) := by decide +kernel
theorem dX5_copyFrom_36 : decode cX5_copyFrom 36 = .ok (.getfield 18, 3) := by decide +kernel
theorem dX5_copyFrom_39 : decode cX5_copyFrom 39 = .ok (.iconst 0, 1) := by decide +kernel
theorem dX5_copyFrom_40 : decode cX5_copyFrom 40 = .ok (.bipush 10, 2) := by decide +kernel
theorem dX5_copyFrom_42 : decode cX5_copyFrom 42 = .ok (.invokestatic 56, 3) := by decide +kernel
theorem dX5_copyFrom_45 : decode cX5_copyFrom 45 = .ok (.aload_n 1, 1) := by decide +kernel
theorem dX5_copyFrom_46 : decode cX5_copyFrom 46 = .ok (.getfield 21, 3) := by decide +kernel
theorem dX5_copyFrom_49 : decode cX5_copyFrom 49 = .ok (.iconst 0, 1) := by decide +kernel
theorem dX5_copyFrom_50 : decode cX5_copyFrom 50 = .ok (.aload_n 0, 1) := by decide +kernel
theorem dX5_copyFrom_51 : decode cX5_copyFrom 51 = .ok (.getfield 21, 3) := by decide +kernel
theorem dX5_copyFrom_54 : decode cX5_copyFrom 54 = .ok (.iconst 0, 1) := by decide +kernel
theorem dX5_copyFrom_55 : decode cX5_copyFrom 55 = .ok (.bipush 10, 2) := by decide +kernel
theorem dX5_copyFrom_57 : decode cX5_copyFrom 57 = .ok (.invokestatic 56, 3) := by decide +kernel
theorem dX5_copyFrom_60 : decode cX5_copyFrom 60 = .ok (.aload_n 1, 1) := by decide +kernel
theorem dX5_copyFrom_61 : decode cX5_copyFrom 61 = .ok (.getfield 36, 3) := by decide +kernel
theorem dX5_copyFrom_64 : decode cX5_copyFrom 64 = .ok (.iconst 0, 1) := by decide +kernel
theorem dX5_copyFrom_65 : decode cX5_copyFrom 65 = .ok (.aload_n 0, 1) := by decide +kernel
theorem dX5_copyFrom_66 : decode cX5_copyFrom 66 = .ok (.getfield 36, 3) := by decide +kernel
theorem dX5_copyFrom_69 : decode cX5_copyFrom 69 = .ok (.iconst 0, 1) := by decide +kernel
theorem dX5_copyFrom_70 : decode cX5_copyFrom 70 = .ok (.bipush 10, 2) := by decide +kernel
theorem dX5_copyFrom_72 : decode cX5_copyFrom 72 = .ok (.invokestatic 56, 3) := by decide +kernel
theorem dX5_copyFrom_75 : decode cX5_copyFrom 75 = .ok (.iconst 0, 1) := by decide +kernel
theorem dX5_copyFrom_76 : decode cX5_copyFrom 76 = .ok (.istore_n 2, 1) := by decide +kernel
theorem dX5_copyFrom_77 : decode cX5_copyFrom 77 = .ok (.iload_n 2, 1) := by decide +kernel
theorem dX5_copyFrom_78 : decode cX5_copyFrom 78 = .ok (.bipush 10, 2) := by decide +kernel
theorem dX5_copyFrom_80 : decode cX5_copyFrom 80 = .ok (.if_icmp .ge 28, 3) := by decide +kernel
theorem dX5_copyFrom_83 : decode cX5_copyFrom 83 = .ok (.aload_n 1, 1) := by decide +kernel
theorem dX5_copyFrom_84 : decode cX5_copyFrom 84 = .ok (.getfield 33, 3) := by decide +kernel
theorem dX5_copyFrom_87 : decode cX5_copyFrom 87 = .ok (.iload_n 2, 1) := by decide +kernel
theorem dX5_copyFrom_88 : decode cX5_copyFrom 88 = .ok (.aaload, 1) := by decide +kernel
theorem dX5_copyFrom_89 : decode cX5_copyFrom 89 = .ok (.iconst 0, 1) := by decide +kernel
theorem dX5_copyFrom_90 : decode cX5_copyFrom 90 = .ok (.aload_n 0, 1) := by decide +kernel
theorem dX5_copyFrom_91 : decode cX5_copyFrom 91 = .ok (.getfield 33, 3) := by decide +kernel
theorem dX5_copyFrom_94 : decode cX5_copyFrom 94 = .ok (.iload_n 2, 1) := by decide +kernel
theorem dX5_copyFrom_95 : decode cX5_copyFrom 95 = .ok (.aaload, 1) := by decide +kernel
theorem dX5_copyFrom_96 : decode cX5_copyFrom 96 = .ok (.iconst 0, 1) := by decide +kernel
theorem dX5_copyFrom_97 : decode cX5_copyFrom 97 = .ok (.bipush 10, 2) := by decide +kernel
theorem dX5_copyFrom_99 : decode cX5_copyFrom 99 = .ok (.invokestatic 56, 3) := by decide +kernel
theorem dX5_copyFrom_102 : decode cX5_copyFrom 102 = .ok (.iinc 2 1, 3) := by decide +kernel
theorem dX5_copyFrom_105 : decode cX5_copyFrom 105 = .ok (.goto (-28), 3) := by decide +kernel
theorem dX5_copyFrom_108 : decode cX5_copyFrom 108 = .ok (.aload_n 0, 1) := by decide +kernel
theorem dX5_copyFrom_109 : decode cX5_copyFrom 109 = .ok (.aload_n 1, 1) := by decide +kernel
theorem dX5_copyFrom_110 : decode cX5_copyFrom 110 = .ok (.getfield 24, 3) := by decide +kernel
theorem dX5_copyFrom_113 : decode cX5_copyFrom 113 = .ok (.putfield 24, 3) := by decide +kernel
theorem dX5_copyFrom_116 : decode cX5_copyFrom 116 = .ok (.aload_n 0, 1) := by decide +kernel
theorem dX5_copyFrom_117 : decode cX5_copyFrom 117 = .ok (.aload_n 1, 1) := by decide +kernel
theorem dX5_copyFrom_118 : decode cX5_copyFrom 118 = .ok (.getfield 62, 3) := by decide +kernel
theorem dX5_copyFrom_121 : decode cX5_copyFrom 121 = .ok (.putfield 62, 3) := by decide +kernel
theorem dX5_copyFrom_124 : decode cX5_copyFrom 124 = .ok (.aload_n 0, 1) := by decide +kernel
theorem dX5_copyFrom_125 : decode cX5_copyFrom 125 = .ok (.aload_n 1, 1) := by decide +kernel
theorem dX5_copyFrom_126 : decode cX5_copyFrom 126 = .ok (.getfield 28, 3) := by decide +kernel
theorem dX5_copyFrom_129 : decode cX5_copyFrom 129 = .ok (.putfield 28, 3) := by decide +kernel
theorem dX5_copyFrom_132 : decode cX5_copyFrom 132 = .ok (.aload_n 0, 1) := by decide +kernel
theorem dX5_copyFrom_133 : decode cX5_copyFrom 133 = .ok (.aload_n 1, 1) := by decide +kernel
theorem dX5_copyFrom_134 : decode cX5_copyFrom 134 = .ok (.getfield 65, 3) := by decide +kernel
theorem dX5_copyFrom_137 : decode cX5_copyFrom 137 = .ok (.putfield 65, 3) := by decide +kernel
theorem dX5_copyFrom_140 : decode cX5_copyFrom 140 = .ok (.aload_n 0, 1) := by decide +kernel
theorem dX5_copyFrom_141 : decode cX5_copyFrom 141 = .ok (.getfield 42, 3) := by decide +kernel
theorem dX5_copyFrom_144 : decode cX5_copyFrom 144 = .ok (.aload_n 1, 1) := by decide +kernel
theorem dX5_copyFrom_145 : decode cX5_copyFrom 145 = .ok (.getfield 42, 3) := by decide +kernel
theorem dX5_copyFrom_148 : decode cX5_copyFrom 148 = .ok (.invokevirtual 68, 3) := by decide +kernel
theorem dX5_copyFrom_151 : decode cX5_copyFrom 151 = .ok (.return_, 1) := by decide +kernel
theorem dX5_has_0 : decode cX5_has 0 = .ok (.iload_n 1, 1) := by decide +kernel
theorem dX5_has_1 : decode cX5_has 1 = .ok (.aload_n 0, 1) := by decide +kernel
theorem dX5_has_2 : decode cX5_has 2 = .ok (.getfield 24, 3) := by decide +kernel
theorem dX5_has_5 : decode cX5_has 5 = .ok (.invokestatic 72, 3) := by decide +kernel
theorem dX5_has_8 : decode cX5_has 8 = .ok (.ifCond .eq 16, 3) := by decide +kernel
theorem dX5_has_11 : decode cX5_has 11 = .ok (.iload_n 1, 1) := by decide +kernel
theorem dX5_has_12 : decode cX5_has 12 = .ok (.bipush 10, 2) := by decide +kernel
theorem dX5_has_14 : decode cX5_has 14 = .ok (.invokestatic 72, 3) := by decide +kernel
theorem dX5_has_17 : decode cX5_has 17 = .ok (.ifCond .eq 7, 3) := by decide +kernel
theorem dX5_has_20 : decode cX5_has 20 = .ok (.iconst 1, 1) := by decide +kernel
theorem dX5_has_21 : decode cX5_has 21 = .ok (.goto 4, 3) := by decide +kernel
theorem dX5_has_24 : decode cX5_has 24 = .ok (.iconst 0, 1) := by decide +kernel
theorem dX5_has_25 : decode cX5_has 25 = .ok (.ireturn, 1) := by decide +kernel
theorem dX5_variableOf_0 : decode cX5_variableOf 0 = .ok (.iload_n 1, 1) := by decide +kernel
theorem dX5_variableOf_1 : decode cX5_variableOf 1 = .ok (.bipush 8, 2) := by decide +kernel
theorem dX5_variableOf_3 : decode cX5_variableOf 3 = .ok (.invokestatic 72, 3) := by decide +kernel
theorem dX5_variableOf_6 : decode cX5_variableOf 6 = .ok (.ifCond .eq 12, 3) := by decide +kernel
theorem dX5_variableOf_9 : decode cX5_variableOf 9 = .ok (.aload_n 0, 1) := by decide +kernel
theorem dX5_variableOf_10 : decode cX5_variableOf 10 = .ok (.getfield 9, 3) := by decide +kernel
theorem dX5_variableOf_13 : decode cX5_variableOf 13 = .ok (.iload_n 1, 1) := by decide +kernel
theorem dX5_variableOf_14 : decode cX5_variableOf 14 = .ok (.iaload, 1) := by decide +kernel
theorem dX5_variableOf_15 : decode cX5_variableOf 15 = .ok (.goto 5, 3) := by decide +kernel
theorem dX5_variableOf_18 : decode cX5_variableOf 18 = .ok (.bipush (-9), 2) := by decide +kernel
theorem dX5_variableOf_20 : decode cX5_variableOf 20 = .ok (.ireturn, 1) := by decide +kernel
theorem dX5_valueOf_0 : decode cX5_valueOf 0 = .ok (.aload_n 0, 1) := by decide +kernel
theorem dX5_valueOf_1 : decode cX5_valueOf 1 = .ok (.iload_n 1, 1) := by decide +kernel
theorem dX5_valueOf_2 : decode cX5_valueOf 2 = .ok (.invokevirtual 76, 3) := by decide +kernel
theorem dX5_valueOf_5 : decode cX5_valueOf 5 = .ok (.ifCond .eq 12, 3) := by decide +kernel
theorem dX5_valueOf_8 : decode cX5_valueOf 8 = .ok (.aload_n 0, 1) := by decide +kernel
theorem dX5_valueOf_9 : decode cX5_valueOf 9 = .ok (.getfield 15, 3) := by decide +kernel
theorem dX5_valueOf_12 : decode cX5_valueOf 12 = .ok (.iload_n 1, 1) := by decide +kernel
theorem dX5_valueOf_13 : decode cX5_valueOf 13 = .ok (.iaload, 1) := by decide +kernel
theorem dX5_valueOf_14 : decode cX5_valueOf 14 = .ok (.goto 4, 3) := by decide +kernel
theorem dX5_valueOf_17 : decode cX5_valueOf 17 = .ok (.iconst 0, 1) := by decide +kernel
theorem dX5_valueOf_18 : decode cX5_valueOf 18 = .ok (.ireturn, 1) := by decide +kernel
theorem dX5_lowOf_0 : decode cX5_lowOf 0 = .ok (.aload_n 0, 1) := by decide +kernel
theorem dX5_lowOf_1 : decode cX5_lowOf 1 = .ok (.iload_n 1, 1) := by decide +kernel
theorem dX5_lowOf_2 : decode cX5_lowOf 2 = .ok (.invokevirtual 76, 3) := by decide +kernel
theorem dX5_lowOf_5 : decode cX5_lowOf 5 = .ok (.ifCond .eq 12, 3) := by decide +kernel
theorem dX5_lowOf_8 : decode cX5_lowOf 8 = .ok (.aload_n 0, 1) := by decide +kernel
theorem dX5_lowOf_9 : decode cX5_lowOf 9 = .ok (.getfield 18, 3) := by decide +kernel
theorem dX5_lowOf_12 : decode cX5_lowOf 12 = .ok (.iload_n 1, 1) := by decide +kernel
theorem dX5_lowOf_13 : decode cX5_lowOf 13 = .ok (.iaload, 1) := by decide +kernel
theorem dX5_lowOf_14 : decode cX5_lowOf 14 = .ok (.goto 4, 3) := by decide +kernel
theorem dX5_lowOf_17 : decode cX5_lowOf 17 = .ok (.iconst 0, 1) := by decide +kernel
theorem dX5_lowOf_18 : decode cX5_lowOf 18 = .ok (.ireturn, 1) := by decide +kernel
theorem dX5_highOf_0 : decode cX5_highOf 0 = .ok (.aload_n 0, 1) := by decide +kernel
theorem dX5_highOf_1 : decode cX5_highOf 1 = .ok (.iload_n 1, 1) := by decide +kernel
theorem dX5_highOf_2 : decode cX5_highOf 2 = .ok (.invokevirtual 76, 3) := by decide +kernel
theorem dX5_highOf_5 : decode cX5_highOf 5 = .ok (.ifCond .eq 12, 3) := by decide +kernel
theorem dX5_highOf_8 : decode cX5_highOf 8 = .ok (.aload_n 0, 1) := by decide +kernel
theorem dX5_highOf_9 : decode cX5_highOf 9 = .ok (.getfield 21, 3) := by decide +kernel
theorem dX5_highOf_12 : decode cX5_highOf 12 = .ok (.iload_n 1, 1) := by decide +kernel
theorem dX5_highOf_13 : decode cX5_highOf 13 = .ok (.iaload, 1) := by decide +kernel
theorem dX5_highOf_14 : decode cX5_highOf 14 = .ok (.goto 4, 3) := by decide +kernel
theorem dX5_highOf_17 : decode cX5_highOf 17 = .ok (.iconst 0, 1) := by decide +kernel
theorem dX5_highOf_18 : decode cX5_highOf 18 = .ok (.ireturn, 1) := by decide +kernel
theorem dX5_coefficient_0 : decode cX5_coefficient 0 = .ok (.iload_n 1, 1) := by decide +kernel
theorem dX5_coefficient_1 : decode cX5_coefficient 1 = .ok (.bipush 10, 2) := by decide +kernel
theorem dX5_coefficient_3 : decode cX5_coefficient 3 = .ok (.invokestatic 72, 3) := by decide +kernel
theorem dX5_coefficient_6 : decode cX5_coefficient 6 = .ok (.ifCond .eq 23, 3) := by decide +kernel
theorem dX5_coefficient_9 : decode cX5_coefficient 9 = .ok (.iload_n 2, 1) := by decide +kernel
theorem dX5_coefficient_10 : decode cX5_coefficient 10 = .ok (.bipush 10, 2) := by decide +kernel
theorem dX5_coefficient_12 : decode cX5_coefficient 12 = .ok (.invokestatic 72, 3) := by decide +kernel
theorem dX5_coefficient_15 : decode cX5_coefficient 15 = .ok (.ifCond .eq 14, 3) := by decide +kernel
theorem dX5_coefficient_18 : decode cX5_coefficient 18 = .ok (.aload_n 0, 1) := by decide +kernel
theorem dX5_coefficient_19 : decode cX5_coefficient 19 = .ok (.getfield 33, 3) := by decide +kernel
theorem dX5_coefficient_22 : decode cX5_coefficient 22 = .ok (.iload_n 1, 1) := by decide +kernel
theorem dX5_coefficient_23 : decode cX5_coefficient 23 = .ok (.aaload, 1) := by decide +kernel
theorem dX5_coefficient_24 : decode cX5_coefficient 24 = .ok (.iload_n 2, 1) := by decide +kernel
theorem dX5_coefficient_25 : decode cX5_coefficient 25 = .ok (.iaload, 1) := by decide +kernel
theorem dX5_coefficient_26 : decode cX5_coefficient 26 = .ok (.goto 4, 3) := by decide +kernel
theorem dX5_coefficient_29 : decode cX5_coefficient 29 = .ok (.iconst 0, 1) := by decide +kernel
theorem dX5_coefficient_30 : decode cX5_coefficient 30 = .ok (.ireturn, 1) := by decide +kernel
theorem dX5_answerOf_0 : decode cX5_answerOf 0 = .ok (.iload_n 1, 1) := by decide +kernel
theorem dX5_answerOf_1 : decode cX5_answerOf 1 = .ok (.bipush 10, 2) := by decide +kernel
theorem dX5_answerOf_3 : decode cX5_answerOf 3 = .ok (.invokestatic 72, 3) := by decide +kernel
theorem dX5_answerOf_6 : decode cX5_answerOf 6 = .ok (.ifCond .eq 12, 3) := by decide +kernel
theorem dX5_answerOf_9 : decode cX5_answerOf 9 = .ok (.aload_n 0, 1) := by decide +kernel
theorem dX5_answerOf_10 : decode cX5_answerOf 10 = .ok (.getfield 36, 3) := by decide +kernel
theorem dX5_answerOf_13 : decode cX5_answerOf 13 = .ok (.iload_n 1, 1) := by decide +kernel
theorem dX5_answerOf_14 : decode cX5_answerOf 14 = .ok (.iaload, 1) := by decide +kernel
theorem dX5_answerOf_15 : decode cX5_answerOf 15 = .ok (.goto 4, 3) := by decide +kernel
theorem dX5_answerOf_18 : decode cX5_answerOf 18 = .ok (.iconst 0, 1) := by decide +kernel
theorem dX5_answerOf_19 : decode cX5_answerOf 19 = .ok (.ireturn, 1) := by decide +kernel
theorem dX5_isFree_0 : decode cX5_isFree 0 = .ok (.iconst 0, 1) := by decide +kernel
theorem dX5_isFree_1 : decode cX5_isFree 1 = .ok (.istore_n 2, 1) := by decide +kernel
theorem dX5_isFree_2 : decode cX5_isFree 2 = .ok (.iload_n 2, 1) := by decide +kernel
theorem dX5_isFree_3 : decode cX5_isFree 3 = .ok (.aload_n 0, 1) := by decide +kernel
theorem dX5_isFree_4 : decode cX5_isFree 4 = .ok (.getfield 65, 3) := by decide +kernel
theorem dX5_isFree_7 : decode cX5_isFree 7 = .ok (.if_icmp .ge 20, 3) := by decide +kernel
theorem dX5_isFree_10 : decode cX5_isFree 10 = .ok (.aload_n 0, 1) := by decide +kernel
theorem dX5_isFree_11 : decode cX5_isFree 11 = .ok (.iload_n 2, 1) := by decide +kernel
theorem dX5_isFree_12 : decode cX5_isFree 12 = .ok (.iload_n 1, 1) := by decide +kernel
theorem dX5_isFree_13 : decode cX5_isFree 13 = .ok (.invokevirtual 80, 3) := by decide +kernel
theorem dX5_isFree_16 : decode cX5_isFree 16 = .ok (.ifCond .eq 5, 3) := by decide +kernel
theorem dX5_isFree_19 : decode cX5_isFree 19 = .ok (.iconst 0, 1) := by decide +kernel
theorem dX5_isFree_20 : decode cX5_isFree 20 = .ok (.ireturn, 1) := by decide +kernel
theorem dX5_isFree_21 : decode cX5_isFree 21 = .ok (.iinc 2 1, 3) := by decide +kernel
theorem dX5_isFree_24 : decode cX5_isFree 24 = .ok (.goto (-22), 3) := by decide +kernel
theorem dX5_isFree_27 : decode cX5_isFree 27 = .ok (.iconst 1, 1) := by decide +kernel
theorem dX5_isFree_28 : decode cX5_isFree 28 = .ok (.ireturn, 1) := by decide +kernel
theorem dX5_usedBits_0 : decode cX5_usedBits 0 = .ok (.iconst 0, 1) := by decide +kernel
theorem dX5_usedBits_1 : decode cX5_usedBits 1 = .ok (.istore_n 1, 1) := by decide +kernel
theorem dX5_usedBits_2 : decode cX5_usedBits 2 = .ok (.iconst 0, 1) := by decide +kernel
theorem dX5_usedBits_3 : decode cX5_usedBits 3 = .ok (.istore_n 2, 1) := by decide +kernel
theorem dX5_usedBits_4 : decode cX5_usedBits 4 = .ok (.iload_n 2, 1) := by decide +kernel
theorem dX5_usedBits_5 : decode cX5_usedBits 5 = .ok (.bipush 10, 2) := by decide +kernel
theorem dX5_usedBits_7 : decode cX5_usedBits 7 = .ok (.if_icmp .ge 23, 3) := by decide +kernel
theorem dX5_usedBits_10 : decode cX5_usedBits 10 = .ok (.aload_n 0, 1) := by decide +kernel
theorem dX5_usedBits_11 : decode cX5_usedBits 11 = .ok (.iload_n 2, 1) := by decide +kernel
theorem dX5_usedBits_12 : decode cX5_usedBits 12 = .ok (.invokevirtual 84, 3) := by decide +kernel
theorem dX5_usedBits_15 : decode cX5_usedBits 15 = .ok (.ifCond .ne 9, 3) := by decide +kernel
theorem dX5_usedBits_18 : decode cX5_usedBits 18 = .ok (.iload_n 1, 1) := by decide +kernel
theorem dX5_usedBits_19 : decode cX5_usedBits 19 = .ok (.iconst 1, 1) := by decide +kernel
theorem dX5_usedBits_20 : decode cX5_usedBits 20 = .ok (.iload_n 2, 1) := by decide +kernel
theorem dX5_usedBits_21 : decode cX5_usedBits 21 = .ok (.ishl, 1) := by decide +kernel
theorem dX5_usedBits_22 : decode cX5_usedBits 22 = .ok (.ior, 1) := by decide +kernel
theorem dX5_usedBits_23 : decode cX5_usedBits 23 = .ok (.istore_n 1, 1) := by decide +kernel
theorem dX5_usedBits_24 : decode cX5_usedBits 24 = .ok (.iinc 2 1, 3) := by decide +kernel
theorem dX5_usedBits_27 : decode cX5_usedBits 27 = .ok (.goto (-23), 3) := by decide +kernel
theorem dX5_usedBits_30 : decode cX5_usedBits 30 = .ok (.iload_n 1, 1) := by decide +kernel
theorem dX5_usedBits_31 : decode cX5_usedBits 31 = .ok (.ireturn, 1) := by decide +kernel
theorem dX5_valuesOfPeople_0 : decode cX5_valuesOfPeople 0 = .ok (.iconst 0, 1) := by decide +kernel
theorem dX5_valuesOfPeople_1 : decode cX5_valuesOfPeople 1 = .ok (.istore_n 1, 1) := by decide +kernel
theorem dX5_valuesOfPeople_2 : decode cX5_valuesOfPeople 2 = .ok (.iconst 0, 1) := by decide +kernel
theorem dX5_valuesOfPeople_3 : decode cX5_valuesOfPeople 3 = .ok (.istore_n 2, 1) := by decide +kernel
theorem dX5_valuesOfPeople_4 : decode cX5_valuesOfPeople 4 = .ok (.iload_n 2, 1) := by decide +kernel
theorem dX5_valuesOfPeople_5 : decode cX5_valuesOfPeople 5 = .ok (.bipush 8, 2) := by decide +kernel
theorem dX5_valuesOfPeople_7 : decode cX5_valuesOfPeople 7 = .ok (.if_icmp .ge 22, 3) := by decide +kernel
theorem dX5_valuesOfPeople_10 : decode cX5_valuesOfPeople 10 = .ok (.iload_n 1, 1) := by decide +kernel
theorem dX5_valuesOfPeople_11 : decode cX5_valuesOfPeople 11 = .ok (.aload_n 0, 1) := by decide +kernel
theorem dX5_valuesOfPeople_12 : decode cX5_valuesOfPeople 12 = .ok (.aload_n 0, 1) := by decide +kernel
theorem dX5_valuesOfPeople_13 : decode cX5_valuesOfPeople 13 = .ok (.getfield 9, 3) := by decide +kernel
theorem dX5_valuesOfPeople_16 : decode cX5_valuesOfPeople 16 = .ok (.iload_n 2, 1) := by decide +kernel
theorem dX5_valuesOfPeople_17 : decode cX5_valuesOfPeople 17 = .ok (.iaload, 1) := by decide +kernel
theorem dX5_valuesOfPeople_18 : decode cX5_valuesOfPeople 18 = .ok (.invokevirtual 87, 3) := by decide +kernel
theorem dX5_valuesOfPeople_21 : decode cX5_valuesOfPeople 21 = .ok (.iadd, 1) := by decide +kernel
theorem dX5_valuesOfPeople_22 : decode cX5_valuesOfPeople 22 = .ok (.istore_n 1, 1) := by decide +kernel
theorem dX5_valuesOfPeople_23 : decode cX5_valuesOfPeople 23 = .ok (.iinc 2 1, 3) := by decide +kernel
theorem dX5_valuesOfPeople_26 : decode cX5_valuesOfPeople 26 = .ok (.goto (-22), 3) := by decide +kernel
theorem dX5_valuesOfPeople_29 : decode cX5_valuesOfPeople 29 = .ok (.iload_n 1, 1) := by decide +kernel
theorem dX5_valuesOfPeople_30 : decode cX5_valuesOfPeople 30 = .ok (.ireturn, 1) := by decide +kernel
theorem dX5_takeTold_0 : decode cX5_takeTold 0 = .ok (.aload_n 0, 1) := by decide +kernel
theorem dX5_takeTold_1 : decode cX5_takeTold 1 = .ok (.iload_n 1, 1) := by decide +kernel
theorem dX5_takeTold_2 : decode cX5_takeTold 2 = .ok (.invokevirtual 99, 3) := by decide +kernel
theorem dX5_takeTold_5 : decode cX5_takeTold 5 = .ok (.istore_n 3, 1) := by decide +kernel
theorem dX5_takeTold_6 : decode cX5_takeTold 6 = .ok (.aload_n 0, 1) := by decide +kernel
theorem dX5_takeTold_7 : decode cX5_takeTold 7 = .ok (.iload_n 3, 1) := by decide +kernel
theorem dX5_takeTold_8 : decode cX5_takeTold 8 = .ok (.invokevirtual 76, 3) := by decide +kernel
theorem dX5_takeTold_11 : decode cX5_takeTold 11 = .ok (.ifCond .eq 11, 3) := by decide +kernel
theorem dX5_takeTold_14 : decode cX5_takeTold 14 = .ok (.aload_n 0, 1) := by decide +kernel
theorem dX5_takeTold_15 : decode cX5_takeTold 15 = .ok (.iload_n 3, 1) := by decide +kernel
theorem dX5_takeTold_16 : decode cX5_takeTold 16 = .ok (.invokevirtual 84, 3) := by decide +kernel
theorem dX5_takeTold_19 : decode cX5_takeTold 19 = .ok (.ifCond .ne 5, 3) := by decide +kernel
theorem dX5_takeTold_22 : decode cX5_takeTold 22 = .ok (.iconst 0, 1) := by decide +kernel
theorem dX5_takeTold_23 : decode cX5_takeTold 23 = .ok (.ireturn, 1) := by decide +kernel
theorem dX5_takeTold_24 : decode cX5_takeTold 24 = .ok (.aload_n 0, 1) := by decide +kernel
theorem dX5_takeTold_25 : decode cX5_takeTold 25 = .ok (.iload_n 3, 1) := by decide +kernel
theorem dX5_takeTold_26 : decode cX5_takeTold 26 = .ok (.iload_n 2, 1) := by decide +kernel
theorem dX5_takeTold_27 : decode cX5_takeTold 27 = .ok (.invokevirtual 102, 3) := by decide +kernel
theorem dX5_takeTold_30 : decode cX5_takeTold 30 = .ok (.iconst 1, 1) := by decide +kernel
theorem dX5_takeTold_31 : decode cX5_takeTold 31 = .ok (.ireturn, 1) := by decide +kernel
theorem dX5_takeChange_0 : decode cX5_takeChange 0 = .ok (.iload_n 1, 1) := by decide +kernel
theorem dX5_takeChange_1 : decode cX5_takeChange 1 = .ok (.bipush 8, 2) := by decide +kernel
theorem dX5_takeChange_3 : decode cX5_takeChange 3 = .ok (.invokestatic 72, 3) := by decide +kernel
theorem dX5_takeChange_6 : decode cX5_takeChange 6 = .ok (.ifCond .eq 15, 3) := by decide +kernel
theorem dX5_takeChange_9 : decode cX5_takeChange 9 = .ok (.aload_n 0, 1) := by decide +kernel
theorem dX5_takeChange_10 : decode cX5_takeChange 10 = .ok (.getfield 24, 3) := by decide +kernel
theorem dX5_takeChange_13 : decode cX5_takeChange 13 = .ok (.bipush 10, 2) := by decide +kernel
theorem dX5_takeChange_15 : decode cX5_takeChange 15 = .ok (.invokestatic 72, 3) := by decide +kernel
theorem dX5_takeChange_18 : decode cX5_takeChange 18 = .ok (.ifCond .ne 5, 3) := by decide +kernel
theorem dX5_takeChange_21 : decode cX5_takeChange 21 = .ok (.iconst 0, 1) := by decide +kernel
theorem dX5_takeChange_22 : decode cX5_takeChange 22 = .ok (.ireturn, 1) := by decide +kernel
theorem dX5_takeChange_23 : decode cX5_takeChange 23 = .ok (.aload_n 0, 1) := by decide +kernel
theorem dX5_takeChange_24 : decode cX5_takeChange 24 = .ok (.getfield 9, 3) := by decide +kernel
theorem dX5_takeChange_27 : decode cX5_takeChange 27 = .ok (.iload_n 1, 1) := by decide +kernel
theorem dX5_takeChange_28 : decode cX5_takeChange 28 = .ok (.aload_n 0, 1) := by decide +kernel
theorem dX5_takeChange_29 : decode cX5_takeChange 29 = .ok (.getfield 24, 3) := by decide +kernel
theorem dX5_takeChange_32 : decode cX5_takeChange 32 = .ok (.iastore, 1) := by decide +kernel
theorem dX5_takeChange_33 : decode cX5_takeChange 33 = .ok (.aload_n 0, 1) := by decide +kernel
theorem dX5_takeChange_34 : decode cX5_takeChange 34 = .ok (.aload_n 0, 1) := by decide +kernel
theorem dX5_takeChange_35 : decode cX5_takeChange 35 = .ok (.getfield 24, 3) := by decide +kernel
theorem dX5_takeChange_38 : decode cX5_takeChange 38 = .ok (.iload_n 2, 1) := by decide +kernel
theorem dX5_takeChange_39 : decode cX5_takeChange 39 = .ok (.invokevirtual 102, 3) := by decide +kernel
theorem dX5_takeChange_42 : decode cX5_takeChange 42 = .ok (.aload_n 0, 1) := by decide +kernel
theorem dX5_takeChange_43 : decode cX5_takeChange 43 = .ok (.dup, 1) := by decide +kernel
theorem dX5_takeChange_44 : decode cX5_takeChange 44 = .ok (.getfield 24, 3) := by decide +kernel
theorem dX5_takeChange_47 : decode cX5_takeChange 47 = .ok (.iconst 1, 1) := by decide +kernel
theorem dX5_takeChange_48 : decode cX5_takeChange 48 = .ok (.iadd, 1) := by decide +kernel
theorem dX5_takeChange_49 : decode cX5_takeChange 49 = .ok (.putfield 24, 3) := by decide +kernel
theorem dX5_takeChange_52 : decode cX5_takeChange 52 = .ok (.iconst 1, 1) := by decide +kernel
theorem dX5_takeChange_53 : decode cX5_takeChange 53 = .ok (.ireturn, 1) := by decide +kernel
theorem dX5_set_0 : decode cX5_set 0 = .ok (.iload_n 1, 1) := by decide +kernel
theorem dX5_set_1 : decode cX5_set 1 = .ok (.bipush 10, 2) := by decide +kernel
theorem dX5_set_3 : decode cX5_set 3 = .ok (.invokestatic 72, 3) := by decide +kernel
theorem dX5_set_6 : decode cX5_set 6 = .ok (.ifCond .eq 25, 3) := by decide +kernel
theorem dX5_set_9 : decode cX5_set 9 = .ok (.aload_n 0, 1) := by decide +kernel
theorem dX5_set_10 : decode cX5_set 10 = .ok (.getfield 15, 3) := by decide +kernel
theorem dX5_set_13 : decode cX5_set 13 = .ok (.iload_n 1, 1) := by decide +kernel
theorem dX5_set_14 : decode cX5_set 14 = .ok (.iload_n 2, 1) := by decide +kernel
theorem dX5_set_15 : decode cX5_set 15 = .ok (.iastore, 1) := by decide +kernel
theorem dX5_set_16 : decode cX5_set 16 = .ok (.aload_n 0, 1) := by decide +kernel
theorem dX5_set_17 : decode cX5_set 17 = .ok (.getfield 18, 3) := by decide +kernel
theorem dX5_set_20 : decode cX5_set 20 = .ok (.iload_n 1, 1) := by decide +kernel
theorem dX5_set_21 : decode cX5_set 21 = .ok (.iconst 0, 1) := by decide +kernel
theorem dX5_set_22 : decode cX5_set 22 = .ok (.iastore, 1) := by decide +kernel
theorem dX5_set_23 : decode cX5_set 23 = .ok (.aload_n 0, 1) := by decide +kernel
theorem dX5_set_24 : decode cX5_set 24 = .ok (.getfield 21, 3) := by decide +kernel
theorem dX5_set_27 : decode cX5_set 27 = .ok (.iload_n 1, 1) := by decide +kernel
theorem dX5_set_28 : decode cX5_set 28 = .ok (.bipush 99, 2) := by decide +kernel
theorem dX5_set_30 : decode cX5_set 30 = .ok (.iastore, 1) := by decide +kernel
theorem dX5_set_31 : decode cX5_set 31 = .ok (.return_, 1) := by decide +kernel
theorem dX5_takeBounds_0 : decode cX5_takeBounds 0 = .ok (.aload_n 0, 1) := by decide +kernel
theorem dX5_takeBounds_1 : decode cX5_takeBounds 1 = .ok (.iload_n 1, 1) := by decide +kernel
theorem dX5_takeBounds_2 : decode cX5_takeBounds 2 = .ok (.invokevirtual 76, 3) := by decide +kernel
theorem dX5_takeBounds_5 : decode cX5_takeBounds 5 = .ok (.ifCond .eq 23, 3) := by decide +kernel
theorem dX5_takeBounds_8 : decode cX5_takeBounds 8 = .ok (.iload_n 2, 1) := by decide +kernel
theorem dX5_takeBounds_9 : decode cX5_takeBounds 9 = .ok (.aload_n 0, 1) := by decide +kernel
theorem dX5_takeBounds_10 : decode cX5_takeBounds 10 = .ok (.getfield 15, 3) := by decide +kernel
theorem dX5_takeBounds_13 : decode cX5_takeBounds 13 = .ok (.iload_n 1, 1) := by decide +kernel
theorem dX5_takeBounds_14 : decode cX5_takeBounds 14 = .ok (.iaload, 1) := by decide +kernel
theorem dX5_takeBounds_15 : decode cX5_takeBounds 15 = .ok (.if_icmp .gt 13, 3) := by decide +kernel
theorem dX5_takeBounds_18 : decode cX5_takeBounds 18 = .ok (.iload_n 3, 1) := by decide +kernel
theorem dX5_takeBounds_19 : decode cX5_takeBounds 19 = .ok (.aload_n 0, 1) := by decide +kernel
theorem dX5_takeBounds_20 : decode cX5_takeBounds 20 = .ok (.getfield 15, 3) := by decide +kernel
theorem dX5_takeBounds_23 : decode cX5_takeBounds 23 = .ok (.iload_n 1, 1) := by decide +kernel
theorem dX5_takeBounds_24 : decode cX5_takeBounds 24 = .ok (.iaload, 1) := by decide +kernel
theorem dX5_takeBounds_25 : decode cX5_takeBounds 25 = .ok (.if_icmp .ge 5, 3) := by decide +kernel
theorem dX5_takeBounds_28 : decode cX5_takeBounds 28 = .ok (.iconst 0, 1) := by decide +kernel
theorem dX5_takeBounds_29 : decode cX5_takeBounds 29 = .ok (.ireturn, 1) := by decide +kernel
theorem dX5_takeBounds_30 : decode cX5_takeBounds 30 = .ok (.aload_n 0, 1) := by decide +kernel
theorem dX5_takeBounds_31 : decode cX5_takeBounds 31 = .ok (.getfield 18, 3) := by decide +kernel
theorem dX5_takeBounds_34 : decode cX5_takeBounds 34 = .ok (.iload_n 1, 1) := by decide +kernel
theorem dX5_takeBounds_35 : decode cX5_takeBounds 35 = .ok (.iload_n 2, 1) := by decide +kernel
theorem dX5_takeBounds_36 : decode cX5_takeBounds 36 = .ok (.iastore, 1) := by decide +kernel
theorem dX5_takeBounds_37 : decode cX5_takeBounds 37 = .ok (.aload_n 0, 1) := by decide +kernel
theorem dX5_takeBounds_38 : decode cX5_takeBounds 38 = .ok (.getfield 21, 3) := by decide +kernel
theorem dX5_takeBounds_41 : decode cX5_takeBounds 41 = .ok (.iload_n 1, 1) := by decide +kernel
theorem dX5_takeBounds_42 : decode cX5_takeBounds 42 = .ok (.iload_n 3, 1) := by decide +kernel
theorem dX5_takeBounds_43 : decode cX5_takeBounds 43 = .ok (.iastore, 1) := by decide +kernel
theorem dX5_takeBounds_44 : decode cX5_takeBounds 44 = .ok (.iconst 1, 1) := by decide +kernel
theorem dX5_takeBounds_45 : decode cX5_takeBounds 45 = .ok (.ireturn, 1) := by decide +kernel
theorem dX5_takeRule_0 : decode cX5_takeRule 0 = .ok (.iload_n 1, 1) := by decide +kernel
theorem dX5_takeRule_1 : decode cX5_takeRule 1 = .ok (.iconst 4, 1) := by decide +kernel
theorem dX5_takeRule_2 : decode cX5_takeRule 2 = .ok (.invokestatic 72, 3) := by decide +kernel
theorem dX5_takeRule_5 : decode cX5_takeRule 5 = .ok (.ifCond .ne 5, 3) := by decide +kernel
theorem dX5_takeRule_8 : decode cX5_takeRule 8 = .ok (.iconst 0, 1) := by decide +kernel
theorem dX5_takeRule_9 : decode cX5_takeRule 9 = .ok (.ireturn, 1) := by decide +kernel
theorem dX5_takeRule_10 : decode cX5_takeRule 10 = .ok (.aload_n 0, 1) := by decide +kernel
theorem dX5_takeRule_11 : decode cX5_takeRule 11 = .ok (.iload_n 1, 1) := by decide +kernel
theorem dX5_takeRule_12 : decode cX5_takeRule 12 = .ok (.putfield 62, 3) := by decide +kernel
theorem dX5_takeRule_15 : decode cX5_takeRule 15 = .ok (.iconst 1, 1) := by decide +kernel
theorem dX5_takeRule_16 : decode cX5_takeRule 16 = .ok (.ireturn, 1) := by decide +kernel
theorem dX5_takeLimit_0 : decode cX5_takeLimit 0 = .ok (.iload_n 1, 1) := by decide +kernel
theorem dX5_takeLimit_1 : decode cX5_takeLimit 1 = .ok (.bipush 11, 2) := by decide +kernel
theorem dX5_takeLimit_3 : decode cX5_takeLimit 3 = .ok (.invokestatic 72, 3) := by decide +kernel
theorem dX5_takeLimit_6 : decode cX5_takeLimit 6 = .ok (.ifCond .ne 5, 3) := by decide +kernel
theorem dX5_takeLimit_9 : decode cX5_takeLimit 9 = .ok (.iconst 0, 1) := by decide +kernel
theorem dX5_takeLimit_10 : decode cX5_takeLimit 10 = .ok (.ireturn, 1) := by decide +kernel
theorem dX5_takeLimit_11 : decode cX5_takeLimit 11 = .ok (.aload_n 0, 1) := by decide +kernel
theorem dX5_takeLimit_12 : decode cX5_takeLimit 12 = .ok (.iload_n 1, 1) := by decide +kernel
theorem dX5_takeLimit_13 : decode cX5_takeLimit 13 = .ok (.putfield 28, 3) := by decide +kernel
theorem dX5_takeLimit_16 : decode cX5_takeLimit 16 = .ok (.iconst 1, 1) := by decide +kernel
theorem dX5_takeLimit_17 : decode cX5_takeLimit 17 = .ok (.ireturn, 1) := by decide +kernel
theorem dX5_takeQuestion_0 : decode cX5_takeQuestion 0 = .ok (.aload_n 0, 1) := by decide +kernel
theorem dX5_takeQuestion_1 : decode cX5_takeQuestion 1 = .ok (.aload_n 1, 1) := by decide +kernel
theorem dX5_takeQuestion_2 : decode cX5_takeQuestion 2 = .ok (.aload_n 0, 1) := by decide +kernel
theorem dX5_takeQuestion_3 : decode cX5_takeQuestion 3 = .ok (.getfield 62, 3) := by decide +kernel
theorem dX5_takeQuestion_6 : decode cX5_takeQuestion 6 = .ok (.aload_n 0, 1) := by decide +kernel
theorem dX5_takeQuestion_7 : decode cX5_takeQuestion 7 = .ok (.getfield 28, 3) := by decide +kernel
theorem dX5_takeQuestion_10 : decode cX5_takeQuestion 10 = .ok (.invokevirtual 106, 3) := by decide +kernel
theorem dX5_takeQuestion_13 : decode cX5_takeQuestion 13 = .ok (.istore_n 2, 1) := by decide +kernel
theorem dX5_takeQuestion_14 : decode cX5_takeQuestion 14 = .ok (.iload_n 2, 1) := by decide +kernel
theorem dX5_takeQuestion_15 : decode cX5_takeQuestion 15 = .ok (.iconst 1, 1) := by decide +kernel
theorem dX5_takeQuestion_16 : decode cX5_takeQuestion 16 = .ok (.if_icmp .ne 8, 3) := by decide +kernel
theorem dX5_takeQuestion_19 : decode cX5_takeQuestion 19 = .ok (.aload_n 0, 1) := by decide +kernel
theorem dX5_takeQuestion_20 : decode cX5_takeQuestion 20 = .ok (.aload_n 1, 1) := by decide +kernel
theorem dX5_takeQuestion_21 : decode cX5_takeQuestion 21 = .ok (.invokevirtual 110, 3) := by decide +kernel
theorem dX5_takeQuestion_24 : decode cX5_takeQuestion 24 = .ok (.iload_n 2, 1) := by decide +kernel
theorem dX5_takeQuestion_25 : decode cX5_takeQuestion 25 = .ok (.ireturn, 1) := by decide +kernel
theorem dX5_meetingBy_0 : decode cX5_meetingBy 0 = .ok (.aload_n 0, 1) := by decide +kernel
theorem dX5_meetingBy_1 : decode cX5_meetingBy 1 = .ok (.aload_n 1, 1) := by decide +kernel
theorem dX5_meetingBy_2 : decode cX5_meetingBy 2 = .ok (.invokevirtual 114, 3) := by decide +kernel
theorem dX5_meetingBy_5 : decode cX5_meetingBy 5 = .ok (.aload_n 0, 1) := by decide +kernel
theorem dX5_meetingBy_6 : decode cX5_meetingBy 6 = .ok (.getfield 52, 3) := by decide +kernel
theorem dX5_meetingBy_9 : decode cX5_meetingBy 9 = .ok (.invokestatic 117, 3) := by decide +kernel
theorem dX5_meetingBy_12 : decode cX5_meetingBy 12 = .ok (.ifCond .ge 5, 3) := by decide +kernel
theorem dX5_meetingBy_15 : decode cX5_meetingBy 15 = .ok (.iconst 0, 1) := by decide +kernel
theorem dX5_meetingBy_16 : decode cX5_meetingBy 16 = .ok (.ireturn, 1) := by decide +kernel
theorem dX5_meetingBy_17 : decode cX5_meetingBy 17 = .ok (.aload_n 0, 1) := by decide +kernel
theorem dX5_meetingBy_18 : decode cX5_meetingBy 18 = .ok (.getfield 42, 3) := by decide +kernel
theorem dX5_meetingBy_21 : decode cX5_meetingBy 21 = .ok (.aload_n 0, 1) := by decide +kernel
theorem dX5_meetingBy_22 : decode cX5_meetingBy 22 = .ok (.getfield 52, 3) := by decide +kernel
theorem dX5_meetingBy_25 : decode cX5_meetingBy 25 = .ok (.invokevirtual 121, 3) := by decide +kernel
theorem dX5_meetingBy_28 : decode cX5_meetingBy 28 = .ok (.ifCond .eq 5, 3) := by decide +kernel
theorem dX5_meetingBy_31 : decode cX5_meetingBy 31 = .ok (.iconst 2, 1) := by decide +kernel
theorem dX5_meetingBy_32 : decode cX5_meetingBy 32 = .ok (.ireturn, 1) := by decide +kernel
theorem dX5_meetingBy_33 : decode cX5_meetingBy 33 = .ok (.iconst 0, 1) := by decide +kernel
theorem dX5_meetingBy_34 : decode cX5_meetingBy 34 = .ok (.istore 4, 2) := by decide +kernel
theorem dX5_meetingBy_36 : decode cX5_meetingBy 36 = .ok (.iload_n 2, 1) := by decide +kernel
theorem dX5_meetingBy_37 : decode cX5_meetingBy 37 = .ok (.iconst 1, 1) := by decide +kernel
theorem dX5_meetingBy_38 : decode cX5_meetingBy 38 = .ok (.if_icmp .ne 32, 3) := by decide +kernel
theorem dX5_meetingBy_41 : decode cX5_meetingBy 41 = .ok (.aload_n 1, 1) := by decide +kernel
theorem dX5_meetingBy_42 : decode cX5_meetingBy 42 = .ok (.invokevirtual 124, 3) := by decide +kernel
theorem dX5_meetingBy_45 : decode cX5_meetingBy 45 = .ok (.istore 5, 2) := by decide +kernel
theorem dX5_meetingBy_47 : decode cX5_meetingBy 47 = .ok (.iload 5, 2) := by decide +kernel
theorem dX5_meetingBy_49 : decode cX5_meetingBy 49 = .ok (.iconst 2, 1) := by decide +kernel
theorem dX5_meetingBy_50 : decode cX5_meetingBy 50 = .ok (.if_icmp .lt 10, 3) := by decide +kernel
theorem dX5_meetingBy_53 : decode cX5_meetingBy 53 = .ok (.iload 5, 2) := by decide +kernel
theorem dX5_meetingBy_55 : decode cX5_meetingBy 55 = .ok (.bipush 6, 2) := by decide +kernel
theorem dX5_meetingBy_57 : decode cX5_meetingBy 57 = .ok (.if_icmp .le 7, 3) := by decide +kernel
theorem dX5_meetingBy_60 : decode cX5_meetingBy 60 = .ok (.iconst 1, 1) := by decide +kernel
theorem dX5_meetingBy_61 : decode cX5_meetingBy 61 = .ok (.goto 4, 3) := by decide +kernel
theorem dX5_meetingBy_64 : decode cX5_meetingBy 64 = .ok (.iconst 0, 1) := by decide +kernel
theorem dX5_meetingBy_65 : decode cX5_meetingBy 65 = .ok (.istore 4, 2) := by decide +kernel
theorem dX5_meetingBy_67 : decode cX5_meetingBy 67 = .ok (.goto 64, 3) := by decide +kernel
theorem dX5_meetingBy_70 : decode cX5_meetingBy 70 = .ok (.iload_n 2, 1) := by decide +kernel
theorem dX5_meetingBy_71 : decode cX5_meetingBy 71 = .ok (.iconst 2, 1) := by decide +kernel
theorem dX5_meetingBy_72 : decode cX5_meetingBy 72 = .ok (.if_icmp .ne 37, 3) := by decide +kernel
theorem dX5_meetingBy_75 : decode cX5_meetingBy 75 = .ok (.aload_n 0, 1) := by decide +kernel
theorem dX5_meetingBy_76 : decode cX5_meetingBy 76 = .ok (.getfield 46, 3) := by decide +kernel
theorem dX5_meetingBy_79 : decode cX5_meetingBy 79 = .ok (.aload_n 0, 1) := by decide +kernel
theorem dX5_meetingBy_80 : decode cX5_meetingBy 80 = .ok (.getfield 42, 3) := by decide +kernel
theorem dX5_meetingBy_83 : decode cX5_meetingBy 83 = .ok (.invokevirtual 68, 3) := by decide +kernel
theorem dX5_meetingBy_86 : decode cX5_meetingBy 86 = .ok (.aload_n 0, 1) := by decide +kernel
theorem dX5_meetingBy_87 : decode cX5_meetingBy 87 = .ok (.getfield 46, 3) := by decide +kernel
theorem dX5_meetingBy_90 : decode cX5_meetingBy 90 = .ok (.aload_n 0, 1) := by decide +kernel
theorem dX5_meetingBy_91 : decode cX5_meetingBy 91 = .ok (.getfield 52, 3) := by decide +kernel
theorem dX5_meetingBy_94 : decode cX5_meetingBy 94 = .ok (.invokevirtual 129, 3) := by decide +kernel
theorem dX5_meetingBy_97 : decode cX5_meetingBy 97 = .ok (.aload_n 0, 1) := by decide +kernel
theorem dX5_meetingBy_98 : decode cX5_meetingBy 98 = .ok (.getfield 46, 3) := by decide +kernel
theorem dX5_meetingBy_101 : decode cX5_meetingBy 101 = .ok (.invokevirtual 132, 3) := by decide +kernel
theorem dX5_meetingBy_104 : decode cX5_meetingBy 104 = .ok (.istore 4, 2) := by decide +kernel
theorem dX5_meetingBy_106 : decode cX5_meetingBy 106 = .ok (.goto 25, 3) := by decide +kernel
theorem dX5_meetingBy_109 : decode cX5_meetingBy 109 = .ok (.iload_n 2, 1) := by decide +kernel
theorem dX5_meetingBy_110 : decode cX5_meetingBy 110 = .ok (.iconst 3, 1) := by decide +kernel
theorem dX5_meetingBy_111 : decode cX5_meetingBy 111 = .ok (.if_icmp .ne 20, 3) := by decide +kernel
theorem dX5_meetingBy_114 : decode cX5_meetingBy 114 = .ok (.aload_n 0, 1) := by decide +kernel
theorem dX5_meetingBy_115 : decode cX5_meetingBy 115 = .ok (.getfield 65, 3) := by decide +kernel
theorem dX5_meetingBy_118 : decode cX5_meetingBy 118 = .ok (.iconst 1, 1) := by decide +kernel
theorem dX5_meetingBy_119 : decode cX5_meetingBy 119 = .ok (.iadd, 1) := by decide +kernel
theorem dX5_meetingBy_120 : decode cX5_meetingBy 120 = .ok (.iload_n 3, 1) := by decide +kernel
theorem dX5_meetingBy_121 : decode cX5_meetingBy 121 = .ok (.if_icmp .le 7, 3) := by decide +kernel
theorem dX5_meetingBy_124 : decode cX5_meetingBy 124 = .ok (.iconst 1, 1) := by decide +kernel
theorem dX5_meetingBy_125 : decode cX5_meetingBy 125 = .ok (.goto 4, 3) := by decide +kernel
theorem dX5_meetingBy_128 : decode cX5_meetingBy 128 = .ok (.iconst 0, 1) := by decide +kernel
theorem dX5_meetingBy_129 : decode cX5_meetingBy 129 = .ok (.istore 4, 2) := by decide +kernel
theorem dX5_meetingBy_131 : decode cX5_meetingBy 131 = .ok (.iload 4, 2) := by decide +kernel
theorem dX5_meetingBy_133 : decode cX5_meetingBy 133 = .ok (.ifCond .eq 7, 3) := by decide +kernel
theorem dX5_meetingBy_136 : decode cX5_meetingBy 136 = .ok (.iconst 2, 1) := by decide +kernel
theorem dX5_meetingBy_137 : decode cX5_meetingBy 137 = .ok (.goto 4, 3) := by decide +kernel
theorem dX5_meetingBy_140 : decode cX5_meetingBy 140 = .ok (.iconst 1, 1) := by decide +kernel
theorem dX5_meetingBy_141 : decode cX5_meetingBy 141 = .ok (.ireturn, 1) := by decide +kernel
theorem dX5_fixedBitsWith_0 : decode cX5_fixedBitsWith 0 = .ok (.aload_n 0, 1) := by decide +kernel
theorem dX5_fixedBitsWith_1 : decode cX5_fixedBitsWith 1 = .ok (.aload_n 1, 1) := by decide +kernel
theorem dX5_fixedBitsWith_2 : decode cX5_fixedBitsWith 2 = .ok (.invokevirtual 114, 3) := by decide +kernel
theorem dX5_fixedBitsWith_5 : decode cX5_fixedBitsWith 5 = .ok (.aload_n 0, 1) := by decide +kernel
theorem dX5_fixedBitsWith_6 : decode cX5_fixedBitsWith 6 = .ok (.getfield 42, 3) := by decide +kernel
theorem dX5_fixedBitsWith_9 : decode cX5_fixedBitsWith 9 = .ok (.aload_n 0, 1) := by decide +kernel
theorem dX5_fixedBitsWith_10 : decode cX5_fixedBitsWith 10 = .ok (.getfield 52, 3) := by decide +kernel
theorem dX5_fixedBitsWith_13 : decode cX5_fixedBitsWith 13 = .ok (.invokevirtual 121, 3) := by decide +kernel
theorem dX5_fixedBitsWith_16 : decode cX5_fixedBitsWith 16 = .ok (.ireturn, 1) := by decide +kernel
theorem dX5_join_0 : decode cX5_join 0 = .ok (.aload_n 0, 1) := by decide +kernel
theorem dX5_join_1 : decode cX5_join 1 = .ok (.aload_n 1, 1) := by decide +kernel
theorem dX5_join_2 : decode cX5_join 2 = .ok (.invokevirtual 114, 3) := by decide +kernel
theorem dX5_join_5 : decode cX5_join 5 = .ok (.aload_n 0, 1) := by decide +kernel
theorem dX5_join_6 : decode cX5_join 6 = .ok (.getfield 52, 3) := by decide +kernel
theorem dX5_join_9 : decode cX5_join 9 = .ok (.invokestatic 117, 3) := by decide +kernel
theorem dX5_join_12 : decode cX5_join 12 = .ok (.ifCond .lt 15, 3) := by decide +kernel
theorem dX5_join_15 : decode cX5_join 15 = .ok (.aload_n 0, 1) := by decide +kernel
theorem dX5_join_16 : decode cX5_join 16 = .ok (.getfield 65, 3) := by decide +kernel
theorem dX5_join_19 : decode cX5_join 19 = .ok (.bipush 10, 2) := by decide +kernel
theorem dX5_join_21 : decode cX5_join 21 = .ok (.invokestatic 72, 3) := by decide +kernel
theorem dX5_join_24 : decode cX5_join 24 = .ok (.ifCond .ne 4, 3) := by decide +kernel
theorem dX5_join_27 : decode cX5_join 27 = .ok (.return_, 1) := by decide +kernel
theorem dX5_join_28 : decode cX5_join 28 = .ok (.aload_n 0, 1) := by decide +kernel
theorem dX5_join_29 : decode cX5_join 29 = .ok (.getfield 49, 3) := by decide +kernel
theorem dX5_join_32 : decode cX5_join 32 = .ok (.iconst 0, 1) := by decide +kernel
theorem dX5_join_33 : decode cX5_join 33 = .ok (.aload_n 0, 1) := by decide +kernel
theorem dX5_join_34 : decode cX5_join 34 = .ok (.getfield 33, 3) := by decide +kernel
theorem dX5_join_37 : decode cX5_join 37 = .ok (.aload_n 0, 1) := by decide +kernel
theorem dX5_join_38 : decode cX5_join 38 = .ok (.getfield 65, 3) := by decide +kernel
theorem dX5_join_41 : decode cX5_join 41 = .ok (.aaload, 1) := by decide +kernel
theorem dX5_join_42 : decode cX5_join 42 = .ok (.iconst 0, 1) := by decide +kernel
theorem dX5_join_43 : decode cX5_join 43 = .ok (.bipush 10, 2) := by decide +kernel
theorem dX5_join_45 : decode cX5_join 45 = .ok (.invokestatic 56, 3) := by decide +kernel
theorem dX5_join_48 : decode cX5_join 48 = .ok (.aload_n 0, 1) := by decide +kernel
theorem dX5_join_49 : decode cX5_join 49 = .ok (.getfield 36, 3) := by decide +kernel
theorem dX5_join_52 : decode cX5_join 52 = .ok (.aload_n 0, 1) := by decide +kernel
theorem dX5_join_53 : decode cX5_join 53 = .ok (.getfield 65, 3) := by decide +kernel
theorem dX5_join_56 : decode cX5_join 56 = .ok (.aload_n 0, 1) := by decide +kernel
theorem dX5_join_57 : decode cX5_join 57 = .ok (.aload_n 1, 1) := by decide +kernel
theorem dX5_join_58 : decode cX5_join 58 = .ok (.invokevirtual 136, 3) := by decide +kernel
theorem dX5_join_61 : decode cX5_join 61 = .ok (.iastore, 1) := by decide +kernel
theorem dX5_join_62 : decode cX5_join 62 = .ok (.aload_n 0, 1) := by decide +kernel
theorem dX5_join_63 : decode cX5_join 63 = .ok (.dup, 1) := by decide +kernel
theorem dX5_join_64 : decode cX5_join 64 = .ok (.getfield 65, 3) := by decide +kernel
theorem dX5_join_67 : decode cX5_join 67 = .ok (.iconst 1, 1) := by decide +kernel
theorem dX5_join_68 : decode cX5_join 68 = .ok (.iadd, 1) := by decide +kernel
theorem dX5_join_69 : decode cX5_join 69 = .ok (.putfield 65, 3) := by decide +kernel
theorem dX5_join_72 : decode cX5_join 72 = .ok (.aload_n 0, 1) := by decide +kernel
theorem dX5_join_73 : decode cX5_join 73 = .ok (.getfield 42, 3) := by decide +kernel
theorem dX5_join_76 : decode cX5_join 76 = .ok (.aload_n 0, 1) := by decide +kernel
theorem dX5_join_77 : decode cX5_join 77 = .ok (.getfield 52, 3) := by decide +kernel
theorem dX5_join_80 : decode cX5_join 80 = .ok (.invokevirtual 129, 3) := by decide +kernel
theorem dX5_join_83 : decode cX5_join 83 = .ok (.return_, 1) := by decide +kernel
theorem dX5_trueAnswer_0 : decode cX5_trueAnswer 0 = .ok (.iconst 0, 1) := by decide +kernel
theorem dX5_trueAnswer_1 : decode cX5_trueAnswer 1 = .ok (.istore_n 2, 1) := by decide +kernel
theorem dX5_trueAnswer_2 : decode cX5_trueAnswer 2 = .ok (.iconst 0, 1) := by decide +kernel
theorem dX5_trueAnswer_3 : decode cX5_trueAnswer 3 = .ok (.istore_n 3, 1) := by decide +kernel
theorem dX5_trueAnswer_4 : decode cX5_trueAnswer 4 = .ok (.iload_n 3, 1) := by decide +kernel
theorem dX5_trueAnswer_5 : decode cX5_trueAnswer 5 = .ok (.bipush 8, 2) := by decide +kernel
theorem dX5_trueAnswer_7 : decode cX5_trueAnswer 7 = .ok (.if_icmp .ge 44, 3) := by decide +kernel
theorem dX5_trueAnswer_10 : decode cX5_trueAnswer 10 = .ok (.aload_n 0, 1) := by decide +kernel
theorem dX5_trueAnswer_11 : decode cX5_trueAnswer 11 = .ok (.getfield 9, 3) := by decide +kernel
theorem dX5_trueAnswer_14 : decode cX5_trueAnswer 14 = .ok (.iload_n 3, 1) := by decide +kernel
theorem dX5_trueAnswer_15 : decode cX5_trueAnswer 15 = .ok (.iaload, 1) := by decide +kernel
theorem dX5_trueAnswer_16 : decode cX5_trueAnswer 16 = .ok (.istore 4, 2) := by decide +kernel
theorem dX5_trueAnswer_18 : decode cX5_trueAnswer 18 = .ok (.iload 4, 2) := by decide +kernel
theorem dX5_trueAnswer_20 : decode cX5_trueAnswer 20 = .ok (.bipush 10, 2) := by decide +kernel
theorem dX5_trueAnswer_22 : decode cX5_trueAnswer 22 = .ok (.invokestatic 72, 3) := by decide +kernel
theorem dX5_trueAnswer_25 : decode cX5_trueAnswer 25 = .ok (.ifCond .eq 20, 3) := by decide +kernel
theorem dX5_trueAnswer_28 : decode cX5_trueAnswer 28 = .ok (.iload_n 2, 1) := by decide +kernel
theorem dX5_trueAnswer_29 : decode cX5_trueAnswer 29 = .ok (.aload_n 1, 1) := by decide +kernel
theorem dX5_trueAnswer_30 : decode cX5_trueAnswer 30 = .ok (.getfield 140, 3) := by decide +kernel
theorem dX5_trueAnswer_33 : decode cX5_trueAnswer 33 = .ok (.iload_n 3, 1) := by decide +kernel
theorem dX5_trueAnswer_34 : decode cX5_trueAnswer 34 = .ok (.iaload, 1) := by decide +kernel
theorem dX5_trueAnswer_35 : decode cX5_trueAnswer 35 = .ok (.aload_n 0, 1) := by decide +kernel
theorem dX5_trueAnswer_36 : decode cX5_trueAnswer 36 = .ok (.getfield 15, 3) := by decide +kernel
theorem dX5_trueAnswer_39 : decode cX5_trueAnswer 39 = .ok (.iload 4, 2) := by decide +kernel
theorem dX5_trueAnswer_41 : decode cX5_trueAnswer 41 = .ok (.iaload, 1) := by decide +kernel
theorem dX5_trueAnswer_42 : decode cX5_trueAnswer 42 = .ok (.imul, 1) := by decide +kernel
theorem dX5_trueAnswer_43 : decode cX5_trueAnswer 43 = .ok (.iadd, 1) := by decide +kernel
theorem dX5_trueAnswer_44 : decode cX5_trueAnswer 44 = .ok (.istore_n 2, 1) := by decide +kernel
theorem dX5_trueAnswer_45 : decode cX5_trueAnswer 45 = .ok (.iinc 3 1, 3) := by decide +kernel
theorem dX5_trueAnswer_48 : decode cX5_trueAnswer 48 = .ok (.goto (-44), 3) := by decide +kernel
theorem dX5_trueAnswer_51 : decode cX5_trueAnswer 51 = .ok (.iload_n 2, 1) := by decide +kernel
theorem dX5_trueAnswer_52 : decode cX5_trueAnswer 52 = .ok (.ireturn, 1) := by decide +kernel
theorem dX5_findRest_0 : decode cX5_findRest 0 = .ok (.iconst 0, 1) := by decide +kernel
theorem dX5_findRest_1 : decode cX5_findRest 1 = .ok (.istore_n 2, 1) := by decide +kernel
theorem dX5_findRest_2 : decode cX5_findRest 2 = .ok (.iload_n 2, 1) := by decide +kernel
theorem dX5_findRest_3 : decode cX5_findRest 3 = .ok (.bipush 10, 2) := by decide +kernel
theorem dX5_findRest_5 : decode cX5_findRest 5 = .ok (.if_icmp .ge 16, 3) := by decide +kernel
theorem dX5_findRest_8 : decode cX5_findRest 8 = .ok (.aload_n 0, 1) := by decide +kernel
theorem dX5_findRest_9 : decode cX5_findRest 9 = .ok (.getfield 49, 3) := by decide +kernel
theorem dX5_findRest_12 : decode cX5_findRest 12 = .ok (.iload_n 2, 1) := by decide +kernel
theorem dX5_findRest_13 : decode cX5_findRest 13 = .ok (.iconst 0, 1) := by decide +kernel
theorem dX5_findRest_14 : decode cX5_findRest 14 = .ok (.iastore, 1) := by decide +kernel
theorem dX5_findRest_15 : decode cX5_findRest 15 = .ok (.iinc 2 1, 3) := by decide +kernel
theorem dX5_findRest_18 : decode cX5_findRest 18 = .ok (.goto (-16), 3) := by decide +kernel
theorem dX5_findRest_21 : decode cX5_findRest 21 = .ok (.iconst 0, 1) := by decide +kernel
theorem dX5_findRest_22 : decode cX5_findRest 22 = .ok (.istore_n 2, 1) := by decide +kernel
theorem dX5_findRest_23 : decode cX5_findRest 23 = .ok (.iload_n 2, 1) := by decide +kernel
theorem dX5_findRest_24 : decode cX5_findRest 24 = .ok (.bipush 8, 2) := by decide +kernel
theorem dX5_findRest_26 : decode cX5_findRest 26 = .ok (.if_icmp .ge 37, 3) := by decide +kernel
theorem dX5_findRest_29 : decode cX5_findRest 29 = .ok (.aload_n 0, 1) := by decide +kernel
theorem dX5_findRest_30 : decode cX5_findRest 30 = .ok (.getfield 9, 3) := by decide +kernel
theorem dX5_findRest_33 : decode cX5_findRest 33 = .ok (.iload_n 2, 1) := by decide +kernel
theorem dX5_findRest_34 : decode cX5_findRest 34 = .ok (.iaload, 1) := by decide +kernel
theorem dX5_findRest_35 : decode cX5_findRest 35 = .ok (.istore_n 3, 1) := by decide +kernel
theorem dX5_findRest_36 : decode cX5_findRest 36 = .ok (.iload_n 3, 1) := by decide +kernel
theorem dX5_findRest_37 : decode cX5_findRest 37 = .ok (.bipush 10, 2) := by decide +kernel
theorem dX5_findRest_39 : decode cX5_findRest 39 = .ok (.invokestatic 72, 3) := by decide +kernel
theorem dX5_findRest_42 : decode cX5_findRest 42 = .ok (.ifCond .eq 15, 3) := by decide +kernel
theorem dX5_findRest_45 : decode cX5_findRest 45 = .ok (.aload_n 0, 1) := by decide +kernel
theorem dX5_findRest_46 : decode cX5_findRest 46 = .ok (.getfield 49, 3) := by decide +kernel
theorem dX5_findRest_49 : decode cX5_findRest 49 = .ok (.iload_n 3, 1) := by decide +kernel
theorem dX5_findRest_50 : decode cX5_findRest 50 = .ok (.aload_n 1, 1) := by decide +kernel
theorem dX5_findRest_51 : decode cX5_findRest 51 = .ok (.getfield 140, 3) := by decide +kernel
theorem dX5_findRest_54 : decode cX5_findRest 54 = .ok (.iload_n 2, 1) := by decide +kernel
theorem dX5_findRest_55 : decode cX5_findRest 55 = .ok (.iaload, 1) := by decide +kernel
theorem dX5_findRest_56 : decode cX5_findRest 56 = .ok (.iastore, 1) := by decide +kernel
theorem dX5_findRest_57 : decode cX5_findRest 57 = .ok (.iinc 2 1, 3) := by decide +kernel
theorem dX5_findRest_60 : decode cX5_findRest 60 = .ok (.goto (-37), 3) := by decide +kernel
theorem dX5_findRest_63 : decode cX5_findRest 63 = .ok (.aload_n 0, 1) := by decide +kernel
theorem dX5_findRest_64 : decode cX5_findRest 64 = .ok (.getfield 42, 3) := by decide +kernel
theorem dX5_findRest_67 : decode cX5_findRest 67 = .ok (.aload_n 0, 1) := by decide +kernel
theorem dX5_findRest_68 : decode cX5_findRest 68 = .ok (.getfield 49, 3) := by decide +kernel
theorem dX5_findRest_71 : decode cX5_findRest 71 = .ok (.aload_n 0, 1) := by decide +kernel
theorem dX5_findRest_72 : decode cX5_findRest 72 = .ok (.getfield 52, 3) := by decide +kernel
theorem dX5_findRest_75 : decode cX5_findRest 75 = .ok (.invokevirtual 143, 3) := by decide +kernel
theorem dX5_findRest_78 : decode cX5_findRest 78 = .ok (.return_, 1) := by decide +kernel
theorem dX6_init_0 : decode cX6_init 0 = .ok (.aload_n 0, 1) := by decide +kernel
theorem dX6_init_1 : decode cX6_init 1 = .ok (.invokespecial 1, 3) := by decide +kernel
theorem dX6_init_4 : decode cX6_init 4 = .ok (.aload_n 0, 1) := by decide +kernel
theorem dX6_init_5 : decode cX6_init 5 = .ok (.new 7, 3) := by decide +kernel
theorem dX6_init_8 : decode cX6_init 8 = .ok (.dup, 1) := by decide +kernel
theorem dX6_init_9 : decode cX6_init 9 = .ok (.invokespecial 9, 3) := by decide +kernel
theorem dX6_init_12 : decode cX6_init 12 = .ok (.putfield 10, 3) := by decide +kernel
theorem dX6_init_15 : decode cX6_init 15 = .ok (.aload_n 0, 1) := by decide +kernel
theorem dX6_init_16 : decode cX6_init 16 = .ok (.new 7, 3) := by decide +kernel
theorem dX6_init_19 : decode cX6_init 19 = .ok (.dup, 1) := by decide +kernel
theorem dX6_init_20 : decode cX6_init 20 = .ok (.invokespecial 9, 3) := by decide +kernel
theorem dX6_init_23 : decode cX6_init 23 = .ok (.putfield 16, 3) := by decide +kernel
theorem dX6_init_26 : decode cX6_init 26 = .ok (.aload_n 0, 1) := by decide +kernel
theorem dX6_init_27 : decode cX6_init 27 = .ok (.new 7, 3) := by decide +kernel
theorem dX6_init_30 : decode cX6_init 30 = .ok (.dup, 1) := by decide +kernel
theorem dX6_init_31 : decode cX6_init 31 = .ok (.invokespecial 9, 3) := by decide +kernel
theorem dX6_init_34 : decode cX6_init 34 = .ok (.putfield 19, 3) := by decide +kernel
theorem dX6_init_37 : decode cX6_init 37 = .ok (.aload_n 0, 1) := by decide +kernel
theorem dX6_init_38 : decode cX6_init 38 = .ok (.new 22, 3) := by decide +kernel
theorem dX6_init_41 : decode cX6_init 41 = .ok (.dup, 1) := by decide +kernel
theorem dX6_init_42 : decode cX6_init 42 = .ok (.invokespecial 24, 3) := by decide +kernel
theorem dX6_init_45 : decode cX6_init 45 = .ok (.putfield 25, 3) := by decide +kernel
theorem dX6_init_48 : decode cX6_init 48 = .ok (.aload_n 0, 1) := by decide +kernel
theorem dX6_init_49 : decode cX6_init 49 = .ok (.new 29, 3) := by decide +kernel
theorem dX6_init_52 : decode cX6_init 52 = .ok (.dup, 1) := by decide +kernel
theorem dX6_init_53 : decode cX6_init 53 = .ok (.invokespecial 31, 3) := by decide +kernel
theorem dX6_init_56 : decode cX6_init 56 = .ok (.putfield 32, 3) := by decide +kernel
theorem dX6_init_59 : decode cX6_init 59 = .ok (.aload_n 0, 1) := by decide +kernel
theorem dX6_init_60 : decode cX6_init 60 = .ok (.new 36, 3) := by decide +kernel
theorem dX6_init_63 : decode cX6_init 63 = .ok (.dup, 1) := by decide +kernel
theorem dX6_init_64 : decode cX6_init 64 = .ok (.bipush 96, 2) := by decide +kernel
theorem dX6_init_66 : decode cX6_init 66 = .ok (.invokespecial 38, 3) := by decide +kernel
theorem dX6_init_69 : decode cX6_init 69 = .ok (.putfield 41, 3) := by decide +kernel
theorem dX6_init_72 : decode cX6_init 72 = .ok (.aload_n 0, 1) := by decide +kernel
theorem dX6_init_73 : decode cX6_init 73 = .ok (.new 36, 3) := by decide +kernel
theorem dX6_init_76 : decode cX6_init 76 = .ok (.dup, 1) := by decide +kernel
theorem dX6_init_77 : decode cX6_init 77 = .ok (.bipush 32, 2) := by decide +kernel
theorem dX6_init_79 : decode cX6_init 79 = .ok (.invokespecial 38, 3) := by decide +kernel
theorem dX6_init_82 : decode cX6_init 82 = .ok (.putfield 45, 3) := by decide +kernel
theorem dX6_init_85 : decode cX6_init 85 = .ok (.aload_n 0, 1) := by decide +kernel
theorem dX6_init_86 : decode cX6_init 86 = .ok (.bipush 6, 2) := by decide +kernel
theorem dX6_init_88 : decode cX6_init 88 = .ok (.newarray .int, 2) := by decide +kernel
theorem dX6_init_90 : decode cX6_init 90 = .ok (.putfield 48, 3) := by decide +kernel
theorem dX6_init_93 : decode cX6_init 93 = .ok (.return_, 1) := by decide +kernel
theorem dX6_person_0 : decode cX6_person 0 = .ok (.iload_n 1, 1) := by decide +kernel
theorem dX6_person_1 : decode cX6_person 1 = .ok (.bipush 8, 2) := by decide +kernel
theorem dX6_person_3 : decode cX6_person 3 = .ok (.invokestatic 69, 3) := by decide +kernel
theorem dX6_person_6 : decode cX6_person 6 = .ok (.ifCond .ne 9, 3) := by decide +kernel
theorem dX6_person_9 : decode cX6_person 9 = .ok (.aload_n 0, 1) := by decide +kernel
theorem dX6_person_10 : decode cX6_person 10 = .ok (.iconst (-1), 1) := by decide +kernel
theorem dX6_person_11 : decode cX6_person 11 = .ok (.invokevirtual 73, 3) := by decide +kernel
theorem dX6_person_14 : decode cX6_person 14 = .ok (.ireturn, 1) := by decide +kernel
theorem dX6_person_15 : decode cX6_person 15 = .ok (.iload_n 2, 1) := by decide +kernel
theorem dX6_person_16 : decode cX6_person 16 = .ok (.iconst 3, 1) := by decide +kernel
theorem dX6_person_17 : decode cX6_person 17 = .ok (.invokestatic 69, 3) := by decide +kernel
theorem dX6_person_20 : decode cX6_person 20 = .ok (.ifCond .ne 10, 3) := by decide +kernel
theorem dX6_person_23 : decode cX6_person 23 = .ok (.aload_n 0, 1) := by decide +kernel
theorem dX6_person_24 : decode cX6_person 24 = .ok (.bipush (-2), 2) := by decide +kernel
theorem dX6_person_26 : decode cX6_person 26 = .ok (.invokevirtual 73, 3) := by decide +kernel
theorem dX6_person_29 : decode cX6_person 29 = .ok (.ireturn, 1) := by decide +kernel
theorem dX6_person_30 : decode cX6_person 30 = .ok (.aload_n 0, 1) := by decide +kernel
theorem dX6_person_31 : decode cX6_person 31 = .ok (.getfield 10, 3) := by decide +kernel
theorem dX6_person_34 : decode cX6_person 34 = .ok (.iload_n 1, 1) := by decide +kernel
theorem dX6_person_35 : decode cX6_person 35 = .ok (.invokevirtual 77, 3) := by decide +kernel
theorem dX6_person_38 : decode cX6_person 38 = .ok (.istore_n 3, 1) := by decide +kernel
theorem dX6_person_39 : decode cX6_person 39 = .ok (.iload_n 2, 1) := by decide +kernel
theorem dX6_person_40 : decode cX6_person 40 = .ok (.ifCond .ne 14, 3) := by decide +kernel
theorem dX6_person_43 : decode cX6_person 43 = .ok (.aload_n 0, 1) := by decide +kernel
theorem dX6_person_44 : decode cX6_person 44 = .ok (.getfield 10, 3) := by decide +kernel
theorem dX6_person_47 : decode cX6_person 47 = .ok (.iload_n 3, 1) := by decide +kernel
theorem dX6_person_48 : decode cX6_person 48 = .ok (.invokevirtual 80, 3) := by decide +kernel
theorem dX6_person_51 : decode cX6_person 51 = .ok (.goto 23, 3) := by decide +kernel
theorem dX6_person_54 : decode cX6_person 54 = .ok (.iload_n 2, 1) := by decide +kernel
theorem dX6_person_55 : decode cX6_person 55 = .ok (.iconst 1, 1) := by decide +kernel
theorem dX6_person_56 : decode cX6_person 56 = .ok (.if_icmp .ne 7, 3) := by decide +kernel
theorem dX6_person_59 : decode cX6_person 59 = .ok (.iload_n 3, 1) := by decide +kernel
theorem dX6_person_60 : decode cX6_person 60 = .ok (.goto 14, 3) := by decide +kernel
theorem dX6_person_63 : decode cX6_person 63 = .ok (.aload_n 0, 1) := by decide +kernel
theorem dX6_person_64 : decode cX6_person 64 = .ok (.getfield 10, 3) := by decide +kernel
theorem dX6_person_67 : decode cX6_person 67 = .ok (.iload_n 3, 1) := by decide +kernel
theorem dX6_person_68 : decode cX6_person 68 = .ok (.invokevirtual 83, 3) := by decide +kernel
theorem dX6_person_71 : decode cX6_person 71 = .ok (.invokestatic 87, 3) := by decide +kernel
theorem dX6_person_74 : decode cX6_person 74 = .ok (.ireturn, 1) := by decide +kernel
theorem dX6_variable_0 : decode cX6_variable 0 = .ok (.aload_n 0, 1) := by decide +kernel
theorem dX6_variable_1 : decode cX6_variable 1 = .ok (.getfield 10, 3) := by decide +kernel
theorem dX6_variable_4 : decode cX6_variable 4 = .ok (.iload_n 1, 1) := by decide +kernel
theorem dX6_variable_5 : decode cX6_variable 5 = .ok (.invokevirtual 91, 3) := by decide +kernel
theorem dX6_variable_8 : decode cX6_variable 8 = .ok (.ifCond .ne 9, 3) := by decide +kernel
theorem dX6_variable_11 : decode cX6_variable 11 = .ok (.aload_n 0, 1) := by decide +kernel
theorem dX6_variable_12 : decode cX6_variable 12 = .ok (.iconst (-1), 1) := by decide +kernel
theorem dX6_variable_13 : decode cX6_variable 13 = .ok (.invokevirtual 73, 3) := by decide +kernel
theorem dX6_variable_16 : decode cX6_variable 16 = .ok (.ireturn, 1) := by decide +kernel
theorem dX6_variable_17 : decode cX6_variable 17 = .ok (.iload_n 2, 1) := by decide +kernel
theorem dX6_variable_18 : decode cX6_variable 18 = .ok (.bipush 7, 2) := by decide +kernel
theorem dX6_variable_20 : decode cX6_variable 20 = .ok (.invokestatic 69, 3) := by decide +kernel
theorem dX6_variable_23 : decode cX6_variable 23 = .ok (.ifCond .ne 10, 3) := by decide +kernel
theorem dX6_variable_26 : decode cX6_variable 26 = .ok (.aload_n 0, 1) := by decide +kernel
theorem dX6_variable_27 : decode cX6_variable 27 = .ok (.bipush (-2), 2) := by decide +kernel
theorem dX6_variable_29 : decode cX6_variable 29 = .ok (.invokevirtual 73, 3) := by decide +kernel
theorem dX6_variable_32 : decode cX6_variable 32 = .ok (.ireturn, 1) := by decide +kernel
theorem dX6_variable_33 : decode cX6_variable 33 = .ok (.iload_n 2, 1) := by decide +kernel
theorem dX6_variable_34 : decode cX6_variable 34 = .ok (.tableswitch 81 0 6 #[42, 51, 60, 81, 81, 81, 69], 42) := by decide +kernel
theorem dX6_variable_76 : decode cX6_variable 76 = .ok (.aload_n 0, 1) := by decide +kernel
theorem dX6_variable_77 : decode cX6_variable 77 = .ok (.getfield 10, 3) := by decide +kernel
theorem dX6_variable_80 : decode cX6_variable 80 = .ok (.iload_n 1, 1) := by decide +kernel
theorem dX6_variable_81 : decode cX6_variable 81 = .ok (.invokevirtual 80, 3) := by decide +kernel
theorem dX6_variable_84 : decode cX6_variable 84 = .ok (.ireturn, 1) := by decide +kernel
theorem dX6_variable_85 : decode cX6_variable 85 = .ok (.aload_n 0, 1) := by decide +kernel
theorem dX6_variable_86 : decode cX6_variable 86 = .ok (.getfield 10, 3) := by decide +kernel
theorem dX6_variable_89 : decode cX6_variable 89 = .ok (.iload_n 1, 1) := by decide +kernel
theorem dX6_variable_90 : decode cX6_variable 90 = .ok (.invokevirtual 94, 3) := by decide +kernel
theorem dX6_variable_93 : decode cX6_variable 93 = .ok (.ireturn, 1) := by decide +kernel
theorem dX6_variable_94 : decode cX6_variable 94 = .ok (.aload_n 0, 1) := by decide +kernel
theorem dX6_variable_95 : decode cX6_variable 95 = .ok (.getfield 10, 3) := by decide +kernel
theorem dX6_variable_98 : decode cX6_variable 98 = .ok (.iload_n 1, 1) := by decide +kernel
theorem dX6_variable_99 : decode cX6_variable 99 = .ok (.invokevirtual 97, 3) := by decide +kernel
theorem dX6_variable_102 : decode cX6_variable 102 = .ok (.ireturn, 1) := by decide +kernel
theorem dX6_variable_103 : decode cX6_variable 103 = .ok (.aload_n 0, 1) := by decide +kernel
theorem dX6_variable_104 : decode cX6_variable 104 = .ok (.getfield 10, 3) := by decide +kernel
theorem dX6_variable_107 : decode cX6_variable 107 = .ok (.iload_n 1, 1) := by decide +kernel
theorem dX6_variable_108 : decode cX6_variable 108 = .ok (.invokevirtual 83, 3) := by decide +kernel
theorem dX6_variable_111 : decode cX6_variable 111 = .ok (.invokestatic 87, 3) := by decide +kernel
theorem dX6_variable_114 : decode cX6_variable 114 = .ok (.ireturn, 1) := by decide +kernel
theorem dX6_variable_115 : decode cX6_variable 115 = .ok (.aload_n 0, 1) := by decide +kernel
theorem dX6_variable_116 : decode cX6_variable 116 = .ok (.iload_n 1, 1) := by decide +kernel
theorem dX6_variable_117 : decode cX6_variable 117 = .ok (.iload_n 2, 1) := by decide +kernel
theorem dX6_variable_118 : decode cX6_variable 118 = .ok (.invokevirtual 100, 3) := by decide +kernel
theorem dX6_variable_121 : decode cX6_variable 121 = .ok (.ireturn, 1) := by decide +kernel
theorem dX6_narrowed_0 : decode cX6_narrowed 0 = .ok (.aload_n 0, 1) := by decide +kernel
theorem dX6_narrowed_1 : decode cX6_narrowed 1 = .ok (.getfield 32, 3) := by decide +kernel
theorem dX6_narrowed_4 : decode cX6_narrowed 4 = .ok (.aload_n 0, 1) := by decide +kernel
theorem dX6_narrowed_5 : decode cX6_narrowed 5 = .ok (.getfield 10, 3) := by decide +kernel
theorem dX6_narrowed_8 : decode cX6_narrowed 8 = .ok (.invokevirtual 104, 3) := by decide +kernel
theorem dX6_narrowed_11 : decode cX6_narrowed 11 = .ok (.iload_n 2, 1) := by decide +kernel
theorem dX6_narrowed_12 : decode cX6_narrowed 12 = .ok (.iconst 3, 1) := by decide +kernel
theorem dX6_narrowed_13 : decode cX6_narrowed 13 = .ok (.if_icmp .ne 14, 3) := by decide +kernel
theorem dX6_narrowed_16 : decode cX6_narrowed 16 = .ok (.aload_n 0, 1) := by decide +kernel
theorem dX6_narrowed_17 : decode cX6_narrowed 17 = .ok (.getfield 32, 3) := by decide +kernel
theorem dX6_narrowed_20 : decode cX6_narrowed 20 = .ok (.iload_n 1, 1) := by decide +kernel
theorem dX6_narrowed_21 : decode cX6_narrowed 21 = .ok (.invokevirtual 107, 3) := by decide +kernel
theorem dX6_narrowed_24 : decode cX6_narrowed 24 = .ok (.goto 27, 3) := by decide +kernel
theorem dX6_narrowed_27 : decode cX6_narrowed 27 = .ok (.iload_n 2, 1) := by decide +kernel
theorem dX6_narrowed_28 : decode cX6_narrowed 28 = .ok (.iconst 4, 1) := by decide +kernel
theorem dX6_narrowed_29 : decode cX6_narrowed 29 = .ok (.if_icmp .ne 14, 3) := by decide +kernel
theorem dX6_narrowed_32 : decode cX6_narrowed 32 = .ok (.aload_n 0, 1) := by decide +kernel
theorem dX6_narrowed_33 : decode cX6_narrowed 33 = .ok (.getfield 32, 3) := by decide +kernel
theorem dX6_narrowed_36 : decode cX6_narrowed 36 = .ok (.iload_n 1, 1) := by decide +kernel
theorem dX6_narrowed_37 : decode cX6_narrowed 37 = .ok (.invokevirtual 110, 3) := by decide +kernel
theorem dX6_narrowed_40 : decode cX6_narrowed 40 = .ok (.goto 11, 3) := by decide +kernel
theorem dX6_narrowed_43 : decode cX6_narrowed 43 = .ok (.aload_n 0, 1) := by decide +kernel
theorem dX6_narrowed_44 : decode cX6_narrowed 44 = .ok (.getfield 32, 3) := by decide +kernel
theorem dX6_narrowed_47 : decode cX6_narrowed 47 = .ok (.iload_n 1, 1) := by decide +kernel
theorem dX6_narrowed_48 : decode cX6_narrowed 48 = .ok (.invokevirtual 113, 3) := by decide +kernel
theorem dX6_narrowed_51 : decode cX6_narrowed 51 = .ok (.ireturn, 1) := by decide +kernel
theorem dX6_tells_0 : decode cX6_tells 0 = .ok (.iload_n 1, 1) := by decide +kernel
theorem dX6_tells_1 : decode cX6_tells 1 = .ok (.iload_n 2, 1) := by decide +kernel
theorem dX6_tells_2 : decode cX6_tells 2 = .ok (.invokestatic 116, 3) := by decide +kernel
theorem dX6_tells_5 : decode cX6_tells 5 = .ok (.istore_n 3, 1) := by decide +kernel
theorem dX6_tells_6 : decode cX6_tells 6 = .ok (.iload_n 3, 1) := by decide +kernel
theorem dX6_tells_7 : decode cX6_tells 7 = .ok (.ifCond .eq 9, 3) := by decide +kernel
theorem dX6_tells_10 : decode cX6_tells 10 = .ok (.aload_n 0, 1) := by decide +kernel
theorem dX6_tells_11 : decode cX6_tells 11 = .ok (.iload_n 3, 1) := by decide +kernel
theorem dX6_tells_12 : decode cX6_tells 12 = .ok (.invokevirtual 73, 3) := by decide +kernel
theorem dX6_tells_15 : decode cX6_tells 15 = .ok (.ireturn, 1) := by decide +kernel
theorem dX6_tells_16 : decode cX6_tells 16 = .ok (.aload_n 0, 1) := by decide +kernel
theorem dX6_tells_17 : decode cX6_tells 17 = .ok (.getfield 10, 3) := by decide +kernel
theorem dX6_tells_20 : decode cX6_tells 20 = .ok (.aload_n 0, 1) := by decide +kernel
theorem dX6_tells_21 : decode cX6_tells 21 = .ok (.getfield 10, 3) := by decide +kernel
theorem dX6_tells_24 : decode cX6_tells 24 = .ok (.iload_n 1, 1) := by decide +kernel
theorem dX6_tells_25 : decode cX6_tells 25 = .ok (.invokevirtual 77, 3) := by decide +kernel
theorem dX6_tells_28 : decode cX6_tells 28 = .ok (.invokevirtual 80, 3) := by decide +kernel
theorem dX6_tells_31 : decode cX6_tells 31 = .ok (.istore 4, 2) := by decide +kernel
theorem dX6_tells_33 : decode cX6_tells 33 = .ok (.aload_n 0, 1) := by decide +kernel
theorem dX6_tells_34 : decode cX6_tells 34 = .ok (.getfield 10, 3) := by decide +kernel
end
section
theorem dX6_tells_37 : decode cX6_tells 37 = .ok (.iload_n 1, 1) := by decide +kernel
theorem dX6_tells_38 : decode cX6_tells 38 = .ok (.iload_n 2, 1) := by decide +kernel
theorem dX6_tells_39 : decode cX6_tells 39 = .ok (.invokevirtual 119, 3) := by decide +kernel
theorem dX6_tells_42 : decode cX6_tells 42 = .ok (.ifCond .eq 8, 3) := by decide +kernel
theorem dX6_tells_45 : decode cX6_tells 45 = .ok (.iload 4, 2) := by decide +kernel
theorem dX6_tells_47 : decode cX6_tells 47 = .ok (.goto 9, 3) := by decide +kernel
theorem dX6_tells_50 : decode cX6_tells 50 = .ok (.aload_n 0, 1) := by decide +kernel
theorem dX6_tells_51 : decode cX6_tells 51 = .ok (.bipush (-3), 2) := by decide +kernel
theorem dX6_tells_53 : decode cX6_tells 53 = .ok (.invokevirtual 73, 3) := by decide +kernel
theorem dX6_tells_56 : decode cX6_tells 56 = .ok (.ireturn, 1) := by decide +kernel
theorem dX6_changes_0 : decode cX6_changes 0 = .ok (.iload_n 1, 1) := by decide +kernel
theorem dX6_changes_1 : decode cX6_changes 1 = .ok (.iload_n 2, 1) := by decide +kernel
theorem dX6_changes_2 : decode cX6_changes 2 = .ok (.invokestatic 116, 3) := by decide +kernel
theorem dX6_changes_5 : decode cX6_changes 5 = .ok (.istore_n 3, 1) := by decide +kernel
theorem dX6_changes_6 : decode cX6_changes 6 = .ok (.iload_n 3, 1) := by decide +kernel
theorem dX6_changes_7 : decode cX6_changes 7 = .ok (.ifCond .eq 9, 3) := by decide +kernel
theorem dX6_changes_10 : decode cX6_changes 10 = .ok (.aload_n 0, 1) := by decide +kernel
theorem dX6_changes_11 : decode cX6_changes 11 = .ok (.iload_n 3, 1) := by decide +kernel
theorem dX6_changes_12 : decode cX6_changes 12 = .ok (.invokevirtual 73, 3) := by decide +kernel
theorem dX6_changes_15 : decode cX6_changes 15 = .ok (.ireturn, 1) := by decide +kernel
theorem dX6_changes_16 : decode cX6_changes 16 = .ok (.aload_n 0, 1) := by decide +kernel
theorem dX6_changes_17 : decode cX6_changes 17 = .ok (.getfield 10, 3) := by decide +kernel
theorem dX6_changes_20 : decode cX6_changes 20 = .ok (.iload_n 1, 1) := by decide +kernel
theorem dX6_changes_21 : decode cX6_changes 21 = .ok (.iload_n 2, 1) := by decide +kernel
theorem dX6_changes_22 : decode cX6_changes 22 = .ok (.invokevirtual 122, 3) := by decide +kernel
theorem dX6_changes_25 : decode cX6_changes 25 = .ok (.ifCond .eq 14, 3) := by decide +kernel
theorem dX6_changes_28 : decode cX6_changes 28 = .ok (.aload_n 0, 1) := by decide +kernel
theorem dX6_changes_29 : decode cX6_changes 29 = .ok (.getfield 10, 3) := by decide +kernel
theorem dX6_changes_32 : decode cX6_changes 32 = .ok (.iload_n 1, 1) := by decide +kernel
theorem dX6_changes_33 : decode cX6_changes 33 = .ok (.invokevirtual 77, 3) := by decide +kernel
theorem dX6_changes_36 : decode cX6_changes 36 = .ok (.goto 9, 3) := by decide +kernel
theorem dX6_changes_39 : decode cX6_changes 39 = .ok (.aload_n 0, 1) := by decide +kernel
theorem dX6_changes_40 : decode cX6_changes 40 = .ok (.bipush (-6), 2) := by decide +kernel
theorem dX6_changes_42 : decode cX6_changes 42 = .ok (.invokevirtual 73, 3) := by decide +kernel
theorem dX6_changes_45 : decode cX6_changes 45 = .ok (.ireturn, 1) := by decide +kernel
theorem dX6_misfitOfValue_0 : decode cX6_misfitOfValue 0 = .ok (.iload_n 0, 1) := by decide +kernel
theorem dX6_misfitOfValue_1 : decode cX6_misfitOfValue 1 = .ok (.bipush 8, 2) := by decide +kernel
theorem dX6_misfitOfValue_3 : decode cX6_misfitOfValue 3 = .ok (.invokestatic 69, 3) := by decide +kernel
theorem dX6_misfitOfValue_6 : decode cX6_misfitOfValue 6 = .ok (.ifCond .ne 5, 3) := by decide +kernel
theorem dX6_misfitOfValue_9 : decode cX6_misfitOfValue 9 = .ok (.iconst (-1), 1) := by decide +kernel
theorem dX6_misfitOfValue_10 : decode cX6_misfitOfValue 10 = .ok (.ireturn, 1) := by decide +kernel
theorem dX6_misfitOfValue_11 : decode cX6_misfitOfValue 11 = .ok (.iload_n 1, 1) := by decide +kernel
theorem dX6_misfitOfValue_12 : decode cX6_misfitOfValue 12 = .ok (.iconst 0, 1) := by decide +kernel
theorem dX6_misfitOfValue_13 : decode cX6_misfitOfValue 13 = .ok (.bipush 99, 2) := by decide +kernel
theorem dX6_misfitOfValue_15 : decode cX6_misfitOfValue 15 = .ok (.invokestatic 125, 3) := by decide +kernel
theorem dX6_misfitOfValue_18 : decode cX6_misfitOfValue 18 = .ok (.ireturn, 1) := by decide +kernel
theorem dX6_bounds_0 : decode cX6_bounds 0 = .ok (.aload_n 0, 1) := by decide +kernel
theorem dX6_bounds_1 : decode cX6_bounds 1 = .ok (.getfield 10, 3) := by decide +kernel
theorem dX6_bounds_4 : decode cX6_bounds 4 = .ok (.iload_n 1, 1) := by decide +kernel
theorem dX6_bounds_5 : decode cX6_bounds 5 = .ok (.invokevirtual 91, 3) := by decide +kernel
theorem dX6_bounds_8 : decode cX6_bounds 8 = .ok (.ifCond .ne 9, 3) := by decide +kernel
theorem dX6_bounds_11 : decode cX6_bounds 11 = .ok (.aload_n 0, 1) := by decide +kernel
theorem dX6_bounds_12 : decode cX6_bounds 12 = .ok (.iconst (-1), 1) := by decide +kernel
theorem dX6_bounds_13 : decode cX6_bounds 13 = .ok (.invokevirtual 73, 3) := by decide +kernel
theorem dX6_bounds_16 : decode cX6_bounds 16 = .ok (.ireturn, 1) := by decide +kernel
theorem dX6_bounds_17 : decode cX6_bounds 17 = .ok (.iload_n 2, 1) := by decide +kernel
theorem dX6_bounds_18 : decode cX6_bounds 18 = .ok (.ifCond .lt 7, 3) := by decide +kernel
theorem dX6_bounds_21 : decode cX6_bounds 21 = .ok (.iload_n 3, 1) := by decide +kernel
theorem dX6_bounds_22 : decode cX6_bounds 22 = .ok (.ifCond .ge 10, 3) := by decide +kernel
theorem dX6_bounds_25 : decode cX6_bounds 25 = .ok (.aload_n 0, 1) := by decide +kernel
theorem dX6_bounds_26 : decode cX6_bounds 26 = .ok (.bipush (-4), 2) := by decide +kernel
theorem dX6_bounds_28 : decode cX6_bounds 28 = .ok (.invokevirtual 73, 3) := by decide +kernel
theorem dX6_bounds_31 : decode cX6_bounds 31 = .ok (.ireturn, 1) := by decide +kernel
theorem dX6_bounds_32 : decode cX6_bounds 32 = .ok (.iload_n 2, 1) := by decide +kernel
theorem dX6_bounds_33 : decode cX6_bounds 33 = .ok (.bipush 99, 2) := by decide +kernel
theorem dX6_bounds_35 : decode cX6_bounds 35 = .ok (.if_icmp .gt 9, 3) := by decide +kernel
theorem dX6_bounds_38 : decode cX6_bounds 38 = .ok (.iload_n 3, 1) := by decide +kernel
theorem dX6_bounds_39 : decode cX6_bounds 39 = .ok (.bipush 99, 2) := by decide +kernel
theorem dX6_bounds_41 : decode cX6_bounds 41 = .ok (.if_icmp .le 10, 3) := by decide +kernel
theorem dX6_bounds_44 : decode cX6_bounds 44 = .ok (.aload_n 0, 1) := by decide +kernel
theorem dX6_bounds_45 : decode cX6_bounds 45 = .ok (.bipush (-6), 2) := by decide +kernel
theorem dX6_bounds_47 : decode cX6_bounds 47 = .ok (.invokevirtual 73, 3) := by decide +kernel
theorem dX6_bounds_50 : decode cX6_bounds 50 = .ok (.ireturn, 1) := by decide +kernel
theorem dX6_bounds_51 : decode cX6_bounds 51 = .ok (.aload_n 0, 1) := by decide +kernel
theorem dX6_bounds_52 : decode cX6_bounds 52 = .ok (.getfield 10, 3) := by decide +kernel
theorem dX6_bounds_55 : decode cX6_bounds 55 = .ok (.iload_n 1, 1) := by decide +kernel
theorem dX6_bounds_56 : decode cX6_bounds 56 = .ok (.iload_n 2, 1) := by decide +kernel
theorem dX6_bounds_57 : decode cX6_bounds 57 = .ok (.iload_n 3, 1) := by decide +kernel
theorem dX6_bounds_58 : decode cX6_bounds 58 = .ok (.invokevirtual 129, 3) := by decide +kernel
theorem dX6_bounds_61 : decode cX6_bounds 61 = .ok (.ifCond .eq 7, 3) := by decide +kernel
theorem dX6_bounds_64 : decode cX6_bounds 64 = .ok (.iconst 1, 1) := by decide +kernel
theorem dX6_bounds_65 : decode cX6_bounds 65 = .ok (.goto 9, 3) := by decide +kernel
theorem dX6_bounds_68 : decode cX6_bounds 68 = .ok (.aload_n 0, 1) := by decide +kernel
theorem dX6_bounds_69 : decode cX6_bounds 69 = .ok (.bipush (-3), 2) := by decide +kernel
theorem dX6_bounds_71 : decode cX6_bounds 71 = .ok (.invokevirtual 73, 3) := by decide +kernel
theorem dX6_bounds_74 : decode cX6_bounds 74 = .ok (.ireturn, 1) := by decide +kernel
theorem dX6_rule_0 : decode cX6_rule 0 = .ok (.aload_n 0, 1) := by decide +kernel
theorem dX6_rule_1 : decode cX6_rule 1 = .ok (.getfield 10, 3) := by decide +kernel
theorem dX6_rule_4 : decode cX6_rule 4 = .ok (.getfield 133, 3) := by decide +kernel
theorem dX6_rule_7 : decode cX6_rule 7 = .ok (.istore_n 2, 1) := by decide +kernel
theorem dX6_rule_8 : decode cX6_rule 8 = .ok (.aload_n 0, 1) := by decide +kernel
theorem dX6_rule_9 : decode cX6_rule 9 = .ok (.getfield 10, 3) := by decide +kernel
theorem dX6_rule_12 : decode cX6_rule 12 = .ok (.iload_n 1, 1) := by decide +kernel
theorem dX6_rule_13 : decode cX6_rule 13 = .ok (.invokevirtual 137, 3) := by decide +kernel
theorem dX6_rule_16 : decode cX6_rule 16 = .ok (.ifCond .eq 7, 3) := by decide +kernel
theorem dX6_rule_19 : decode cX6_rule 19 = .ok (.iload_n 2, 1) := by decide +kernel
theorem dX6_rule_20 : decode cX6_rule 20 = .ok (.goto 9, 3) := by decide +kernel
theorem dX6_rule_23 : decode cX6_rule 23 = .ok (.aload_n 0, 1) := by decide +kernel
theorem dX6_rule_24 : decode cX6_rule 24 = .ok (.bipush (-2), 2) := by decide +kernel
theorem dX6_rule_26 : decode cX6_rule 26 = .ok (.invokevirtual 73, 3) := by decide +kernel
theorem dX6_rule_29 : decode cX6_rule 29 = .ok (.ireturn, 1) := by decide +kernel
theorem dX6_limit_0 : decode cX6_limit 0 = .ok (.iload_n 1, 1) := by decide +kernel
theorem dX6_limit_1 : decode cX6_limit 1 = .ok (.iconst 0, 1) := by decide +kernel
theorem dX6_limit_2 : decode cX6_limit 2 = .ok (.bipush 10, 2) := by decide +kernel
theorem dX6_limit_4 : decode cX6_limit 4 = .ok (.invokestatic 125, 3) := by decide +kernel
theorem dX6_limit_7 : decode cX6_limit 7 = .ok (.istore_n 2, 1) := by decide +kernel
theorem dX6_limit_8 : decode cX6_limit 8 = .ok (.iload_n 2, 1) := by decide +kernel
theorem dX6_limit_9 : decode cX6_limit 9 = .ok (.ifCond .eq 9, 3) := by decide +kernel
theorem dX6_limit_12 : decode cX6_limit 12 = .ok (.aload_n 0, 1) := by decide +kernel
theorem dX6_limit_13 : decode cX6_limit 13 = .ok (.iload_n 2, 1) := by decide +kernel
theorem dX6_limit_14 : decode cX6_limit 14 = .ok (.invokevirtual 73, 3) := by decide +kernel
theorem dX6_limit_17 : decode cX6_limit 17 = .ok (.ireturn, 1) := by decide +kernel
theorem dX6_limit_18 : decode cX6_limit 18 = .ok (.aload_n 0, 1) := by decide +kernel
theorem dX6_limit_19 : decode cX6_limit 19 = .ok (.getfield 10, 3) := by decide +kernel
theorem dX6_limit_22 : decode cX6_limit 22 = .ok (.getfield 140, 3) := by decide +kernel
theorem dX6_limit_25 : decode cX6_limit 25 = .ok (.istore_n 3, 1) := by decide +kernel
theorem dX6_limit_26 : decode cX6_limit 26 = .ok (.aload_n 0, 1) := by decide +kernel
theorem dX6_limit_27 : decode cX6_limit 27 = .ok (.getfield 10, 3) := by decide +kernel
theorem dX6_limit_30 : decode cX6_limit 30 = .ok (.iload_n 1, 1) := by decide +kernel
theorem dX6_limit_31 : decode cX6_limit 31 = .ok (.invokevirtual 143, 3) := by decide +kernel
theorem dX6_limit_34 : decode cX6_limit 34 = .ok (.pop, 1) := by decide +kernel
theorem dX6_limit_35 : decode cX6_limit 35 = .ok (.iload_n 3, 1) := by decide +kernel
theorem dX6_limit_36 : decode cX6_limit 36 = .ok (.ireturn, 1) := by decide +kernel
theorem dX6_ask_0 : decode cX6_ask 0 = .ok (.iload_n 1, 1) := by decide +kernel
theorem dX6_ask_1 : decode cX6_ask 1 = .ok (.iload_n 2, 1) := by decide +kernel
theorem dX6_ask_2 : decode cX6_ask 2 = .ok (.iload_n 3, 1) := by decide +kernel
theorem dX6_ask_3 : decode cX6_ask 3 = .ok (.invokestatic 146, 3) := by decide +kernel
theorem dX6_ask_6 : decode cX6_ask 6 = .ok (.istore 4, 2) := by decide +kernel
theorem dX6_ask_8 : decode cX6_ask 8 = .ok (.iload 4, 2) := by decide +kernel
theorem dX6_ask_10 : decode cX6_ask 10 = .ok (.ifCond .eq 13, 3) := by decide +kernel
theorem dX6_ask_13 : decode cX6_ask 13 = .ok (.ldc 149, 2) := by decide +kernel
theorem dX6_ask_15 : decode cX6_ask 15 = .ok (.aload_n 0, 1) := by decide +kernel
theorem dX6_ask_16 : decode cX6_ask 16 = .ok (.iload 4, 2) := by decide +kernel
theorem dX6_ask_18 : decode cX6_ask 18 = .ok (.invokevirtual 73, 3) := by decide +kernel
theorem dX6_ask_21 : decode cX6_ask 21 = .ok (.isub, 1) := by decide +kernel
theorem dX6_ask_22 : decode cX6_ask 22 = .ok (.ireturn, 1) := by decide +kernel
theorem dX6_ask_23 : decode cX6_ask 23 = .ok (.aload_n 0, 1) := by decide +kernel
theorem dX6_ask_24 : decode cX6_ask 24 = .ok (.getfield 25, 3) := by decide +kernel
theorem dX6_ask_27 : decode cX6_ask 27 = .ok (.iload_n 1, 1) := by decide +kernel
theorem dX6_ask_28 : decode cX6_ask 28 = .ok (.iload_n 2, 1) := by decide +kernel
theorem dX6_ask_29 : decode cX6_ask 29 = .ok (.iload_n 3, 1) := by decide +kernel
theorem dX6_ask_30 : decode cX6_ask 30 = .ok (.invokevirtual 150, 3) := by decide +kernel
theorem dX6_ask_33 : decode cX6_ask 33 = .ok (.aload_n 0, 1) := by decide +kernel
theorem dX6_ask_34 : decode cX6_ask 34 = .ok (.getfield 10, 3) := by decide +kernel
theorem dX6_ask_37 : decode cX6_ask 37 = .ok (.aload_n 0, 1) := by decide +kernel
theorem dX6_ask_38 : decode cX6_ask 38 = .ok (.getfield 25, 3) := by decide +kernel
theorem dX6_ask_41 : decode cX6_ask 41 = .ok (.invokevirtual 154, 3) := by decide +kernel
theorem dX6_ask_44 : decode cX6_ask 44 = .ok (.iconst 2, 1) := by decide +kernel
theorem dX6_ask_45 : decode cX6_ask 45 = .ok (.if_icmp .ne 13, 3) := by decide +kernel
theorem dX6_ask_48 : decode cX6_ask 48 = .ok (.ldc 149, 2) := by decide +kernel
theorem dX6_ask_50 : decode cX6_ask 50 = .ok (.aload_n 0, 1) := by decide +kernel
theorem dX6_ask_51 : decode cX6_ask 51 = .ok (.bipush (-5), 2) := by decide +kernel
theorem dX6_ask_53 : decode cX6_ask 53 = .ok (.invokevirtual 73, 3) := by decide +kernel
theorem dX6_ask_56 : decode cX6_ask 56 = .ok (.isub, 1) := by decide +kernel
theorem dX6_ask_57 : decode cX6_ask 57 = .ok (.ireturn, 1) := by decide +kernel
theorem dX6_ask_58 : decode cX6_ask 58 = .ok (.aload_n 0, 1) := by decide +kernel
theorem dX6_ask_59 : decode cX6_ask 59 = .ok (.getfield 10, 3) := by decide +kernel
theorem dX6_ask_62 : decode cX6_ask 62 = .ok (.aload_n 0, 1) := by decide +kernel
theorem dX6_ask_63 : decode cX6_ask 63 = .ok (.getfield 25, 3) := by decide +kernel
theorem dX6_ask_66 : decode cX6_ask 66 = .ok (.invokevirtual 158, 3) := by decide +kernel
theorem dX6_ask_69 : decode cX6_ask 69 = .ok (.ireturn, 1) := by decide +kernel
theorem dX6_would_0 : decode cX6_would 0 = .ok (.iload_n 1, 1) := by decide +kernel
theorem dX6_would_1 : decode cX6_would 1 = .ok (.iload_n 2, 1) := by decide +kernel
theorem dX6_would_2 : decode cX6_would 2 = .ok (.iload_n 3, 1) := by decide +kernel
theorem dX6_would_3 : decode cX6_would 3 = .ok (.invokestatic 146, 3) := by decide +kernel
theorem dX6_would_6 : decode cX6_would 6 = .ok (.istore 4, 2) := by decide +kernel
theorem dX6_would_8 : decode cX6_would 8 = .ok (.iload 4, 2) := by decide +kernel
theorem dX6_would_10 : decode cX6_would 10 = .ok (.ifCond .eq 10, 3) := by decide +kernel
theorem dX6_would_13 : decode cX6_would 13 = .ok (.aload_n 0, 1) := by decide +kernel
theorem dX6_would_14 : decode cX6_would 14 = .ok (.iload 4, 2) := by decide +kernel
theorem dX6_would_16 : decode cX6_would 16 = .ok (.invokevirtual 73, 3) := by decide +kernel
theorem dX6_would_19 : decode cX6_would 19 = .ok (.ireturn, 1) := by decide +kernel
theorem dX6_would_20 : decode cX6_would 20 = .ok (.aload_n 0, 1) := by decide +kernel
theorem dX6_would_21 : decode cX6_would 21 = .ok (.getfield 25, 3) := by decide +kernel
theorem dX6_would_24 : decode cX6_would 24 = .ok (.iload_n 1, 1) := by decide +kernel
theorem dX6_would_25 : decode cX6_would 25 = .ok (.iload_n 2, 1) := by decide +kernel
theorem dX6_would_26 : decode cX6_would 26 = .ok (.iload_n 3, 1) := by decide +kernel
theorem dX6_would_27 : decode cX6_would 27 = .ok (.invokevirtual 150, 3) := by decide +kernel
theorem dX6_would_30 : decode cX6_would 30 = .ok (.aload_n 0, 1) := by decide +kernel
theorem dX6_would_31 : decode cX6_would 31 = .ok (.getfield 10, 3) := by decide +kernel
theorem dX6_would_34 : decode cX6_would 34 = .ok (.aload_n 0, 1) := by decide +kernel
theorem dX6_would_35 : decode cX6_would 35 = .ok (.getfield 25, 3) := by decide +kernel
theorem dX6_would_38 : decode cX6_would 38 = .ok (.aload_n 0, 1) := by decide +kernel
theorem dX6_would_39 : decode cX6_would 39 = .ok (.getfield 10, 3) := by decide +kernel
theorem dX6_would_42 : decode cX6_would 42 = .ok (.getfield 133, 3) := by decide +kernel
theorem dX6_would_45 : decode cX6_would 45 = .ok (.aload_n 0, 1) := by decide +kernel
theorem dX6_would_46 : decode cX6_would 46 = .ok (.getfield 10, 3) := by decide +kernel
theorem dX6_would_49 : decode cX6_would 49 = .ok (.getfield 140, 3) := by decide +kernel
theorem dX6_would_52 : decode cX6_would 52 = .ok (.invokevirtual 161, 3) := by decide +kernel
theorem dX6_would_55 : decode cX6_would 55 = .ok (.ireturn, 1) := by decide +kernel
theorem dX6_sums_0 : decode cX6_sums 0 = .ok (.iload_n 1, 1) := by decide +kernel
theorem dX6_sums_1 : decode cX6_sums 1 = .ok (.tableswitch 54 0 3 #[31, 36, 42, 48], 31) := by decide +kernel
theorem dX6_sums_32 : decode cX6_sums 32 = .ok (.aload_n 0, 1) := by decide +kernel
theorem dX6_sums_33 : decode cX6_sums 33 = .ok (.invokevirtual 165, 3) := by decide +kernel
theorem dX6_sums_36 : decode cX6_sums 36 = .ok (.ireturn, 1) := by decide +kernel
theorem dX6_sums_37 : decode cX6_sums 37 = .ok (.aload_n 0, 1) := by decide +kernel
theorem dX6_sums_38 : decode cX6_sums 38 = .ok (.iconst 1, 1) := by decide +kernel
theorem dX6_sums_39 : decode cX6_sums 39 = .ok (.invokevirtual 169, 3) := by decide +kernel
theorem dX6_sums_42 : decode cX6_sums 42 = .ok (.ireturn, 1) := by decide +kernel
theorem dX6_sums_43 : decode cX6_sums 43 = .ok (.aload_n 0, 1) := by decide +kernel
theorem dX6_sums_44 : decode cX6_sums 44 = .ok (.iconst 2, 1) := by decide +kernel
theorem dX6_sums_45 : decode cX6_sums 45 = .ok (.invokevirtual 169, 3) := by decide +kernel
theorem dX6_sums_48 : decode cX6_sums 48 = .ok (.ireturn, 1) := by decide +kernel
theorem dX6_sums_49 : decode cX6_sums 49 = .ok (.aload_n 0, 1) := by decide +kernel
theorem dX6_sums_50 : decode cX6_sums 50 = .ok (.iconst 0, 1) := by decide +kernel
theorem dX6_sums_51 : decode cX6_sums 51 = .ok (.invokevirtual 169, 3) := by decide +kernel
theorem dX6_sums_54 : decode cX6_sums 54 = .ok (.ireturn, 1) := by decide +kernel
theorem dX6_sums_55 : decode cX6_sums 55 = .ok (.aload_n 0, 1) := by decide +kernel
theorem dX6_sums_56 : decode cX6_sums 56 = .ok (.bipush (-2), 2) := by decide +kernel
theorem dX6_sums_58 : decode cX6_sums 58 = .ok (.invokevirtual 73, 3) := by decide +kernel
theorem dX6_sums_61 : decode cX6_sums 61 = .ok (.ireturn, 1) := by decide +kernel
theorem dX6_leastJoining_0 : decode cX6_leastJoining 0 = .ok (.iconst 1, 1) := by decide +kernel
theorem dX6_leastJoining_1 : decode cX6_leastJoining 1 = .ok (.istore_n 1, 1) := by decide +kernel
theorem dX6_leastJoining_2 : decode cX6_leastJoining 2 = .ok (.iload_n 1, 1) := by decide +kernel
theorem dX6_leastJoining_3 : decode cX6_leastJoining 3 = .ok (.sipush 255, 3) := by decide +kernel
theorem dX6_leastJoining_6 : decode cX6_leastJoining 6 = .ok (.if_icmp .gt 24, 3) := by decide +kernel
theorem dX6_leastJoining_9 : decode cX6_leastJoining 9 = .ok (.aload_n 0, 1) := by decide +kernel
theorem dX6_leastJoining_10 : decode cX6_leastJoining 10 = .ok (.aload_n 0, 1) := by decide +kernel
theorem dX6_leastJoining_11 : decode cX6_leastJoining 11 = .ok (.getfield 10, 3) := by decide +kernel
theorem dX6_leastJoining_14 : decode cX6_leastJoining 14 = .ok (.iload_n 1, 1) := by decide +kernel
theorem dX6_leastJoining_15 : decode cX6_leastJoining 15 = .ok (.invokevirtual 172, 3) := by decide +kernel
theorem dX6_leastJoining_18 : decode cX6_leastJoining 18 = .ok (.iconst 1, 1) := by decide +kernel
theorem dX6_leastJoining_19 : decode cX6_leastJoining 19 = .ok (.if_icmp .ne 5, 3) := by decide +kernel
theorem dX6_leastJoining_22 : decode cX6_leastJoining 22 = .ok (.iload_n 1, 1) := by decide +kernel
theorem dX6_leastJoining_23 : decode cX6_leastJoining 23 = .ok (.ireturn, 1) := by decide +kernel
theorem dX6_leastJoining_24 : decode cX6_leastJoining 24 = .ok (.iinc 1 1, 3) := by decide +kernel
theorem dX6_leastJoining_27 : decode cX6_leastJoining 27 = .ok (.goto (-25), 3) := by decide +kernel
theorem dX6_leastJoining_30 : decode cX6_leastJoining 30 = .ok (.bipush (-9), 2) := by decide +kernel
theorem dX6_leastJoining_32 : decode cX6_leastJoining 32 = .ok (.ireturn, 1) := by decide +kernel
theorem dX6_howMany_0 : decode cX6_howMany 0 = .ok (.iconst 0, 1) := by decide +kernel
theorem dX6_howMany_1 : decode cX6_howMany 1 = .ok (.istore_n 2, 1) := by decide +kernel
theorem dX6_howMany_2 : decode cX6_howMany 2 = .ok (.iconst 1, 1) := by decide +kernel
theorem dX6_howMany_3 : decode cX6_howMany 3 = .ok (.istore_n 3, 1) := by decide +kernel
theorem dX6_howMany_4 : decode cX6_howMany 4 = .ok (.iload_n 3, 1) := by decide +kernel
theorem dX6_howMany_5 : decode cX6_howMany 5 = .ok (.sipush 255, 3) := by decide +kernel
theorem dX6_howMany_8 : decode cX6_howMany 8 = .ok (.if_icmp .gt 25, 3) := by decide +kernel
theorem dX6_howMany_11 : decode cX6_howMany 11 = .ok (.aload_n 0, 1) := by decide +kernel
theorem dX6_howMany_12 : decode cX6_howMany 12 = .ok (.aload_n 0, 1) := by decide +kernel
theorem dX6_howMany_13 : decode cX6_howMany 13 = .ok (.getfield 10, 3) := by decide +kernel
theorem dX6_howMany_16 : decode cX6_howMany 16 = .ok (.iload_n 3, 1) := by decide +kernel
theorem dX6_howMany_17 : decode cX6_howMany 17 = .ok (.invokevirtual 172, 3) := by decide +kernel
theorem dX6_howMany_20 : decode cX6_howMany 20 = .ok (.iload_n 1, 1) := by decide +kernel
theorem dX6_howMany_21 : decode cX6_howMany 21 = .ok (.if_icmp .ne 6, 3) := by decide +kernel
theorem dX6_howMany_24 : decode cX6_howMany 24 = .ok (.iinc 2 1, 3) := by decide +kernel
theorem dX6_howMany_27 : decode cX6_howMany 27 = .ok (.iinc 3 1, 3) := by decide +kernel
theorem dX6_howMany_30 : decode cX6_howMany 30 = .ok (.goto (-26), 3) := by decide +kernel
theorem dX6_howMany_33 : decode cX6_howMany 33 = .ok (.iload_n 2, 1) := by decide +kernel
theorem dX6_howMany_34 : decode cX6_howMany 34 = .ok (.ireturn, 1) := by decide +kernel
theorem dX6_meetingOfSum_0 : decode cX6_meetingOfSum 0 = .ok (.aload_n 0, 1) := by decide +kernel
theorem dX6_meetingOfSum_1 : decode cX6_meetingOfSum 1 = .ok (.getfield 25, 3) := by decide +kernel
theorem dX6_meetingOfSum_4 : decode cX6_meetingOfSum 4 = .ok (.iconst 0, 1) := by decide +kernel
theorem dX6_meetingOfSum_5 : decode cX6_meetingOfSum 5 = .ok (.iload_n 2, 1) := by decide +kernel
theorem dX6_meetingOfSum_6 : decode cX6_meetingOfSum 6 = .ok (.iconst 0, 1) := by decide +kernel
theorem dX6_meetingOfSum_7 : decode cX6_meetingOfSum 7 = .ok (.invokevirtual 150, 3) := by decide +kernel
theorem dX6_meetingOfSum_10 : decode cX6_meetingOfSum 10 = .ok (.aload_n 1, 1) := by decide +kernel
theorem dX6_meetingOfSum_11 : decode cX6_meetingOfSum 11 = .ok (.aload_n 0, 1) := by decide +kernel
theorem dX6_meetingOfSum_12 : decode cX6_meetingOfSum 12 = .ok (.getfield 25, 3) := by decide +kernel
theorem dX6_meetingOfSum_15 : decode cX6_meetingOfSum 15 = .ok (.aload_n 1, 1) := by decide +kernel
theorem dX6_meetingOfSum_16 : decode cX6_meetingOfSum 16 = .ok (.getfield 133, 3) := by decide +kernel
theorem dX6_meetingOfSum_19 : decode cX6_meetingOfSum 19 = .ok (.aload_n 1, 1) := by decide +kernel
theorem dX6_meetingOfSum_20 : decode cX6_meetingOfSum 20 = .ok (.getfield 140, 3) := by decide +kernel
theorem dX6_meetingOfSum_23 : decode cX6_meetingOfSum 23 = .ok (.invokevirtual 161, 3) := by decide +kernel
theorem dX6_meetingOfSum_26 : decode cX6_meetingOfSum 26 = .ok (.ireturn, 1) := by decide +kernel
theorem dX6_answer_0 : decode cX6_answer 0 = .ok (.iload_n 1, 1) := by decide +kernel
theorem dX6_answer_1 : decode cX6_answer 1 = .ok (.aload_n 0, 1) := by decide +kernel
theorem dX6_answer_2 : decode cX6_answer 2 = .ok (.getfield 10, 3) := by decide +kernel
theorem dX6_answer_5 : decode cX6_answer 5 = .ok (.getfield 176, 3) := by decide +kernel
theorem dX6_answer_8 : decode cX6_answer 8 = .ok (.invokestatic 69, 3) := by decide +kernel
theorem dX6_answer_11 : decode cX6_answer 11 = .ok (.ifCond .ne 14, 3) := by decide +kernel
theorem dX6_answer_14 : decode cX6_answer 14 = .ok (.ldc2_w 182, 3) := by decide +kernel
theorem dX6_answer_17 : decode cX6_answer 17 = .ok (.aload_n 0, 1) := by decide +kernel
theorem dX6_answer_18 : decode cX6_answer 18 = .ok (.iconst (-1), 1) := by decide +kernel
theorem dX6_answer_19 : decode cX6_answer 19 = .ok (.invokevirtual 73, 3) := by decide +kernel
theorem dX6_answer_22 : decode cX6_answer 22 = .ok (.i2l, 1) := by decide +kernel
theorem dX6_answer_23 : decode cX6_answer 23 = .ok (.lsub, 1) := by decide +kernel
theorem dX6_answer_24 : decode cX6_answer 24 = .ok (.lreturn, 1) := by decide +kernel
theorem dX6_answer_25 : decode cX6_answer 25 = .ok (.aload_n 0, 1) := by decide +kernel
theorem dX6_answer_26 : decode cX6_answer 26 = .ok (.getfield 10, 3) := by decide +kernel
theorem dX6_answer_29 : decode cX6_answer 29 = .ok (.iload_n 1, 1) := by decide +kernel
theorem dX6_answer_30 : decode cX6_answer 30 = .ok (.invokevirtual 184, 3) := by decide +kernel
theorem dX6_answer_33 : decode cX6_answer 33 = .ok (.i2l, 1) := by decide +kernel
theorem dX6_answer_34 : decode cX6_answer 34 = .ok (.lreturn, 1) := by decide +kernel
theorem dX6_reduced_0 : decode cX6_reduced 0 = .ok (.iload_n 1, 1) := by decide +kernel
theorem dX6_reduced_1 : decode cX6_reduced 1 = .ok (.aload_n 0, 1) := by decide +kernel
theorem dX6_reduced_2 : decode cX6_reduced 2 = .ok (.getfield 10, 3) := by decide +kernel
theorem dX6_reduced_5 : decode cX6_reduced 5 = .ok (.getfield 176, 3) := by decide +kernel
theorem dX6_reduced_8 : decode cX6_reduced 8 = .ok (.invokestatic 69, 3) := by decide +kernel
theorem dX6_reduced_11 : decode cX6_reduced 11 = .ok (.ifCond .eq 14, 3) := by decide +kernel
theorem dX6_reduced_14 : decode cX6_reduced 14 = .ok (.aload_n 0, 1) := by decide +kernel
theorem dX6_reduced_15 : decode cX6_reduced 15 = .ok (.getfield 10, 3) := by decide +kernel
theorem dX6_reduced_18 : decode cX6_reduced 18 = .ok (.iload_n 2, 1) := by decide +kernel
theorem dX6_reduced_19 : decode cX6_reduced 19 = .ok (.invokevirtual 91, 3) := by decide +kernel
theorem dX6_reduced_22 : decode cX6_reduced 22 = .ok (.ifCond .ne 14, 3) := by decide +kernel
theorem dX6_reduced_25 : decode cX6_reduced 25 = .ok (.ldc2_w 182, 3) := by decide +kernel
theorem dX6_reduced_28 : decode cX6_reduced 28 = .ok (.aload_n 0, 1) := by decide +kernel
theorem dX6_reduced_29 : decode cX6_reduced 29 = .ok (.iconst (-1), 1) := by decide +kernel
theorem dX6_reduced_30 : decode cX6_reduced 30 = .ok (.invokevirtual 73, 3) := by decide +kernel
theorem dX6_reduced_33 : decode cX6_reduced 33 = .ok (.i2l, 1) := by decide +kernel
theorem dX6_reduced_34 : decode cX6_reduced 34 = .ok (.lsub, 1) := by decide +kernel
theorem dX6_reduced_35 : decode cX6_reduced 35 = .ok (.lreturn, 1) := by decide +kernel
theorem dX6_reduced_36 : decode cX6_reduced 36 = .ok (.iload_n 3, 1) := by decide +kernel
theorem dX6_reduced_37 : decode cX6_reduced 37 = .ok (.iconst 2, 1) := by decide +kernel
theorem dX6_reduced_38 : decode cX6_reduced 38 = .ok (.invokestatic 69, 3) := by decide +kernel
theorem dX6_reduced_41 : decode cX6_reduced 41 = .ok (.ifCond .ne 15, 3) := by decide +kernel
theorem dX6_reduced_44 : decode cX6_reduced 44 = .ok (.ldc2_w 182, 3) := by decide +kernel
theorem dX6_reduced_47 : decode cX6_reduced 47 = .ok (.aload_n 0, 1) := by decide +kernel
theorem dX6_reduced_48 : decode cX6_reduced 48 = .ok (.bipush (-2), 2) := by decide +kernel
theorem dX6_reduced_50 : decode cX6_reduced 50 = .ok (.invokevirtual 73, 3) := by decide +kernel
theorem dX6_reduced_53 : decode cX6_reduced 53 = .ok (.i2l, 1) := by decide +kernel
theorem dX6_reduced_54 : decode cX6_reduced 54 = .ok (.lsub, 1) := by decide +kernel
theorem dX6_reduced_55 : decode cX6_reduced 55 = .ok (.lreturn, 1) := by decide +kernel
theorem dX6_reduced_56 : decode cX6_reduced 56 = .ok (.aload_n 0, 1) := by decide +kernel
theorem dX6_reduced_57 : decode cX6_reduced 57 = .ok (.getfield 10, 3) := by decide +kernel
theorem dX6_reduced_60 : decode cX6_reduced 60 = .ok (.getfield 187, 3) := by decide +kernel
theorem dX6_reduced_63 : decode cX6_reduced 63 = .ok (.iload_n 1, 1) := by decide +kernel
theorem dX6_reduced_64 : decode cX6_reduced 64 = .ok (.iload_n 2, 1) := by decide +kernel
theorem dX6_reduced_65 : decode cX6_reduced 65 = .ok (.iload_n 3, 1) := by decide +kernel
theorem dX6_reduced_66 : decode cX6_reduced 66 = .ok (.invokevirtual 191, 3) := by decide +kernel
theorem dX6_reduced_69 : decode cX6_reduced 69 = .ok (.lreturn, 1) := by decide +kernel
theorem dX6_pivots_0 : decode cX6_pivots 0 = .ok (.aload_n 0, 1) := by decide +kernel
theorem dX6_pivots_1 : decode cX6_pivots 1 = .ok (.getfield 10, 3) := by decide +kernel
theorem dX6_pivots_4 : decode cX6_pivots 4 = .ok (.getfield 187, 3) := by decide +kernel
theorem dX6_pivots_7 : decode cX6_pivots 7 = .ok (.getfield 197, 3) := by decide +kernel
theorem dX6_pivots_10 : decode cX6_pivots 10 = .ok (.ireturn, 1) := by decide +kernel
theorem dX6_attack_0 : decode cX6_attack 0 = .ok (.aload_n 0, 1) := by decide +kernel
theorem dX6_attack_1 : decode cX6_attack 1 = .ok (.getfield 10, 3) := by decide +kernel
theorem dX6_attack_4 : decode cX6_attack 4 = .ok (.iload_n 1, 1) := by decide +kernel
theorem dX6_attack_5 : decode cX6_attack 5 = .ok (.invokevirtual 91, 3) := by decide +kernel
theorem dX6_attack_8 : decode cX6_attack 8 = .ok (.ifCond .ne 9, 3) := by decide +kernel
theorem dX6_attack_11 : decode cX6_attack 11 = .ok (.aload_n 0, 1) := by decide +kernel
theorem dX6_attack_12 : decode cX6_attack 12 = .ok (.iconst (-1), 1) := by decide +kernel
theorem dX6_attack_13 : decode cX6_attack 13 = .ok (.invokevirtual 73, 3) := by decide +kernel
theorem dX6_attack_16 : decode cX6_attack 16 = .ok (.ireturn, 1) := by decide +kernel
theorem dX6_attack_17 : decode cX6_attack 17 = .ok (.iload_n 2, 1) := by decide +kernel
theorem dX6_attack_18 : decode cX6_attack 18 = .ok (.iconst 2, 1) := by decide +kernel
theorem dX6_attack_19 : decode cX6_attack 19 = .ok (.invokestatic 69, 3) := by decide +kernel
theorem dX6_attack_22 : decode cX6_attack 22 = .ok (.ifCond .ne 10, 3) := by decide +kernel
theorem dX6_attack_25 : decode cX6_attack 25 = .ok (.aload_n 0, 1) := by decide +kernel
theorem dX6_attack_26 : decode cX6_attack 26 = .ok (.bipush (-2), 2) := by decide +kernel
theorem dX6_attack_28 : decode cX6_attack 28 = .ok (.invokevirtual 73, 3) := by decide +kernel
theorem dX6_attack_31 : decode cX6_attack 31 = .ok (.ireturn, 1) := by decide +kernel
theorem dX6_attack_32 : decode cX6_attack 32 = .ok (.bipush (-9), 2) := by decide +kernel
theorem dX6_attack_34 : decode cX6_attack 34 = .ok (.istore_n 3, 1) := by decide +kernel
theorem dX6_attack_35 : decode cX6_attack 35 = .ok (.iconst 0, 1) := by decide +kernel
theorem dX6_attack_36 : decode cX6_attack 36 = .ok (.istore 4, 2) := by decide +kernel
theorem dX6_attack_38 : decode cX6_attack 38 = .ok (.sipush 255, 3) := by decide +kernel
theorem dX6_attack_41 : decode cX6_attack 41 = .ok (.istore 5, 2) := by decide +kernel
theorem dX6_attack_43 : decode cX6_attack 43 = .ok (.iload 5, 2) := by decide +kernel
theorem dX6_attack_45 : decode cX6_attack 45 = .ok (.iconst 1, 1) := by decide +kernel
theorem dX6_attack_46 : decode cX6_attack 46 = .ok (.if_icmp .lt 45, 3) := by decide +kernel
theorem dX6_attack_49 : decode cX6_attack 49 = .ok (.aload_n 0, 1) := by decide +kernel
theorem dX6_attack_50 : decode cX6_attack 50 = .ok (.getfield 25, 3) := by decide +kernel
theorem dX6_attack_53 : decode cX6_attack 53 = .ok (.iconst 0, 1) := by decide +kernel
theorem dX6_attack_54 : decode cX6_attack 54 = .ok (.iload 5, 2) := by decide +kernel
theorem dX6_attack_56 : decode cX6_attack 56 = .ok (.iconst 0, 1) := by decide +kernel
theorem dX6_attack_57 : decode cX6_attack 57 = .ok (.invokevirtual 150, 3) := by decide +kernel
theorem dX6_attack_60 : decode cX6_attack 60 = .ok (.aload_n 0, 1) := by decide +kernel
theorem dX6_attack_61 : decode cX6_attack 61 = .ok (.getfield 10, 3) := by decide +kernel
theorem dX6_attack_64 : decode cX6_attack 64 = .ok (.aload_n 0, 1) := by decide +kernel
theorem dX6_attack_65 : decode cX6_attack 65 = .ok (.getfield 25, 3) := by decide +kernel
theorem dX6_attack_68 : decode cX6_attack 68 = .ok (.invokevirtual 200, 3) := by decide +kernel
theorem dX6_attack_71 : decode cX6_attack 71 = .ok (.iload_n 1, 1) := by decide +kernel
theorem dX6_attack_72 : decode cX6_attack 72 = .ok (.ishr, 1) := by decide +kernel
theorem dX6_attack_73 : decode cX6_attack 73 = .ok (.iconst 1, 1) := by decide +kernel
theorem dX6_attack_74 : decode cX6_attack 74 = .ok (.iand, 1) := by decide +kernel
theorem dX6_attack_75 : decode cX6_attack 75 = .ok (.iconst 1, 1) := by decide +kernel
theorem dX6_attack_76 : decode cX6_attack 76 = .ok (.if_icmp .ne 9, 3) := by decide +kernel
theorem dX6_attack_79 : decode cX6_attack 79 = .ok (.iload 5, 2) := by decide +kernel
theorem dX6_attack_81 : decode cX6_attack 81 = .ok (.istore_n 3, 1) := by decide +kernel
theorem dX6_attack_82 : decode cX6_attack 82 = .ok (.iinc 4 1, 3) := by decide +kernel
theorem dX6_attack_85 : decode cX6_attack 85 = .ok (.iinc 5 (-1), 3) := by decide +kernel
theorem dX6_attack_88 : decode cX6_attack 88 = .ok (.goto (-45), 3) := by decide +kernel
theorem dX6_attack_91 : decode cX6_attack 91 = .ok (.iload_n 2, 1) := by decide +kernel
theorem dX6_attack_92 : decode cX6_attack 92 = .ok (.ifCond .ne 7, 3) := by decide +kernel
theorem dX6_attack_95 : decode cX6_attack 95 = .ok (.iload_n 3, 1) := by decide +kernel
theorem dX6_attack_96 : decode cX6_attack 96 = .ok (.goto 5, 3) := by decide +kernel
theorem dX6_attack_99 : decode cX6_attack 99 = .ok (.iload 4, 2) := by decide +kernel
theorem dX6_attack_101 : decode cX6_attack 101 = .ok (.ireturn, 1) := by decide +kernel
theorem dX6_image_0 : decode cX6_image 0 = .ok (.aload_n 0, 1) := by decide +kernel
theorem dX6_image_1 : decode cX6_image 1 = .ok (.getfield 19, 3) := by decide +kernel
theorem dX6_image_4 : decode cX6_image 4 = .ok (.aload_n 0, 1) := by decide +kernel
theorem dX6_image_5 : decode cX6_image 5 = .ok (.getfield 10, 3) := by decide +kernel
theorem dX6_image_8 : decode cX6_image 8 = .ok (.invokevirtual 56, 3) := by decide +kernel
theorem dX6_image_11 : decode cX6_image 11 = .ok (.aload_n 0, 1) := by decide +kernel
theorem dX6_image_12 : decode cX6_image 12 = .ok (.iconst 1, 1) := by decide +kernel
theorem dX6_image_13 : decode cX6_image 13 = .ok (.putfield 274, 3) := by decide +kernel
theorem dX6_image_16 : decode cX6_image 16 = .ok (.aload_n 0, 1) := by decide +kernel
theorem dX6_image_17 : decode cX6_image 17 = .ok (.getfield 10, 3) := by decide +kernel
theorem dX6_image_20 : decode cX6_image 20 = .ok (.getfield 176, 3) := by decide +kernel
theorem dX6_image_23 : decode cX6_image 23 = .ok (.ireturn, 1) := by decide +kernel
theorem dX6_on_0 : decode cX6_on 0 = .ok (.aload_n 0, 1) := by decide +kernel
theorem dX6_on_1 : decode cX6_on 1 = .ok (.getfield 274, 3) := by decide +kernel
theorem dX6_on_4 : decode cX6_on 4 = .ok (.ifCond .ne 10, 3) := by decide +kernel
theorem dX6_on_7 : decode cX6_on 7 = .ok (.aload_n 0, 1) := by decide +kernel
theorem dX6_on_8 : decode cX6_on 8 = .ok (.bipush (-3), 2) := by decide +kernel
theorem dX6_on_10 : decode cX6_on 10 = .ok (.invokevirtual 73, 3) := by decide +kernel
theorem dX6_on_13 : decode cX6_on 13 = .ok (.ireturn, 1) := by decide +kernel
theorem dX6_on_14 : decode cX6_on 14 = .ok (.aload_n 0, 1) := by decide +kernel
theorem dX6_on_15 : decode cX6_on 15 = .ok (.getfield 10, 3) := by decide +kernel
theorem dX6_on_18 : decode cX6_on 18 = .ok (.aload_n 0, 1) := by decide +kernel
theorem dX6_on_19 : decode cX6_on 19 = .ok (.getfield 19, 3) := by decide +kernel
theorem dX6_on_22 : decode cX6_on 22 = .ok (.invokevirtual 56, 3) := by decide +kernel
theorem dX6_on_25 : decode cX6_on 25 = .ok (.aload_n 0, 1) := by decide +kernel
theorem dX6_on_26 : decode cX6_on 26 = .ok (.getfield 10, 3) := by decide +kernel
theorem dX6_on_29 : decode cX6_on 29 = .ok (.getfield 176, 3) := by decide +kernel
theorem dX6_on_32 : decode cX6_on 32 = .ok (.ireturn, 1) := by decide +kernel
theorem dX6_count_0 : decode cX6_count 0 = .ok (.iload_n 1, 1) := by decide +kernel
theorem dX6_count_1 : decode cX6_count 1 = .ok (.tableswitch 111 0 7 #[47, 55, 63, 71, 79, 87, 95, 103], 47) := by decide +kernel
theorem dX6_count_48 : decode cX6_count 48 = .ok (.aload_n 0, 1) := by decide +kernel
theorem dX6_count_49 : decode cX6_count 49 = .ok (.getfield 10, 3) := by decide +kernel
theorem dX6_count_52 : decode cX6_count 52 = .ok (.getfield 176, 3) := by decide +kernel
theorem dX6_count_55 : decode cX6_count 55 = .ok (.ireturn, 1) := by decide +kernel
theorem dX6_count_56 : decode cX6_count 56 = .ok (.aload_n 0, 1) := by decide +kernel
theorem dX6_count_57 : decode cX6_count 57 = .ok (.getfield 10, 3) := by decide +kernel
theorem dX6_count_60 : decode cX6_count 60 = .ok (.getfield 221, 3) := by decide +kernel
theorem dX6_count_63 : decode cX6_count 63 = .ok (.ireturn, 1) := by decide +kernel
theorem dX6_count_64 : decode cX6_count 64 = .ok (.aload_n 0, 1) := by decide +kernel
theorem dX6_count_65 : decode cX6_count 65 = .ok (.getfield 10, 3) := by decide +kernel
theorem dX6_count_68 : decode cX6_count 68 = .ok (.getfield 133, 3) := by decide +kernel
theorem dX6_count_71 : decode cX6_count 71 = .ok (.ireturn, 1) := by decide +kernel
theorem dX6_count_72 : decode cX6_count 72 = .ok (.aload_n 0, 1) := by decide +kernel
theorem dX6_count_73 : decode cX6_count 73 = .ok (.getfield 10, 3) := by decide +kernel
theorem dX6_count_76 : decode cX6_count 76 = .ok (.getfield 140, 3) := by decide +kernel
theorem dX6_count_79 : decode cX6_count 79 = .ok (.ireturn, 1) := by decide +kernel
theorem dX6_count_80 : decode cX6_count 80 = .ok (.aload_n 0, 1) := by decide +kernel
theorem dX6_count_81 : decode cX6_count 81 = .ok (.getfield 10, 3) := by decide +kernel
theorem dX6_count_84 : decode cX6_count 84 = .ok (.invokevirtual 278, 3) := by decide +kernel
theorem dX6_count_87 : decode cX6_count 87 = .ok (.ireturn, 1) := by decide +kernel
theorem dX6_count_88 : decode cX6_count 88 = .ok (.aload_n 0, 1) := by decide +kernel
theorem dX6_count_89 : decode cX6_count 89 = .ok (.getfield 10, 3) := by decide +kernel
theorem dX6_count_92 : decode cX6_count 92 = .ok (.invokevirtual 281, 3) := by decide +kernel
theorem dX6_count_95 : decode cX6_count 95 = .ok (.ireturn, 1) := by decide +kernel
theorem dX6_count_96 : decode cX6_count 96 = .ok (.aload_n 0, 1) := by decide +kernel
theorem dX6_count_97 : decode cX6_count 97 = .ok (.getfield 45, 3) := by decide +kernel
theorem dX6_count_100 : decode cX6_count 100 = .ok (.getfield 257, 3) := by decide +kernel
theorem dX6_count_103 : decode cX6_count 103 = .ok (.ireturn, 1) := by decide +kernel
theorem dX6_count_104 : decode cX6_count 104 = .ok (.aload_n 0, 1) := by decide +kernel
theorem dX6_count_105 : decode cX6_count 105 = .ok (.getfield 41, 3) := by decide +kernel
theorem dX6_count_108 : decode cX6_count 108 = .ok (.getfield 257, 3) := by decide +kernel
theorem dX6_count_111 : decode cX6_count 111 = .ok (.ireturn, 1) := by decide +kernel
theorem dX6_count_112 : decode cX6_count 112 = .ok (.iload_n 1, 1) := by decide +kernel
theorem dX6_count_113 : decode cX6_count 113 = .ok (.bipush 11, 2) := by decide +kernel
theorem dX6_count_115 : decode cX6_count 115 = .ok (.isub, 1) := by decide +kernel
theorem dX6_count_116 : decode cX6_count 116 = .ok (.bipush 6, 2) := by decide +kernel
theorem dX6_count_118 : decode cX6_count 118 = .ok (.invokestatic 69, 3) := by decide +kernel
theorem dX6_count_121 : decode cX6_count 121 = .ok (.ifCond .eq 15, 3) := by decide +kernel
theorem dX6_count_124 : decode cX6_count 124 = .ok (.aload_n 0, 1) := by decide +kernel
theorem dX6_count_125 : decode cX6_count 125 = .ok (.getfield 48, 3) := by decide +kernel
theorem dX6_count_128 : decode cX6_count 128 = .ok (.iload_n 1, 1) := by decide +kernel
theorem dX6_count_129 : decode cX6_count 129 = .ok (.bipush 11, 2) := by decide +kernel
theorem dX6_count_131 : decode cX6_count 131 = .ok (.isub, 1) := by decide +kernel
theorem dX6_count_132 : decode cX6_count 132 = .ok (.iaload, 1) := by decide +kernel
theorem dX6_count_133 : decode cX6_count 133 = .ok (.goto 5, 3) := by decide +kernel
theorem dX6_count_136 : decode cX6_count 136 = .ok (.bipush (-9), 2) := by decide +kernel
theorem dX6_count_138 : decode cX6_count 138 = .ok (.ireturn, 1) := by decide +kernel
theorem dX6_refuse_0 : decode cX6_refuse 0 = .ok (.iconst (-1), 1) := by decide +kernel
theorem dX6_refuse_1 : decode cX6_refuse 1 = .ok (.iload_n 1, 1) := by decide +kernel
theorem dX6_refuse_2 : decode cX6_refuse 2 = .ok (.isub, 1) := by decide +kernel
theorem dX6_refuse_3 : decode cX6_refuse 3 = .ok (.istore_n 2, 1) := by decide +kernel
theorem dX6_refuse_4 : decode cX6_refuse 4 = .ok (.iload_n 2, 1) := by decide +kernel
theorem dX6_refuse_5 : decode cX6_refuse 5 = .ok (.bipush 6, 2) := by decide +kernel
theorem dX6_refuse_7 : decode cX6_refuse 7 = .ok (.invokestatic 69, 3) := by decide +kernel
theorem dX6_refuse_10 : decode cX6_refuse 10 = .ok (.ifCond .eq 13, 3) := by decide +kernel
theorem dX6_refuse_13 : decode cX6_refuse 13 = .ok (.aload_n 0, 1) := by decide +kernel
theorem dX6_refuse_14 : decode cX6_refuse 14 = .ok (.getfield 48, 3) := by decide +kernel
theorem dX6_refuse_17 : decode cX6_refuse 17 = .ok (.iload_n 2, 1) := by decide +kernel
theorem dX6_refuse_18 : decode cX6_refuse 18 = .ok (.dup2, 1) := by decide +kernel
theorem dX6_refuse_19 : decode cX6_refuse 19 = .ok (.iaload, 1) := by decide +kernel
theorem dX6_refuse_20 : decode cX6_refuse 20 = .ok (.iconst 1, 1) := by decide +kernel
theorem dX6_refuse_21 : decode cX6_refuse 21 = .ok (.iadd, 1) := by decide +kernel
theorem dX6_refuse_22 : decode cX6_refuse 22 = .ok (.iastore, 1) := by decide +kernel
theorem dX6_refuse_23 : decode cX6_refuse 23 = .ok (.iload_n 1, 1) := by decide +kernel
theorem dX6_refuse_24 : decode cX6_refuse 24 = .ok (.ireturn, 1) := by decide +kernel
theorem dX6_misfit_0 : decode cX6_misfit 0 = .ok (.iload_n 0, 1) := by decide +kernel
theorem dX6_misfit_1 : decode cX6_misfit 1 = .ok (.iload_n 1, 1) := by decide +kernel
theorem dX6_misfit_2 : decode cX6_misfit 2 = .ok (.if_icmp .ge 8, 3) := by decide +kernel
theorem dX6_misfit_5 : decode cX6_misfit 5 = .ok (.bipush (-4), 2) := by decide +kernel
theorem dX6_misfit_7 : decode cX6_misfit 7 = .ok (.goto 14, 3) := by decide +kernel
theorem dX6_misfit_10 : decode cX6_misfit 10 = .ok (.iload_n 0, 1) := by decide +kernel
theorem dX6_misfit_11 : decode cX6_misfit 11 = .ok (.iload_n 2, 1) := by decide +kernel
theorem dX6_misfit_12 : decode cX6_misfit 12 = .ok (.if_icmp .le 8, 3) := by decide +kernel
theorem dX6_misfit_15 : decode cX6_misfit 15 = .ok (.bipush (-6), 2) := by decide +kernel
theorem dX6_misfit_17 : decode cX6_misfit 17 = .ok (.goto 4, 3) := by decide +kernel
theorem dX6_misfit_20 : decode cX6_misfit 20 = .ok (.iconst 0, 1) := by decide +kernel
theorem dX6_misfit_21 : decode cX6_misfit 21 = .ok (.ireturn, 1) := by decide +kernel
theorem dX6_isWithin_0 : decode cX6_isWithin 0 = .ok (.iload_n 0, 1) := by decide +kernel
theorem dX6_isWithin_1 : decode cX6_isWithin 1 = .ok (.ifCond .lt 12, 3) := by decide +kernel
theorem dX6_isWithin_4 : decode cX6_isWithin 4 = .ok (.iload_n 0, 1) := by decide +kernel
theorem dX6_isWithin_5 : decode cX6_isWithin 5 = .ok (.iload_n 1, 1) := by decide +kernel
theorem dX6_isWithin_6 : decode cX6_isWithin 6 = .ok (.if_icmp .ge 7, 3) := by decide +kernel
theorem dX6_isWithin_9 : decode cX6_isWithin 9 = .ok (.iconst 1, 1) := by decide +kernel
theorem dX6_isWithin_10 : decode cX6_isWithin 10 = .ok (.goto 4, 3) := by decide +kernel
theorem dX6_isWithin_13 : decode cX6_isWithin 13 = .ok (.iconst 0, 1) := by decide +kernel
theorem dX6_isWithin_14 : decode cX6_isWithin 14 = .ok (.ireturn, 1) := by decide +kernel
theorem dX6_asNumber_0 : decode cX6_asNumber 0 = .ok (.iload_n 0, 1) := by decide +kernel
theorem dX6_asNumber_1 : decode cX6_asNumber 1 = .ok (.ifCond .eq 7, 3) := by decide +kernel
theorem dX6_asNumber_4 : decode cX6_asNumber 4 = .ok (.iconst 1, 1) := by decide +kernel
theorem dX6_asNumber_5 : decode cX6_asNumber 5 = .ok (.goto 4, 3) := by decide +kernel
theorem dX6_asNumber_8 : decode cX6_asNumber 8 = .ok (.iconst 0, 1) := by decide +kernel
theorem dX6_asNumber_9 : decode cX6_asNumber 9 = .ok (.ireturn, 1) := by decide +kernel
theorem dX6_partInLeastTerms_0 : decode cX6_partInLeastTerms 0 = .ok (.lload_n 0, 1) := by decide +kernel
theorem dX6_partInLeastTerms_1 : decode cX6_partInLeastTerms 1 = .ok (.invokestatic 287, 3) := by decide +kernel
theorem dX6_partInLeastTerms_4 : decode cX6_partInLeastTerms 4 = .ok (.lload_n 2, 1) := by decide +kernel
theorem dX6_partInLeastTerms_5 : decode cX6_partInLeastTerms 5 = .ok (.invokestatic 287, 3) := by decide +kernel
theorem dX6_partInLeastTerms_8 : decode cX6_partInLeastTerms 8 = .ok (.invokestatic 291, 3) := by decide +kernel
theorem dX6_partInLeastTerms_11 : decode cX6_partInLeastTerms 11 = .ok (.lstore 5, 2) := by decide +kernel
theorem dX6_partInLeastTerms_13 : decode cX6_partInLeastTerms 13 = .ok (.lload_n 0, 1) := by decide +kernel
theorem dX6_partInLeastTerms_14 : decode cX6_partInLeastTerms 14 = .ok (.lconst 0, 1) := by decide +kernel
theorem dX6_partInLeastTerms_15 : decode cX6_partInLeastTerms 15 = .ok (.lcmp, 1) := by decide +kernel
theorem dX6_partInLeastTerms_16 : decode cX6_partInLeastTerms 16 = .ok (.ifCond .eq 16, 3) := by decide +kernel
theorem dX6_partInLeastTerms_19 : decode cX6_partInLeastTerms 19 = .ok (.lload_n 2, 1) := by decide +kernel
theorem dX6_partInLeastTerms_20 : decode cX6_partInLeastTerms 20 = .ok (.lconst 0, 1) := by decide +kernel
theorem dX6_partInLeastTerms_21 : decode cX6_partInLeastTerms 21 = .ok (.lcmp, 1) := by decide +kernel
theorem dX6_partInLeastTerms_22 : decode cX6_partInLeastTerms 22 = .ok (.ifCond .eq 10, 3) := by decide +kernel
theorem dX6_partInLeastTerms_25 : decode cX6_partInLeastTerms 25 = .ok (.lload 5, 2) := by decide +kernel
theorem dX6_partInLeastTerms_27 : decode cX6_partInLeastTerms 27 = .ok (.lconst 0, 1) := by decide +kernel
theorem dX6_partInLeastTerms_28 : decode cX6_partInLeastTerms 28 = .ok (.lcmp, 1) := by decide +kernel
theorem dX6_partInLeastTerms_29 : decode cX6_partInLeastTerms 29 = .ok (.ifCond .ne 14, 3) := by decide +kernel
theorem dX6_partInLeastTerms_32 : decode cX6_partInLeastTerms 32 = .ok (.iload 4, 2) := by decide +kernel
theorem dX6_partInLeastTerms_34 : decode cX6_partInLeastTerms 34 = .ok (.ifCond .ne 7, 3) := by decide +kernel
theorem dX6_partInLeastTerms_37 : decode cX6_partInLeastTerms 37 = .ok (.lconst 0, 1) := by decide +kernel
theorem dX6_partInLeastTerms_38 : decode cX6_partInLeastTerms 38 = .ok (.goto 4, 3) := by decide +kernel
theorem dX6_partInLeastTerms_41 : decode cX6_partInLeastTerms 41 = .ok (.lconst 1, 1) := by decide +kernel
theorem dX6_partInLeastTerms_42 : decode cX6_partInLeastTerms 42 = .ok (.lreturn, 1) := by decide +kernel
theorem dX6_partInLeastTerms_43 : decode cX6_partInLeastTerms 43 = .ok (.lload_n 2, 1) := by decide +kernel
theorem dX6_partInLeastTerms_44 : decode cX6_partInLeastTerms 44 = .ok (.lconst 0, 1) := by decide +kernel
theorem dX6_partInLeastTerms_45 : decode cX6_partInLeastTerms 45 = .ok (.lcmp, 1) := by decide +kernel
theorem dX6_partInLeastTerms_46 : decode cX6_partInLeastTerms 46 = .ok (.ifCond .ge 9, 3) := by decide +kernel
theorem dX6_partInLeastTerms_49 : decode cX6_partInLeastTerms 49 = .ok (.lload 5, 2) := by decide +kernel
theorem dX6_partInLeastTerms_51 : decode cX6_partInLeastTerms 51 = .ok (.lneg, 1) := by decide +kernel
theorem dX6_partInLeastTerms_52 : decode cX6_partInLeastTerms 52 = .ok (.goto 5, 3) := by decide +kernel
theorem dX6_partInLeastTerms_55 : decode cX6_partInLeastTerms 55 = .ok (.lload 5, 2) := by decide +kernel
theorem dX6_partInLeastTerms_57 : decode cX6_partInLeastTerms 57 = .ok (.lstore 7, 2) := by decide +kernel
theorem dX6_partInLeastTerms_59 : decode cX6_partInLeastTerms 59 = .ok (.iload 4, 2) := by decide +kernel
theorem dX6_partInLeastTerms_61 : decode cX6_partInLeastTerms 61 = .ok (.ifCond .ne 7, 3) := by decide +kernel
theorem dX6_partInLeastTerms_64 : decode cX6_partInLeastTerms 64 = .ok (.lload_n 0, 1) := by decide +kernel
theorem dX6_partInLeastTerms_65 : decode cX6_partInLeastTerms 65 = .ok (.goto 4, 3) := by decide +kernel
theorem dX6_partInLeastTerms_68 : decode cX6_partInLeastTerms 68 = .ok (.lload_n 2, 1) := by decide +kernel
theorem dX6_partInLeastTerms_69 : decode cX6_partInLeastTerms 69 = .ok (.lload 7, 2) := by decide +kernel
theorem dX6_partInLeastTerms_71 : decode cX6_partInLeastTerms 71 = .ok (.ldiv, 1) := by decide +kernel
theorem dX6_partInLeastTerms_72 : decode cX6_partInLeastTerms 72 = .ok (.lreturn, 1) := by decide +kernel
theorem dX6_greatestDivisor_0 : decode cX6_greatestDivisor 0 = .ok (.lload_n 0, 1) := by decide +kernel
theorem dX6_greatestDivisor_1 : decode cX6_greatestDivisor 1 = .ok (.lstore 4, 2) := by decide +kernel
theorem dX6_greatestDivisor_3 : decode cX6_greatestDivisor 3 = .ok (.lload_n 2, 1) := by decide +kernel
theorem dX6_greatestDivisor_4 : decode cX6_greatestDivisor 4 = .ok (.lstore 6, 2) := by decide +kernel
theorem dX6_greatestDivisor_6 : decode cX6_greatestDivisor 6 = .ok (.iconst 0, 1) := by decide +kernel
theorem dX6_greatestDivisor_7 : decode cX6_greatestDivisor 7 = .ok (.istore 8, 2) := by decide +kernel
theorem dX6_greatestDivisor_9 : decode cX6_greatestDivisor 9 = .ok (.iload 8, 2) := by decide +kernel
theorem dX6_greatestDivisor_11 : decode cX6_greatestDivisor 11 = .ok (.sipush 200, 3) := by decide +kernel
theorem dX6_greatestDivisor_14 : decode cX6_greatestDivisor 14 = .ok (.if_icmp .ge 31, 3) := by decide +kernel
theorem dX6_greatestDivisor_17 : decode cX6_greatestDivisor 17 = .ok (.lload 6, 2) := by decide +kernel
theorem dX6_greatestDivisor_19 : decode cX6_greatestDivisor 19 = .ok (.lconst 0, 1) := by decide +kernel
theorem dX6_greatestDivisor_20 : decode cX6_greatestDivisor 20 = .ok (.lcmp, 1) := by decide +kernel
theorem dX6_greatestDivisor_21 : decode cX6_greatestDivisor 21 = .ok (.ifCond .eq 24, 3) := by decide +kernel
theorem dX6_greatestDivisor_24 : decode cX6_greatestDivisor 24 = .ok (.lload 4, 2) := by decide +kernel
theorem dX6_greatestDivisor_26 : decode cX6_greatestDivisor 26 = .ok (.lload 6, 2) := by decide +kernel
theorem dX6_greatestDivisor_28 : decode cX6_greatestDivisor 28 = .ok (.lrem, 1) := by decide +kernel
theorem dX6_greatestDivisor_29 : decode cX6_greatestDivisor 29 = .ok (.lstore 9, 2) := by decide +kernel
theorem dX6_greatestDivisor_31 : decode cX6_greatestDivisor 31 = .ok (.lload 6, 2) := by decide +kernel
theorem dX6_greatestDivisor_33 : decode cX6_greatestDivisor 33 = .ok (.lstore 4, 2) := by decide +kernel
theorem dX6_greatestDivisor_35 : decode cX6_greatestDivisor 35 = .ok (.lload 9, 2) := by decide +kernel
theorem dX6_greatestDivisor_37 : decode cX6_greatestDivisor 37 = .ok (.lstore 6, 2) := by decide +kernel
theorem dX6_greatestDivisor_39 : decode cX6_greatestDivisor 39 = .ok (.iinc 8 1, 3) := by decide +kernel
theorem dX6_greatestDivisor_42 : decode cX6_greatestDivisor 42 = .ok (.goto (-33), 3) := by decide +kernel
theorem dX6_greatestDivisor_45 : decode cX6_greatestDivisor 45 = .ok (.lload 4, 2) := by decide +kernel
theorem dX6_greatestDivisor_47 : decode cX6_greatestDivisor 47 = .ok (.lreturn, 1) := by decide +kernel
theorem dJ6_bitCount_0f7a4_0 : decode cJ6_bitCount_0f7a4 0 = .ok (.iload_n 0, 1) := by decide +kernel
theorem dJ6_bitCount_0f7a4_1 : decode cJ6_bitCount_0f7a4 1 = .ok (.iload_n 0, 1) := by decide +kernel
theorem dJ6_bitCount_0f7a4_2 : decode cJ6_bitCount_0f7a4 2 = .ok (.iconst 1, 1) := by decide +kernel
theorem dJ6_bitCount_0f7a4_3 : decode cJ6_bitCount_0f7a4 3 = .ok (.iushr, 1) := by decide +kernel
theorem dJ6_bitCount_0f7a4_4 : decode cJ6_bitCount_0f7a4 4 = .ok (.ldc_w 265, 3) := by decide +kernel
theorem dJ6_bitCount_0f7a4_7 : decode cJ6_bitCount_0f7a4 7 = .ok (.iand, 1) := by decide +kernel
theorem dJ6_bitCount_0f7a4_8 : decode cJ6_bitCount_0f7a4 8 = .ok (.isub, 1) := by decide +kernel
theorem dJ6_bitCount_0f7a4_9 : decode cJ6_bitCount_0f7a4 9 = .ok (.istore_n 0, 1) := by decide +kernel
theorem dJ6_bitCount_0f7a4_10 : decode cJ6_bitCount_0f7a4 10 = .ok (.iload_n 0, 1) := by decide +kernel
theorem dJ6_bitCount_0f7a4_11 : decode cJ6_bitCount_0f7a4 11 = .ok (.ldc_w 266, 3) := by decide +kernel
theorem dJ6_bitCount_0f7a4_14 : decode cJ6_bitCount_0f7a4 14 = .ok (.iand, 1) := by decide +kernel
theorem dJ6_bitCount_0f7a4_15 : decode cJ6_bitCount_0f7a4 15 = .ok (.iload_n 0, 1) := by decide +kernel
theorem dJ6_bitCount_0f7a4_16 : decode cJ6_bitCount_0f7a4 16 = .ok (.iconst 2, 1) := by decide +kernel
theorem dJ6_bitCount_0f7a4_17 : decode cJ6_bitCount_0f7a4 17 = .ok (.iushr, 1) := by decide +kernel
theorem dJ6_bitCount_0f7a4_18 : decode cJ6_bitCount_0f7a4 18 = .ok (.ldc_w 266, 3) := by decide +kernel
theorem dJ6_bitCount_0f7a4_21 : decode cJ6_bitCount_0f7a4 21 = .ok (.iand, 1) := by decide +kernel
theorem dJ6_bitCount_0f7a4_22 : decode cJ6_bitCount_0f7a4 22 = .ok (.iadd, 1) := by decide +kernel
theorem dJ6_bitCount_0f7a4_23 : decode cJ6_bitCount_0f7a4 23 = .ok (.istore_n 0, 1) := by decide +kernel
theorem dJ6_bitCount_0f7a4_24 : decode cJ6_bitCount_0f7a4 24 = .ok (.iload_n 0, 1) := by decide +kernel
theorem dJ6_bitCount_0f7a4_25 : decode cJ6_bitCount_0f7a4 25 = .ok (.iload_n 0, 1) := by decide +kernel
theorem dJ6_bitCount_0f7a4_26 : decode cJ6_bitCount_0f7a4 26 = .ok (.iconst 4, 1) := by decide +kernel
theorem dJ6_bitCount_0f7a4_27 : decode cJ6_bitCount_0f7a4 27 = .ok (.iushr, 1) := by decide +kernel
theorem dJ6_bitCount_0f7a4_28 : decode cJ6_bitCount_0f7a4 28 = .ok (.iadd, 1) := by decide +kernel
theorem dJ6_bitCount_0f7a4_29 : decode cJ6_bitCount_0f7a4 29 = .ok (.ldc_w 267, 3) := by decide +kernel
theorem dJ6_bitCount_0f7a4_32 : decode cJ6_bitCount_0f7a4 32 = .ok (.iand, 1) := by decide +kernel
theorem dJ6_bitCount_0f7a4_33 : decode cJ6_bitCount_0f7a4 33 = .ok (.istore_n 0, 1) := by decide +kernel
theorem dJ6_bitCount_0f7a4_34 : decode cJ6_bitCount_0f7a4 34 = .ok (.iload_n 0, 1) := by decide +kernel
theorem dJ6_bitCount_0f7a4_35 : decode cJ6_bitCount_0f7a4 35 = .ok (.iload_n 0, 1) := by decide +kernel
theorem dJ6_bitCount_0f7a4_36 : decode cJ6_bitCount_0f7a4 36 = .ok (.bipush 8, 2) := by decide +kernel
theorem dJ6_bitCount_0f7a4_38 : decode cJ6_bitCount_0f7a4 38 = .ok (.iushr, 1) := by decide +kernel
theorem dJ6_bitCount_0f7a4_39 : decode cJ6_bitCount_0f7a4 39 = .ok (.iadd, 1) := by decide +kernel
theorem dJ6_bitCount_0f7a4_40 : decode cJ6_bitCount_0f7a4 40 = .ok (.istore_n 0, 1) := by decide +kernel
theorem dJ6_bitCount_0f7a4_41 : decode cJ6_bitCount_0f7a4 41 = .ok (.iload_n 0, 1) := by decide +kernel
theorem dJ6_bitCount_0f7a4_42 : decode cJ6_bitCount_0f7a4 42 = .ok (.iload_n 0, 1) := by decide +kernel
theorem dJ6_bitCount_0f7a4_43 : decode cJ6_bitCount_0f7a4 43 = .ok (.bipush 16, 2) := by decide +kernel
theorem dJ6_bitCount_0f7a4_45 : decode cJ6_bitCount_0f7a4 45 = .ok (.iushr, 1) := by decide +kernel
theorem dJ6_bitCount_0f7a4_46 : decode cJ6_bitCount_0f7a4 46 = .ok (.iadd, 1) := by decide +kernel
theorem dJ6_bitCount_0f7a4_47 : decode cJ6_bitCount_0f7a4 47 = .ok (.istore_n 0, 1) := by decide +kernel
theorem dJ6_bitCount_0f7a4_48 : decode cJ6_bitCount_0f7a4 48 = .ok (.iload_n 0, 1) := by decide +kernel
theorem dJ6_bitCount_0f7a4_49 : decode cJ6_bitCount_0f7a4 49 = .ok (.bipush 63, 2) := by decide +kernel
theorem dJ6_bitCount_0f7a4_51 : decode cJ6_bitCount_0f7a4 51 = .ok (.iand, 1) := by decide +kernel
theorem dJ6_bitCount_0f7a4_52 : decode cJ6_bitCount_0f7a4 52 = .ok (.ireturn, 1) := by decide +kernel
theorem dJ9_floorDiv_7cf53_0 : decode cJ9_floorDiv_7cf53 0 = .ok (.iload_n 0, 1) := by decide +kernel
theorem dJ9_floorDiv_7cf53_1 : decode cJ9_floorDiv_7cf53 1 = .ok (.iload_n 1, 1) := by decide +kernel
theorem dJ9_floorDiv_7cf53_2 : decode cJ9_floorDiv_7cf53 2 = .ok (.idiv, 1) := by decide +kernel
theorem dJ9_floorDiv_7cf53_3 : decode cJ9_floorDiv_7cf53 3 = .ok (.istore_n 2, 1) := by decide +kernel
theorem dJ9_floorDiv_7cf53_4 : decode cJ9_floorDiv_7cf53 4 = .ok (.iload_n 0, 1) := by decide +kernel
theorem dJ9_floorDiv_7cf53_5 : decode cJ9_floorDiv_7cf53 5 = .ok (.iload_n 1, 1) := by decide +kernel
theorem dJ9_floorDiv_7cf53_6 : decode cJ9_floorDiv_7cf53 6 = .ok (.ixor, 1) := by decide +kernel
theorem dJ9_floorDiv_7cf53_7 : decode cJ9_floorDiv_7cf53 7 = .ok (.ifCond .ge 14, 3) := by decide +kernel
theorem dJ9_floorDiv_7cf53_10 : decode cJ9_floorDiv_7cf53 10 = .ok (.iload_n 2, 1) := by decide +kernel
theorem dJ9_floorDiv_7cf53_11 : decode cJ9_floorDiv_7cf53 11 = .ok (.iload_n 1, 1) := by decide +kernel
theorem dJ9_floorDiv_7cf53_12 : decode cJ9_floorDiv_7cf53 12 = .ok (.imul, 1) := by decide +kernel
theorem dJ9_floorDiv_7cf53_13 : decode cJ9_floorDiv_7cf53 13 = .ok (.iload_n 0, 1) := by decide +kernel
theorem dJ9_floorDiv_7cf53_14 : decode cJ9_floorDiv_7cf53 14 = .ok (.if_icmp .eq 7, 3) := by decide +kernel
theorem dJ9_floorDiv_7cf53_17 : decode cJ9_floorDiv_7cf53 17 = .ok (.iload_n 2, 1) := by decide +kernel
theorem dJ9_floorDiv_7cf53_18 : decode cJ9_floorDiv_7cf53 18 = .ok (.iconst 1, 1) := by decide +kernel
theorem dJ9_floorDiv_7cf53_19 : decode cJ9_floorDiv_7cf53 19 = .ok (.isub, 1) := by decide +kernel
theorem dJ9_floorDiv_7cf53_20 : decode cJ9_floorDiv_7cf53 20 = .ok (.ireturn, 1) := by decide +kernel
theorem dJ9_floorDiv_7cf53_21 : decode cJ9_floorDiv_7cf53 21 = .ok (.iload_n 2, 1) := by decide +kernel
theorem dJ9_floorDiv_7cf53_22 : decode cJ9_floorDiv_7cf53 22 = .ok (.ireturn, 1) := by decide +kernel
theorem dJ9_abs_067f4_0 : decode cJ9_abs_067f4 0 = .ok (.lload_n 0, 1) := by decide +kernel
theorem dJ9_abs_067f4_1 : decode cJ9_abs_067f4 1 = .ok (.lconst 0, 1) := by decide +kernel
theorem dJ9_abs_067f4_2 : decode cJ9_abs_067f4 2 = .ok (.lcmp, 1) := by decide +kernel
theorem dJ9_abs_067f4_3 : decode cJ9_abs_067f4 3 = .ok (.ifCond .ge 8, 3) := by decide +kernel
theorem dJ9_abs_067f4_6 : decode cJ9_abs_067f4 6 = .ok (.lload_n 0, 1) := by decide +kernel
theorem dJ9_abs_067f4_7 : decode cJ9_abs_067f4 7 = .ok (.lneg, 1) := by decide +kernel
theorem dJ9_abs_067f4_8 : decode cJ9_abs_067f4 8 = .ok (.goto 4, 3) := by decide +kernel
theorem dJ9_abs_067f4_11 : decode cJ9_abs_067f4 11 = .ok (.lload_n 0, 1) := by decide +kernel
theorem dJ9_abs_067f4_12 : decode cJ9_abs_067f4 12 = .ok (.lreturn, 1) := by decide +kernel
theorem dJ9_max_7cf53_0 : decode cJ9_max_7cf53 0 = .ok (.iload_n 0, 1) := by decide +kernel
theorem dJ9_max_7cf53_1 : decode cJ9_max_7cf53 1 = .ok (.iload_n 1, 1) := by decide +kernel
theorem dJ9_max_7cf53_2 : decode cJ9_max_7cf53 2 = .ok (.if_icmp .lt 7, 3) := by decide +kernel
theorem dJ9_max_7cf53_5 : decode cJ9_max_7cf53 5 = .ok (.iload_n 0, 1) := by decide +kernel
theorem dJ9_max_7cf53_6 : decode cJ9_max_7cf53 6 = .ok (.goto 4, 3) := by decide +kernel
theorem dJ9_max_7cf53_9 : decode cJ9_max_7cf53 9 = .ok (.iload_n 1, 1) := by decide +kernel
theorem dJ9_max_7cf53_10 : decode cJ9_max_7cf53 10 = .ok (.ireturn, 1) := by decide +kernel
theorem dJ9_min_7cf53_0 : decode cJ9_min_7cf53 0 = .ok (.iload_n 0, 1) := by decide +kernel
theorem dJ9_min_7cf53_1 : decode cJ9_min_7cf53 1 = .ok (.iload_n 1, 1) := by decide +kernel
theorem dJ9_min_7cf53_2 : decode cJ9_min_7cf53 2 = .ok (.if_icmp .gt 7, 3) := by decide +kernel
theorem dJ9_min_7cf53_5 : decode cJ9_min_7cf53 5 = .ok (.iload_n 0, 1) := by decide +kernel
theorem dJ9_min_7cf53_6 : decode cJ9_min_7cf53 6 = .ok (.goto 4, 3) := by decide +kernel
theorem dJ9_min_7cf53_9 : decode cJ9_min_7cf53 9 = .ok (.iload_n 1, 1) := by decide +kernel
theorem dJ9_min_7cf53_10 : decode cJ9_min_7cf53 10 = .ok (.ireturn, 1) := by decide +kernel
theorem dL_cell_0 : decode cL_cell 0 = .ok (.iload_n 1, 1) := by decide +kernel
theorem dL_cell_1 : decode cL_cell 1 = .ok (.aload_n 0, 1) := by decide +kernel
theorem dL_cell_2 : decode cL_cell 2 = .ok (.arraylength, 1) := by decide +kernel
theorem dL_cell_3 : decode cL_cell 3 = .ok (.if_icmp .ge 9, 3) := by decide +kernel
theorem dL_cell_6 : decode cL_cell 6 = .ok (.aload_n 0, 1) := by decide +kernel
theorem dL_cell_7 : decode cL_cell 7 = .ok (.iload_n 1, 1) := by decide +kernel
theorem dL_cell_8 : decode cL_cell 8 = .ok (.iaload, 1) := by decide +kernel
theorem dL_cell_9 : decode cL_cell 9 = .ok (.goto 11, 3) := by decide +kernel
theorem dL_cell_12 : decode cL_cell 12 = .ok (.sipush 7919, 3) := by decide +kernel
theorem dL_cell_15 : decode cL_cell 15 = .ok (.iload_n 1, 1) := by decide +kernel
theorem dL_cell_16 : decode cL_cell 16 = .ok (.imul, 1) := by decide +kernel
theorem dL_cell_17 : decode cL_cell 17 = .ok (.bipush 12, 2) := by decide +kernel
theorem dL_cell_19 : decode cL_cell 19 = .ok (.iadd, 1) := by decide +kernel
theorem dL_cell_20 : decode cL_cell 20 = .ok (.ireturn, 1) := by decide +kernel
theorem dL_pick_0 : decode cL_pick 0 = .ok (.iload_n 0, 1) := by decide +kernel
theorem dL_pick_1 : decode cL_pick 1 = .ok (.ldc 7, 2) := by decide +kernel
theorem dL_pick_3 : decode cL_pick 3 = .ok (.iand, 1) := by decide +kernel
theorem dL_pick_4 : decode cL_pick 4 = .ok (.iload_n 1, 1) := by decide +kernel
theorem dL_pick_5 : decode cL_pick 5 = .ok (.irem, 1) := by decide +kernel
theorem dL_pick_6 : decode cL_pick 6 = .ok (.ireturn, 1) := by decide +kernel
theorem dL_guard_0 : decode cL_guard 0 = .ok (.iconst 0, 1) := by decide +kernel
theorem dL_guard_1 : decode cL_guard 1 = .ok (.istore_n 3, 1) := by decide +kernel
theorem dL_guard_2 : decode cL_guard 2 = .ok (.iload_n 3, 1) := by decide +kernel
theorem dL_guard_3 : decode cL_guard 3 = .ok (.bipush 8, 2) := by decide +kernel
theorem dL_guard_5 : decode cL_guard 5 = .ok (.if_icmp .ge 56, 3) := by decide +kernel
theorem dL_guard_8 : decode cL_guard 8 = .ok (.aload_n 0, 1) := by decide +kernel
theorem dL_guard_9 : decode cL_guard 9 = .ok (.iload_n 3, 1) := by decide +kernel
theorem dL_guard_10 : decode cL_guard 10 = .ok (.aload_n 1, 1) := by decide +kernel
theorem dL_guard_11 : decode cL_guard 11 = .ok (.iload_n 3, 1) := by decide +kernel
theorem dL_guard_12 : decode cL_guard 12 = .ok (.invokestatic 18, 3) := by decide +kernel
theorem dL_guard_15 : decode cL_guard 15 = .ok (.iconst 3, 1) := by decide +kernel
theorem dL_guard_16 : decode cL_guard 16 = .ok (.invokestatic 24, 3) := by decide +kernel
theorem dL_guard_19 : decode cL_guard 19 = .ok (.ifCond .ne 20, 3) := by decide +kernel
theorem dL_guard_22 : decode cL_guard 22 = .ok (.aload_n 1, 1) := by decide +kernel
theorem dL_guard_23 : decode cL_guard 23 = .ok (.iload_n 3, 1) := by decide +kernel
theorem dL_guard_24 : decode cL_guard 24 = .ok (.invokestatic 18, 3) := by decide +kernel
theorem dL_guard_27 : decode cL_guard 27 = .ok (.iconst 3, 1) := by decide +kernel
theorem dL_guard_28 : decode cL_guard 28 = .ok (.ishr, 1) := by decide +kernel
theorem dL_guard_29 : decode cL_guard 29 = .ok (.iconst 4, 1) := by decide +kernel
theorem dL_guard_30 : decode cL_guard 30 = .ok (.invokestatic 24, 3) := by decide +kernel
theorem dL_guard_33 : decode cL_guard 33 = .ok (.bipush 33, 2) := by decide +kernel
theorem dL_guard_35 : decode cL_guard 35 = .ok (.imul, 1) := by decide +kernel
theorem dL_guard_36 : decode cL_guard 36 = .ok (.goto 15, 3) := by decide +kernel
theorem dL_guard_39 : decode cL_guard 39 = .ok (.aload_n 1, 1) := by decide +kernel
theorem dL_guard_40 : decode cL_guard 40 = .ok (.iload_n 3, 1) := by decide +kernel
theorem dL_guard_41 : decode cL_guard 41 = .ok (.invokestatic 18, 3) := by decide +kernel
theorem dL_guard_44 : decode cL_guard 44 = .ok (.iconst 3, 1) := by decide +kernel
theorem dL_guard_45 : decode cL_guard 45 = .ok (.ishr, 1) := by decide +kernel
theorem dL_guard_46 : decode cL_guard 46 = .ok (.bipush 100, 2) := by decide +kernel
theorem dL_guard_48 : decode cL_guard 48 = .ok (.invokestatic 24, 3) := by decide +kernel
theorem dL_guard_51 : decode cL_guard 51 = .ok (.invokevirtual 28, 3) := by decide +kernel
theorem dL_guard_54 : decode cL_guard 54 = .ok (.pop, 1) := by decide +kernel
theorem dL_guard_55 : decode cL_guard 55 = .ok (.iinc 3 1, 3) := by decide +kernel
theorem dL_guard_58 : decode cL_guard 58 = .ok (.goto (-56), 3) := by decide +kernel
theorem dL_guard_61 : decode cL_guard 61 = .ok (.aload_n 0, 1) := by decide +kernel
theorem dL_guard_62 : decode cL_guard 62 = .ok (.iconst 2, 1) := by decide +kernel
theorem dL_guard_63 : decode cL_guard 63 = .ok (.aload_n 1, 1) := by decide +kernel
theorem dL_guard_64 : decode cL_guard 64 = .ok (.bipush 8, 2) := by decide +kernel
theorem dL_guard_66 : decode cL_guard 66 = .ok (.invokestatic 18, 3) := by decide +kernel
theorem dL_guard_69 : decode cL_guard 69 = .ok (.bipush 9, 2) := by decide +kernel
theorem dL_guard_71 : decode cL_guard 71 = .ok (.invokestatic 24, 3) := by decide +kernel
theorem dL_guard_74 : decode cL_guard 74 = .ok (.iadd, 1) := by decide +kernel
theorem dL_guard_75 : decode cL_guard 75 = .ok (.invokevirtual 31, 3) := by decide +kernel
theorem dL_guard_78 : decode cL_guard 78 = .ok (.pop, 1) := by decide +kernel
theorem dL_guard_79 : decode cL_guard 79 = .ok (.aload_n 0, 1) := by decide +kernel
theorem dL_guard_80 : decode cL_guard 80 = .ok (.aload_n 1, 1) := by decide +kernel
theorem dL_guard_81 : decode cL_guard 81 = .ok (.bipush 9, 2) := by decide +kernel
theorem dL_guard_83 : decode cL_guard 83 = .ok (.invokestatic 18, 3) := by decide +kernel
theorem dL_guard_86 : decode cL_guard 86 = .ok (.iconst 4, 1) := by decide +kernel
theorem dL_guard_87 : decode cL_guard 87 = .ok (.invokestatic 24, 3) := by decide +kernel
theorem dL_guard_90 : decode cL_guard 90 = .ok (.invokevirtual 34, 3) := by decide +kernel
theorem dL_guard_93 : decode cL_guard 93 = .ok (.pop, 1) := by decide +kernel
theorem dL_guard_94 : decode cL_guard 94 = .ok (.iconst 0, 1) := by decide +kernel
theorem dL_guard_95 : decode cL_guard 95 = .ok (.istore_n 3, 1) := by decide +kernel
theorem dL_guard_96 : decode cL_guard 96 = .ok (.iload_n 3, 1) := by decide +kernel
theorem dL_guard_97 : decode cL_guard 97 = .ok (.iload_n 2, 1) := by decide +kernel
theorem dL_guard_98 : decode cL_guard 98 = .ok (.if_icmp .ge 223, 3) := by decide +kernel
theorem dL_guard_101 : decode cL_guard 101 = .ok (.aload_n 1, 1) := by decide +kernel
theorem dL_guard_102 : decode cL_guard 102 = .ok (.bipush 10, 2) := by decide +kernel
theorem dL_guard_104 : decode cL_guard 104 = .ok (.iload_n 3, 1) := by decide +kernel
theorem dL_guard_105 : decode cL_guard 105 = .ok (.iadd, 1) := by decide +kernel
theorem dL_guard_106 : decode cL_guard 106 = .ok (.invokestatic 18, 3) := by decide +kernel
theorem dL_guard_109 : decode cL_guard 109 = .ok (.istore 4, 2) := by decide +kernel
theorem dL_guard_111 : decode cL_guard 111 = .ok (.iload 4, 2) := by decide +kernel
theorem dL_guard_113 : decode cL_guard 113 = .ok (.bipush 12, 2) := by decide +kernel
theorem dL_guard_115 : decode cL_guard 115 = .ok (.invokestatic 24, 3) := by decide +kernel
theorem dL_guard_118 : decode cL_guard 118 = .ok (.istore 5, 2) := by decide +kernel
theorem dL_guard_120 : decode cL_guard 120 = .ok (.iconst 1, 1) := by decide +kernel
theorem dL_guard_121 : decode cL_guard 121 = .ok (.iload 4, 2) := by decide +kernel
theorem dL_guard_123 : decode cL_guard 123 = .ok (.iconst 4, 1) := by decide +kernel
theorem dL_guard_124 : decode cL_guard 124 = .ok (.ishr, 1) := by decide +kernel
theorem dL_guard_125 : decode cL_guard 125 = .ok (.sipush 255, 3) := by decide +kernel
theorem dL_guard_128 : decode cL_guard 128 = .ok (.invokestatic 24, 3) := by decide +kernel
theorem dL_guard_131 : decode cL_guard 131 = .ok (.iadd, 1) := by decide +kernel
theorem dL_guard_132 : decode cL_guard 132 = .ok (.istore 6, 2) := by decide +kernel
theorem dL_guard_134 : decode cL_guard 134 = .ok (.iload 5, 2) := by decide +kernel
theorem dL_guard_136 : decode cL_guard 136 = .ok (.bipush 6, 2) := by decide +kernel
theorem dL_guard_138 : decode cL_guard 138 = .ok (.if_icmp .ge 15, 3) := by decide +kernel
theorem dL_guard_141 : decode cL_guard 141 = .ok (.aload_n 0, 1) := by decide +kernel
theorem dL_guard_142 : decode cL_guard 142 = .ok (.iconst 0, 1) := by decide +kernel
theorem dL_guard_143 : decode cL_guard 143 = .ok (.iload 6, 2) := by decide +kernel
theorem dL_guard_145 : decode cL_guard 145 = .ok (.iconst 0, 1) := by decide +kernel
theorem dL_guard_146 : decode cL_guard 146 = .ok (.invokevirtual 37, 3) := by decide +kernel
theorem dL_guard_149 : decode cL_guard 149 = .ok (.pop, 1) := by decide +kernel
theorem dL_guard_150 : decode cL_guard 150 = .ok (.goto 165, 3) := by decide +kernel
theorem dL_guard_153 : decode cL_guard 153 = .ok (.iload 5, 2) := by decide +kernel
theorem dL_guard_155 : decode cL_guard 155 = .ok (.bipush 6, 2) := by decide +kernel
theorem dL_guard_157 : decode cL_guard 157 = .ok (.if_icmp .ne 28, 3) := by decide +kernel
theorem dL_guard_160 : decode cL_guard 160 = .ok (.aload_n 0, 1) := by decide +kernel
theorem dL_guard_161 : decode cL_guard 161 = .ok (.iconst 1, 1) := by decide +kernel
theorem dL_guard_162 : decode cL_guard 162 = .ok (.iload 6, 2) := by decide +kernel
theorem dL_guard_164 : decode cL_guard 164 = .ok (.iload 4, 2) := by decide +kernel
theorem dL_guard_166 : decode cL_guard 166 = .ok (.bipush 12, 2) := by decide +kernel
theorem dL_guard_168 : decode cL_guard 168 = .ok (.ishr, 1) := by decide +kernel
theorem dL_guard_169 : decode cL_guard 169 = .ok (.sipush 255, 3) := by decide +kernel
theorem dL_guard_172 : decode cL_guard 172 = .ok (.iand, 1) := by decide +kernel
theorem dL_guard_173 : decode cL_guard 173 = .ok (.iload 6, 2) := by decide +kernel
theorem dL_guard_175 : decode cL_guard 175 = .ok (.iconst (-1), 1) := by decide +kernel
theorem dL_guard_176 : decode cL_guard 176 = .ok (.ixor, 1) := by decide +kernel
theorem dL_guard_177 : decode cL_guard 177 = .ok (.iand, 1) := by decide +kernel
theorem dL_guard_178 : decode cL_guard 178 = .ok (.invokevirtual 37, 3) := by decide +kernel
theorem dL_guard_181 : decode cL_guard 181 = .ok (.pop, 1) := by decide +kernel
theorem dL_guard_182 : decode cL_guard 182 = .ok (.goto 133, 3) := by decide +kernel
theorem dL_guard_185 : decode cL_guard 185 = .ok (.iload 5, 2) := by decide +kernel
theorem dL_guard_187 : decode cL_guard 187 = .ok (.bipush 7, 2) := by decide +kernel
theorem dL_guard_189 : decode cL_guard 189 = .ok (.if_icmp .ne 25, 3) := by decide +kernel
theorem dL_guard_192 : decode cL_guard 192 = .ok (.aload_n 0, 1) := by decide +kernel
theorem dL_guard_193 : decode cL_guard 193 = .ok (.iconst 2, 1) := by decide +kernel
theorem dL_guard_194 : decode cL_guard 194 = .ok (.iload 6, 2) := by decide +kernel
theorem dL_guard_196 : decode cL_guard 196 = .ok (.iconst 1, 1) := by decide +kernel
theorem dL_guard_197 : decode cL_guard 197 = .ok (.iload 4, 2) := by decide +kernel
theorem dL_guard_199 : decode cL_guard 199 = .ok (.bipush 12, 2) := by decide +kernel
theorem dL_guard_201 : decode cL_guard 201 = .ok (.ishr, 1) := by decide +kernel
theorem dL_guard_202 : decode cL_guard 202 = .ok (.iconst 3, 1) := by decide +kernel
theorem dL_guard_203 : decode cL_guard 203 = .ok (.invokestatic 24, 3) := by decide +kernel
theorem dL_guard_206 : decode cL_guard 206 = .ok (.iadd, 1) := by decide +kernel
theorem dL_guard_207 : decode cL_guard 207 = .ok (.invokevirtual 37, 3) := by decide +kernel
theorem dL_guard_210 : decode cL_guard 210 = .ok (.pop, 1) := by decide +kernel
theorem dL_guard_211 : decode cL_guard 211 = .ok (.goto 104, 3) := by decide +kernel
theorem dL_guard_214 : decode cL_guard 214 = .ok (.iload 5, 2) := by decide +kernel
theorem dL_guard_216 : decode cL_guard 216 = .ok (.bipush 8, 2) := by decide +kernel
theorem dL_guard_218 : decode cL_guard 218 = .ok (.if_icmp .ne 30, 3) := by decide +kernel
theorem dL_guard_221 : decode cL_guard 221 = .ok (.aload_n 0, 1) := by decide +kernel
theorem dL_guard_222 : decode cL_guard 222 = .ok (.iload 4, 2) := by decide +kernel
theorem dL_guard_224 : decode cL_guard 224 = .ok (.iconst 4, 1) := by decide +kernel
theorem dL_guard_225 : decode cL_guard 225 = .ok (.ishr, 1) := by decide +kernel
theorem dL_guard_226 : decode cL_guard 226 = .ok (.bipush 8, 2) := by decide +kernel
theorem dL_guard_228 : decode cL_guard 228 = .ok (.invokestatic 24, 3) := by decide +kernel
theorem dL_guard_231 : decode cL_guard 231 = .ok (.iload 4, 2) := by decide +kernel
theorem dL_guard_233 : decode cL_guard 233 = .ok (.bipush 7, 2) := by decide +kernel
theorem dL_guard_235 : decode cL_guard 235 = .ok (.ishr, 1) := by decide +kernel
theorem dL_guard_236 : decode cL_guard 236 = .ok (.bipush 100, 2) := by decide +kernel
theorem dL_guard_238 : decode cL_guard 238 = .ok (.invokestatic 24, 3) := by decide +kernel
theorem dL_guard_241 : decode cL_guard 241 = .ok (.invokevirtual 41, 3) := by decide +kernel
theorem dL_guard_244 : decode cL_guard 244 = .ok (.pop, 1) := by decide +kernel
theorem dL_guard_245 : decode cL_guard 245 = .ok (.goto 70, 3) := by decide +kernel
theorem dL_guard_248 : decode cL_guard 248 = .ok (.iload 5, 2) := by decide +kernel
theorem dL_guard_250 : decode cL_guard 250 = .ok (.bipush 11, 2) := by decide +kernel
theorem dL_guard_252 : decode cL_guard 252 = .ok (.if_icmp .ge 39, 3) := by decide +kernel
theorem dL_guard_255 : decode cL_guard 255 = .ok (.aload_n 0, 1) := by decide +kernel
theorem dL_guard_256 : decode cL_guard 256 = .ok (.iload 4, 2) := by decide +kernel
theorem dL_guard_258 : decode cL_guard 258 = .ok (.iconst 4, 1) := by decide +kernel
theorem dL_guard_259 : decode cL_guard 259 = .ok (.ishr, 1) := by decide +kernel
theorem dL_guard_260 : decode cL_guard 260 = .ok (.bipush 10, 2) := by decide +kernel
theorem dL_guard_262 : decode cL_guard 262 = .ok (.invokestatic 24, 3) := by decide +kernel
theorem dL_guard_265 : decode cL_guard 265 = .ok (.iload 4, 2) := by decide +kernel
theorem dL_guard_267 : decode cL_guard 267 = .ok (.bipush 8, 2) := by decide +kernel
theorem dL_guard_269 : decode cL_guard 269 = .ok (.ishr, 1) := by decide +kernel
theorem dL_guard_270 : decode cL_guard 270 = .ok (.bipush 12, 2) := by decide +kernel
theorem dL_guard_272 : decode cL_guard 272 = .ok (.invokestatic 24, 3) := by decide +kernel
theorem dL_guard_275 : decode cL_guard 275 = .ok (.iload 4, 2) := by decide +kernel
theorem dL_guard_277 : decode cL_guard 277 = .ok (.bipush 12, 2) := by decide +kernel
theorem dL_guard_279 : decode cL_guard 279 = .ok (.ishr, 1) := by decide +kernel
theorem dL_guard_280 : decode cL_guard 280 = .ok (.bipush 12, 2) := by decide +kernel
theorem dL_guard_282 : decode cL_guard 282 = .ok (.invokestatic 24, 3) := by decide +kernel
theorem dL_guard_285 : decode cL_guard 285 = .ok (.invokestatic 44, 3) := by decide +kernel
theorem dL_guard_288 : decode cL_guard 288 = .ok (.goto 27, 3) := by decide +kernel
theorem dL_guard_291 : decode cL_guard 291 = .ok (.aload_n 0, 1) := by decide +kernel
theorem dL_guard_292 : decode cL_guard 292 = .ok (.iload 4, 2) := by decide +kernel
theorem dL_guard_294 : decode cL_guard 294 = .ok (.iconst 4, 1) := by decide +kernel
theorem dL_guard_295 : decode cL_guard 295 = .ok (.ishr, 1) := by decide +kernel
theorem dL_guard_296 : decode cL_guard 296 = .ok (.bipush 8, 2) := by decide +kernel
theorem dL_guard_298 : decode cL_guard 298 = .ok (.invokestatic 24, 3) := by decide +kernel
theorem dL_guard_301 : decode cL_guard 301 = .ok (.iload 4, 2) := by decide +kernel
theorem dL_guard_303 : decode cL_guard 303 = .ok (.bipush 7, 2) := by decide +kernel
theorem dL_guard_305 : decode cL_guard 305 = .ok (.ishr, 1) := by decide +kernel
theorem dL_guard_306 : decode cL_guard 306 = .ok (.bipush 100, 2) := by decide +kernel
theorem dL_guard_308 : decode cL_guard 308 = .ok (.invokestatic 24, 3) := by decide +kernel
theorem dL_guard_311 : decode cL_guard 311 = .ok (.invokevirtual 28, 3) := by decide +kernel
theorem dL_guard_314 : decode cL_guard 314 = .ok (.pop, 1) := by decide +kernel
theorem dL_guard_315 : decode cL_guard 315 = .ok (.iinc 3 1, 3) := by decide +kernel
theorem dL_guard_318 : decode cL_guard 318 = .ok (.goto (-222), 3) := by decide +kernel
theorem dL_guard_321 : decode cL_guard 321 = .ok (.return_, 1) := by decide +kernel
theorem dL_bound_0 : decode cL_bound 0 = .ok (.aload_n 0, 1) := by decide +kernel
theorem dL_bound_1 : decode cL_bound 1 = .ok (.iload_n 1, 1) := by decide +kernel
theorem dL_bound_2 : decode cL_bound 2 = .ok (.iconst 0, 1) := by decide +kernel
theorem dL_bound_3 : decode cL_bound 3 = .ok (.invokevirtual 48, 3) := by decide +kernel
theorem dL_bound_6 : decode cL_bound 6 = .ok (.istore 4, 2) := by decide +kernel
theorem dL_bound_8 : decode cL_bound 8 = .ok (.iload 4, 2) := by decide +kernel
theorem dL_bound_10 : decode cL_bound 10 = .ok (.ifCond .lt 26, 3) := by decide +kernel
theorem dL_bound_13 : decode cL_bound 13 = .ok (.aload_n 0, 1) := by decide +kernel
theorem dL_bound_14 : decode cL_bound 14 = .ok (.iload_n 1, 1) := by decide +kernel
theorem dL_bound_15 : decode cL_bound 15 = .ok (.iconst 0, 1) := by decide +kernel
theorem dL_bound_16 : decode cL_bound 16 = .ok (.iload 4, 2) := by decide +kernel
theorem dL_bound_18 : decode cL_bound 18 = .ok (.iload_n 2, 1) := by decide +kernel
theorem dL_bound_19 : decode cL_bound 19 = .ok (.isub, 1) := by decide +kernel
theorem dL_bound_20 : decode cL_bound 20 = .ok (.invokestatic 51, 3) := by decide +kernel
theorem dL_bound_23 : decode cL_bound 23 = .ok (.bipush 99, 2) := by decide +kernel
theorem dL_bound_25 : decode cL_bound 25 = .ok (.iload 4, 2) := by decide +kernel
theorem dL_bound_27 : decode cL_bound 27 = .ok (.iload_n 3, 1) := by decide +kernel
theorem dL_bound_28 : decode cL_bound 28 = .ok (.iadd, 1) := by decide +kernel
theorem dL_bound_29 : decode cL_bound 29 = .ok (.invokestatic 56, 3) := by decide +kernel
theorem dL_bound_32 : decode cL_bound 32 = .ok (.invokevirtual 59, 3) := by decide +kernel
theorem dL_bound_35 : decode cL_bound 35 = .ok (.pop, 1) := by decide +kernel
theorem dL_bound_36 : decode cL_bound 36 = .ok (.return_, 1) := by decide +kernel
theorem dL_law_0 : decode cL_law 0 = .ok (.new 9, 3) := by decide +kernel
theorem dL_law_3 : decode cL_law 3 = .ok (.dup, 1) := by decide +kernel
theorem dL_law_4 : decode cL_law 4 = .ok (.invokespecial 62, 3) := by decide +kernel
theorem dL_law_7 : decode cL_law 7 = .ok (.astore_n 1, 1) := by decide +kernel
theorem dL_law_8 : decode cL_law 8 = .ok (.aload_n 1, 1) := by decide +kernel
theorem dL_law_9 : decode cL_law 9 = .ok (.aload_n 0, 1) := by decide +kernel
theorem dL_law_10 : decode cL_law 10 = .ok (.bipush 14, 2) := by decide +kernel
theorem dL_law_12 : decode cL_law 12 = .ok (.invokestatic 63, 3) := by decide +kernel
theorem dL_law_15 : decode cL_law 15 = .ok (.aload_n 1, 1) := by decide +kernel
theorem dL_law_16 : decode cL_law 16 = .ok (.invokevirtual 66, 3) := by decide +kernel
theorem dL_law_19 : decode cL_law 19 = .ok (.istore_n 2, 1) := by decide +kernel
theorem dL_law_20 : decode cL_law 20 = .ok (.aload_n 1, 1) := by decide +kernel
theorem dL_law_21 : decode cL_law 21 = .ok (.iconst 1, 1) := by decide +kernel
theorem dL_law_22 : decode cL_law 22 = .ok (.invokevirtual 69, 3) := by decide +kernel
theorem dL_law_25 : decode cL_law 25 = .ok (.istore_n 3, 1) := by decide +kernel
theorem dL_law_26 : decode cL_law 26 = .ok (.iconst 0, 1) := by decide +kernel
theorem dL_law_27 : decode cL_law 27 = .ok (.istore 4, 2) := by decide +kernel
theorem dL_law_29 : decode cL_law 29 = .ok (.iload 4, 2) := by decide +kernel
theorem dL_law_31 : decode cL_law 31 = .ok (.bipush 8, 2) := by decide +kernel
theorem dL_law_33 : decode cL_law 33 = .ok (.if_icmp .ge 153, 3) := by decide +kernel
theorem dL_law_36 : decode cL_law 36 = .ok (.iconst 0, 1) := by decide +kernel
theorem dL_law_37 : decode cL_law 37 = .ok (.istore 5, 2) := by decide +kernel
theorem dL_law_39 : decode cL_law 39 = .ok (.iload 5, 2) := by decide +kernel
theorem dL_law_41 : decode cL_law 41 = .ok (.iconst 4, 1) := by decide +kernel
theorem dL_law_42 : decode cL_law 42 = .ok (.if_icmp .ge 34, 3) := by decide +kernel
theorem dL_law_45 : decode cL_law 45 = .ok (.aload_n 1, 1) := by decide +kernel
theorem dL_law_46 : decode cL_law 46 = .ok (.iload 5, 2) := by decide +kernel
theorem dL_law_48 : decode cL_law 48 = .ok (.invokevirtual 34, 3) := by decide +kernel
theorem dL_law_51 : decode cL_law 51 = .ok (.ifCond .lt 17, 3) := by decide +kernel
theorem dL_law_54 : decode cL_law 54 = .ok (.aload_n 1, 1) := by decide +kernel
theorem dL_law_55 : decode cL_law 55 = .ok (.iconst 0, 1) := by decide +kernel
theorem dL_law_56 : decode cL_law 56 = .ok (.iconst 1, 1) := by decide +kernel
theorem dL_law_57 : decode cL_law 57 = .ok (.iload 4, 2) := by decide +kernel
theorem dL_law_59 : decode cL_law 59 = .ok (.ishl, 1) := by decide +kernel
theorem dL_law_60 : decode cL_law 60 = .ok (.iconst 0, 1) := by decide +kernel
theorem dL_law_61 : decode cL_law 61 = .ok (.invokevirtual 72, 3) := by decide +kernel
theorem dL_law_64 : decode cL_law 64 = .ok (.iconst 2, 1) := by decide +kernel
theorem dL_law_65 : decode cL_law 65 = .ok (.if_icmp .eq 5, 3) := by decide +kernel
theorem dL_law_68 : decode cL_law 68 = .ok (.iconst 0, 1) := by decide +kernel
theorem dL_law_69 : decode cL_law 69 = .ok (.ireturn, 1) := by decide +kernel
theorem dL_law_70 : decode cL_law 70 = .ok (.iinc 5 1, 3) := by decide +kernel
theorem dL_law_73 : decode cL_law 73 = .ok (.goto (-34), 3) := by decide +kernel
theorem dL_law_76 : decode cL_law 76 = .ok (.aload_n 1, 1) := by decide +kernel
theorem dL_law_77 : decode cL_law 77 = .ok (.iload 4, 2) := by decide +kernel
theorem dL_law_79 : decode cL_law 79 = .ok (.iconst 1, 1) := by decide +kernel
theorem dL_law_80 : decode cL_law 80 = .ok (.invokevirtual 75, 3) := by decide +kernel
theorem dL_law_83 : decode cL_law 83 = .ok (.istore 5, 2) := by decide +kernel
theorem dL_law_85 : decode cL_law 85 = .ok (.aload_n 1, 1) := by decide +kernel
theorem dL_law_86 : decode cL_law 86 = .ok (.iload 4, 2) := by decide +kernel
theorem dL_law_88 : decode cL_law 88 = .ok (.iconst 0, 1) := by decide +kernel
theorem dL_law_89 : decode cL_law 89 = .ok (.invokevirtual 75, 3) := by decide +kernel
theorem dL_law_92 : decode cL_law 92 = .ok (.istore 6, 2) := by decide +kernel
theorem dL_law_94 : decode cL_law 94 = .ok (.aload_n 1, 1) := by decide +kernel
theorem dL_law_95 : decode cL_law 95 = .ok (.iconst 0, 1) := by decide +kernel
theorem dL_law_96 : decode cL_law 96 = .ok (.iconst 1, 1) := by decide +kernel
theorem dL_law_97 : decode cL_law 97 = .ok (.iload 4, 2) := by decide +kernel
theorem dL_law_99 : decode cL_law 99 = .ok (.ishl, 1) := by decide +kernel
theorem dL_law_100 : decode cL_law 100 = .ok (.iconst 0, 1) := by decide +kernel
theorem dL_law_101 : decode cL_law 101 = .ok (.invokevirtual 37, 3) := by decide +kernel
theorem dL_law_104 : decode cL_law 104 = .ok (.ldc 78, 2) := by decide +kernel
theorem dL_law_106 : decode cL_law 106 = .ok (.if_icmp .ne 72, 3) := by decide +kernel
theorem dL_law_109 : decode cL_law 109 = .ok (.aload_n 1, 1) := by decide +kernel
theorem dL_law_110 : decode cL_law 110 = .ok (.invokevirtual 79, 3) := by decide +kernel
theorem dL_law_113 : decode cL_law 113 = .ok (.iload_n 2, 1) := by decide +kernel
theorem dL_law_114 : decode cL_law 114 = .ok (.if_icmp .ne 64, 3) := by decide +kernel
theorem dL_law_117 : decode cL_law 117 = .ok (.aload_n 1, 1) := by decide +kernel
theorem dL_law_118 : decode cL_law 118 = .ok (.iload 5, 2) := by decide +kernel
theorem dL_law_120 : decode cL_law 120 = .ok (.iconst 0, 1) := by decide +kernel
theorem dL_law_121 : decode cL_law 121 = .ok (.invokevirtual 48, 3) := by decide +kernel
theorem dL_law_124 : decode cL_law 124 = .ok (.iload 6, 2) := by decide +kernel
theorem dL_law_126 : decode cL_law 126 = .ok (.if_icmp .ne 52, 3) := by decide +kernel
theorem dL_law_129 : decode cL_law 129 = .ok (.aload_n 1, 1) := by decide +kernel
theorem dL_law_130 : decode cL_law 130 = .ok (.iload 5, 2) := by decide +kernel
theorem dL_law_132 : decode cL_law 132 = .ok (.iconst 3, 1) := by decide +kernel
theorem dL_law_133 : decode cL_law 133 = .ok (.invokevirtual 48, 3) := by decide +kernel
theorem dL_law_136 : decode cL_law 136 = .ok (.iload 6, 2) := by decide +kernel
theorem dL_law_138 : decode cL_law 138 = .ok (.if_icmp .gt 40, 3) := by decide +kernel
theorem dL_law_141 : decode cL_law 141 = .ok (.aload_n 1, 1) := by decide +kernel
theorem dL_law_142 : decode cL_law 142 = .ok (.iload 5, 2) := by decide +kernel
theorem dL_law_144 : decode cL_law 144 = .ok (.iconst 4, 1) := by decide +kernel
theorem dL_law_145 : decode cL_law 145 = .ok (.invokevirtual 48, 3) := by decide +kernel
theorem dL_law_148 : decode cL_law 148 = .ok (.iload 6, 2) := by decide +kernel
theorem dL_law_150 : decode cL_law 150 = .ok (.if_icmp .lt 28, 3) := by decide +kernel
theorem dL_law_153 : decode cL_law 153 = .ok (.aload_n 1, 1) := by decide +kernel
theorem dL_law_154 : decode cL_law 154 = .ok (.iload 5, 2) := by decide +kernel
theorem dL_law_156 : decode cL_law 156 = .ok (.iconst 1, 1) := by decide +kernel
theorem dL_law_157 : decode cL_law 157 = .ok (.invokevirtual 82, 3) := by decide +kernel
theorem dL_law_160 : decode cL_law 160 = .ok (.iconst 1, 1) := by decide +kernel
theorem dL_law_161 : decode cL_law 161 = .ok (.if_icmp .lt 17, 3) := by decide +kernel
theorem dL_law_164 : decode cL_law 164 = .ok (.aload_n 1, 1) := by decide +kernel
theorem dL_law_165 : decode cL_law 165 = .ok (.iload 5, 2) := by decide +kernel
theorem dL_law_167 : decode cL_law 167 = .ok (.iconst 0, 1) := by decide +kernel
theorem dL_law_168 : decode cL_law 168 = .ok (.invokevirtual 82, 3) := by decide +kernel
theorem dL_law_171 : decode cL_law 171 = .ok (.iconst 1, 1) := by decide +kernel
theorem dL_law_172 : decode cL_law 172 = .ok (.iload 4, 2) := by decide +kernel
theorem dL_law_174 : decode cL_law 174 = .ok (.ishl, 1) := by decide +kernel
theorem dL_law_175 : decode cL_law 175 = .ok (.if_icmp .le 5, 3) := by decide +kernel
theorem dL_law_178 : decode cL_law 178 = .ok (.iconst 0, 1) := by decide +kernel
theorem dL_law_179 : decode cL_law 179 = .ok (.ireturn, 1) := by decide +kernel
theorem dL_law_180 : decode cL_law 180 = .ok (.iinc 4 1, 3) := by decide +kernel
theorem dL_law_183 : decode cL_law 183 = .ok (.goto (-154), 3) := by decide +kernel
theorem dL_law_186 : decode cL_law 186 = .ok (.aload_n 1, 1) := by decide +kernel
theorem dL_law_187 : decode cL_law 187 = .ok (.invokevirtual 85, 3) := by decide +kernel
theorem dL_law_190 : decode cL_law 190 = .ok (.istore 4, 2) := by decide +kernel
theorem dL_law_192 : decode cL_law 192 = .ok (.iload 4, 2) := by decide +kernel
theorem dL_law_194 : decode cL_law 194 = .ok (.invokestatic 88, 3) := by decide +kernel
theorem dL_law_197 : decode cL_law 197 = .ok (.iload_n 2, 1) := by decide +kernel
theorem dL_law_198 : decode cL_law 198 = .ok (.if_icmp .ne 31, 3) := by decide +kernel
theorem dL_law_201 : decode cL_law 201 = .ok (.iload_n 2, 1) := by decide +kernel
theorem dL_law_202 : decode cL_law 202 = .ok (.iload_n 3, 1) := by decide +kernel
theorem dL_law_203 : decode cL_law 203 = .ok (.if_icmp .ge 26, 3) := by decide +kernel
theorem dL_law_206 : decode cL_law 206 = .ok (.aload_n 1, 1) := by decide +kernel
theorem dL_law_207 : decode cL_law 207 = .ok (.iconst 1, 1) := by decide +kernel
theorem dL_law_208 : decode cL_law 208 = .ok (.invokevirtual 93, 3) := by decide +kernel
theorem dL_law_211 : decode cL_law 211 = .ok (.aload_n 1, 1) := by decide +kernel
theorem dL_law_212 : decode cL_law 212 = .ok (.iconst 2, 1) := by decide +kernel
theorem dL_law_213 : decode cL_law 213 = .ok (.invokevirtual 93, 3) := by decide +kernel
theorem dL_law_216 : decode cL_law 216 = .ok (.iadd, 1) := by decide +kernel
theorem dL_law_217 : decode cL_law 217 = .ok (.aload_n 1, 1) := by decide +kernel
theorem dL_law_218 : decode cL_law 218 = .ok (.iconst 3, 1) := by decide +kernel
theorem dL_law_219 : decode cL_law 219 = .ok (.invokevirtual 93, 3) := by decide +kernel
theorem dL_law_222 : decode cL_law 222 = .ok (.iadd, 1) := by decide +kernel
theorem dL_law_223 : decode cL_law 223 = .ok (.sipush 255, 3) := by decide +kernel
theorem dL_law_226 : decode cL_law 226 = .ok (.if_icmp .eq 5, 3) := by decide +kernel
theorem dL_law_229 : decode cL_law 229 = .ok (.iconst 0, 1) := by decide +kernel
theorem dL_law_230 : decode cL_law 230 = .ok (.ireturn, 1) := by decide +kernel
theorem dL_law_231 : decode cL_law 231 = .ok (.iconst 0, 1) := by decide +kernel
theorem dL_law_232 : decode cL_law 232 = .ok (.istore 5, 2) := by decide +kernel
theorem dL_law_234 : decode cL_law 234 = .ok (.iload 5, 2) := by decide +kernel
theorem dL_law_236 : decode cL_law 236 = .ok (.iload_n 2, 1) := by decide +kernel
theorem dL_law_237 : decode cL_law 237 = .ok (.if_icmp .ge 145, 3) := by decide +kernel
theorem dL_law_240 : decode cL_law 240 = .ok (.iconst 0, 1) := by decide +kernel
theorem dL_law_241 : decode cL_law 241 = .ok (.istore 6, 2) := by decide +kernel
theorem dL_law_243 : decode cL_law 243 = .ok (.iconst 1, 1) := by decide +kernel
theorem dL_law_244 : decode cL_law 244 = .ok (.istore 7, 2) := by decide +kernel
theorem dL_law_246 : decode cL_law 246 = .ok (.iconst 0, 1) := by decide +kernel
theorem dL_law_247 : decode cL_law 247 = .ok (.istore 8, 2) := by decide +kernel
theorem dL_law_249 : decode cL_law 249 = .ok (.iload 8, 2) := by decide +kernel
theorem dL_law_251 : decode cL_law 251 = .ok (.iload_n 3, 1) := by decide +kernel
theorem dL_law_252 : decode cL_law 252 = .ok (.if_icmp .ge 117, 3) := by decide +kernel
theorem dL_law_255 : decode cL_law 255 = .ok (.aload_n 1, 1) := by decide +kernel
theorem dL_law_256 : decode cL_law 256 = .ok (.iload 5, 2) := by decide +kernel
theorem dL_law_258 : decode cL_law 258 = .ok (.iload 8, 2) := by decide +kernel
theorem dL_law_260 : decode cL_law 260 = .ok (.iconst 0, 1) := by decide +kernel
theorem dL_law_261 : decode cL_law 261 = .ok (.invokevirtual 96, 3) := by decide +kernel
theorem dL_law_264 : decode cL_law 264 = .ok (.lstore 9, 2) := by decide +kernel
theorem dL_law_266 : decode cL_law 266 = .ok (.lload 9, 2) := by decide +kernel
theorem dL_law_268 : decode cL_law 268 = .ok (.lconst 0, 1) := by decide +kernel
theorem dL_law_269 : decode cL_law 269 = .ok (.lcmp, 1) := by decide +kernel
theorem dL_law_270 : decode cL_law 270 = .ok (.ifCond .ne 6, 3) := by decide +kernel
theorem dL_law_273 : decode cL_law 273 = .ok (.goto 90, 3) := by decide +kernel
theorem dL_law_276 : decode cL_law 276 = .ok (.iload 7, 2) := by decide +kernel
theorem dL_law_278 : decode cL_law 278 = .ok (.ifCond .eq 35, 3) := by decide +kernel
theorem dL_law_281 : decode cL_law 281 = .ok (.iload 4, 2) := by decide +kernel
theorem dL_law_283 : decode cL_law 283 = .ok (.iload 8, 2) := by decide +kernel
theorem dL_law_285 : decode cL_law 285 = .ok (.ishr, 1) := by decide +kernel
theorem dL_law_286 : decode cL_law 286 = .ok (.iconst 1, 1) := by decide +kernel
theorem dL_law_287 : decode cL_law 287 = .ok (.iand, 1) := by decide +kernel
theorem dL_law_288 : decode cL_law 288 = .ok (.iconst 1, 1) := by decide +kernel
theorem dL_law_289 : decode cL_law 289 = .ok (.if_icmp .ne 54, 3) := by decide +kernel
theorem dL_law_292 : decode cL_law 292 = .ok (.lload 9, 2) := by decide +kernel
theorem dL_law_294 : decode cL_law 294 = .ok (.lconst 1, 1) := by decide +kernel
theorem dL_law_295 : decode cL_law 295 = .ok (.lcmp, 1) := by decide +kernel
theorem dL_law_296 : decode cL_law 296 = .ok (.ifCond .ne 47, 3) := by decide +kernel
theorem dL_law_299 : decode cL_law 299 = .ok (.aload_n 1, 1) := by decide +kernel
theorem dL_law_300 : decode cL_law 300 = .ok (.iload 5, 2) := by decide +kernel
theorem dL_law_302 : decode cL_law 302 = .ok (.iload 8, 2) := by decide +kernel
theorem dL_law_304 : decode cL_law 304 = .ok (.iconst 1, 1) := by decide +kernel
theorem dL_law_305 : decode cL_law 305 = .ok (.invokevirtual 96, 3) := by decide +kernel
theorem dL_law_308 : decode cL_law 308 = .ok (.lconst 1, 1) := by decide +kernel
theorem dL_law_309 : decode cL_law 309 = .ok (.lcmp, 1) := by decide +kernel
theorem dL_law_310 : decode cL_law 310 = .ok (.ifCond .ne 33, 3) := by decide +kernel
theorem dL_law_313 : decode cL_law 313 = .ok (.iload 7, 2) := by decide +kernel
theorem dL_law_315 : decode cL_law 315 = .ok (.ifCond .ne 14, 3) := by decide +kernel
theorem dL_law_318 : decode cL_law 318 = .ok (.iload 4, 2) := by decide +kernel
theorem dL_law_320 : decode cL_law 320 = .ok (.iload 8, 2) := by decide +kernel
theorem dL_law_322 : decode cL_law 322 = .ok (.ishr, 1) := by decide +kernel
theorem dL_law_323 : decode cL_law 323 = .ok (.iconst 1, 1) := by decide +kernel
theorem dL_law_324 : decode cL_law 324 = .ok (.iand, 1) := by decide +kernel
theorem dL_law_325 : decode cL_law 325 = .ok (.iconst 1, 1) := by decide +kernel
theorem dL_law_326 : decode cL_law 326 = .ok (.if_icmp .eq 17, 3) := by decide +kernel
theorem dL_law_329 : decode cL_law 329 = .ok (.aload_n 1, 1) := by decide +kernel
theorem dL_law_330 : decode cL_law 330 = .ok (.iload 5, 2) := by decide +kernel
theorem dL_law_332 : decode cL_law 332 = .ok (.iload 8, 2) := by decide +kernel
theorem dL_law_334 : decode cL_law 334 = .ok (.iconst 1, 1) := by decide +kernel
theorem dL_law_335 : decode cL_law 335 = .ok (.invokevirtual 96, 3) := by decide +kernel
theorem dL_law_338 : decode cL_law 338 = .ok (.lconst 1, 1) := by decide +kernel
theorem dL_law_339 : decode cL_law 339 = .ok (.lcmp, 1) := by decide +kernel
theorem dL_law_340 : decode cL_law 340 = .ok (.ifCond .ge 5, 3) := by decide +kernel
theorem dL_law_343 : decode cL_law 343 = .ok (.iconst 0, 1) := by decide +kernel
theorem dL_law_344 : decode cL_law 344 = .ok (.ireturn, 1) := by decide +kernel
theorem dL_law_345 : decode cL_law 345 = .ok (.iload 6, 2) := by decide +kernel
theorem dL_law_347 : decode cL_law 347 = .ok (.iload 7, 2) := by decide +kernel
theorem dL_law_349 : decode cL_law 349 = .ok (.ifCond .eq 7, 3) := by decide +kernel
theorem dL_law_352 : decode cL_law 352 = .ok (.iconst 0, 1) := by decide +kernel
theorem dL_law_353 : decode cL_law 353 = .ok (.goto 4, 3) := by decide +kernel
theorem dL_law_356 : decode cL_law 356 = .ok (.iconst 1, 1) := by decide +kernel
theorem dL_law_357 : decode cL_law 357 = .ok (.iadd, 1) := by decide +kernel
theorem dL_law_358 : decode cL_law 358 = .ok (.istore 6, 2) := by decide +kernel
theorem dL_law_360 : decode cL_law 360 = .ok (.iconst 0, 1) := by decide +kernel
theorem dL_law_361 : decode cL_law 361 = .ok (.istore 7, 2) := by decide +kernel
theorem dL_law_363 : decode cL_law 363 = .ok (.iinc 8 1, 3) := by decide +kernel
theorem dL_law_366 : decode cL_law 366 = .ok (.goto (-117), 3) := by decide +kernel
theorem dL_law_369 : decode cL_law 369 = .ok (.iload 6, 2) := by decide +kernel
theorem dL_law_371 : decode cL_law 371 = .ok (.ifCond .ne 5, 3) := by decide +kernel
theorem dL_law_374 : decode cL_law 374 = .ok (.iconst 0, 1) := by decide +kernel
theorem dL_law_375 : decode cL_law 375 = .ok (.ireturn, 1) := by decide +kernel
theorem dL_law_376 : decode cL_law 376 = .ok (.iinc 5 1, 3) := by decide +kernel
theorem dL_law_379 : decode cL_law 379 = .ok (.goto (-145), 3) := by decide +kernel
theorem dL_law_382 : decode cL_law 382 = .ok (.iconst 0, 1) := by decide +kernel
theorem dL_law_383 : decode cL_law 383 = .ok (.istore 5, 2) := by decide +kernel
theorem dL_law_385 : decode cL_law 385 = .ok (.iload 5, 2) := by decide +kernel
theorem dL_law_387 : decode cL_law 387 = .ok (.bipush 6, 2) := by decide +kernel
theorem dL_law_389 : decode cL_law 389 = .ok (.if_icmp .ge 408, 3) := by decide +kernel
theorem dL_law_392 : decode cL_law 392 = .ok (.aload_n 0, 1) := by decide +kernel
theorem dL_law_393 : decode cL_law 393 = .ok (.bipush 26, 2) := by decide +kernel
theorem dL_law_395 : decode cL_law 395 = .ok (.iload 5, 2) := by decide +kernel
theorem dL_law_397 : decode cL_law 397 = .ok (.iadd, 1) := by decide +kernel
theorem dL_law_398 : decode cL_law 398 = .ok (.invokestatic 18, 3) := by decide +kernel
theorem dL_law_401 : decode cL_law 401 = .ok (.istore 6, 2) := by decide +kernel
theorem dL_law_403 : decode cL_law 403 = .ok (.iconst 1, 1) := by decide +kernel
theorem dL_law_404 : decode cL_law 404 = .ok (.iload 6, 2) := by decide +kernel
theorem dL_law_406 : decode cL_law 406 = .ok (.sipush 255, 3) := by decide +kernel
theorem dL_law_409 : decode cL_law 409 = .ok (.invokestatic 24, 3) := by decide +kernel
theorem dL_law_412 : decode cL_law 412 = .ok (.iadd, 1) := by decide +kernel
theorem dL_law_413 : decode cL_law 413 = .ok (.istore 7, 2) := by decide +kernel
theorem dL_law_415 : decode cL_law 415 = .ok (.iload 6, 2) := by decide +kernel
theorem dL_law_417 : decode cL_law 417 = .ok (.bipush 8, 2) := by decide +kernel
theorem dL_law_419 : decode cL_law 419 = .ok (.ishr, 1) := by decide +kernel
theorem dL_law_420 : decode cL_law 420 = .ok (.iconst 3, 1) := by decide +kernel
theorem dL_law_421 : decode cL_law 421 = .ok (.invokestatic 24, 3) := by decide +kernel
theorem dL_law_424 : decode cL_law 424 = .ok (.istore 8, 2) := by decide +kernel
theorem dL_law_426 : decode cL_law 426 = .ok (.iload 8, 2) := by decide +kernel
theorem dL_law_428 : decode cL_law 428 = .ok (.iconst 1, 1) := by decide +kernel
theorem dL_law_429 : decode cL_law 429 = .ok (.if_icmp .ne 20, 3) := by decide +kernel
theorem dL_law_432 : decode cL_law 432 = .ok (.iload 6, 2) := by decide +kernel
theorem dL_law_434 : decode cL_law 434 = .ok (.bipush 10, 2) := by decide +kernel
theorem dL_law_436 : decode cL_law 436 = .ok (.ishr, 1) := by decide +kernel
theorem dL_law_437 : decode cL_law 437 = .ok (.sipush 255, 3) := by decide +kernel
theorem dL_law_440 : decode cL_law 440 = .ok (.iand, 1) := by decide +kernel
theorem dL_law_441 : decode cL_law 441 = .ok (.iload 7, 2) := by decide +kernel
theorem dL_law_443 : decode cL_law 443 = .ok (.iconst (-1), 1) := by decide +kernel
theorem dL_law_444 : decode cL_law 444 = .ok (.ixor, 1) := by decide +kernel
theorem dL_law_445 : decode cL_law 445 = .ok (.iand, 1) := by decide +kernel
theorem dL_law_446 : decode cL_law 446 = .ok (.goto 14, 3) := by decide +kernel
theorem dL_law_449 : decode cL_law 449 = .ok (.iconst 1, 1) := by decide +kernel
theorem dL_law_450 : decode cL_law 450 = .ok (.iload 6, 2) := by decide +kernel
theorem dL_law_452 : decode cL_law 452 = .ok (.bipush 10, 2) := by decide +kernel
theorem dL_law_454 : decode cL_law 454 = .ok (.ishr, 1) := by decide +kernel
theorem dL_law_455 : decode cL_law 455 = .ok (.iconst 3, 1) := by decide +kernel
theorem dL_law_456 : decode cL_law 456 = .ok (.invokestatic 24, 3) := by decide +kernel
theorem dL_law_459 : decode cL_law 459 = .ok (.iadd, 1) := by decide +kernel
theorem dL_law_460 : decode cL_law 460 = .ok (.istore 9, 2) := by decide +kernel
theorem dL_law_462 : decode cL_law 462 = .ok (.iload 8, 2) := by decide +kernel
theorem dL_law_464 : decode cL_law 464 = .ok (.iconst 1, 1) := by decide +kernel
theorem dL_law_465 : decode cL_law 465 = .ok (.if_icmp .ne 11, 3) := by decide +kernel
theorem dL_law_468 : decode cL_law 468 = .ok (.iload 9, 2) := by decide +kernel
theorem dL_law_470 : decode cL_law 470 = .ok (.ifCond .ne 6, 3) := by decide +kernel
theorem dL_law_473 : decode cL_law 473 = .ok (.goto 318, 3) := by decide +kernel
theorem dL_law_476 : decode cL_law 476 = .ok (.aload_n 1, 1) := by decide +kernel
theorem dL_law_477 : decode cL_law 477 = .ok (.iload 8, 2) := by decide +kernel
theorem dL_law_479 : decode cL_law 479 = .ok (.iload 7, 2) := by decide +kernel
theorem dL_law_481 : decode cL_law 481 = .ok (.iload 9, 2) := by decide +kernel
theorem dL_law_483 : decode cL_law 483 = .ok (.invokevirtual 72, 3) := by decide +kernel
theorem dL_law_486 : decode cL_law 486 = .ok (.istore 10, 2) := by decide +kernel
theorem dL_law_488 : decode cL_law 488 = .ok (.aload_n 1, 1) := by decide +kernel
theorem dL_law_489 : decode cL_law 489 = .ok (.iconst 0, 1) := by decide +kernel
theorem dL_law_490 : decode cL_law 490 = .ok (.invokevirtual 69, 3) := by decide +kernel
theorem dL_law_493 : decode cL_law 493 = .ok (.istore 11, 2) := by decide +kernel
theorem dL_law_495 : decode cL_law 495 = .ok (.iconst 0, 1) := by decide +kernel
theorem dL_law_496 : decode cL_law 496 = .ok (.istore 12, 2) := by decide +kernel
theorem dL_law_498 : decode cL_law 498 = .ok (.iconst 0, 1) := by decide +kernel
theorem dL_law_499 : decode cL_law 499 = .ok (.istore 13, 2) := by decide +kernel
theorem dL_law_501 : decode cL_law 501 = .ok (.iload 13, 2) := by decide +kernel
theorem dL_law_503 : decode cL_law 503 = .ok (.bipush 8, 2) := by decide +kernel
theorem dL_law_505 : decode cL_law 505 = .ok (.if_icmp .ge 70, 3) := by decide +kernel
theorem dL_law_508 : decode cL_law 508 = .ok (.iload 12, 2) := by decide +kernel
theorem dL_law_510 : decode cL_law 510 = .ok (.aload_n 1, 1) := by decide +kernel
theorem dL_law_511 : decode cL_law 511 = .ok (.iload 13, 2) := by decide +kernel
theorem dL_law_513 : decode cL_law 513 = .ok (.iconst 0, 1) := by decide +kernel
theorem dL_law_514 : decode cL_law 514 = .ok (.invokevirtual 75, 3) := by decide +kernel
theorem dL_law_517 : decode cL_law 517 = .ok (.iload 8, 2) := by decide +kernel
theorem dL_law_519 : decode cL_law 519 = .ok (.iconst 1, 1) := by decide +kernel
theorem dL_law_520 : decode cL_law 520 = .ok (.if_icmp .ne 21, 3) := by decide +kernel
theorem dL_law_523 : decode cL_law 523 = .ok (.iload 7, 2) := by decide +kernel
theorem dL_law_525 : decode cL_law 525 = .ok (.iload 13, 2) := by decide +kernel
theorem dL_law_527 : decode cL_law 527 = .ok (.ishr, 1) := by decide +kernel
theorem dL_law_528 : decode cL_law 528 = .ok (.iconst 1, 1) := by decide +kernel
theorem dL_law_529 : decode cL_law 529 = .ok (.iand, 1) := by decide +kernel
theorem dL_law_530 : decode cL_law 530 = .ok (.iload 9, 2) := by decide +kernel
theorem dL_law_532 : decode cL_law 532 = .ok (.iload 13, 2) := by decide +kernel
theorem dL_law_534 : decode cL_law 534 = .ok (.ishr, 1) := by decide +kernel
theorem dL_law_535 : decode cL_law 535 = .ok (.iconst 1, 1) := by decide +kernel
theorem dL_law_536 : decode cL_law 536 = .ok (.iand, 1) := by decide +kernel
theorem dL_law_537 : decode cL_law 537 = .ok (.isub, 1) := by decide +kernel
theorem dL_law_538 : decode cL_law 538 = .ok (.goto 27, 3) := by decide +kernel
theorem dL_law_541 : decode cL_law 541 = .ok (.iload 7, 2) := by decide +kernel
theorem dL_law_543 : decode cL_law 543 = .ok (.iload 13, 2) := by decide +kernel
theorem dL_law_545 : decode cL_law 545 = .ok (.ishr, 1) := by decide +kernel
theorem dL_law_546 : decode cL_law 546 = .ok (.iconst 1, 1) := by decide +kernel
theorem dL_law_547 : decode cL_law 547 = .ok (.iand, 1) := by decide +kernel
theorem dL_law_548 : decode cL_law 548 = .ok (.iload 8, 2) := by decide +kernel
theorem dL_law_550 : decode cL_law 550 = .ok (.ifCond .ne 7, 3) := by decide +kernel
theorem dL_law_553 : decode cL_law 553 = .ok (.iconst 1, 1) := by decide +kernel
theorem dL_law_554 : decode cL_law 554 = .ok (.goto 10, 3) := by decide +kernel
theorem dL_law_557 : decode cL_law 557 = .ok (.iload 13, 2) := by decide +kernel
theorem dL_law_559 : decode cL_law 559 = .ok (.iload 9, 2) := by decide +kernel
theorem dL_law_561 : decode cL_law 561 = .ok (.irem, 1) := by decide +kernel
theorem dL_law_562 : decode cL_law 562 = .ok (.iconst 1, 1) := by decide +kernel
theorem dL_law_563 : decode cL_law 563 = .ok (.iadd, 1) := by decide +kernel
theorem dL_law_564 : decode cL_law 564 = .ok (.imul, 1) := by decide +kernel
theorem dL_law_565 : decode cL_law 565 = .ok (.imul, 1) := by decide +kernel
theorem dL_law_566 : decode cL_law 566 = .ok (.iadd, 1) := by decide +kernel
theorem dL_law_567 : decode cL_law 567 = .ok (.istore 12, 2) := by decide +kernel
theorem dL_law_569 : decode cL_law 569 = .ok (.iinc 13 1, 3) := by decide +kernel
theorem dL_law_572 : decode cL_law 572 = .ok (.goto (-71), 3) := by decide +kernel
theorem dL_law_575 : decode cL_law 575 = .ok (.aload_n 1, 1) := by decide +kernel
theorem dL_law_576 : decode cL_law 576 = .ok (.iload 8, 2) := by decide +kernel
theorem dL_law_578 : decode cL_law 578 = .ok (.iload 7, 2) := by decide +kernel
theorem dL_law_580 : decode cL_law 580 = .ok (.iload 9, 2) := by decide +kernel
theorem dL_law_582 : decode cL_law 582 = .ok (.invokevirtual 37, 3) := by decide +kernel
theorem dL_law_585 : decode cL_law 585 = .ok (.istore 13, 2) := by decide +kernel
theorem dL_law_587 : decode cL_law 587 = .ok (.iload 13, 2) := by decide +kernel
theorem dL_law_589 : decode cL_law 589 = .ok (.iload 10, 2) := by decide +kernel
theorem dL_law_591 : decode cL_law 591 = .ok (.iconst 2, 1) := by decide +kernel
theorem dL_law_592 : decode cL_law 592 = .ok (.if_icmp .ne 8, 3) := by decide +kernel
theorem dL_law_595 : decode cL_law 595 = .ok (.ldc 78, 2) := by decide +kernel
theorem dL_law_597 : decode cL_law 597 = .ok (.goto 5, 3) := by decide +kernel
theorem dL_law_600 : decode cL_law 600 = .ok (.iload 12, 2) := by decide +kernel
theorem dL_law_602 : decode cL_law 602 = .ok (.if_icmp .ne 78, 3) := by decide +kernel
theorem dL_law_605 : decode cL_law 605 = .ok (.aload_n 1, 1) := by decide +kernel
theorem dL_law_606 : decode cL_law 606 = .ok (.iconst 0, 1) := by decide +kernel
theorem dL_law_607 : decode cL_law 607 = .ok (.invokevirtual 69, 3) := by decide +kernel
theorem dL_law_610 : decode cL_law 610 = .ok (.iload 11, 2) := by decide +kernel
theorem dL_law_612 : decode cL_law 612 = .ok (.iload 10, 2) := by decide +kernel
theorem dL_law_614 : decode cL_law 614 = .ok (.iconst 1, 1) := by decide +kernel
theorem dL_law_615 : decode cL_law 615 = .ok (.if_icmp .ne 7, 3) := by decide +kernel
theorem dL_law_618 : decode cL_law 618 = .ok (.iconst 1, 1) := by decide +kernel
theorem dL_law_619 : decode cL_law 619 = .ok (.goto 4, 3) := by decide +kernel
theorem dL_law_622 : decode cL_law 622 = .ok (.iconst 0, 1) := by decide +kernel
theorem dL_law_623 : decode cL_law 623 = .ok (.iadd, 1) := by decide +kernel
theorem dL_law_624 : decode cL_law 624 = .ok (.if_icmp .ne 56, 3) := by decide +kernel
theorem dL_law_627 : decode cL_law 627 = .ok (.iload 10, 2) := by decide +kernel
theorem dL_law_629 : decode cL_law 629 = .ok (.iconst 2, 1) := by decide +kernel
theorem dL_law_630 : decode cL_law 630 = .ok (.if_icmp .eq 31, 3) := by decide +kernel
theorem dL_law_633 : decode cL_law 633 = .ok (.aload_n 1, 1) := by decide +kernel
theorem dL_law_634 : decode cL_law 634 = .ok (.iload 8, 2) := by decide +kernel
theorem dL_law_636 : decode cL_law 636 = .ok (.iload 7, 2) := by decide +kernel
theorem dL_law_638 : decode cL_law 638 = .ok (.iload 9, 2) := by decide +kernel
theorem dL_law_640 : decode cL_law 640 = .ok (.invokevirtual 72, 3) := by decide +kernel
theorem dL_law_643 : decode cL_law 643 = .ok (.ifCond .ne 37, 3) := by decide +kernel
theorem dL_law_646 : decode cL_law 646 = .ok (.aload_n 1, 1) := by decide +kernel
theorem dL_law_647 : decode cL_law 647 = .ok (.iload 8, 2) := by decide +kernel
theorem dL_law_649 : decode cL_law 649 = .ok (.iload 7, 2) := by decide +kernel
theorem dL_law_651 : decode cL_law 651 = .ok (.iload 9, 2) := by decide +kernel
theorem dL_law_653 : decode cL_law 653 = .ok (.invokevirtual 37, 3) := by decide +kernel
theorem dL_law_656 : decode cL_law 656 = .ok (.iload 12, 2) := by decide +kernel
theorem dL_law_658 : decode cL_law 658 = .ok (.if_icmp .ne 22, 3) := by decide +kernel
theorem dL_law_661 : decode cL_law 661 = .ok (.iload 10, 2) := by decide +kernel
theorem dL_law_663 : decode cL_law 663 = .ok (.iconst 1, 1) := by decide +kernel
theorem dL_law_664 : decode cL_law 664 = .ok (.if_icmp .ne 18, 3) := by decide +kernel
theorem dL_law_667 : decode cL_law 667 = .ok (.aload_n 1, 1) := by decide +kernel
theorem dL_law_668 : decode cL_law 668 = .ok (.iload 11, 2) := by decide +kernel
theorem dL_law_670 : decode cL_law 670 = .ok (.invokevirtual 100, 3) := by decide +kernel
theorem dL_law_673 : decode cL_law 673 = .ok (.iload 12, 2) := by decide +kernel
theorem dL_law_675 : decode cL_law 675 = .ok (.i2l, 1) := by decide +kernel
theorem dL_law_676 : decode cL_law 676 = .ok (.lcmp, 1) := by decide +kernel
theorem dL_law_677 : decode cL_law 677 = .ok (.ifCond .eq 5, 3) := by decide +kernel
theorem dL_law_680 : decode cL_law 680 = .ok (.iconst 0, 1) := by decide +kernel
theorem dL_law_681 : decode cL_law 681 = .ok (.ireturn, 1) := by decide +kernel
theorem dL_law_682 : decode cL_law 682 = .ok (.iload 7, 2) := by decide +kernel
theorem dL_law_684 : decode cL_law 684 = .ok (.sipush 255, 3) := by decide +kernel
theorem dL_law_687 : decode cL_law 687 = .ok (.iand, 1) := by decide +kernel
theorem dL_law_688 : decode cL_law 688 = .ok (.istore 14, 2) := by decide +kernel
theorem dL_law_690 : decode cL_law 690 = .ok (.iconst 0, 1) := by decide +kernel
theorem dL_law_691 : decode cL_law 691 = .ok (.istore 15, 2) := by decide +kernel
theorem dL_law_693 : decode cL_law 693 = .ok (.iload 15, 2) := by decide +kernel
theorem dL_law_695 : decode cL_law 695 = .ok (.bipush 8, 2) := by decide +kernel
theorem dL_law_697 : decode cL_law 697 = .ok (.if_icmp .ge 25, 3) := by decide +kernel
theorem dL_law_700 : decode cL_law 700 = .ok (.aload_n 1, 1) := by decide +kernel
theorem dL_law_701 : decode cL_law 701 = .ok (.iconst 0, 1) := by decide +kernel
theorem dL_law_702 : decode cL_law 702 = .ok (.iconst 1, 1) := by decide +kernel
theorem dL_law_703 : decode cL_law 703 = .ok (.iload 15, 2) := by decide +kernel
theorem dL_law_705 : decode cL_law 705 = .ok (.ishl, 1) := by decide +kernel
theorem dL_law_706 : decode cL_law 706 = .ok (.iconst 0, 1) := by decide +kernel
theorem dL_law_707 : decode cL_law 707 = .ok (.invokevirtual 72, 3) := by decide +kernel
theorem dL_law_710 : decode cL_law 710 = .ok (.iconst 2, 1) := by decide +kernel
theorem dL_law_711 : decode cL_law 711 = .ok (.if_icmp .eq 5, 3) := by decide +kernel
theorem dL_law_714 : decode cL_law 714 = .ok (.iconst 0, 1) := by decide +kernel
theorem dL_law_715 : decode cL_law 715 = .ok (.ireturn, 1) := by decide +kernel
theorem dL_law_716 : decode cL_law 716 = .ok (.iinc 15 1, 3) := by decide +kernel
theorem dL_law_719 : decode cL_law 719 = .ok (.goto (-26), 3) := by decide +kernel
theorem dL_law_722 : decode cL_law 722 = .ok (.iload 10, 2) := by decide +kernel
theorem dL_law_724 : decode cL_law 724 = .ok (.iconst 1, 1) := by decide +kernel
theorem dL_law_725 : decode cL_law 725 = .ok (.if_icmp .ne 36, 3) := by decide +kernel
theorem dL_law_728 : decode cL_law 728 = .ok (.iload 8, 2) := by decide +kernel
theorem dL_law_730 : decode cL_law 730 = .ok (.ifCond .ne 31, 3) := by decide +kernel
theorem dL_law_733 : decode cL_law 733 = .ok (.aload_n 1, 1) := by decide +kernel
theorem dL_law_734 : decode cL_law 734 = .ok (.iconst 2, 1) := by decide +kernel
theorem dL_law_735 : decode cL_law 735 = .ok (.invokevirtual 69, 3) := by decide +kernel
theorem dL_law_738 : decode cL_law 738 = .ok (.iconst 1, 1) := by decide +kernel
theorem dL_law_739 : decode cL_law 739 = .ok (.if_icmp .ne 22, 3) := by decide +kernel
theorem dL_law_742 : decode cL_law 742 = .ok (.iload 14, 2) := by decide +kernel
theorem dL_law_744 : decode cL_law 744 = .ok (.invokestatic 88, 3) := by decide +kernel
theorem dL_law_747 : decode cL_law 747 = .ok (.iconst 2, 1) := by decide +kernel
theorem dL_law_748 : decode cL_law 748 = .ok (.if_icmp .lt 41, 3) := by decide +kernel
theorem dL_law_751 : decode cL_law 751 = .ok (.iload 14, 2) := by decide +kernel
theorem dL_law_753 : decode cL_law 753 = .ok (.invokestatic 88, 3) := by decide +kernel
theorem dL_law_756 : decode cL_law 756 = .ok (.bipush 6, 2) := by decide +kernel
theorem dL_law_758 : decode cL_law 758 = .ok (.if_icmp .gt 31, 3) := by decide +kernel
theorem dL_law_761 : decode cL_law 761 = .ok (.iload 10, 2) := by decide +kernel
theorem dL_law_763 : decode cL_law 763 = .ok (.iconst 1, 1) := by decide +kernel
theorem dL_law_764 : decode cL_law 764 = .ok (.if_icmp .ne 27, 3) := by decide +kernel
theorem dL_law_767 : decode cL_law 767 = .ok (.aload_n 1, 1) := by decide +kernel
theorem dL_law_768 : decode cL_law 768 = .ok (.iconst 2, 1) := by decide +kernel
theorem dL_law_769 : decode cL_law 769 = .ok (.invokevirtual 69, 3) := by decide +kernel
theorem dL_law_772 : decode cL_law 772 = .ok (.iconst 3, 1) := by decide +kernel
theorem dL_law_773 : decode cL_law 773 = .ok (.if_icmp .ne 18, 3) := by decide +kernel
theorem dL_law_776 : decode cL_law 776 = .ok (.aload_n 1, 1) := by decide +kernel
theorem dL_law_777 : decode cL_law 777 = .ok (.iconst 0, 1) := by decide +kernel
theorem dL_law_778 : decode cL_law 778 = .ok (.invokevirtual 69, 3) := by decide +kernel
theorem dL_law_781 : decode cL_law 781 = .ok (.aload_n 1, 1) := by decide +kernel
theorem dL_law_782 : decode cL_law 782 = .ok (.iconst 3, 1) := by decide +kernel
theorem dL_law_783 : decode cL_law 783 = .ok (.invokevirtual 69, 3) := by decide +kernel
theorem dL_law_786 : decode cL_law 786 = .ok (.if_icmp .le 5, 3) := by decide +kernel
theorem dL_law_789 : decode cL_law 789 = .ok (.iconst 0, 1) := by decide +kernel
theorem dL_law_790 : decode cL_law 790 = .ok (.ireturn, 1) := by decide +kernel
theorem dL_law_791 : decode cL_law 791 = .ok (.iinc 5 1, 3) := by decide +kernel
theorem dL_law_794 : decode cL_law 794 = .ok (.goto (-409), 3) := by decide +kernel
theorem dL_law_797 : decode cL_law 797 = .ok (.aload_n 1, 1) := by decide +kernel
theorem dL_law_798 : decode cL_law 798 = .ok (.invokevirtual 79, 3) := by decide +kernel
theorem dL_law_801 : decode cL_law 801 = .ok (.iload_n 2, 1) := by decide +kernel
theorem dL_law_802 : decode cL_law 802 = .ok (.if_icmp .ne 34, 3) := by decide +kernel
theorem dL_law_805 : decode cL_law 805 = .ok (.aload_n 1, 1) := by decide +kernel
theorem dL_law_806 : decode cL_law 806 = .ok (.iconst 0, 1) := by decide +kernel
theorem dL_law_807 : decode cL_law 807 = .ok (.invokevirtual 69, 3) := by decide +kernel
theorem dL_law_810 : decode cL_law 810 = .ok (.iload_n 2, 1) := by decide +kernel
theorem dL_law_811 : decode cL_law 811 = .ok (.if_icmp .ne 25, 3) := by decide +kernel
theorem dL_law_814 : decode cL_law 814 = .ok (.aload_n 1, 1) := by decide +kernel
theorem dL_law_815 : decode cL_law 815 = .ok (.iconst 1, 1) := by decide +kernel
theorem dL_law_816 : decode cL_law 816 = .ok (.invokevirtual 69, 3) := by decide +kernel
theorem dL_law_819 : decode cL_law 819 = .ok (.iload_n 3, 1) := by decide +kernel
theorem dL_law_820 : decode cL_law 820 = .ok (.if_icmp .ne 16, 3) := by decide +kernel
theorem dL_law_823 : decode cL_law 823 = .ok (.aload_n 1, 1) := by decide +kernel
theorem dL_law_824 : decode cL_law 824 = .ok (.invokevirtual 85, 3) := by decide +kernel
theorem dL_law_827 : decode cL_law 827 = .ok (.iload 4, 2) := by decide +kernel
theorem dL_law_829 : decode cL_law 829 = .ok (.if_icmp .ne 7, 3) := by decide +kernel
theorem dL_law_832 : decode cL_law 832 = .ok (.iconst 1, 1) := by decide +kernel
theorem dL_law_833 : decode cL_law 833 = .ok (.goto 4, 3) := by decide +kernel
theorem dL_law_836 : decode cL_law 836 = .ok (.iconst 0, 1) := by decide +kernel
theorem dL_law_837 : decode cL_law 837 = .ok (.ireturn, 1) := by decide +kernel
end
section
-- the words that every contract carries
theorem zz_good {x : Cond} {big : List Cond} (hx : x ∈ zz_all) (hb : ∀ w ∈ zz_all, w ∈ big) : GoodIn big (x :: zz_all) := by
  intro w hw
  rcases List.mem_cons.mp hw with rfl | h
  · exact ⟨hb _ hx, good_of_word (List.mem_filter.mp hx).2⟩
  · exact ⟨hb _ h, good_of_word (List.mem_filter.mp h).2⟩
-- numbers of the classes, of the array classes of int, long, int[], long[]
abbrev zz_G : Type := va_G × ClassId × ClassId × ClassId × ClassId
def zz_tys (G : zz_G) : List (ClassId × FieldType) := [(G.2.1, .int), (G.2.2.1, .long), (G.2.2.2.1, .array .int), (G.2.2.2.2, .array .long)]
def zz_K (G : zz_G) (U : State) : Prop := va_K G.1 classes (zz_tys G) U ∧ ∀ q ∈ zz_nest, va_Nw (.methodLinkNest q.1 q.2.1 q.2.2.1 q.2.2.2) U
theorem zz_K.warm {G : zz_G} {s U : State} (hW : s.WarmedH U.vm) (h : zz_K G s) : zz_K G U := ⟨va_K.moved hW.alike h.1, fun q hq => va_Nw.warmM hW (h.2 q hq)⟩
theorem zz_K.same {G : zz_G} {s U : State} (e : s.vm = U.vm) (h : zz_K G s) : zz_K G U := ⟨va_K.moved (by rw [e]; exact Vm.Alike.refl _) h.1, fun q hq => va_Nw.same rfl e (h.2 q hq)⟩
-- memory: ints and longs by offset and place
abbrev Sg : Type := (Nat → Nat → Int32) × (Nat → Nat → Int64)
abbrev Sh : Type := Nat × Nat × List Nat
-- a layout: how many cells from the base on, and the shape at each offset
abbrev Ly : Type := Nat × (Nat → Option Sh)
def setI (S : Sg) (o k : Nat) (v : Int32) : Sg := (fun o' k' => if o' = o ∧ k' = k then v else S.1 o' k', S.2)
def setJ (S : Sg) (o k : Nat) (v : Int64) : Sg := (S.1, fun o' k' => if o' = o ∧ k' = k then v else S.2 o' k')
def fillI (S : Sg) (o : Nat) (f : Nat → Int32) : Sg := (fun o' => if o' = o then f else S.1 o', S.2)
def fillJ (S : Sg) (o : Nat) (f : Nat → Int64) : Sg := (S.1, fun o' => if o' = o then f else S.2 o')
theorem setI_o {S : Sg} {o k o' : Nat} {v : Int32} (h : o' ≠ o) : (setI S o k v).1 o' = S.1 o' ∧ (setI S o k v).2 o' = S.2 o' := by
  refine ⟨funext fun j => ?_, rfl⟩
  show (if o' = o ∧ j = k then v else S.1 o' j) = _
  rw [if_neg (fun q => h q.1)]
theorem setJ_o {S : Sg} {o k o' : Nat} {v : Int64} (h : o' ≠ o) : (setJ S o k v).1 o' = S.1 o' ∧ (setJ S o k v).2 o' = S.2 o' := by
  refine ⟨rfl, funext fun j => ?_⟩
  show (if o' = o ∧ j = k then v else S.2 o' j) = _
  rw [if_neg (fun q => h q.1)]
theorem fillI_o {S : Sg} {o o' : Nat} {f : Nat → Int32} (h : o' ≠ o) : (fillI S o f).1 o' = S.1 o' ∧ (fillI S o f).2 o' = S.2 o' := ⟨if_neg h, rfl⟩
theorem fillJ_o {S : Sg} {o o' : Nat} {f : Nat → Int64} (h : o' ≠ o) : (fillJ S o f).1 o' = S.1 o' ∧ (fillJ S o f).2 o' = S.2 o' := ⟨rfl, if_neg h⟩
-- a field by its kind: 0 an int, 1 a long, 2 null, r + 3 the object at r
def fldv (b : Nat) (S : Sg) (o k : Nat) : Nat → Value
  | 0 => .int (S.1 o k)
  | 1 => .long (S.2 o k)
  | 2 => .null
  | r + 3 => .ref (b + r)
def obV (b : Nat) (S : Sg) (o : Nat) (ks : List Nat) : Nat → Value := fun k => fldv b S o k (ks.getD k 2)
def atE (G : zz_G) (b : Nat) (S : Sg) (H : Heap) (o : Nat) : Sh → Prop
  | (0, ci, ks) => ∃ r : vw_C, classes[ci]? = some r ∧ t_OB (b + o) (G.1.1 ci) r.2.2 (G.1.2 ci) H (obV b S o ks)
  | (1, n, _) => H[b + o]? = some (arrV G.2.1 n (fun j => .int (S.1 o j)))
  | (2, n, _) => H[b + o]? = some (arrV G.2.2.1 n (fun j => .long (S.2 o j)))
  | (3, n, ks) => H[b + o]? = some (arrV G.2.2.2.1 n (fun j => .ref (b + (ks.headD 0 + j))))
  | (_, n, ks) => H[b + o]? = some (arrV G.2.2.2.2 n (fun j => .ref (b + (ks.headD 0 + j))))
def HM (G : zz_G) (L : Ly) (b : Nat) (S : Sg) (H : Heap) : Prop := H.size = b + L.1 ∧ ∀ (o : Nat) (sh : Sh), L.2 o = some sh → atE G b S H o sh
theorem atE.kept {G : zz_G} {b o : Nat} {S S' : Sg} {H H' : Heap} {sh : Sh} (h : atE G b S H o sh) (hH : H'[b + o]? = H[b + o]?) (hS : S'.1 o = S.1 o ∧ S'.2 o = S.2 o) : atE G b S' H' o sh := by
  obtain ⟨t, n, ks⟩ := sh
  have e : obV b S' o ks = obV b S o ks := by
    funext k
    unfold obV
    match ks.getD k 2 with
    | 0 => show Value.int (S'.1 o k) = Value.int (S.1 o k); rw [hS.1]
    | 1 => show Value.long (S'.2 o k) = Value.long (S.2 o k); rw [hS.2]
    | 2 => rfl
    | r + 3 => rfl
  match t, h with
  | 0, h =>
    obtain ⟨r, h1, h2⟩ := h
    refine ⟨r, h1, ?_⟩
    rw [e]
    exact h2.kept hH
  | 1, h => show _ = _; rw [hH, hS.1]; exact h
  | 2, h => show _ = _; rw [hH, hS.2]; exact h
  | 3, h => show _ = _; rw [hH]; exact h
  | t + 4, h => show _ = _; rw [hH]; exact h
theorem HM.put {G : zz_G} {L : Ly} {b o : Nat} {S S' : Sg} {H H' : Heap} {sh : Sh} (h : HM G L b S H) (hL : L.2 o = some sh) (hn : atE G b S' H' o sh) (hz : H'.size = H.size) (hH : ∀ q : Nat, q ≠ b + o → H'[q]? = H[q]?) (hS : ∀ o' : Nat, o' ≠ o → S'.1 o' = S.1 o' ∧ S'.2 o' = S.2 o') : HM G L b S' H' := by
  refine ⟨hz.trans h.1, fun o' sh' hL' => ?_⟩
  by_cases e : o' = o
  · subst e
    cases hL.symm.trans hL'
    exact hn
  · exact (h.2 o' sh' hL').kept (hH _ (by omega)) (hS o' e)
-- peeling what a function's text says
def lt {α β : Sort _} (x : α) (f : α → β) : β := f x
def lt2 {α β γ : Type _} (p : α × β) (f : α → β → γ) : γ := f p.1 p.2
def gd {α : Type _} (c : Bool) (a : Option α) : Option α := match c with
  | true => a
  | false => none
def bd {α β : Type _} (x : Option α) (f : α → Option β) : Option β := match x with
  | some a => f a
  | none => none
def bd2 {α β γ : Type _} (x : Option (α × β)) (f : α → β → Option γ) : Option γ := match x with
  | some a => f a.1 a.2
  | none => none
theorem of_lt {α β : Sort _} {x : α} {f : α → β} {y : β} (h : lt x f = y) : ∃ v, v = x ∧ f v = y := ⟨x, rfl, h⟩
theorem of_lt2 {α β γ : Type _} {p : α × β} {f : α → β → γ} {y : γ} (h : lt2 p f = y) : ∃ u v, p = (u, v) ∧ f u v = y := ⟨p.1, p.2, rfl, h⟩
theorem of_gd {α : Type _} {c : Bool} {a : Option α} {y : α} (h : gd c a = some y) : c = true ∧ a = some y := by
  cases c with
  | true => exact ⟨rfl, h⟩
  | false => cases h
theorem of_bd {α β : Type _} {x : Option α} {f : α → Option β} {y : β} (h : bd x f = some y) : ∃ v, x = some v ∧ f v = some y := by
  cases x with
  | none => cases h
  | some a => exact ⟨a, rfl, h⟩
theorem of_bd2 {α β γ : Type _} {x : Option (α × β)} {f : α → β → Option γ} {y : γ} (h : bd2 x f = some y) : ∃ u v, x = some (u, v) ∧ f u v = some y := by
  cases x with
  | none => cases h
  | some a => exact ⟨a.1, a.2, rfl, h⟩
theorem of_s1 {α : Type _} {x y : α} (h : some x = some y) : x = y := Option.some.inj h
theorem of_p {α β : Type _} {x y : α} {u v : β} (h : (x, u) = (y, v)) : x = y ∧ u = v := ⟨congrArg Prod.fst h, congrArg Prod.snd h⟩
theorem of_sp {α β : Type _} {x y : α} {u v : β} (h : some (x, u) = some (y, v)) : x = y ∧ u = v := of_p (Option.some.inj h)
def inb (i : Int32) (n : Nat) : Bool := decide (¬ (i < 0 ∨ n ≤ i.toNatClampNeg))
def nz (y : Int32) : Bool := decide (¬ y = 0)
def nzJ (y : Int64) : Bool := decide (¬ y = 0)
def isb (y : Int32) : Bool := decide (y = 0 ∨ y = 1)
def inn (y : Int32) : Bool := decide (¬ y < 0)
theorem inb_vp {i : Int32} {n : Nat} (h : inb i n = true) : vp_in i n := (of_decide_eq_true h : ¬ (i < 0 ∨ n ≤ i.toNatClampNeg))
def irem (x y : Int32) : Int32 := x - x / y * y
def jrem (x y : Int64) : Int64 := x - x / y * y
def isl (x y : Int32) : Int32 := x <<< (y &&& 31)
def isr (x y : Int32) : Int32 := x >>> (y &&& 31)
def iusr (x y : Int32) : Int32 := (x.toUInt32 >>> (y.toUInt32 &&& Int32.toUInt32 31)).toInt32
def ix (i : Int32) : Nat := i.toNatClampNeg
def cpI (S : Sg) (a : Nat) (sp : Int32) (d : Nat) (dp n : Int32) : Sg := fillI S d (va_cpy (S.1 a) (S.1 d) (ix sp) (ix dp) (ix n))
def cpJ (S : Sg) (a : Nat) (sp : Int32) (d : Nat) (dp n : Int32) : Sg := fillJ S d (va_cpy (S.2 a) (S.2 d) (ix sp) (ix dp) (ix n))
def cpok (sp dp n : Int32) (n0 n1 : Nat) : Bool := decide (¬ sp < 0 ∧ ¬ dp < 0 ∧ ¬ n < 0 ∧ ix sp + ix n ≤ n0 ∧ ix dp + ix n ≤ n1)
-- the judgement: from pc, with these locals, this stack and this memory, to the end
def CX (p : Program) (G : zz_G) (s : State) (m : MethodId) (args : Array Value) (meth : Method) (c : Code) (cc : ByteArray) (y : MethodName) (nL : Nat) (ret : Option FieldType) : Prop :=
  p.tables.exec = Jvm.exec ∧ c.code = cc ∧ c.maxLocals = nL ∧ s.vm.findClass y.cls = some m.cls ∧ (∀ w ∈ zz_all, w.before args s = true) ∧ zz_K G s ∧ meth.locks = false ∧ meth.sig.returnType = ret ∧ meth.name = y.name
def X (p : Program) (l : Launch) (e : Env) (R : Room) (s : State) (m : MethodId) (args : Array Value) (below : List Frame) (meth : Method) (c : Code) (cells slots : Nat) (Q : State → Prop) (nL : Nat) (G : zz_G) (L : Ly) (b : Nat) (S : Sg) (pc : Nat) (lv : List (Nat × Value)) (st : List Value) : Prop :=
  ∀ (H : Heap) (locs : List Loc) (ls : Array Slot), HM G L b S H → va_S (fun q => b ≤ q) s.heap H locs → lv_has ls nL lv → W p l e R s m args below meth c H locs cells slots Q (F0 m pc ls st)
def PC (G : zz_G) (L : Ly) (b : Nat) (S : Sg) (av : List Value) : Array Value → State → Prop := fun v U => v = av.toArray ∧ HM G L b S U.heap ∧ zz_K G U
def QC (G : zz_G) (L : Ly) (b : Nat) (S : Sg) (r : Option Value) (ex : Prop) : Array Value → State → Outcome → State → Prop := fun _ st o t => o = .returned r ∧ ex ∧ HM G L b S t.heap ∧ va_F (fun q => b ≤ q) st t
def rmz (f k : Nat) : Room := { frames := f, cells := 0, slots := 0, locals := k }
theorem zc_eq {x y : Int64} : lg_cmp x y = 0 ↔ x = y := by
  unfold lg_cmp
  by_cases h1 : x > y
  · rw [if_pos h1]
    exact ⟨fun h => absurd h (by decide), fun h => absurd h1 (by rw [h]; exact Int64.lt_irrefl)⟩
  · rw [if_neg h1]
    by_cases h2 : x = y
    · rw [if_pos h2]; exact ⟨fun _ => h2, fun _ => rfl⟩
    · rw [if_neg h2]; exact ⟨fun h => absurd h (by decide), fun h => absurd h h2⟩
theorem zc_ne {x y : Int64} : ¬ lg_cmp x y = 0 ↔ ¬ x = y := not_congr zc_eq
theorem zc_gt {x y : Int64} : 0 < lg_cmp x y ↔ y < x := by
  unfold lg_cmp
  by_cases h1 : x > y
  · rw [if_pos h1]; exact ⟨fun _ => h1, fun _ => by decide⟩
  · rw [if_neg h1]
    by_cases h2 : x = y
    · rw [if_pos h2]; exact ⟨fun h => absurd h (by decide), fun h => absurd h h1⟩
    · rw [if_neg h2]; exact ⟨fun h => absurd h (by decide), fun h => absurd h h1⟩
theorem zc_ge {x y : Int64} : 0 ≤ lg_cmp x y ↔ y ≤ x := lg_cmp_ge x y
theorem zc_le {x y : Int64} : lg_cmp x y ≤ 0 ↔ x ≤ y := lg_cmp_le x y
theorem zc_lt {x y : Int64} : lg_cmp x y < 0 ↔ x < y := by
  rw [← Int32.not_le, zc_ge, Int64.not_le]
theorem zc_eqn {x y : Int64} (h : ¬ lg_cmp x y = 0) : ¬ x = y := fun q => h (zc_eq.mpr q)
theorem zc_nen {x y : Int64} (h : lg_cmp x y = 0) : x = y := zc_eq.mp h
theorem zc_gtn {x y : Int64} (h : ¬ 0 < lg_cmp x y) : ¬ y < x := fun q => h (zc_gt.mpr q)
theorem zc_gen {x y : Int64} (h : ¬ 0 ≤ lg_cmp x y) : ¬ y ≤ x := fun q => h (zc_ge.mpr q)
theorem zc_len {x y : Int64} (h : ¬ lg_cmp x y ≤ 0) : ¬ x ≤ y := fun q => h (zc_le.mpr q)
theorem zc_ltn {x y : Int64} (h : ¬ lg_cmp x y < 0) : ¬ x < y := fun q => h (zc_lt.mpr q)
section ZX
variable {p : Program} {l : Launch} {e : Env} {R : Room} {s : State} {m : MethodId} {args : Array Value} {below : List Frame} {meth : Method} {c : Code} {cells slots : Nat} {Q : State → Prop} {nL : Nat} {G : zz_G} {L : Ly} {b : Nat} {S : Sg} {pc : Nat} {lv : List (Nat × Value)} {st : List Value} {cc : ByteArray} {y : MethodName} {ret : Option FieldType}
theorem x_iconst (C : CX p G s m args meth c cc y nL ret) {n : Int} {v : Int32} (d : decode cc pc = .ok (.iconst n, 1)) (ee : Int32.ofInt n = v) (k : X p l e R s m args below meth c cells slots Q nL G L b S (pc + 1) lv (.int v :: st)) : X p l e R s m args below meth c cells slots Q nL G L b S pc lv (st) := fun H locs ls h1 h2 h3 => lv_iconst C.1 C.2.1 d ee (k H locs ls h1 h2 h3)
theorem x_bipush (C : CX p G s m args meth c cc y nL ret) {n : Int} {v : Int32} (d : decode cc pc = .ok (.bipush n, 2)) (ee : (Int8.ofInt n).toInt32 = v) (k : X p l e R s m args below meth c cells slots Q nL G L b S (pc + 2) lv (.int v :: st)) : X p l e R s m args below meth c cells slots Q nL G L b S pc lv (st) := fun H locs ls h1 h2 h3 => lv_bipush C.1 C.2.1 d ee (k H locs ls h1 h2 h3)
theorem x_sipush (C : CX p G s m args meth c cc y nL ret) {n : Int} {v : Int32} (d : decode cc pc = .ok (.sipush n, 3)) (ee : (Int16.ofInt n).toInt32 = v) (k : X p l e R s m args below meth c cells slots Q nL G L b S (pc + 3) lv (.int v :: st)) : X p l e R s m args below meth c cells slots Q nL G L b S pc lv (st) := fun H locs ls h1 h2 h3 => lv_sipush C.1 C.2.1 d ee (k H locs ls h1 h2 h3)
theorem x_lconst (C : CX p G s m args meth c cc y nL ret) {n : Fin 2} {v : Int64} (d : decode cc pc = .ok (.lconst n, 1)) (ee : Int64.ofNat (n : Nat) = v) (k : X p l e R s m args below meth c cells slots Q nL G L b S (pc + 1) lv (.long v :: st)) : X p l e R s m args below meth c cells slots Q nL G L b S pc lv (st) := fun H locs ls h1 h2 h3 => lv_lconst C.1 C.2.1 d ee (k H locs ls h1 h2 h3)
theorem x_iload_n (C : CX p G s m args meth c cc y nL ret) {k : Fin 4} {x : Int32} (q : Nat) (d : decode cc pc = .ok (.iload_n k, 1)) (ee : lv[q]? = some (k.val, .int x)) (kk : X p l e R s m args below meth c cells slots Q nL G L b S (pc + 1) lv (.int x :: st)) : X p l e R s m args below meth c cells slots Q nL G L b S pc lv st := fun H locs ls h1 h2 h3 => lv_iload_n C.1 C.2.1 d rfl (lv_at h3 q ee) (kk H locs ls h1 h2 h3)
theorem x_iload (C : CX p G s m args meth c cc y nL ret) {i : Nat} {x : Int32} (q : Nat) (d : decode cc pc = .ok (.iload i, 2)) (ee : lv[q]? = some (i, .int x)) (kk : X p l e R s m args below meth c cells slots Q nL G L b S (pc + 2) lv (.int x :: st)) : X p l e R s m args below meth c cells slots Q nL G L b S pc lv st := fun H locs ls h1 h2 h3 => lv_iload C.1 C.2.1 d (lv_at h3 q ee) (kk H locs ls h1 h2 h3)
theorem x_istore_n (C : CX p G s m args meth c cc y nL ret) {k : Fin 4} {x v : Int32} (i : Nat) (lv' : List (Nat × Value)) (d : decode cc pc = .ok (.istore_n k, 1)) (hi : k.val = i) (hn : i < nL) (ev : v = x) (hl : (i, Value.int v) :: lv.filter (fun q => !(q.1 == i) && !(q.1 + 1 == i && q.2.category == 2)) = lv') (kk : X p l e R s m args below meth c cells slots Q nL G L b S (pc + 1) lv' st) : X p l e R s m args below meth c cells slots Q nL G L b S pc lv (.int x :: st) := by
  subst ev
  exact fun H locs ls h1 h2 h3 => lv_istore_n C.1 C.2.1 d hi h3 hn hl (fun ls' h => kk H locs ls' h1 h2 h)
theorem x_istore (C : CX p G s m args meth c cc y nL ret) {i : Nat} {x v : Int32} (lv' : List (Nat × Value)) (d : decode cc pc = .ok (.istore i, 2)) (hn : i < nL) (ev : v = x) (hl : (i, Value.int v) :: lv.filter (fun q => !(q.1 == i) && !(q.1 + 1 == i && q.2.category == 2)) = lv') (kk : X p l e R s m args below meth c cells slots Q nL G L b S (pc + 2) lv' st) : X p l e R s m args below meth c cells slots Q nL G L b S pc lv (.int x :: st) := by
  subst ev
  exact fun H locs ls h1 h2 h3 => lv_istore C.1 C.2.1 d h3 hn hl (fun ls' h => kk H locs ls' h1 h2 h)
theorem x_lload_n (C : CX p G s m args meth c cc y nL ret) {k : Fin 4} {x : Int64} (q : Nat) (d : decode cc pc = .ok (.lload_n k, 1)) (ee : lv[q]? = some (k.val, .long x)) (kk : X p l e R s m args below meth c cells slots Q nL G L b S (pc + 1) lv (.long x :: st)) : X p l e R s m args below meth c cells slots Q nL G L b S pc lv st := fun H locs ls h1 h2 h3 => lv_lload_n C.1 C.2.1 d rfl (lv_at h3 q ee) (kk H locs ls h1 h2 h3)
theorem x_lload (C : CX p G s m args meth c cc y nL ret) {i : Nat} {x : Int64} (q : Nat) (d : decode cc pc = .ok (.lload i, 2)) (ee : lv[q]? = some (i, .long x)) (kk : X p l e R s m args below meth c cells slots Q nL G L b S (pc + 2) lv (.long x :: st)) : X p l e R s m args below meth c cells slots Q nL G L b S pc lv st := fun H locs ls h1 h2 h3 => lv_lload C.1 C.2.1 d (lv_at h3 q ee) (kk H locs ls h1 h2 h3)
theorem x_lstore_n (C : CX p G s m args meth c cc y nL ret) {k : Fin 4} {x v : Int64} (i : Nat) (lv' : List (Nat × Value)) (d : decode cc pc = .ok (.lstore_n k, 1)) (hi : k.val = i) (hn : i + 1 < nL) (ev : v = x) (hl : (i, Value.long v) :: lv.filter (fun q => !(q.1 == i) && (!(q.1 == i + 1) && !(q.1 + 1 == i && q.2.category == 2))) = lv') (kk : X p l e R s m args below meth c cells slots Q nL G L b S (pc + 1) lv' st) : X p l e R s m args below meth c cells slots Q nL G L b S pc lv (.long x :: st) := by
  subst ev
  exact fun H locs ls h1 h2 h3 => lv_lstore_n C.1 C.2.1 d hi h3 hn hl (fun ls' h => kk H locs ls' h1 h2 h)
theorem x_lstore (C : CX p G s m args meth c cc y nL ret) {i : Nat} {x v : Int64} (lv' : List (Nat × Value)) (d : decode cc pc = .ok (.lstore i, 2)) (hn : i + 1 < nL) (ev : v = x) (hl : (i, Value.long v) :: lv.filter (fun q => !(q.1 == i) && (!(q.1 == i + 1) && !(q.1 + 1 == i && q.2.category == 2))) = lv') (kk : X p l e R s m args below meth c cells slots Q nL G L b S (pc + 2) lv' st) : X p l e R s m args below meth c cells slots Q nL G L b S pc lv (.long x :: st) := by
  subst ev
  exact fun H locs ls h1 h2 h3 => lv_lstore C.1 C.2.1 d h3 hn hl (fun ls' h => kk H locs ls' h1 h2 h)
theorem x_aload_n (C : CX p G s m args meth c cc y nL ret) {k : Fin 4} {x : Nat} (q : Nat) (d : decode cc pc = .ok (.aload_n k, 1)) (ee : lv[q]? = some (k.val, .ref x)) (kk : X p l e R s m args below meth c cells slots Q nL G L b S (pc + 1) lv (.ref x :: st)) : X p l e R s m args below meth c cells slots Q nL G L b S pc lv st := fun H locs ls h1 h2 h3 => lv_aload_n C.1 C.2.1 d rfl (lv_at h3 q ee) (kk H locs ls h1 h2 h3)
theorem x_aload (C : CX p G s m args meth c cc y nL ret) {i : Nat} {x : Nat} (q : Nat) (d : decode cc pc = .ok (.aload i, 2)) (ee : lv[q]? = some (i, .ref x)) (kk : X p l e R s m args below meth c cells slots Q nL G L b S (pc + 2) lv (.ref x :: st)) : X p l e R s m args below meth c cells slots Q nL G L b S pc lv st := fun H locs ls h1 h2 h3 => lv_aload C.1 C.2.1 d (lv_at h3 q ee) (kk H locs ls h1 h2 h3)
theorem x_astore_n (C : CX p G s m args meth c cc y nL ret) {k : Fin 4} {x v : Nat} (i : Nat) (lv' : List (Nat × Value)) (d : decode cc pc = .ok (.astore_n k, 1)) (hi : k.val = i) (hn : i < nL) (ev : v = x) (hl : (i, Value.ref v) :: lv.filter (fun q => !(q.1 == i) && !(q.1 + 1 == i && q.2.category == 2)) = lv') (kk : X p l e R s m args below meth c cells slots Q nL G L b S (pc + 1) lv' st) : X p l e R s m args below meth c cells slots Q nL G L b S pc lv (.ref x :: st) := by
  subst ev
  exact fun H locs ls h1 h2 h3 => lv_astore_n C.1 C.2.1 d hi h3 hn hl (fun ls' h => kk H locs ls' h1 h2 h)
theorem x_astore (C : CX p G s m args meth c cc y nL ret) {i : Nat} {x v : Nat} (lv' : List (Nat × Value)) (d : decode cc pc = .ok (.astore i, 2)) (hn : i < nL) (ev : v = x) (hl : (i, Value.ref v) :: lv.filter (fun q => !(q.1 == i) && !(q.1 + 1 == i && q.2.category == 2)) = lv') (kk : X p l e R s m args below meth c cells slots Q nL G L b S (pc + 2) lv' st) : X p l e R s m args below meth c cells slots Q nL G L b S pc lv (.ref x :: st) := by
  subst ev
  exact fun H locs ls h1 h2 h3 => lv_astore C.1 C.2.1 d h3 hn hl (fun ls' h => kk H locs ls' h1 h2 h)
theorem x_iinc (C : CX p G s m args meth c cc y nL ret) {i : Nat} {n : Int} {x v w : Int32} (q : Nat) (lv' : List (Nat × Value)) (d : decode cc pc = .ok (.iinc i n, 3)) (ee : lv[q]? = some (i, .int x)) (ew : Int32.ofInt n = w) (hn : i < nL) (ev : v = x + w) (hl : (i, Value.int v) :: lv.filter (fun q => !(q.1 == i) && !(q.1 + 1 == i && q.2.category == 2)) = lv') (kk : X p l e R s m args below meth c cells slots Q nL G L b S (pc + 3) lv' st) : X p l e R s m args below meth c cells slots Q nL G L b S pc lv st := by
  subst ev; subst ew
  exact fun H locs ls h1 h2 h3 => lv_iinc C.1 C.2.1 d h3 ee rfl hn hl (fun ls' h => kk H locs ls' h1 h2 h)
theorem x_iadd (C : CX p G s m args meth c cc y nL ret) {x y' : Int32} (d : decode cc pc = .ok (.iadd, 1)) (k : X p l e R s m args below meth c cells slots Q nL G L b S (pc + 1) lv (.int (x + y') :: st)) : X p l e R s m args below meth c cells slots Q nL G L b S pc lv (.int y' :: .int x :: st) := fun H locs ls h1 h2 h3 => lv_iadd C.1 C.2.1 d (k H locs ls h1 h2 h3)
theorem x_isub (C : CX p G s m args meth c cc y nL ret) {x y' : Int32} (d : decode cc pc = .ok (.isub, 1)) (k : X p l e R s m args below meth c cells slots Q nL G L b S (pc + 1) lv (.int (x - y') :: st)) : X p l e R s m args below meth c cells slots Q nL G L b S pc lv (.int y' :: .int x :: st) := fun H locs ls h1 h2 h3 => lv_isub C.1 C.2.1 d (k H locs ls h1 h2 h3)
theorem x_imul (C : CX p G s m args meth c cc y nL ret) {x y' : Int32} (d : decode cc pc = .ok (.imul, 1)) (k : X p l e R s m args below meth c cells slots Q nL G L b S (pc + 1) lv (.int (x * y') :: st)) : X p l e R s m args below meth c cells slots Q nL G L b S pc lv (.int y' :: .int x :: st) := fun H locs ls h1 h2 h3 => lv_imul C.1 C.2.1 d (k H locs ls h1 h2 h3)
theorem x_iand (C : CX p G s m args meth c cc y nL ret) {x y' : Int32} (d : decode cc pc = .ok (.iand, 1)) (k : X p l e R s m args below meth c cells slots Q nL G L b S (pc + 1) lv (.int (x &&& y') :: st)) : X p l e R s m args below meth c cells slots Q nL G L b S pc lv (.int y' :: .int x :: st) := fun H locs ls h1 h2 h3 => lv_iand C.1 C.2.1 d (k H locs ls h1 h2 h3)
theorem x_ior (C : CX p G s m args meth c cc y nL ret) {x y' : Int32} (d : decode cc pc = .ok (.ior, 1)) (k : X p l e R s m args below meth c cells slots Q nL G L b S (pc + 1) lv (.int (x ||| y') :: st)) : X p l e R s m args below meth c cells slots Q nL G L b S pc lv (.int y' :: .int x :: st) := fun H locs ls h1 h2 h3 => lv_ior C.1 C.2.1 d (k H locs ls h1 h2 h3)
theorem x_ixor (C : CX p G s m args meth c cc y nL ret) {x y' : Int32} (d : decode cc pc = .ok (.ixor, 1)) (k : X p l e R s m args below meth c cells slots Q nL G L b S (pc + 1) lv (.int (x ^^^ y') :: st)) : X p l e R s m args below meth c cells slots Q nL G L b S pc lv (.int y' :: .int x :: st) := fun H locs ls h1 h2 h3 => lv_ixor C.1 C.2.1 d (k H locs ls h1 h2 h3)
theorem x_ishl (C : CX p G s m args meth c cc y nL ret) {x y' : Int32} (d : decode cc pc = .ok (.ishl, 1)) (k : X p l e R s m args below meth c cells slots Q nL G L b S (pc + 1) lv (.int (isl x y') :: st)) : X p l e R s m args below meth c cells slots Q nL G L b S pc lv (.int y' :: .int x :: st) := fun H locs ls h1 h2 h3 => lv_ishl C.1 C.2.1 d (k H locs ls h1 h2 h3)
theorem x_ishr (C : CX p G s m args meth c cc y nL ret) {x y' : Int32} (d : decode cc pc = .ok (.ishr, 1)) (k : X p l e R s m args below meth c cells slots Q nL G L b S (pc + 1) lv (.int (isr x y') :: st)) : X p l e R s m args below meth c cells slots Q nL G L b S pc lv (.int y' :: .int x :: st) := fun H locs ls h1 h2 h3 => lv_ishr C.1 C.2.1 d (k H locs ls h1 h2 h3)
theorem x_iushr (C : CX p G s m args meth c cc y nL ret) {x y' : Int32} (d : decode cc pc = .ok (.iushr, 1)) (k : X p l e R s m args below meth c cells slots Q nL G L b S (pc + 1) lv ((.int (iusr x y')) :: st)) : X p l e R s m args below meth c cells slots Q nL G L b S pc lv (.int y' :: .int x :: st) := fun H locs ls h1 h2 h3 => lv_iushr C.1 C.2.1 d rfl (k H locs ls h1 h2 h3)
theorem x_ineg (C : CX p G s m args meth c cc y nL ret) {x : Int32} (d : decode cc pc = .ok (.ineg, 1)) (k : X p l e R s m args below meth c cells slots Q nL G L b S (pc + 1) lv (.int (-x) :: st)) : X p l e R s m args below meth c cells slots Q nL G L b S pc lv (.int x :: st) := fun H locs ls h1 h2 h3 => lv_ineg C.1 C.2.1 d (k H locs ls h1 h2 h3)
theorem x_idiv (C : CX p G s m args meth c cc y nL ret) {x y' : Int32} (d : decode cc pc = .ok (.idiv, 1)) (hz : nz y' = true) (k : X p l e R s m args below meth c cells slots Q nL G L b S (pc + 1) lv (.int (x / y') :: st)) : X p l e R s m args below meth c cells slots Q nL G L b S pc lv (.int y' :: .int x :: st) := fun H locs ls h1 h2 h3 => lv_idiv C.1 C.2.1 d (of_decide_eq_true hz) (k H locs ls h1 h2 h3)
theorem x_irem (C : CX p G s m args meth c cc y nL ret) {x y' : Int32} (d : decode cc pc = .ok (.irem, 1)) (hz : nz y' = true) (k : X p l e R s m args below meth c cells slots Q nL G L b S (pc + 1) lv (.int (irem x y') :: st)) : X p l e R s m args below meth c cells slots Q nL G L b S pc lv (.int y' :: .int x :: st) := fun H locs ls h1 h2 h3 => lv_irem C.1 C.2.1 d (of_decide_eq_true hz) (k H locs ls h1 h2 h3)
theorem x_ladd (C : CX p G s m args meth c cc y nL ret) {x y' : Int64} (d : decode cc pc = .ok (.ladd, 1)) (k : X p l e R s m args below meth c cells slots Q nL G L b S (pc + 1) lv (.long (x + y') :: st)) : X p l e R s m args below meth c cells slots Q nL G L b S pc lv (.long y' :: .long x :: st) := fun H locs ls h1 h2 h3 => lv_ladd C.1 C.2.1 d (k H locs ls h1 h2 h3)
theorem x_lsub (C : CX p G s m args meth c cc y nL ret) {x y' : Int64} (d : decode cc pc = .ok (.lsub, 1)) (k : X p l e R s m args below meth c cells slots Q nL G L b S (pc + 1) lv (.long (x - y') :: st)) : X p l e R s m args below meth c cells slots Q nL G L b S pc lv (.long y' :: .long x :: st) := fun H locs ls h1 h2 h3 => lv_lsub C.1 C.2.1 d (k H locs ls h1 h2 h3)
theorem x_lmul (C : CX p G s m args meth c cc y nL ret) {x y' : Int64} (d : decode cc pc = .ok (.lmul, 1)) (k : X p l e R s m args below meth c cells slots Q nL G L b S (pc + 1) lv (.long (x * y') :: st)) : X p l e R s m args below meth c cells slots Q nL G L b S pc lv (.long y' :: .long x :: st) := fun H locs ls h1 h2 h3 => lv_lmul C.1 C.2.1 d (k H locs ls h1 h2 h3)
theorem x_lneg (C : CX p G s m args meth c cc y nL ret) {x : Int64} (d : decode cc pc = .ok (.lneg, 1)) (k : X p l e R s m args below meth c cells slots Q nL G L b S (pc + 1) lv (.long (-x) :: st)) : X p l e R s m args below meth c cells slots Q nL G L b S pc lv (.long x :: st) := fun H locs ls h1 h2 h3 => lv_lneg C.1 C.2.1 d (k H locs ls h1 h2 h3)
theorem x_ldiv (C : CX p G s m args meth c cc y nL ret) {x y' : Int64} (d : decode cc pc = .ok (.ldiv, 1)) (hz : nzJ y' = true) (k : X p l e R s m args below meth c cells slots Q nL G L b S (pc + 1) lv (.long (x / y') :: st)) : X p l e R s m args below meth c cells slots Q nL G L b S pc lv (.long y' :: .long x :: st) := fun H locs ls h1 h2 h3 => lv_ldiv C.1 C.2.1 d (of_decide_eq_true hz) (k H locs ls h1 h2 h3)
theorem x_lrem (C : CX p G s m args meth c cc y nL ret) {x y' : Int64} (d : decode cc pc = .ok (.lrem, 1)) (hz : nzJ y' = true) (k : X p l e R s m args below meth c cells slots Q nL G L b S (pc + 1) lv (.long (jrem x y') :: st)) : X p l e R s m args below meth c cells slots Q nL G L b S pc lv (.long y' :: .long x :: st) := fun H locs ls h1 h2 h3 => lv_lrem C.1 C.2.1 d (of_decide_eq_true hz) (k H locs ls h1 h2 h3)
theorem x_i2l (C : CX p G s m args meth c cc y nL ret) {x : Int32} (d : decode cc pc = .ok (.i2l, 1)) (k : X p l e R s m args below meth c cells slots Q nL G L b S (pc + 1) lv (.long x.toInt64 :: st)) : X p l e R s m args below meth c cells slots Q nL G L b S pc lv (.int x :: st) := fun H locs ls h1 h2 h3 => lv_i2l C.1 C.2.1 d rfl (k H locs ls h1 h2 h3)
theorem x_dup (C : CX p G s m args meth c cc y nL ret) {va : Value} (d : decode cc pc = .ok (.dup, 1)) (hv : va.category = 1) (k : X p l e R s m args below meth c cells slots Q nL G L b S (pc + 1) lv (va :: va :: st)) : X p l e R s m args below meth c cells slots Q nL G L b S pc lv (va :: st) := fun H locs ls h1 h2 h3 => lv_dup C.1 C.2.1 d hv (k H locs ls h1 h2 h3)
theorem x_dup2 (C : CX p G s m args meth c cc y nL ret) {va vb : Value} (d : decode cc pc = .ok (.dup2, 1)) (hv : va.category = 1) (hw : vb.category = 1) (k : X p l e R s m args below meth c cells slots Q nL G L b S (pc + 1) lv (va :: vb :: va :: vb :: st)) : X p l e R s m args below meth c cells slots Q nL G L b S pc lv (va :: vb :: st) := fun H locs ls h1 h2 h3 => lv_dup2_11 C.1 C.2.1 d hv hw (k H locs ls h1 h2 h3)
theorem x_pop (C : CX p G s m args meth c cc y nL ret) {va : Value} (d : decode cc pc = .ok (.pop, 1)) (hv : va.category = 1) (k : X p l e R s m args below meth c cells slots Q nL G L b S (pc + 1) lv (st)) : X p l e R s m args below meth c cells slots Q nL G L b S pc lv (va :: st) := fun H locs ls h1 h2 h3 => lv_pop C.1 C.2.1 d hv (k H locs ls h1 h2 h3)
theorem x_goto (C : CX p G s m args meth c cc y nL ret) {off : Int} (tgt : Nat) (d : decode cc pc = .ok (.goto off, 3)) (ht : (pc : Int) + off = (tgt : Int)) (k : X p l e R s m args below meth c cells slots Q nL G L b S tgt lv st) : X p l e R s m args below meth c cells slots Q nL G L b S pc lv st := fun H locs ls h1 h2 h3 => lv_goto C.1 C.2.1 d ht (k H locs ls h1 h2 h3)
theorem x_if_eq (C : CX p G s m args meth c cc y nL ret) {x : Int32} {off : Int} (tgt : Nat) (d : decode cc pc = .ok (.ifCond .eq off, 3)) (ht : (pc : Int) + off = (tgt : Int)) (kt : x = 0 → X p l e R s m args below meth c cells slots Q nL G L b S tgt lv st) (kf : ¬ x = 0 → X p l e R s m args below meth c cells slots Q nL G L b S (pc + 3) lv st) : X p l e R s m args below meth c cells slots Q nL G L b S pc lv (.int x :: st) := fun H locs ls h1 h2 h3 => lv_if_eq C.1 C.2.1 d ht (fun q => kt (q) H locs ls h1 h2 h3) (fun q => kf (q) H locs ls h1 h2 h3)
theorem x_icmp_eq (C : CX p G s m args meth c cc y nL ret) {x y' : Int32} {off : Int} (tgt : Nat) (d : decode cc pc = .ok (.if_icmp .eq off, 3)) (ht : (pc : Int) + off = (tgt : Int)) (kt : x = y' → X p l e R s m args below meth c cells slots Q nL G L b S tgt lv st) (kf : ¬ x = y' → X p l e R s m args below meth c cells slots Q nL G L b S (pc + 3) lv st) : X p l e R s m args below meth c cells slots Q nL G L b S pc lv (.int y' :: .int x :: st) := fun H locs ls h1 h2 h3 => lv_icmp_eq C.1 C.2.1 d ht (fun q => kt (q) H locs ls h1 h2 h3) (fun q => kf (q) H locs ls h1 h2 h3)
theorem x_lcmp_eq (C : CX p G s m args meth c cc y nL ret) {x y' : Int64} {off : Int} (tgt : Nat) (d0 : decode cc pc = .ok (.lcmp, 1)) (d : decode cc (pc + 1) = .ok (.ifCond .eq off, 3)) (ht : (pc : Int) + 1 + off = (tgt : Int)) (kt : x = y' → X p l e R s m args below meth c cells slots Q nL G L b S tgt lv st) (kf : ¬ x = y' → X p l e R s m args below meth c cells slots Q nL G L b S (pc + 4) lv st) : X p l e R s m args below meth c cells slots Q nL G L b S pc lv (.long y' :: .long x :: st) := fun H locs ls h1 h2 h3 => W.lcmp C.1 C.2.1 d0 (lv_if_eq C.1 C.2.1 d (by rw [← ht]; rfl) (fun q => kt (zc_eq.mp q) H locs ls h1 h2 h3) (fun q => kf (zc_eqn q) H locs ls h1 h2 h3))
theorem x_if_ne (C : CX p G s m args meth c cc y nL ret) {x : Int32} {off : Int} (tgt : Nat) (d : decode cc pc = .ok (.ifCond .ne off, 3)) (ht : (pc : Int) + off = (tgt : Int)) (kt : ¬ x = 0 → X p l e R s m args below meth c cells slots Q nL G L b S tgt lv st) (kf : x = 0 → X p l e R s m args below meth c cells slots Q nL G L b S (pc + 3) lv st) : X p l e R s m args below meth c cells slots Q nL G L b S pc lv (.int x :: st) := fun H locs ls h1 h2 h3 => lv_if_ne C.1 C.2.1 d ht (fun q => kt (q) H locs ls h1 h2 h3) (fun q => kf (q) H locs ls h1 h2 h3)
theorem x_icmp_ne (C : CX p G s m args meth c cc y nL ret) {x y' : Int32} {off : Int} (tgt : Nat) (d : decode cc pc = .ok (.if_icmp .ne off, 3)) (ht : (pc : Int) + off = (tgt : Int)) (kt : ¬ x = y' → X p l e R s m args below meth c cells slots Q nL G L b S tgt lv st) (kf : x = y' → X p l e R s m args below meth c cells slots Q nL G L b S (pc + 3) lv st) : X p l e R s m args below meth c cells slots Q nL G L b S pc lv (.int y' :: .int x :: st) := fun H locs ls h1 h2 h3 => lv_icmp_ne C.1 C.2.1 d ht (fun q => kt (q) H locs ls h1 h2 h3) (fun q => kf (q) H locs ls h1 h2 h3)
theorem x_lcmp_ne (C : CX p G s m args meth c cc y nL ret) {x y' : Int64} {off : Int} (tgt : Nat) (d0 : decode cc pc = .ok (.lcmp, 1)) (d : decode cc (pc + 1) = .ok (.ifCond .ne off, 3)) (ht : (pc : Int) + 1 + off = (tgt : Int)) (kt : ¬ x = y' → X p l e R s m args below meth c cells slots Q nL G L b S tgt lv st) (kf : x = y' → X p l e R s m args below meth c cells slots Q nL G L b S (pc + 4) lv st) : X p l e R s m args below meth c cells slots Q nL G L b S pc lv (.long y' :: .long x :: st) := fun H locs ls h1 h2 h3 => W.lcmp C.1 C.2.1 d0 (lv_if_ne C.1 C.2.1 d (by rw [← ht]; rfl) (fun q => kt (fun r => q (zc_eq.mpr r)) H locs ls h1 h2 h3) (fun q => kf (zc_nen q) H locs ls h1 h2 h3))
theorem x_if_lt (C : CX p G s m args meth c cc y nL ret) {x : Int32} {off : Int} (tgt : Nat) (d : decode cc pc = .ok (.ifCond .lt off, 3)) (ht : (pc : Int) + off = (tgt : Int)) (kt : x < 0 → X p l e R s m args below meth c cells slots Q nL G L b S tgt lv st) (kf : ¬ x < 0 → X p l e R s m args below meth c cells slots Q nL G L b S (pc + 3) lv st) : X p l e R s m args below meth c cells slots Q nL G L b S pc lv (.int x :: st) := fun H locs ls h1 h2 h3 => lv_if_lt C.1 C.2.1 d ht (fun q => kt (q) H locs ls h1 h2 h3) (fun q => kf (q) H locs ls h1 h2 h3)
theorem x_icmp_lt (C : CX p G s m args meth c cc y nL ret) {x y' : Int32} {off : Int} (tgt : Nat) (d : decode cc pc = .ok (.if_icmp .lt off, 3)) (ht : (pc : Int) + off = (tgt : Int)) (kt : x < y' → X p l e R s m args below meth c cells slots Q nL G L b S tgt lv st) (kf : ¬ x < y' → X p l e R s m args below meth c cells slots Q nL G L b S (pc + 3) lv st) : X p l e R s m args below meth c cells slots Q nL G L b S pc lv (.int y' :: .int x :: st) := fun H locs ls h1 h2 h3 => lv_icmp_lt C.1 C.2.1 d ht (fun q => kt (q) H locs ls h1 h2 h3) (fun q => kf (q) H locs ls h1 h2 h3)
theorem x_lcmp_lt (C : CX p G s m args meth c cc y nL ret) {x y' : Int64} {off : Int} (tgt : Nat) (d0 : decode cc pc = .ok (.lcmp, 1)) (d : decode cc (pc + 1) = .ok (.ifCond .lt off, 3)) (ht : (pc : Int) + 1 + off = (tgt : Int)) (kt : x < y' → X p l e R s m args below meth c cells slots Q nL G L b S tgt lv st) (kf : ¬ x < y' → X p l e R s m args below meth c cells slots Q nL G L b S (pc + 4) lv st) : X p l e R s m args below meth c cells slots Q nL G L b S pc lv (.long y' :: .long x :: st) := fun H locs ls h1 h2 h3 => W.lcmp C.1 C.2.1 d0 (lv_if_lt C.1 C.2.1 d (by rw [← ht]; rfl) (fun q => kt (zc_lt.mp q) H locs ls h1 h2 h3) (fun q => kf (zc_ltn q) H locs ls h1 h2 h3))
theorem x_if_ge (C : CX p G s m args meth c cc y nL ret) {x : Int32} {off : Int} (tgt : Nat) (d : decode cc pc = .ok (.ifCond .ge off, 3)) (ht : (pc : Int) + off = (tgt : Int)) (kt : ¬ x < 0 → X p l e R s m args below meth c cells slots Q nL G L b S tgt lv st) (kf : x < 0 → X p l e R s m args below meth c cells slots Q nL G L b S (pc + 3) lv st) : X p l e R s m args below meth c cells slots Q nL G L b S pc lv (.int x :: st) := fun H locs ls h1 h2 h3 => lv_if_ge C.1 C.2.1 d ht (fun q => kt (Int32.not_lt.mpr q) H locs ls h1 h2 h3) (fun q => kf (Int32.not_le.mp q) H locs ls h1 h2 h3)
theorem x_icmp_ge (C : CX p G s m args meth c cc y nL ret) {x y' : Int32} {off : Int} (tgt : Nat) (d : decode cc pc = .ok (.if_icmp .ge off, 3)) (ht : (pc : Int) + off = (tgt : Int)) (kt : ¬ x < y' → X p l e R s m args below meth c cells slots Q nL G L b S tgt lv st) (kf : x < y' → X p l e R s m args below meth c cells slots Q nL G L b S (pc + 3) lv st) : X p l e R s m args below meth c cells slots Q nL G L b S pc lv (.int y' :: .int x :: st) := fun H locs ls h1 h2 h3 => lv_icmp_ge C.1 C.2.1 d ht (fun q => kt (Int32.not_lt.mpr q) H locs ls h1 h2 h3) (fun q => kf (Int32.not_le.mp q) H locs ls h1 h2 h3)
theorem x_lcmp_ge (C : CX p G s m args meth c cc y nL ret) {x y' : Int64} {off : Int} (tgt : Nat) (d0 : decode cc pc = .ok (.lcmp, 1)) (d : decode cc (pc + 1) = .ok (.ifCond .ge off, 3)) (ht : (pc : Int) + 1 + off = (tgt : Int)) (kt : ¬ x < y' → X p l e R s m args below meth c cells slots Q nL G L b S tgt lv st) (kf : x < y' → X p l e R s m args below meth c cells slots Q nL G L b S (pc + 4) lv st) : X p l e R s m args below meth c cells slots Q nL G L b S pc lv (.long y' :: .long x :: st) := fun H locs ls h1 h2 h3 => W.lcmp C.1 C.2.1 d0 (lv_if_ge C.1 C.2.1 d (by rw [← ht]; rfl) (fun q => kt (Int64.not_lt.mpr (zc_ge.mp q)) H locs ls h1 h2 h3) (fun q => kf (Int64.not_le.mp (zc_gen q)) H locs ls h1 h2 h3))
theorem x_if_gt (C : CX p G s m args meth c cc y nL ret) {x : Int32} {off : Int} (tgt : Nat) (d : decode cc pc = .ok (.ifCond .gt off, 3)) (ht : (pc : Int) + off = (tgt : Int)) (kt : 0 < x → X p l e R s m args below meth c cells slots Q nL G L b S tgt lv st) (kf : ¬ 0 < x → X p l e R s m args below meth c cells slots Q nL G L b S (pc + 3) lv st) : X p l e R s m args below meth c cells slots Q nL G L b S pc lv (.int x :: st) := fun H locs ls h1 h2 h3 => lv_if_gt C.1 C.2.1 d ht (fun q => kt (q) H locs ls h1 h2 h3) (fun q => kf (q) H locs ls h1 h2 h3)
theorem x_icmp_gt (C : CX p G s m args meth c cc y nL ret) {x y' : Int32} {off : Int} (tgt : Nat) (d : decode cc pc = .ok (.if_icmp .gt off, 3)) (ht : (pc : Int) + off = (tgt : Int)) (kt : y' < x → X p l e R s m args below meth c cells slots Q nL G L b S tgt lv st) (kf : ¬ y' < x → X p l e R s m args below meth c cells slots Q nL G L b S (pc + 3) lv st) : X p l e R s m args below meth c cells slots Q nL G L b S pc lv (.int y' :: .int x :: st) := fun H locs ls h1 h2 h3 => lv_icmp_gt C.1 C.2.1 d ht (fun q => kt (q) H locs ls h1 h2 h3) (fun q => kf (q) H locs ls h1 h2 h3)
theorem x_lcmp_gt (C : CX p G s m args meth c cc y nL ret) {x y' : Int64} {off : Int} (tgt : Nat) (d0 : decode cc pc = .ok (.lcmp, 1)) (d : decode cc (pc + 1) = .ok (.ifCond .gt off, 3)) (ht : (pc : Int) + 1 + off = (tgt : Int)) (kt : y' < x → X p l e R s m args below meth c cells slots Q nL G L b S tgt lv st) (kf : ¬ y' < x → X p l e R s m args below meth c cells slots Q nL G L b S (pc + 4) lv st) : X p l e R s m args below meth c cells slots Q nL G L b S pc lv (.long y' :: .long x :: st) := fun H locs ls h1 h2 h3 => W.lcmp C.1 C.2.1 d0 (lv_if_gt C.1 C.2.1 d (by rw [← ht]; rfl) (fun q => kt (zc_gt.mp q) H locs ls h1 h2 h3) (fun q => kf (zc_gtn q) H locs ls h1 h2 h3))
theorem x_if_le (C : CX p G s m args meth c cc y nL ret) {x : Int32} {off : Int} (tgt : Nat) (d : decode cc pc = .ok (.ifCond .le off, 3)) (ht : (pc : Int) + off = (tgt : Int)) (kt : ¬ 0 < x → X p l e R s m args below meth c cells slots Q nL G L b S tgt lv st) (kf : 0 < x → X p l e R s m args below meth c cells slots Q nL G L b S (pc + 3) lv st) : X p l e R s m args below meth c cells slots Q nL G L b S pc lv (.int x :: st) := fun H locs ls h1 h2 h3 => lv_if_le C.1 C.2.1 d ht (fun q => kt (Int32.not_lt.mpr q) H locs ls h1 h2 h3) (fun q => kf (Int32.not_le.mp q) H locs ls h1 h2 h3)
theorem x_icmp_le (C : CX p G s m args meth c cc y nL ret) {x y' : Int32} {off : Int} (tgt : Nat) (d : decode cc pc = .ok (.if_icmp .le off, 3)) (ht : (pc : Int) + off = (tgt : Int)) (kt : ¬ y' < x → X p l e R s m args below meth c cells slots Q nL G L b S tgt lv st) (kf : y' < x → X p l e R s m args below meth c cells slots Q nL G L b S (pc + 3) lv st) : X p l e R s m args below meth c cells slots Q nL G L b S pc lv (.int y' :: .int x :: st) := fun H locs ls h1 h2 h3 => lv_icmp_le C.1 C.2.1 d ht (fun q => kt (Int32.not_lt.mpr q) H locs ls h1 h2 h3) (fun q => kf (Int32.not_le.mp q) H locs ls h1 h2 h3)
theorem x_lcmp_le (C : CX p G s m args meth c cc y nL ret) {x y' : Int64} {off : Int} (tgt : Nat) (d0 : decode cc pc = .ok (.lcmp, 1)) (d : decode cc (pc + 1) = .ok (.ifCond .le off, 3)) (ht : (pc : Int) + 1 + off = (tgt : Int)) (kt : ¬ y' < x → X p l e R s m args below meth c cells slots Q nL G L b S tgt lv st) (kf : y' < x → X p l e R s m args below meth c cells slots Q nL G L b S (pc + 4) lv st) : X p l e R s m args below meth c cells slots Q nL G L b S pc lv (.long y' :: .long x :: st) := fun H locs ls h1 h2 h3 => W.lcmp C.1 C.2.1 d0 (lv_if_le C.1 C.2.1 d (by rw [← ht]; rfl) (fun q => kt (Int64.not_lt.mpr (zc_le.mp q)) H locs ls h1 h2 h3) (fun q => kf (Int64.not_le.mp (zc_len q)) H locs ls h1 h2 h3))
theorem x_sub (ks : List Nat) {lv' : List (Nat × Value)} (ee : lv_pick lv ks = lv') (k : X p l e R s m args below meth c cells slots Q nL G L b S pc lv' st) : X p l e R s m args below meth c cells slots Q nL G L b S pc lv st := fun H locs ls h1 h2 h3 => k H locs ls h1 h2 (lv_sub h3 ks ee)
theorem x_ldc (C : CX p G s m args meth c cc y nL ret) {index : Nat} {v : Int32} (w : Jvm.Cond.constant y.cls index v ∈ zz_all) (d : decode cc pc = .ok (.ldc index, 2)) (k : X p l e R s m args below meth c cells slots Q nL G L b S (pc + 2) lv (.int v :: st)) : X p l e R s m args below meth c cells slots Q nL G L b S pc lv st := fun H locs ls h1 h2 h3 => lv_ldc C.1 C.2.1 C.2.2.2.1 (C.2.2.2.2.1 _ w) d (k H locs ls h1 h2 h3)
theorem x_ldcw (C : CX p G s m args meth c cc y nL ret) {index : Nat} {v : Int32} (w : Jvm.Cond.constant y.cls index v ∈ zz_all) (d : decode cc pc = .ok (.ldc_w index, 3)) (k : X p l e R s m args below meth c cells slots Q nL G L b S (pc + 3) lv (.int v :: st)) : X p l e R s m args below meth c cells slots Q nL G L b S pc lv st := fun H locs ls h1 h2 h3 => lv_ldcw C.1 C.2.1 C.2.2.2.1 (C.2.2.2.2.1 _ w) d (k H locs ls h1 h2 h3)
theorem x_ldc2 (C : CX p G s m args meth c cc y nL ret) {index : Nat} {v : Int64} (w : Jvm.Cond.constantLong y.cls index v ∈ zz_all) (d : decode cc pc = .ok (.ldc2_w index, 3)) (k : X p l e R s m args below meth c cells slots Q nL G L b S (pc + 3) lv (.long v :: st)) : X p l e R s m args below meth c cells slots Q nL G L b S pc lv st := fun H locs ls h1 h2 h3 => lv_ldc2 C.1 C.2.1 C.2.2.2.1 (C.2.2.2.2.1 _ w) d (k H locs ls h1 h2 h3)
-- fields
theorem x_getv (C : CX p G s m args meth c cc y nL ret) {o ci k N index : Nat} {T : u_T} {D n t : String} {ks : List Nat} {fin : Bool} (hL : L.2 o = some (0, ci, ks)) (hc : classes[ci]? = some (D, T, N)) (hk : k < N) (hT : T k = (D, n, t, fin)) (w : Cond.fieldLink y.cls index D n t ∈ zz_all) (d : decode cc pc = .ok (.getfield index, 3)) {v : Value} (hv : obV b S o ks k = v)
    (kk : X p l e R s m args below meth c cells slots Q nL G L b S (pc + 3) lv (v :: st)) : X p l e R s m args below meth c cells slots Q nL G L b S pc lv (.ref (b + o) :: st) := by
  intro H locs ls h1 h2 h3
  obtain ⟨r, g1, cell, q1, q2, q3, q4⟩ := h1.2 o _ hL
  have hr : r = (D, T, N) := Option.some.inj (g1.symm.trans hc)
  subst hr
  obtain ⟨hx, hb, hml, hown, hts, hK, -⟩ := C
  obtain ⟨hS, hfc, kC, hkC, hkind⟩ := hK.1.1 ci _ hc
  obtain ⟨cf, kf, fi, f, hi, hsl⟩ := hS k hk
  have hfac := u_facts hfc hkC (u_lays hts (cls_in ci _ hc) hk) hi
  rw [show (D, T, N).2.1 = T from rfl, hT] at hi
  refine W.getf hx hb hown (hts _ w) hi hfac.1 q1 (by rw [q3]; exact fun h => by cases h) (v := v) ?_ rfl rfl d (kk H locs ls h1 h2 h3)
  rw [hsl, q4 k hk, hv]
theorem x_geti (C : CX p G s m args meth c cc y nL ret) {o ci k N index : Nat} {T : u_T} {D n t : String} {ks : List Nat} {fin : Bool} (hL : L.2 o = some (0, ci, ks)) (hc : classes[ci]? = some (D, T, N)) (hT : T k = (D, n, t, fin)) (w : Cond.fieldLink y.cls index D n t ∈ zz_all) (d : decode cc pc = .ok (.getfield index, 3)) (hk : k < N ∧ ks.getD k 2 = 0)
    (kk : X p l e R s m args below meth c cells slots Q nL G L b S (pc + 3) lv (.int (S.1 o k) :: st)) : X p l e R s m args below meth c cells slots Q nL G L b S pc lv (.ref (b + o) :: st) :=
  x_getv C hL hc hk.1 hT w d (v := .int (S.1 o k)) (by unfold obV; rw [hk.2]; rfl) kk
theorem x_getj (C : CX p G s m args meth c cc y nL ret) {o ci k N index : Nat} {T : u_T} {D n t : String} {ks : List Nat} {fin : Bool} (hL : L.2 o = some (0, ci, ks)) (hc : classes[ci]? = some (D, T, N)) (hT : T k = (D, n, t, fin)) (w : Cond.fieldLink y.cls index D n t ∈ zz_all) (d : decode cc pc = .ok (.getfield index, 3)) (hk : k < N ∧ ks.getD k 2 = 1)
    (kk : X p l e R s m args below meth c cells slots Q nL G L b S (pc + 3) lv (.long (S.2 o k) :: st)) : X p l e R s m args below meth c cells slots Q nL G L b S pc lv (.ref (b + o) :: st) :=
  x_getv C hL hc hk.1 hT w d (v := .long (S.2 o k)) (by unfold obV; rw [hk.2]; rfl) kk
theorem x_getr (C : CX p G s m args meth c cc y nL ret) {o ci k N index : Nat} {T : u_T} {D n t : String} {ks : List Nat} {fin : Bool} (r : Nat) (hL : L.2 o = some (0, ci, ks)) (hc : classes[ci]? = some (D, T, N)) (hT : T k = (D, n, t, fin)) (w : Cond.fieldLink y.cls index D n t ∈ zz_all) (d : decode cc pc = .ok (.getfield index, 3)) (hk : k < N) (hr : ks.getD k 2 = r + 3)
    (kk : X p l e R s m args below meth c cells slots Q nL G L b S (pc + 3) lv (.ref (b + r) :: st)) : X p l e R s m args below meth c cells slots Q nL G L b S pc lv (.ref (b + o) :: st) :=
  x_getv C hL hc hk hT w d (v := .ref (b + r)) (by unfold obV; rw [hr]; rfl) kk
theorem zz_apart {ci : Nat} {D : String} {T : u_T} {N : Nat} (hts : ∀ w ∈ zz_all, w.before args s = true) (hK : zz_K G s) (hc : classes[ci]? = some (D, T, N)) : ∀ x y, x < N → y < N → x ≠ y → (G.1.2 ci) x ≠ (G.1.2 ci) y := by
  refine va_apart (own := "") hts (cls_in ci _ hc) (fun k => (parseFieldDescriptor (T k).2.2.1).getD .int) (fun k hk => ?_) (fun a ha b hb h => (cls_nm ci _ hc a ha b hb).1 h) hK.1 hc
  have := (cls_nm ci _ hc k hk k hk).2
  cases h : parseFieldDescriptor (T k).2.2.1 with
  | none => rw [show (D, T, N).2.1 = T from rfl] at this; rw [h] at this; cases this
  | some x => rfl
theorem x_putv (C : CX p G s m args meth c cc y nL ret) {o ci k N index : Nat} {T : u_T} {D n t : String} {ks : List Nat} {ty : FieldType} {v : Value} {S' : Sg} (hL : L.2 o = some (0, ci, ks)) (hc : classes[ci]? = some (D, T, N)) (hk : k < N) (hT : T k = (D, n, t, false)) (w : Cond.fieldLink y.cls index D n t ∈ zz_all) (d : decode cc pc = .ok (.putfield index, 3)) (hd : parseFieldDescriptor t = some ty) (hn : narrow ty v = v) (hf : fits ty v = true)
    (hv : ∀ j, obV b S' o ks j = if j = k then v else obV b S o ks j) (ho : ∀ o', o' ≠ o → S'.1 o' = S.1 o' ∧ S'.2 o' = S.2 o')
    (kk : X p l e R s m args below meth c cells slots Q nL G L b S' (pc + 3) lv st) : X p l e R s m args below meth c cells slots Q nL G L b S pc lv (v :: .ref (b + o) :: st) := by
  intro H locs ls h1 h2 h3
  obtain ⟨r, g1, cell, q1, q2, q3, q4⟩ := h1.2 o _ hL
  have hr : r = (D, T, N) := Option.some.inj (g1.symm.trans hc)
  subst hr
  have hap := zz_apart C.2.2.2.2.1 C.2.2.2.2.2.1 hc
  obtain ⟨hx, hb, hml, hown, hts, hK, -⟩ := C
  obtain ⟨hS, hfc, kC, hkC, hkind⟩ := hK.1.1 ci _ hc
  obtain ⟨cf, kf, fi, f, hi, hsl⟩ := hS k hk
  have hlay := hts _ (cls_in ci _ hc _ (u_in_lay hk))
  unfold u_lay at hlay
  rw [show (D, T, N).2.1 = T from rfl, hT, if_neg (show ¬ (false = true) by decide)] at hlay
  have hst := (u_facts hfc hkC (u_lays hts (cls_in ci _ hc) hk) hi).1
  rw [show (D, T, N).2.1 = T from rfl, hT] at hi
  have h6 := u_store hfc hkC hkind hlay hi hd hn hf
  refine W.putK hx hb (f := f) ⟨hown, hts _ w, ⟨_, _, _, hi⟩, hst⟩ (by rw [q2]; exact h6) q1 q3 (by rw [hsl]; exact k2_hasslot (q4 k hk)) rfl rfl d fun H' e1 e2 e3 => ?_
  rw [hsl] at e1 ⊢
  refine kk H' _ ls (h1.put hL ⟨_, hc, t_OB.to (V := updV (obV b S o ks) k v) ⟨_, e1, q2, q3, t_set q4 hap hk v⟩ (fun j _ => ?_)⟩ e2 e3 ho) (h2.put e2 e3 (Nat.le_add_right b o)) h3
  rw [hv j]
  rfl
theorem x_puti (C : CX p G s m args meth c cc y nL ret) {o ci k N index : Nat} {T : u_T} {D n : String} {ks : List Nat} {v : Int32} {S' : Sg} (hL : L.2 o = some (0, ci, ks)) (hc : classes[ci]? = some (D, T, N)) (hT : T k = (D, n, "I", false)) (w : Cond.fieldLink y.cls index D n "I" ∈ zz_all) (d : decode cc pc = .ok (.putfield index, 3)) (hk : k < N ∧ ks.getD k 2 = 0) (hS' : S' = setI S o k v)
    (kk : X p l e R s m args below meth c cells slots Q nL G L b S' (pc + 3) lv st) : X p l e R s m args below meth c cells slots Q nL G L b S pc lv (.int v :: .ref (b + o) :: st) := by
  subst hS'
  refine x_putv C hL hc hk.1 hT w d (ty := .int) (by decide +kernel) rfl rfl (fun j => ?_) (fun o' h => setI_o h) kk
  by_cases e : j = k
  · rw [if_pos e, e]
    unfold obV
    rw [hk.2]
    show Value.int (if o = o ∧ k = k then v else _) = _
    rw [if_pos ⟨rfl, rfl⟩]
  · rw [if_neg e]
    unfold obV
    match ks.getD j 2 with
    | 0 => show Value.int (if o = o ∧ j = k then v else _) = _; rw [if_neg (fun q => e q.2)]; rfl
    | 1 => rfl
    | 2 => rfl
    | r + 3 => rfl
theorem x_putz (C : CX p G s m args meth c cc y nL ret) {o ci k N index : Nat} {T : u_T} {D n : String} {ks : List Nat} {v : Int32} {S' : Sg} (hL : L.2 o = some (0, ci, ks)) (hc : classes[ci]? = some (D, T, N)) (hT : T k = (D, n, "Z", false)) (w : Cond.fieldLink y.cls index D n "Z" ∈ zz_all) (d : decode cc pc = .ok (.putfield index, 3)) (hk : k < N ∧ ks.getD k 2 = 0) (hb : isb v = true) (hS' : S' = setI S o k v)
    (kk : X p l e R s m args below meth c cells slots Q nL G L b S' (pc + 3) lv st) : X p l e R s m args below meth c cells slots Q nL G L b S pc lv (.int v :: .ref (b + o) :: st) := by
  subst hS'
  have hv : v = 0 ∨ v = 1 := of_decide_eq_true hb
  refine x_putv C hL hc hk.1 hT w d (ty := .boolean) (by decide +kernel) (by rcases hv with rfl | rfl <;> rfl) (by rcases hv with rfl | rfl <;> rfl) (fun j => ?_) (fun o' h => setI_o h) kk
  by_cases e : j = k
  · rw [if_pos e, e]
    unfold obV
    rw [hk.2]
    show Value.int (if o = o ∧ k = k then v else _) = _
    rw [if_pos ⟨rfl, rfl⟩]
  · rw [if_neg e]
    unfold obV
    match ks.getD j 2 with
    | 0 => show Value.int (if o = o ∧ j = k then v else _) = _; rw [if_neg (fun q => e q.2)]; rfl
    | 1 => rfl
    | 2 => rfl
    | r + 3 => rfl
theorem x_putj (C : CX p G s m args meth c cc y nL ret) {o ci k N index : Nat} {T : u_T} {D n : String} {ks : List Nat} {v : Int64} {S' : Sg} (hL : L.2 o = some (0, ci, ks)) (hc : classes[ci]? = some (D, T, N)) (hT : T k = (D, n, "J", false)) (w : Cond.fieldLink y.cls index D n "J" ∈ zz_all) (d : decode cc pc = .ok (.putfield index, 3)) (hk : k < N ∧ ks.getD k 2 = 1) (hS' : S' = setJ S o k v)
    (kk : X p l e R s m args below meth c cells slots Q nL G L b S' (pc + 3) lv st) : X p l e R s m args below meth c cells slots Q nL G L b S pc lv (.long v :: .ref (b + o) :: st) := by
  subst hS'
  refine x_putv C hL hc hk.1 hT w d (ty := .long) (by decide +kernel) rfl rfl (fun j => ?_) (fun o' h => setJ_o h) kk
  by_cases e : j = k
  · rw [if_pos e, e]
    unfold obV
    rw [hk.2]
    show Value.long (if o = o ∧ k = k then v else _) = _
    rw [if_pos ⟨rfl, rfl⟩]
  · rw [if_neg e]
    unfold obV
    match ks.getD j 2 with
    | 0 => rfl
    | 1 => show Value.long (if o = o ∧ j = k then v else _) = _; rw [if_neg (fun q => e q.2)]; rfl
    | 2 => rfl
    | r + 3 => rfl
-- arrays
theorem zz_ai (C : CX p G s m args meth c cc y nL ret) : ArrOfT s G.2.1 .int := (C.2.2.2.2.2.1.1.2 0 _ rfl).1
theorem zz_aj (C : CX p G s m args meth c cc y nL ret) : ArrOfT s G.2.2.1 .long := (C.2.2.2.2.2.1.1.2 1 _ rfl).1
theorem zz_aii (C : CX p G s m args meth c cc y nL ret) : ArrOfT s G.2.2.2.1 (.array .int) := (C.2.2.2.2.2.1.1.2 2 _ rfl).1
theorem zz_ajj (C : CX p G s m args meth c cc y nL ret) : ArrOfT s G.2.2.2.2 (.array .long) := (C.2.2.2.2.2.1.1.2 3 _ rfl).1
theorem x_iaload (C : CX p G s m args meth c cc y nL ret) {o n : Nat} {ks : List Nat} {i : Int32} (hL : L.2 o = some (1, n, ks)) (hin : inb i n = true) (d : decode cc pc = .ok (.iaload, 1))
    (kk : X p l e R s m args below meth c cells slots Q nL G L b S (pc + 1) lv (.int (S.1 o (ix i)) :: st)) : X p l e R s m args below meth c cells slots Q nL G L b S pc lv (.int i :: .ref (b + o) :: st) := by
  intro H locs ls h1 h2 h3
  have hin := inb_vp hin
  have hlt : i.toNatClampNeg < n := Nat.not_le.mp fun q => hin (Or.inr q)
  exact W.iald (v := .int (S.1 o (ix i))) C.1 C.2.1 (h1.2 o _ hL) (zz_ai C n (fun j => .int (S.1 o j))) (fun q => by cases q) (by show ¬ (i < 0 ∨ (arrV _ _ _).slots.size ≤ _); rw [arrV_size]; exact hin) (by show (arrV _ _ _).slots[_]? = _; rw [arrV_read _ _ hlt]; rfl) rfl rfl d (kk H locs ls h1 h2 h3)
theorem x_laload (C : CX p G s m args meth c cc y nL ret) {o n : Nat} {ks : List Nat} {i : Int32} (hL : L.2 o = some (2, n, ks)) (hin : inb i n = true) (d : decode cc pc = .ok (.laload, 1))
    (kk : X p l e R s m args below meth c cells slots Q nL G L b S (pc + 1) lv (.long (S.2 o (ix i)) :: st)) : X p l e R s m args below meth c cells slots Q nL G L b S pc lv (.int i :: .ref (b + o) :: st) := by
  intro H locs ls h1 h2 h3
  have hin := inb_vp hin
  have hlt : i.toNatClampNeg < n := Nat.not_le.mp fun q => hin (Or.inr q)
  exact W.lald (v := .long (S.2 o (ix i))) C.1 C.2.1 (h1.2 o _ hL) (zz_aj C n (fun j => .long (S.2 o j))) (fun q => by cases q) (by show ¬ (i < 0 ∨ (arrV _ _ _).slots.size ≤ _); rw [arrV_size]; exact hin) (by show (arrV _ _ _).slots[_]? = _; rw [arrV_read _ _ hlt]; rfl) rfl rfl d (kk H locs ls h1 h2 h3)
theorem x_aaloadI (C : CX p G s m args meth c cc y nL ret) {o n f : Nat} {i : Int32} (hL : L.2 o = some (3, n, [f])) (hin : inb i n = true) (d : decode cc pc = .ok (.aaload, 1))
    (kk : X p l e R s m args below meth c cells slots Q nL G L b S (pc + 1) lv (.ref (b + (f + ix i)) :: st)) : X p l e R s m args below meth c cells slots Q nL G L b S pc lv (.int i :: .ref (b + o) :: st) := by
  intro H locs ls h1 h2 h3
  have hin := inb_vp hin
  have hlt : i.toNatClampNeg < n := Nat.not_le.mp fun q => hin (Or.inr q)
  exact W.aald (v := .ref (b + (f + ix i))) (ty := .array .int) C.1 C.2.1 (h1.2 o _ hL) (zz_aii C n (fun j => .ref (b + (f + j)))) rfl (fun q => by cases q) (by show ¬ (i < 0 ∨ (arrV _ _ _).slots.size ≤ _); rw [arrV_size]; exact hin) (by show (arrV _ _ _).slots[_]? = _; rw [arrV_read _ _ hlt]; rfl) rfl rfl d (kk H locs ls h1 h2 h3)
theorem x_aaloadJ (C : CX p G s m args meth c cc y nL ret) {o n f : Nat} {i : Int32} (hL : L.2 o = some (4, n, [f])) (hin : inb i n = true) (d : decode cc pc = .ok (.aaload, 1))
    (kk : X p l e R s m args below meth c cells slots Q nL G L b S (pc + 1) lv (.ref (b + (f + ix i)) :: st)) : X p l e R s m args below meth c cells slots Q nL G L b S pc lv (.int i :: .ref (b + o) :: st) := by
  intro H locs ls h1 h2 h3
  have hin := inb_vp hin
  have hlt : i.toNatClampNeg < n := Nat.not_le.mp fun q => hin (Or.inr q)
  exact W.aald (v := .ref (b + (f + ix i))) (ty := .array .long) C.1 C.2.1 (h1.2 o _ hL) (zz_ajj C n (fun j => .ref (b + (f + j)))) rfl (fun q => by cases q) (by show ¬ (i < 0 ∨ (arrV _ _ _).slots.size ≤ _); rw [arrV_size]; exact hin) (by show (arrV _ _ _).slots[_]? = _; rw [arrV_read _ _ hlt]; rfl) rfl rfl d (kk H locs ls h1 h2 h3)
theorem x_alenI (C : CX p G s m args meth c cc y nL ret) {o n : Nat} {ks : List Nat} {v : Int32} (hL : L.2 o = some (1, n, ks)) (hv : Int32.ofNat n = v) (d : decode cc pc = .ok (.arraylength, 1))
    (kk : X p l e R s m args below meth c cells slots Q nL G L b S (pc + 1) lv (.int v :: st)) : X p l e R s m args below meth c cells slots Q nL G L b S pc lv (.ref (b + o) :: st) := by
  intro H locs ls h1 h2 h3
  subst hv
  exact W.alen (n := Int32.ofNat n) C.1 C.2.1 (h1.2 o _ hL) (zz_ai C n (fun j => .int (S.1 o j))) (by rw [arrV_size] <;> rfl) rfl rfl d (kk H locs ls h1 h2 h3)
theorem x_iastore (C : CX p G s m args meth c cc y nL ret) {o n : Nat} {ks : List Nat} {i v : Int32} {S' : Sg} (hL : L.2 o = some (1, n, ks)) (hin : inb i n = true) (hS' : S' = setI S o (ix i) v) (d : decode cc pc = .ok (.iastore, 1))
    (kk : X p l e R s m args below meth c cells slots Q nL G L b S' (pc + 1) lv st) : X p l e R s m args below meth c cells slots Q nL G L b S pc lv (.int v :: .int i :: .ref (b + o) :: st) := by
  subst hS'
  intro H locs ls h1 h2 h3
  have hin := inb_vp hin
  refine W.iast C.1 C.2.1 (h1.2 o _ hL) (zz_ai C n (fun j => .int (S.1 o j))) (fun q => by cases q) (by show ¬ (i < 0 ∨ (arrV _ _ _).slots.size ≤ _); rw [arrV_size]; exact hin) rfl rfl d fun H1 e z oq => ?_
  refine kk H1 _ ls (h1.put hL ?_ z oq (fun o' h => setI_o h)) (h2.put z oq (Nat.le_add_right b o)) h3
  show H1[b + o]? = some (arrV _ _ _)
  rw [e, arrV_store]
  congr 2
  funext q
  show (if q = i.toNatClampNeg then Value.int v else .int (S.1 o q)) = .int (if o = o ∧ q = ix i then v else S.1 o q)
  by_cases hq : q = i.toNatClampNeg
  · rw [if_pos hq, if_pos ⟨rfl, hq⟩]
  · rw [if_neg hq, if_neg (fun z => hq z.2)]
theorem x_lastore (C : CX p G s m args meth c cc y nL ret) {o n : Nat} {ks : List Nat} {i : Int32} {v : Int64} {S' : Sg} (hL : L.2 o = some (2, n, ks)) (hin : inb i n = true) (hS' : S' = setJ S o (ix i) v) (d : decode cc pc = .ok (.lastore, 1))
    (kk : X p l e R s m args below meth c cells slots Q nL G L b S' (pc + 1) lv st) : X p l e R s m args below meth c cells slots Q nL G L b S pc lv (.long v :: .int i :: .ref (b + o) :: st) := by
  subst hS'
  intro H locs ls h1 h2 h3
  have hin := inb_vp hin
  refine W.last C.1 C.2.1 (h1.2 o _ hL) (zz_aj C n (fun j => .long (S.2 o j))) (fun q => by cases q) (by show ¬ (i < 0 ∨ (arrV _ _ _).slots.size ≤ _); rw [arrV_size]; exact hin) rfl rfl d fun H1 e z oq => ?_
  refine kk H1 _ ls (h1.put hL ?_ z oq (fun o' h => setJ_o h)) (h2.put z oq (Nat.le_add_right b o)) h3
  show H1[b + o]? = some (arrV _ _ _)
  rw [e, arrV_store]
  congr 2
  funext q
  show (if q = i.toNatClampNeg then Value.long v else .long (S.2 o q)) = .long (if o = o ∧ q = ix i then v else S.2 o q)
  by_cases hq : q = i.toNatClampNeg
  · rw [if_pos hq, if_pos ⟨rfl, hq⟩]
  · rw [if_neg hq, if_neg (fun z => hq z.2)]
-- returns
theorem zz_end (C : CX p G s m args meth c cc y nL ret) {H : Heap} {locs : List Loc} {r : Option Value} {ex : Prop} (he : ex) (h1 : HM G L b S H) (h2 : va_S (fun q => b ≤ q) s.heap H locs) : ∀ t : State, t.heap = H → s.WarmedH t.vm → QC G L b S r ex args s (.returned r) t := fun t ht hW => ⟨rfl, he, by rw [ht]; exact h1, by show s.heap.size ≤ t.heap.size; rw [ht]; exact h2.1, fun q hq hA => by rw [ht]; exact h2.2.1 q hq hA⟩
theorem x_ireturn (C : CX p G s m args meth c cc y nL (some .int)) {S' : Sg} {v r : Int32} (d : decode cc pc = .ok (.ireturn, 1)) (hv : v = r) (hS : S = S') : X p l e R s m args below meth c cells slots (MQ below (QC G L b S' (some (.int r)) True) args s cells slots (fun q => b ≤ q)) nL G L b S pc lv [.int v] := by
  subst hv; subst hS
  intro H locs ls h1 h2 h3
  exact W.iret C.1 C.2.1 C.2.2.2.2.2.2.2.1 (zz_end C trivial h1 h2) h2.2.2 d C.2.2.2.2.2.2.1
theorem x_zreturn (C : CX p G s m args meth c cc y nL (some .boolean)) {S' : Sg} {v r : Int32} (hb : v = 0 ∨ v = 1) (d : decode cc pc = .ok (.ireturn, 1)) (hv : v = r) (hS : S = S') : X p l e R s m args below meth c cells slots (MQ below (QC G L b S' (some (.int r)) (r = 0 ∨ r = 1)) args s cells slots (fun q => b ≤ q)) nL G L b S pc lv [.int v] := by
  subst hv; subst hS
  intro H locs ls h1 h2 h3
  exact W.zret C.1 C.2.1 C.2.2.2.2.2.2.2.1 (by rcases hb with rfl | rfl <;> rfl) (zz_end C hb h1 h2) h2.2.2 d C.2.2.2.2.2.2.1
theorem x_lreturn (C : CX p G s m args meth c cc y nL (some .long)) {S' : Sg} {v r : Int64} (d : decode cc pc = .ok (.lreturn, 1)) (hv : v = r) (hS : S = S') : X p l e R s m args below meth c cells slots (MQ below (QC G L b S' (some (.long r)) True) args s cells slots (fun q => b ≤ q)) nL G L b S pc lv [.long v] := by
  subst hv; subst hS
  intro H locs ls h1 h2 h3
  exact W.lret C.1 C.2.1 C.2.2.2.2.2.2.2.1 (zz_end C trivial h1 h2) h2.2.2 d C.2.2.2.2.2.2.1
theorem x_vreturn (C : CX p G s m args meth c cc y nL none) {S' : Sg} (d : decode cc pc = .ok (.return_, 1)) (hS : S = S') : X p l e R s m args below meth c cells slots (MQ below (QC G L b S' none True) args s cells slots (fun q => b ≤ q)) nL G L b S pc lv [] := by
  subst hS
  intro H locs ls h1 h2 h3
  exact W.vret C.1 C.2.1 C.2.2.2.2.2.2.2.1 (zz_end C trivial h1 h2) h2.2.2 d C.2.2.2.2.2.2.1
end ZX
end
section
-- a method's contract out of a walk of its body
theorem x_met {l : Launch} {y : MethodName} {cc : ByteArray} {nL : Nat} {ret : Option FieldType} {rm : Room} {G : zz_G} {L : Ly} {b : Nat} {S : Sg} {Qc : Array Value → State → Outcome → State → Prop} {mc ms : Nat} (av : List Value) (hy : plainName y.cls = true) (hn : (lg_sl av).length ≤ nL)
    (body : ∀ (p : Program) (e : Env) (s : State) (m : MethodId) (args : Array Value) (below : List Frame) (meth : Method) (c : Code), CX p G s m args meth c cc y nL ret → X p l e rm s m args below meth c 0 0 (MQ below Qc args s mc ms (fun q => b ≤ q)) nL G L b S 0 (lv_args 0 av) []) :
    Met l y (Cond.code y cc nL ret :: zz_all) rm (PC G L b S av) Qc mc ms (fun q => b ≤ q) := by
  refine Met.ofW (cc := cc) (maxL := nL) (ret := ret) hy rfl ?_
  intro p e s m args below meth c s₁ B hml hv
  obtain ⟨rfl, hM, hK⟩ := hv
  have hts := atoms_spec (ws := Cond.code y cc nL ret :: zz_all) B.pre
  have hCX : CX p G s m av.toArray meth c cc y nL ret := ⟨B.exec, B.bytes, hml, findClass_of_methodNamed B.named, fun w hw => hts w (List.mem_cons_of_mem _ hw), hK, B.notSynchronized, B.returns, (name_of_methodNamed B.named B.method).1⟩
  rw [lg_entry_eq]
  exact body p e s m av.toArray below meth c hCX s.heap [] _ hM va_S.rf (lv_entry av hn)
theorem PC.blind {G : zz_G} {L : Ly} {b : Nat} {S : Sg} {av : List Value} : FrameBlind (PC G L b S av) := fun a U g mk q => ⟨q.1, q.2.1, q.2.2.same rfl⟩
/-- what a call's row asks of the words -/
def zz_cw (own : String) (idx : Nat) (y : MethodName) (cc : ByteArray) (nL : Nat) (ret : Option FieldType) (n : Nat) : Prop :=
  Cond.methodLink own idx y ∈ zz_all ∧ Cond.code y cc nL ret ∈ zz_all ∧ Cond.initialized y.cls ∈ zz_all ∧ (y.cls ≠ "java/lang/invoke/MethodHandle" ∧ y.cls ≠ "java/lang/invoke/VarHandle") ∧ (parseMethodDescriptor y.desc).map (fun d => d.parameters.length) = some n
def zz_cn (own : String) (idx : Nat) (y : MethodName) (cc : ByteArray) (nL : Nat) (ret : Option FieldType) (n : Nat) (host : String) : Prop :=
  (own, idx, y, host) ∈ zz_nest ∧ Cond.code y cc nL ret ∈ zz_all ∧ Cond.initialized y.cls ∈ zz_all ∧ (y.cls ≠ "java/lang/invoke/MethodHandle" ∧ y.cls ≠ "java/lang/invoke/VarHandle") ∧ (parseMethodDescriptor y.desc).map (fun d => d.parameters.length) = some n
def zz_fit (R rm : Room) (mc ms nL : Nat) : Prop := rm.cells = mc ∧ rm.slots = ms ∧ rm.frames + 1 ≤ R.frames ∧ 8 + (nL + 11) + rm.locals ≤ R.locals
section ZC
variable {p : Program} {l : Launch} {e : Env} {R : Room} {s : State} {m : MethodId} {args : Array Value} {below : List Frame} {meth : Method} {c : Code} {cells slots : Nat} {Q : State → Prop} {nL : Nat} {G : zz_G} {L : Ly} {b : Nat} {S : Sg} {pc : Nat} {lv : List (Nat × Value)} {st : List Value} {cc : ByteArray} {y : MethodName} {ret : Option FieldType}
variable {H : Heap} {locs : List Loc}
theorem zz_len {y2 : MethodName} {n : Nat} (h : (parseMethodDescriptor y2.desc).map (fun d => d.parameters.length) = some n) : ∀ sig, parseMethodDescriptor y2.desc = some sig → n = sig.parameters.length := by
  intro sig hs
  rw [hs] at h
  exact (Option.some.inj h).symm
theorem zz_callB (C : CX p G s m args meth c cc y nL ret) {idx n2 k mc ms : Nat} {y2 : MethodName} {c2 : ByteArray} {r2 : Option FieldType} {rm : Room} (w : zz_cw y.cls idx y2 c2 n2 r2 k) (hr : zz_fit R rm mc ms n2) : CallB R s args y.cls idx y2 c2 n2 r2 (Cond.code y2 c2 n2 r2 :: zz_all) rm mc ms k := by
  obtain ⟨w1, w2, w3, w4, w5⟩ := w
  obtain ⟨r1, r2', r3, r4⟩ := hr
  have ht := C.2.2.2.2.1
  exact ⟨r1, r2', r3, r4, pay_in ht (zz_good w2 (fun _ h => h)), List.mem_cons_self, ht _ w2, ht _ w3, w4, zz_len w5, ht _ w1⟩
theorem zz_callN (C : CX p G s m args meth c cc y nL ret) {idx n2 k mc ms : Nat} {y2 : MethodName} {c2 : ByteArray} {r2 : Option FieldType} {rm : Room} {host : String} (w : zz_cn y.cls idx y2 c2 n2 r2 k host) (hr : zz_fit R rm mc ms n2) : va_CN R s args y.cls idx y2 host c2 n2 r2 (Cond.code y2 c2 n2 r2 :: zz_all) rm mc ms k := by
  obtain ⟨w1, w2, w3, w4, w5⟩ := w
  obtain ⟨r1, r2', r3, r4⟩ := hr
  have ht := C.2.2.2.2.1
  exact ⟨⟨r1, r2', r3, r4, pay_in ht (zz_good w2 (fun _ h => h)), List.mem_cons_self⟩, ht _ w2, ht _ w3, w4, zz_len w5, va_Nw.use rfl (C.2.2.2.2.2.1.2 _ w1)⟩
theorem zz_fix (C : CX p G s m args meth c cc y nL ret) : CallFix p m c cc nL s args zz_all y.cls := ⟨C.1, C.2.1, C.2.2.1, C.2.2.2.1, C.2.2.2.2.1⟩
/-- what goes on behind a call -/
theorem zz_back {mc ms : Nat} {L' : Ly} {S' : Sg} {v : Option Value} {ex : Prop} {a : Array Value} {ls : Array Slot} {st0 rest : List Value} (hr : va_Run p l e R s m args below meth c H locs cells slots mc ms (F0 m pc ls st0) rest (QC G L' b S' v ex a) (fun q => b ≤ q)) (h2 : va_S (fun q => b ≤ q) s.heap H locs) (h3 : lv_has ls nL lv)
    (kk : ex → X p l e R s m args below meth c (cells + mc) (slots + ms) Q nL G L' b S' (pc + 3) lv (v.toList ++ rest)) : W p l e R s m args below meth c H locs cells slots Q (F0 m pc ls st0) := by
  intro T hT Y
  obtain ⟨v', st₀, t, T', Ls, h0, Y', hL, e1, e2, ⟨hv, hex, hM, hz, hk⟩, stp⟩ := hr T hT Y
  have hv := Outcome.returned.inj hv
  subst hv
  rw [h0] at hz hk
  obtain ⟨t2, a1, b1⟩ := kk hex T'.heap (locs ++ Ls) ls (by rw [e1]; exact hM) ⟨Nat.le_trans h2.1 (by rw [e1]; exact hz), fun q g1 g2 => by rw [e1, hk q (Nat.lt_of_lt_of_le g1 h2.1) g2]; exact h2.2.1 q g1 g2, fun q hq => by
      rcases List.mem_append.mp hq with h | h
      · exact h2.2.2 q h
      · exact hL q h⟩ h3 T' rfl Y'
  exact ⟨t2, stp t2 a1, b1⟩
theorem x_callV (C : CX p G s m args meth c cc y nL ret) {y2 : MethodName} {c2 : ByteArray} {r2 : Option FieldType} {rm : Room} {o k n2 idx mc ms : Nat} {L' : Ly} {S' : Sg} {v : Option Value} {ex : Prop} {sh : Sh} {q : vw_C} (As rest : List Value) (hM : Met l y2 (Cond.code y2 c2 n2 r2 :: zz_all) rm (PC G L b S (.ref (b + o) :: As)) (QC G L' b S' v ex) mc ms (fun q => b ≤ q))
    (w : zz_cw y.cls idx y2 c2 n2 r2 k) (ws : Cond.instanceMethod y2 ∈ zz_all ∧ Cond.selects y2.cls y2 y2 ∈ zz_all) (hr : zz_fit R rm mc ms n2) (hc : cells + mc ≤ R.cells ∧ slots + ms ≤ R.slots) (hL : L.2 o = some sh) (hq : sh.1 = 0 ∧ classes[sh.2.1]? = some q ∧ q.1 = y2.cls) (hst : st = As.reverse ++ .ref (b + o) :: rest) (hk : As.length = k ∧ (rest.map fun v => v.category).sum ≤ 8) (d : decode cc pc = .ok (.invokevirtual idx, 3))
    (kk : ex → X p l e R s m args below meth c (cells + mc) (slots + ms) Q nL G L' b S' (pc + 3) lv (v.toList ++ rest)) : X p l e R s m args below meth c cells slots Q nL G L b S pc lv st := by
  subst hst
  intro H locs ls h1 h2 h3
  refine zz_back (va_runV (C := y2.cls) (As := As) (rest := rest) (zz_fix C) hM ⟨zz_callB C w hr, C.2.2.2.2.1 _ ws.1, C.2.2.2.2.1 _ ws.2⟩ ⟨PC.blind, ?_, fun U hU hW => ⟨rfl, by rw [hU]; exact h1, C.2.2.2.2.2.1.warm hW⟩⟩ rfl hk.1 h3.1 rfl (lv_room hk.2) d hc) h2 h3 kk
  obtain ⟨t, ci, ks⟩ := sh
  obtain ⟨rfl, hc1, hc2⟩ := hq
  obtain ⟨r, g1, cell, q1, q2, q3, -⟩ := h1.2 o _ hL
  cases g1.symm.trans hc1
  exact ⟨cell, q1, by rw [q3]; rfl, by rw [q2, ← hc2]; exact (C.2.2.2.2.2.1.1.1 ci _ hc1).2.1⟩
theorem x_callS (C : CX p G s m args meth c cc y nL ret) {y2 : MethodName} {c2 : ByteArray} {r2 : Option FieldType} {rm : Room} {k n2 idx : Nat} {S' : Sg} {v : Option Value} {ex : Prop} (As rest : List Value) (hM : Met l y2 (Cond.code y2 c2 n2 r2 :: zz_all) rm (PC G L b S As) (QC G L b S' v ex) 0 0 (fun q => b ≤ q))
    (w : zz_cw y.cls idx y2 c2 n2 r2 k) (ws : Cond.static y2 ∈ zz_all) (hr : zz_fit R rm 0 0 n2) (hc : cells + 0 ≤ R.cells ∧ slots + 0 ≤ R.slots) (hst : st = As.reverse ++ rest) (hk : As.length = k ∧ (rest.map fun v => v.category).sum ≤ 8) (d : decode cc pc = .ok (.invokestatic idx, 3))
    (kk : ex → X p l e R s m args below meth c (cells + 0) (slots + 0) Q nL G L b S' (pc + 3) lv (v.toList ++ rest)) : X p l e R s m args below meth c cells slots Q nL G L b S pc lv st := by
  subst hst
  intro H locs ls h1 h2 h3
  exact zz_back (va_runS (As := As) (rest := rest) (zz_fix C) hM ⟨zz_callB C w hr, C.2.2.2.2.1 _ ws⟩ ⟨PC.blind, fun U hU hW => ⟨rfl, by rw [hU]; exact h1, C.2.2.2.2.2.1.warm hW⟩⟩ rfl hk.1 h3.1 rfl (lv_room hk.2) d hc) h2 h3 kk
theorem x_callSN (C : CX p G s m args meth c cc y nL ret) {y2 : MethodName} {c2 : ByteArray} {r2 : Option FieldType} {rm : Room} {k n2 idx : Nat} {S' : Sg} {v : Option Value} {ex : Prop} {host : String} (As rest : List Value) (hM : Met l y2 (Cond.code y2 c2 n2 r2 :: zz_all) rm (PC G L b S As) (QC G L b S' v ex) 0 0 (fun q => b ≤ q))
    (w : zz_cn y.cls idx y2 c2 n2 r2 k host) (ws : Cond.static y2 ∈ zz_all) (hr : zz_fit R rm 0 0 n2) (hc : cells + 0 ≤ R.cells ∧ slots + 0 ≤ R.slots) (hst : st = As.reverse ++ rest) (hk : As.length = k ∧ (rest.map fun v => v.category).sum ≤ 8) (d : decode cc pc = .ok (.invokestatic idx, 3))
    (kk : ex → X p l e R s m args below meth c (cells + 0) (slots + 0) Q nL G L b S' (pc + 3) lv (v.toList ++ rest)) : X p l e R s m args below meth c cells slots Q nL G L b S pc lv st := by
  subst hst
  intro H locs ls h1 h2 h3
  exact zz_back (va_runSN (As := As) (rest := rest) (zz_fix C) hM ⟨zz_callN C w hr, C.2.2.2.2.1 _ ws, trivial⟩ ⟨PC.blind, fun U hU hW => ⟨rfl, by rw [hU]; exact h1, C.2.2.2.2.2.1.warm hW⟩⟩ rfl hk.1 h3.1 rfl (lv_room hk.2) d hc) h2 h3 kk
theorem zz_nn (z : Int32) (hz : ¬ z < 0) : z.toInt = (z.toNatClampNeg : Int) := by
  have hz0 : (0 : Int) ≤ z.toInt := by
    have := Int32.not_lt.mp hz
    simpa using Int32.le_iff_toInt_le.mp this
  show z.toInt = ((z.toInt.toNat : Nat) : Int)
  omega
def zz_sysw (own : String) (idx : Nat) : Prop := Cond.methodLink own idx arraycopyName ∈ zz_all ∧ Cond.native arraycopyName ∈ zz_all ∧ Cond.static arraycopyName ∈ zz_all ∧ Cond.initialized "java/lang/System" ∈ zz_all
theorem x_acpI (C : CX p G s m args meth c cc y nL ret) {a dd n0 n1 idx : Nat} {sp dp n : Int32} {k0 k1 : List Nat} {S' : Sg} (w : zz_sysw y.cls idx) (hL0 : L.2 a = some (1, n0, k0)) (hL1 : L.2 dd = some (1, n1, k1)) (ok : cpok sp dp n n0 n1 = true) (hS' : S' = cpI S a sp dd dp n) (hR : 1 ≤ R.frames ∧ 26 ≤ R.locals) (hk : (st.map fun v => v.category).sum ≤ 8) (d : decode cc pc = .ok (.invokestatic idx, 3))
    (kk : X p l e R s m args below meth c cells slots Q nL G L b S' (pc + 3) lv st) : X p l e R s m args below meth c cells slots Q nL G L b S pc lv (.int n :: .int dp :: .ref (b + dd) :: .int sp :: .ref (b + a) :: st) := by
  subst hS'
  obtain ⟨o1, o2, o3, o4, o5⟩ := of_decide_eq_true ok
  intro H locs ls h1 h2 h3 T hT Y
  have hx := C.1
  have hb := C.2.1
  have hts := C.2.2.2.2.1
  have hc0 := h1.2 a _ hL0
  have hc1 := h1.2 dd _ hL1
  obtain ⟨-, k0, hk0, cm0, hkk0⟩ := zz_ai C n0 (fun j => .int (S.1 a j))
  obtain ⟨-, k1, hk1, cm1, hkk1⟩ := zz_ai C n1 (fun j => .int (S.1 dd j))
  obtain ⟨vm', Y', step⟩ := Y.arraycopy hx C.2.2.2.1 (hts _ w.1) (hts _ w.2.1) (hts _ w.2.2.1) (hts _ w.2.2.2) (src := b + a) (dst := b + dd) (srcPos := sp) (destPos := dp) (n := n) (by rw [hT]; exact hc0) (by rw [hT]; exact hc1)
    (fun _ h => by cases h) (fun _ h => by cases h) (fun h => by cases h) (fun h => by cases h) hk0 hk1 hkk0 hkk1 (by decide) o1 o2 o3
    (by rw [zz_nn sp o1, zz_nn n o3, arrV_size]; unfold ix at o4; omega)
    (by rw [zz_nn dp o2, zz_nn n o3, arrV_size]; unfold ix at o5; omega)
    (fun vm₁ _ i hi => by
      have e : (arrV G.2.1 n0 (fun j => Value.int (S.1 a j))).slots.getD (sp.toNatClampNeg + i) .null = .int (S.1 a (sp.toNatClampNeg + i)) := by
        rw [Array.getD_eq_getD_getElem?, arrV_read _ _ (by unfold ix at o4; omega)]
        rfl
      refine ⟨?_, ?_⟩
      · rw [e]; rfl
      · rw [e]
        exact trivial)
    (g := F0 m pc ls (.int n :: .int dp :: .ref (b + dd) :: .int sp :: .ref (b + a) :: st)) rfl (by rw [C.2.2.1]; exact h3.1) (rest := st) rfl (by rw [hb]; exact d) hR.1 (by show 2 * 0 + _ + (7 + 11) ≤ _; omega)
  have e1 : copied (arrV G.2.1 n0 (fun j => Value.int (S.1 a j))) (arrV G.2.1 n1 (fun j => Value.int (S.1 dd j))) sp dp n = arrV G.2.1 n1 (fun j => Value.int (va_cpy (S.1 a) (S.1 dd) (ix sp) (ix dp) (ix n) j)) := va_copied (fun z => Value.int z) G.2.1 G.2.1 (S.1 a) (S.1 dd) o4
  rw [e1] at Y' step
  have hl : b + dd < H.size := (Array.getElem?_eq_some_iff.mp hc1).1
  have hheap : ((T.setVm vm').setCell (b + dd) (arrV G.2.1 n1 (fun j => Value.int (va_cpy (S.1 a) (S.1 dd) (ix sp) (ix dp) (ix n) j)))).heap = H.setIfInBounds (b + dd) (arrV G.2.1 n1 (fun j => Value.int (va_cpy (S.1 a) (S.1 dd) (ix sp) (ix dp) (ix n) j))) := by rw [← hT]; rfl
  have oq : ∀ q : Nat, q ≠ b + dd → (H.setIfInBounds (b + dd) (arrV G.2.1 n1 (fun j => Value.int (va_cpy (S.1 a) (S.1 dd) (ix sp) (ix dp) (ix n) j))))[q]? = H[q]? := fun q hq => by simp [Array.getElem?_setIfInBounds, Ne.symm hq]
  obtain ⟨t, a1, b1⟩ := kk _ _ ls (h1.put (S' := cpI S a sp dd dp n) hL1 (by
      show (H.setIfInBounds (b + dd) _)[b + dd]? = some (arrV G.2.1 n1 (fun j => Value.int ((if dd = dd then va_cpy (S.1 a) (S.1 dd) (ix sp) (ix dp) (ix n) else S.1 dd) j)))
      rw [if_pos rfl]
      simp [Array.getElem?_setIfInBounds, hl]) (by simp) oq (fun o' h => fillI_o h)) ⟨by simp; exact h2.1, fun q g1 g2 => by
      rw [oq q (fun e => g2 (by rw [e]; exact Nat.le_add_right b dd))]
      exact h2.2.1 q g1 g2, fun q hq => by
      rcases List.mem_append.mp hq with h | h
      · exact h2.2.2 q h
      · obtain ⟨z, -, hz⟩ := List.mem_map.mp h
        rw [← hz]
        exact Nat.le_add_right b dd⟩ h3 _ hheap Y'
  exact ⟨t, step t a1, b1⟩
theorem x_acpJ (C : CX p G s m args meth c cc y nL ret) {a dd n0 n1 idx : Nat} {sp dp n : Int32} {k0 k1 : List Nat} {S' : Sg} (w : zz_sysw y.cls idx) (hL0 : L.2 a = some (2, n0, k0)) (hL1 : L.2 dd = some (2, n1, k1)) (ok : cpok sp dp n n0 n1 = true) (hS' : S' = cpJ S a sp dd dp n) (hR : 1 ≤ R.frames ∧ 26 ≤ R.locals) (hk : (st.map fun v => v.category).sum ≤ 8) (d : decode cc pc = .ok (.invokestatic idx, 3))
    (kk : X p l e R s m args below meth c cells slots Q nL G L b S' (pc + 3) lv st) : X p l e R s m args below meth c cells slots Q nL G L b S pc lv (.int n :: .int dp :: .ref (b + dd) :: .int sp :: .ref (b + a) :: st) := by
  subst hS'
  obtain ⟨o1, o2, o3, o4, o5⟩ := of_decide_eq_true ok
  intro H locs ls h1 h2 h3 T hT Y
  have hx := C.1
  have hb := C.2.1
  have hts := C.2.2.2.2.1
  have hc0 := h1.2 a _ hL0
  have hc1 := h1.2 dd _ hL1
  obtain ⟨-, k0, hk0, cm0, hkk0⟩ := zz_aj C n0 (fun j => .long (S.2 a j))
  obtain ⟨-, k1, hk1, cm1, hkk1⟩ := zz_aj C n1 (fun j => .long (S.2 dd j))
  obtain ⟨vm', Y', step⟩ := Y.arraycopy hx C.2.2.2.1 (hts _ w.1) (hts _ w.2.1) (hts _ w.2.2.1) (hts _ w.2.2.2) (src := b + a) (dst := b + dd) (srcPos := sp) (destPos := dp) (n := n) (by rw [hT]; exact hc0) (by rw [hT]; exact hc1)
    (fun _ h => by cases h) (fun _ h => by cases h) (fun h => by cases h) (fun h => by cases h) hk0 hk1 hkk0 hkk1 (by decide) o1 o2 o3
    (by rw [zz_nn sp o1, zz_nn n o3, arrV_size]; unfold ix at o4; omega)
    (by rw [zz_nn dp o2, zz_nn n o3, arrV_size]; unfold ix at o5; omega)
    (fun vm₁ _ i hi => by
      have e : (arrV G.2.2.1 n0 (fun j => Value.long (S.2 a j))).slots.getD (sp.toNatClampNeg + i) .null = .long (S.2 a (sp.toNatClampNeg + i)) := by
        rw [Array.getD_eq_getD_getElem?, arrV_read _ _ (by unfold ix at o4; omega)]
        rfl
      refine ⟨?_, ?_⟩
      · rw [e]; rfl
      · rw [e]
        exact trivial)
    (g := F0 m pc ls (.int n :: .int dp :: .ref (b + dd) :: .int sp :: .ref (b + a) :: st)) rfl (by rw [C.2.2.1]; exact h3.1) (rest := st) rfl (by rw [hb]; exact d) hR.1 (by show 2 * 0 + _ + (7 + 11) ≤ _; omega)
  have e1 : copied (arrV G.2.2.1 n0 (fun j => Value.long (S.2 a j))) (arrV G.2.2.1 n1 (fun j => Value.long (S.2 dd j))) sp dp n = arrV G.2.2.1 n1 (fun j => Value.long (va_cpy (S.2 a) (S.2 dd) (ix sp) (ix dp) (ix n) j)) := va_copied (fun z => Value.long z) G.2.2.1 G.2.2.1 (S.2 a) (S.2 dd) o4
  rw [e1] at Y' step
  have hl : b + dd < H.size := (Array.getElem?_eq_some_iff.mp hc1).1
  have hheap : ((T.setVm vm').setCell (b + dd) (arrV G.2.2.1 n1 (fun j => Value.long (va_cpy (S.2 a) (S.2 dd) (ix sp) (ix dp) (ix n) j)))).heap = H.setIfInBounds (b + dd) (arrV G.2.2.1 n1 (fun j => Value.long (va_cpy (S.2 a) (S.2 dd) (ix sp) (ix dp) (ix n) j))) := by rw [← hT]; rfl
  have oq : ∀ q : Nat, q ≠ b + dd → (H.setIfInBounds (b + dd) (arrV G.2.2.1 n1 (fun j => Value.long (va_cpy (S.2 a) (S.2 dd) (ix sp) (ix dp) (ix n) j))))[q]? = H[q]? := fun q hq => by simp [Array.getElem?_setIfInBounds, Ne.symm hq]
  obtain ⟨t, a1, b1⟩ := kk _ _ ls (h1.put (S' := cpJ S a sp dd dp n) hL1 (by
      show (H.setIfInBounds (b + dd) _)[b + dd]? = some (arrV G.2.2.1 n1 (fun j => Value.long ((if dd = dd then va_cpy (S.2 a) (S.2 dd) (ix sp) (ix dp) (ix n) else S.2 dd) j)))
      rw [if_pos rfl]
      simp [Array.getElem?_setIfInBounds, hl]) (by simp) oq (fun o' h => fillJ_o h)) ⟨by simp; exact h2.1, fun q g1 g2 => by
      rw [oq q (fun e => g2 (by rw [e]; exact Nat.le_add_right b dd))]
      exact h2.2.1 q g1 g2, fun q hq => by
      rcases List.mem_append.mp hq with h | h
      · exact h2.2.2 q h
      · obtain ⟨z, -, hz⟩ := List.mem_map.mp h
        rw [← hz]
        exact Nat.le_add_right b dd⟩ h3 _ hheap Y'
  exact ⟨t, step t a1, b1⟩
end ZC
theorem of_ifp {c : Prop} [Decidable c] {α : Sort _} {t e y : α} (hc : c) (h : (if c then t else e) = y) : t = y := by rw [if_pos hc] at h; exact h
theorem of_ifn {c : Prop} [Decidable c] {α : Sort _} {t e y : α} (hc : ¬ c) (h : (if c then t else e) = y) : e = y := by rw [if_neg hc] at h; exact h
theorem of_none {α : Type _} {y : α} {P : Prop} (h : (none : Option α) = some y) : P := by cases h
def bs {ρ σ τ : Type _} (x : Option (ρ ⊕ σ)) (f : ρ → Option τ) (g : σ → Option τ) : Option τ := match x with
  | some (.inl a) => f a
  | some (.inr a) => g a
  | none => none
theorem of_bs {ρ σ τ : Type _} {x : Option (ρ ⊕ σ)} {f : ρ → Option τ} {g : σ → Option τ} {y : τ} (h : bs x f g = some y) : ∃ z, x = some z ∧ (∀ a, z = .inl a → f a = some y) ∧ (∀ a, z = .inr a → g a = some y) := by
  match x, h with
  | some (.inl a), h => exact ⟨.inl a, rfl, fun b e => (Sum.inl.inj e) ▸ h, fun b e => (nomatch e)⟩
  | some (.inr a), h => exact ⟨.inr a, rfl, fun b e => (nomatch e), fun b e => (Sum.inr.inj e) ▸ h⟩
  | none, h => cases h
theorem of_s2 {α β : Type _} {x y : α} {u v : β} (h : some (x, u) = some (y, v)) : x = y ∧ u = v := of_sp h
theorem if01 {c : Prop} [Decidable c] {a b : Int32} (ha : a = 0 ∨ a = 1) (hb : b = 0 ∨ b = 1) : (if c then a else b) = 0 ∨ (if c then a else b) = 1 := by
  by_cases h : c
  · rw [if_pos h]; exact ha
  · rw [if_neg h]; exact hb
theorem of_isb {v : Int32} (h : isb v = true) : v = 0 ∨ v = 1 := of_decide_eq_true h
theorem inb_lt {i : Int32} {n : Nat} (h : inb i n = true) : ix i < n := Nat.not_le.mp fun q => inb_vp h (Or.inr q)
section ZL
variable {p : Program} {l : Launch} {e : Env} {R : Room} {s : State} {m : MethodId} {args : Array Value} {below : List Frame} {meth : Method} {c : Code} {cells slots : Nat} {Q : State → Prop} {nL : Nat} {G : zz_G} {L : Ly} {b : Nat} {S : Sg} {pc : Nat} {lv : List (Nat × Value)} {st : List Value} {cc : ByteArray} {y : MethodName} {ret : Option FieldType}
/-- a lookup switch: the target that is taken, as a chain of comparisons says it -/
theorem x_look (C : CX p G s m args meth c cc y nL ret) {dflt : Int} {ps : Array (Int × Int)} {len : Nat} {x : Int32} {off : Int} (tgt : Nat) (d : decode cc pc = .ok (.lookupswitch dflt ps, len)) (hp : (ps.toList.zip (ps.toList.drop 1)).all (fun (a, next) => a.1 < next.1) = true) (ho : Op.lookupswitch.offset ps.toList dflt x.toInt = off) (ht : (pc : Int) + off = (tgt : Int)) (k : X p l e R s m args below meth c cells slots Q nL G L b S tgt lv st) : X p l e R s m args below meth c cells slots Q nL G L b S pc lv (.int x :: st) := fun H locs ls h1 h2 h3 => lv_lookup C.1 C.2.1 d hp ho ht (k H locs ls h1 h2 h3)
theorem x_tabIn (C : CX p G s m args meth c cc y nL ret) {dflt lo hi : Int} {offs : Array Int} {len : Nat} {x v : Int32} {off : Int} (tgt : Nat) (d : decode cc pc = .ok (.tableswitch dflt lo hi offs, len)) (hx : x = v) (h1 : ¬ v.toInt < lo) (h2 : ¬ hi < v.toInt) (ho : offs[(v.toInt - lo).toNat]? = some off) (ht : (pc : Int) + off = (tgt : Int)) (k : X p l e R s m args below meth c cells slots Q nL G L b S tgt lv st) : X p l e R s m args below meth c cells slots Q nL G L b S pc lv (.int x :: st) := by
  subst hx
  exact fun H locs ls q1 q2 q3 => lv_tableIn C.1 C.2.1 d h1 h2 ho ht (k H locs ls q1 q2 q3)
theorem x_tabOut (C : CX p G s m args meth c cc y nL ret) {dflt lo hi : Int} {offs : Array Int} {len : Nat} {x : Int32} (tgt : Nat) (d : decode cc pc = .ok (.tableswitch dflt lo hi offs, len)) (h : x.toInt < lo ∨ hi < x.toInt) (ht : (pc : Int) + dflt = (tgt : Int)) (k : X p l e R s m args below meth c cells slots Q nL G L b S tgt lv st) : X p l e R s m args below meth c cells slots Q nL G L b S pc lv (.int x :: st) := fun H locs ls q1 q2 q3 => lv_tableOut C.1 C.2.1 d h ht (k H locs ls q1 q2 q3)
theorem x_callV0 (C : CX p G s m args meth c cc y nL ret) {y2 : MethodName} {c2 : ByteArray} {r2 : Option FieldType} {rm : Room} {o k n2 idx : Nat} {S' : Sg} {v : Option Value} {ex : Prop} {sh : Sh} {q : vw_C} (As rest : List Value) (hM : Met l y2 (Cond.code y2 c2 n2 r2 :: zz_all) rm (PC G L b S (.ref (b + o) :: As)) (QC G L b S' v ex) 0 0 (fun q => b ≤ q))
    (w : zz_cw y.cls idx y2 c2 n2 r2 k) (ws : Cond.instanceMethod y2 ∈ zz_all ∧ Cond.selects y2.cls y2 y2 ∈ zz_all) (hr : zz_fit R rm 0 0 n2) (hc : cells ≤ R.cells ∧ slots ≤ R.slots) (hL : L.2 o = some sh) (hq : sh.1 = 0 ∧ classes[sh.2.1]? = some q ∧ q.1 = y2.cls) (hst : st = As.reverse ++ .ref (b + o) :: rest) (hk : As.length = k ∧ (rest.map fun v => v.category).sum ≤ 8) (d : decode cc pc = .ok (.invokevirtual idx, 3))
    (kk : ex → X p l e R s m args below meth c cells slots Q nL G L b S' (pc + 3) lv (v.toList ++ rest)) : X p l e R s m args below meth c cells slots Q nL G L b S pc lv st :=
  x_callV C As rest hM w ws hr hc hL hq hst hk d kk
theorem x_callS0 (C : CX p G s m args meth c cc y nL ret) {y2 : MethodName} {c2 : ByteArray} {r2 : Option FieldType} {rm : Room} {k n2 idx : Nat} {S' : Sg} {v : Option Value} {ex : Prop} (As rest : List Value) (hM : Met l y2 (Cond.code y2 c2 n2 r2 :: zz_all) rm (PC G L b S As) (QC G L b S' v ex) 0 0 (fun q => b ≤ q))
    (w : zz_cw y.cls idx y2 c2 n2 r2 k) (ws : Cond.static y2 ∈ zz_all) (hr : zz_fit R rm 0 0 n2) (hc : cells ≤ R.cells ∧ slots ≤ R.slots) (hst : st = As.reverse ++ rest) (hk : As.length = k ∧ (rest.map fun v => v.category).sum ≤ 8) (d : decode cc pc = .ok (.invokestatic idx, 3))
    (kk : ex → X p l e R s m args below meth c cells slots Q nL G L b S' (pc + 3) lv (v.toList ++ rest)) : X p l e R s m args below meth c cells slots Q nL G L b S pc lv st :=
  x_callS C As rest hM w ws hr hc hst hk d kk
theorem x_callSN0 (C : CX p G s m args meth c cc y nL ret) {y2 : MethodName} {c2 : ByteArray} {r2 : Option FieldType} {rm : Room} {k n2 idx : Nat} {S' : Sg} {v : Option Value} {ex : Prop} {host : String} (As rest : List Value) (hM : Met l y2 (Cond.code y2 c2 n2 r2 :: zz_all) rm (PC G L b S As) (QC G L b S' v ex) 0 0 (fun q => b ≤ q))
    (w : zz_cn y.cls idx y2 c2 n2 r2 k host) (ws : Cond.static y2 ∈ zz_all) (hr : zz_fit R rm 0 0 n2) (hc : cells ≤ R.cells ∧ slots ≤ R.slots) (hst : st = As.reverse ++ rest) (hk : As.length = k ∧ (rest.map fun v => v.category).sum ≤ 8) (d : decode cc pc = .ok (.invokestatic idx, 3))
    (kk : ex → X p l e R s m args below meth c cells slots Q nL G L b S' (pc + 3) lv (v.toList ++ rest)) : X p l e R s m args below meth c cells slots Q nL G L b S pc lv st :=
  x_callSN C As rest hM w ws hr hc hst hk d kk
theorem x_callV1 (C : CX p G s m args meth c cc y nL ret) {y2 : MethodName} {c2 : ByteArray} {r2 : Option FieldType} {rm : Room} {o k n2 idx : Nat} {S' : Sg} {v : Value} {ex : Prop} {sh : Sh} {q : vw_C} (As rest : List Value) (hM : Met l y2 (Cond.code y2 c2 n2 r2 :: zz_all) rm (PC G L b S (.ref (b + o) :: As)) (QC G L b S' (some v) ex) 0 0 (fun q => b ≤ q))
    (w : zz_cw y.cls idx y2 c2 n2 r2 k) (ws : Cond.instanceMethod y2 ∈ zz_all ∧ Cond.selects y2.cls y2 y2 ∈ zz_all) (hr : zz_fit R rm 0 0 n2) (hc : cells ≤ R.cells ∧ slots ≤ R.slots) (hL : L.2 o = some sh) (hq : sh.1 = 0 ∧ classes[sh.2.1]? = some q ∧ q.1 = y2.cls) (hst : st = As.reverse ++ .ref (b + o) :: rest) (hk : As.length = k ∧ (rest.map fun v => v.category).sum ≤ 8) (d : decode cc pc = .ok (.invokevirtual idx, 3))
    (kk : ex → X p l e R s m args below meth c cells slots Q nL G L b S' (pc + 3) lv (v :: rest)) : X p l e R s m args below meth c cells slots Q nL G L b S pc lv st := x_callV0 C As rest hM w ws hr hc hL hq hst hk d kk
theorem x_callV_ (C : CX p G s m args meth c cc y nL ret) {y2 : MethodName} {c2 : ByteArray} {r2 : Option FieldType} {rm : Room} {o k n2 idx : Nat} {S' : Sg}  {ex : Prop} {sh : Sh} {q : vw_C} (As rest : List Value) (hM : Met l y2 (Cond.code y2 c2 n2 r2 :: zz_all) rm (PC G L b S (.ref (b + o) :: As)) (QC G L b S' none ex) 0 0 (fun q => b ≤ q))
    (w : zz_cw y.cls idx y2 c2 n2 r2 k) (ws : Cond.instanceMethod y2 ∈ zz_all ∧ Cond.selects y2.cls y2 y2 ∈ zz_all) (hr : zz_fit R rm 0 0 n2) (hc : cells ≤ R.cells ∧ slots ≤ R.slots) (hL : L.2 o = some sh) (hq : sh.1 = 0 ∧ classes[sh.2.1]? = some q ∧ q.1 = y2.cls) (hst : st = As.reverse ++ .ref (b + o) :: rest) (hk : As.length = k ∧ (rest.map fun v => v.category).sum ≤ 8) (d : decode cc pc = .ok (.invokevirtual idx, 3))
    (kk : ex → X p l e R s m args below meth c cells slots Q nL G L b S' (pc + 3) lv (rest)) : X p l e R s m args below meth c cells slots Q nL G L b S pc lv st := x_callV0 C As rest hM w ws hr hc hL hq hst hk d kk
theorem x_callS1 (C : CX p G s m args meth c cc y nL ret) {y2 : MethodName} {c2 : ByteArray} {r2 : Option FieldType} {rm : Room} {k n2 idx : Nat} {S' : Sg} {v : Value} {ex : Prop} (As rest : List Value) (hM : Met l y2 (Cond.code y2 c2 n2 r2 :: zz_all) rm (PC G L b S As) (QC G L b S' (some v) ex) 0 0 (fun q => b ≤ q))
    (w : zz_cw y.cls idx y2 c2 n2 r2 k) (ws : Cond.static y2 ∈ zz_all) (hr : zz_fit R rm 0 0 n2) (hc : cells ≤ R.cells ∧ slots ≤ R.slots) (hst : st = As.reverse ++ rest) (hk : As.length = k ∧ (rest.map fun v => v.category).sum ≤ 8) (d : decode cc pc = .ok (.invokestatic idx, 3))
    (kk : ex → X p l e R s m args below meth c cells slots Q nL G L b S' (pc + 3) lv (v :: rest)) : X p l e R s m args below meth c cells slots Q nL G L b S pc lv st := x_callS0 C As rest hM w ws hr hc hst hk d kk
theorem x_callS_ (C : CX p G s m args meth c cc y nL ret) {y2 : MethodName} {c2 : ByteArray} {r2 : Option FieldType} {rm : Room} {k n2 idx : Nat} {S' : Sg}  {ex : Prop} (As rest : List Value) (hM : Met l y2 (Cond.code y2 c2 n2 r2 :: zz_all) rm (PC G L b S As) (QC G L b S' none ex) 0 0 (fun q => b ≤ q))
    (w : zz_cw y.cls idx y2 c2 n2 r2 k) (ws : Cond.static y2 ∈ zz_all) (hr : zz_fit R rm 0 0 n2) (hc : cells ≤ R.cells ∧ slots ≤ R.slots) (hst : st = As.reverse ++ rest) (hk : As.length = k ∧ (rest.map fun v => v.category).sum ≤ 8) (d : decode cc pc = .ok (.invokestatic idx, 3))
    (kk : ex → X p l e R s m args below meth c cells slots Q nL G L b S' (pc + 3) lv (rest)) : X p l e R s m args below meth c cells slots Q nL G L b S pc lv st := x_callS0 C As rest hM w ws hr hc hst hk d kk
theorem x_callSN1 (C : CX p G s m args meth c cc y nL ret) {y2 : MethodName} {c2 : ByteArray} {r2 : Option FieldType} {rm : Room} {k n2 idx : Nat} {S' : Sg} {v : Value} {ex : Prop} {host : String} (As rest : List Value) (hM : Met l y2 (Cond.code y2 c2 n2 r2 :: zz_all) rm (PC G L b S As) (QC G L b S' (some v) ex) 0 0 (fun q => b ≤ q))
    (w : zz_cn y.cls idx y2 c2 n2 r2 k host) (ws : Cond.static y2 ∈ zz_all) (hr : zz_fit R rm 0 0 n2) (hc : cells ≤ R.cells ∧ slots ≤ R.slots) (hst : st = As.reverse ++ rest) (hk : As.length = k ∧ (rest.map fun v => v.category).sum ≤ 8) (d : decode cc pc = .ok (.invokestatic idx, 3))
    (kk : ex → X p l e R s m args below meth c cells slots Q nL G L b S' (pc + 3) lv (v :: rest)) : X p l e R s m args below meth c cells slots Q nL G L b S pc lv st := x_callSN0 C As rest hM w ws hr hc hst hk d kk
theorem x_callSN_ (C : CX p G s m args meth c cc y nL ret) {y2 : MethodName} {c2 : ByteArray} {r2 : Option FieldType} {rm : Room} {k n2 idx : Nat} {S' : Sg}  {ex : Prop} {host : String} (As rest : List Value) (hM : Met l y2 (Cond.code y2 c2 n2 r2 :: zz_all) rm (PC G L b S As) (QC G L b S' none ex) 0 0 (fun q => b ≤ q))
    (w : zz_cn y.cls idx y2 c2 n2 r2 k host) (ws : Cond.static y2 ∈ zz_all) (hr : zz_fit R rm 0 0 n2) (hc : cells ≤ R.cells ∧ slots ≤ R.slots) (hst : st = As.reverse ++ rest) (hk : As.length = k ∧ (rest.map fun v => v.category).sum ≤ 8) (d : decode cc pc = .ok (.invokestatic idx, 3))
    (kk : ex → X p l e R s m args below meth c cells slots Q nL G L b S' (pc + 3) lv (rest)) : X p l e R s m args below meth c cells slots Q nL G L b S pc lv st := x_callSN0 C As rest hM w ws hr hc hst hk d kk
theorem x_eq {lv' : List (Nat × Value)} {st' : List Value} (k : X p l e R s m args below meth c cells slots Q nL G L b S pc lv' st') (h1 : lv = lv') (h2 : st = st') : X p l e R s m args below meth c cells slots Q nL G L b S pc lv st := by
  subst h1; subst h2; exact k
end ZL
abbrev RQ (G : zz_G) (L : Ly) (b : Nat) (Sf : Sg) (below : List Frame) (args : Array Value) (s : State) (r : Option Value) (ex : Prop) : State → Prop := MQ below (QC G L b Sf r ex) args s 0 0 (fun q => b ≤ q)
theorem isb_of {v : Int32} (h : v = 0 ∨ v = 1) : isb v = true := decide_eq_true h
def u2 {α β τ : Type _} (f : α → β → τ) (t : α × β) : τ := f t.1 t.2
def u3 {α β γ τ : Type _} (f : α → β → γ → τ) (t : α × β × γ) : τ := f t.1 t.2.1 t.2.2
def u4 {α β γ δ τ : Type _} (f : α → β → γ → δ → τ) (t : α × β × γ × δ) : τ := f t.1 t.2.1 t.2.2.1 t.2.2.2
def u5 {α β γ δ ε τ : Type _} (f : α → β → γ → δ → ε → τ) (t : α × β × γ × δ × ε) : τ := f t.1 t.2.1 t.2.2.1 t.2.2.2.1 t.2.2.2.2
theorem of_u2 {α β τ : Type _} {f : α → β → τ} {a : α} {b : β} {y : τ} (h : u2 f (a, b) = y) : f a b = y := h
theorem of_u3 {α β γ τ : Type _} {f : α → β → γ → τ} {a : α} {b : β} {c : γ} {y : τ} (h : u3 f (a, b, c) = y) : f a b c = y := h
theorem of_u4 {α β γ δ τ : Type _} {f : α → β → γ → δ → τ} {a : α} {b : β} {c : γ} {d : δ} {y : τ} (h : u4 f (a, b, c, d) = y) : f a b c d = y := h
theorem of_u5 {α β γ δ ε τ : Type _} {f : α → β → γ → δ → ε → τ} {a : α} {b : β} {c : γ} {d : δ} {e : ε} {y : τ} (h : u5 f (a, b, c, d, e) = y) : f a b c d e = y := h
theorem of_J1 {α τ : Type _} {J f : α → τ} (e : J = f) {a : α} {y : τ} (h : J a = y) : f a = y := e ▸ h
theorem of_J2 {α β τ : Type _} {J f : α → β → τ} (e : J = f) {a : α} {b : β} {y : τ} (h : J a b = y) : f a b = y := e ▸ h
theorem of_J3 {α β γ τ : Type _} {J f : α → β → γ → τ} (e : J = f) {a : α} {b : β} {c : γ} {y : τ} (h : J a b c = y) : f a b c = y := e ▸ h
theorem of_J4 {α β γ δ τ : Type _} {J f : α → β → γ → δ → τ} (e : J = f) {a : α} {b : β} {c : γ} {d : δ} {y : τ} (h : J a b c d = y) : f a b c d = y := e ▸ h
/-- as Met.ofW, for a method of a class whose name is not plain, but which nothing runs in its bytecode's place -/
theorem Met.ofWF {l : Launch} {y : MethodName} {ws ws' : List Cond} {rm : Room} {Pc : Array Value → State → Prop} {Qc : Array Value → State → Outcome → State → Prop} {mc ms : Nat} {free : Addr → Prop} {cc : ByteArray} {maxL : Nat} {ret : Option FieldType}
    (hy : plainFor y = true) (hw : ws = Cond.code y cc maxL ret :: ws')
    (body : ∀ p e s m args below meth c s₁, BodyLoose p l y (headSpec ws rm) cc maxL ret e s m args below meth c s₁ → c.maxLocals = maxL → Pc args s →
      W p l e (headSpec ws rm).room s m args below meth c s.heap [] 0 0 (MQ below Qc args s mc ms free) (entryFrame m args maxL)) : Met l y ws rm Pc Qc mc ms free := by
  refine MetFree.of_bodySF (code := cc) (maxLocals := maxL) (ret := ret) hy ?_ ?_
  · intro args s m h hn
    obtain ⟨meth, c, h1, h2, h3, h4, h5, h6, -, -⟩ := Cond.code_spec hn (atoms_spec (ws := ws) h _ (by rw [hw]; exact List.mem_cons_self))
    exact ⟨meth, c, h1, h2, h3, h4, h5, h6⟩
  · intro p e s m args below meth c s₁ B hml hP _
    have hh0 : s₁.heap = s.heap := by rw [B.state]; rfl
    obtain ⟨t, a1, o, b1, b2, b3⟩ := body p e s m args below meth c s₁ B hml hP s₁ hh0 (Stand.of_body B)
    exact ⟨t, o, a1, b1, b2, ⟨b3.1, b3.2⟩⟩
theorem x_metF {l : Launch} {y : MethodName} {cc : ByteArray} {nL : Nat} {ret : Option FieldType} {rm : Room} {G : zz_G} {L : Ly} {b : Nat} {S : Sg} {Qc : Array Value → State → Outcome → State → Prop} {mc ms : Nat} (av : List Value) (hy : plainFor y = true) (hn : (lg_sl av).length ≤ nL)
    (body : ∀ (p : Program) (e : Env) (s : State) (m : MethodId) (args : Array Value) (below : List Frame) (meth : Method) (c : Code), CX p G s m args meth c cc y nL ret → X p l e rm s m args below meth c 0 0 (MQ below Qc args s mc ms (fun q => b ≤ q)) nL G L b S 0 (lv_args 0 av) []) :
    Met l y (Cond.code y cc nL ret :: zz_all) rm (PC G L b S av) Qc mc ms (fun q => b ≤ q) := by
  refine Met.ofWF (cc := cc) (maxL := nL) (ret := ret) hy rfl ?_
  intro p e s m args below meth c s₁ B hml hv
  obtain ⟨rfl, hM, hK⟩ := hv
  have hts := atoms_spec (ws := Cond.code y cc nL ret :: zz_all) B.pre
  have hCX : CX p G s m av.toArray meth c cc y nL ret := ⟨B.exec, B.bytes, hml, findClass_of_methodNamed B.named, fun w hw => hts w (List.mem_cons_of_mem _ hw), hK, B.notSynchronized, B.returns, (name_of_methodNamed B.named B.method).1⟩
  rw [lg_entry_eq]
  exact body p e s m av.toArray below meth c hCX s.heap [] _ hM va_S.rf (lv_entry av hn)
end
section
/-! the law's script lies where it lay -/
def SX (bs Ls : Nat) (xs : Nat → Int32) (b : Nat) (s : State) : Prop := va_X bs Ls xs s s.heap ∧ bs < s.heap.size ∧ bs < b
theorem SX.same {bs Ls : Nat} {xs : Nat → Int32} {b : Nat} {s U : State} (e : s.vm = U.vm) (eh : s.heap = U.heap) (h : SX bs Ls xs b s) : SX bs Ls xs b U := by
  obtain ⟨h1, h2, h3⟩ := h
  rw [eh] at h1 h2
  exact ⟨va_X.moved (by rw [e]; exact Vm.Alike.refl _) h1, h2, h3⟩
theorem SX.go {bs Ls : Nat} {xs : Nat → Int32} {b : Nat} {s U : State} {H : Heap} {locs : List Loc} (h : SX bs Ls xs b s) (h2 : va_S (fun q => b ≤ q) s.heap H locs) (hU : U.heap = H) (hW : s.WarmedH U.vm) : SX bs Ls xs b U := by
  obtain ⟨h1, g2, h3⟩ := h
  subst hU
  exact ⟨va_X.moved hW.alike (va_X.kept h1 (h2.2.1 bs g2 (show ¬ (b ≤ bs) by omega))), Nat.lt_of_lt_of_le g2 h2.1, h3⟩
def PS (G : zz_G) (L : Ly) (b : Nat) (S : Sg) (bs Ls : Nat) (xs : Nat → Int32) (av : List Value) : Array Value → State → Prop := fun v U => v = av.toArray ∧ HM G L b S U.heap ∧ zz_K G U ∧ SX bs Ls xs b U
theorem PS.blind {G : zz_G} {L : Ly} {b : Nat} {S : Sg} {bs Ls : Nat} {xs : Nat → Int32} {av : List Value} : FrameBlind (PS G L b S bs Ls xs av) := fun a U g mk q => ⟨q.1, q.2.1, q.2.2.1.same rfl, q.2.2.2.same rfl rfl⟩
theorem x_metS {l : Launch} {y : MethodName} {cc : ByteArray} {nL : Nat} {ret : Option FieldType} {rm : Room} {G : zz_G} {L : Ly} {b : Nat} {S : Sg} {bs Ls : Nat} {xs : Nat → Int32} {Qc : Array Value → State → Outcome → State → Prop} {mc ms : Nat} (av : List Value) (hy : plainName y.cls = true) (hn : (lg_sl av).length ≤ nL)
    (body : ∀ (p : Program) (e : Env) (s : State) (m : MethodId) (args : Array Value) (below : List Frame) (meth : Method) (c : Code), CX p G s m args meth c cc y nL ret → SX bs Ls xs b s → X p l e rm s m args below meth c 0 0 (MQ below Qc args s mc ms (fun q => b ≤ q)) nL G L b S 0 (lv_args 0 av) []) :
    Met l y (Cond.code y cc nL ret :: zz_all) rm (PS G L b S bs Ls xs av) Qc mc ms (fun q => b ≤ q) := by
  refine Met.ofW (cc := cc) (maxL := nL) (ret := ret) hy rfl ?_
  intro p e s m args below meth c s₁ B hml hv
  obtain ⟨rfl, hM, hK, hX⟩ := hv
  have hts := atoms_spec (ws := Cond.code y cc nL ret :: zz_all) B.pre
  have hCX : CX p G s m av.toArray meth c cc y nL ret := ⟨B.exec, B.bytes, hml, findClass_of_methodNamed B.named, fun w hw => hts w (List.mem_cons_of_mem _ hw), hK, B.notSynchronized, B.returns, (name_of_methodNamed B.named B.method).1⟩
  rw [lg_entry_eq]
  exact body p e s m av.toArray below meth c hCX hX s.heap [] _ hM va_S.rf (lv_entry av hn)
section ZSC
variable {p : Program} {l : Launch} {e : Env} {R : Room} {s : State} {m : MethodId} {args : Array Value} {below : List Frame} {meth : Method} {c : Code} {cells slots : Nat} {Q : State → Prop} {nL : Nat} {G : zz_G} {L : Ly} {b : Nat} {S : Sg} {pc : Nat} {lv : List (Nat × Value)} {st : List Value} {cc : ByteArray} {y : MethodName} {ret : Option FieldType} {bs Ls : Nat} {xs : Nat → Int32}
theorem x_scl (C : CX p G s m args meth c cc y nL ret) (hX : SX bs Ls xs b s) {i : Int32} (g : inb i Ls = true) (d : decode cc pc = .ok (.iaload, 1)) (kk : X p l e R s m args below meth c cells slots Q nL G L b S (pc + 1) lv (.int (xs (ix i)) :: st)) : X p l e R s m args below meth c cells slots Q nL G L b S pc lv (.int i :: .ref bs :: st) := by
  intro H locs ls h1 h2 h3
  have h9 := hX.2.2
  exact va_sld C.1 C.2.1 hX.1 hX.2.1 (show ¬ (b ≤ bs) by omega) h2 (inb_vp g) d (kk H locs ls h1 h2 h3)
theorem x_scn (C : CX p G s m args meth c cc y nL ret) (hX : SX bs Ls xs b s) (d : decode cc pc = .ok (.arraylength, 1)) (kk : X p l e R s m args below meth c cells slots Q nL G L b S (pc + 1) lv (.int (Int32.ofNat Ls) :: st)) : X p l e R s m args below meth c cells slots Q nL G L b S pc lv (.ref bs :: st) := by
  intro H locs ls h1 h2 h3
  have h9 := hX.2.2
  exact va_slen C.1 C.2.1 hX.1 hX.2.1 (show ¬ (b ≤ bs) by omega) h2 d (kk H locs ls h1 h2 h3)
theorem x_callSX0 (C : CX p G s m args meth c cc y nL ret) (hX : SX bs Ls xs b s) {y2 : MethodName} {c2 : ByteArray} {r2 : Option FieldType} {rm : Room} {k n2 idx : Nat} {S' : Sg} {v : Option Value} {ex : Prop} (As rest : List Value) (hM : Met l y2 (Cond.code y2 c2 n2 r2 :: zz_all) rm (PS G L b S bs Ls xs As) (QC G L b S' v ex) 0 0 (fun q => b ≤ q))
    (w : zz_cw y.cls idx y2 c2 n2 r2 k) (ws : Cond.static y2 ∈ zz_all) (hr : zz_fit R rm 0 0 n2) (hc : cells ≤ R.cells ∧ slots ≤ R.slots) (hst : st = As.reverse ++ rest) (hk : As.length = k ∧ (rest.map fun v => v.category).sum ≤ 8) (d : decode cc pc = .ok (.invokestatic idx, 3))
    (kk : ex → X p l e R s m args below meth c (cells + 0) (slots + 0) Q nL G L b S' (pc + 3) lv (v.toList ++ rest)) : X p l e R s m args below meth c cells slots Q nL G L b S pc lv st := by
  subst hst
  intro H locs ls h1 h2 h3
  exact zz_back (va_runS (As := As) (rest := rest) (zz_fix C) hM ⟨zz_callB C w hr, C.2.2.2.2.1 _ ws⟩ ⟨PS.blind, fun U hU hW => ⟨rfl, by rw [hU]; exact h1, C.2.2.2.2.2.1.warm hW, hX.go h2 hU hW⟩⟩ rfl hk.1 h3.1 rfl (lv_room hk.2) d hc) h2 h3 kk
theorem x_callSX1 (C : CX p G s m args meth c cc y nL ret) (hX : SX bs Ls xs b s) {y2 : MethodName} {c2 : ByteArray} {r2 : Option FieldType} {rm : Room} {k n2 idx : Nat} {S' : Sg} {v : Value} {ex : Prop} (As rest : List Value) (hM : Met l y2 (Cond.code y2 c2 n2 r2 :: zz_all) rm (PS G L b S bs Ls xs As) (QC G L b S' (some v) ex) 0 0 (fun q => b ≤ q))
    (w : zz_cw y.cls idx y2 c2 n2 r2 k) (ws : Cond.static y2 ∈ zz_all) (hr : zz_fit R rm 0 0 n2) (hc : cells ≤ R.cells ∧ slots ≤ R.slots) (hst : st = As.reverse ++ rest) (hk : As.length = k ∧ (rest.map fun v => v.category).sum ≤ 8) (d : decode cc pc = .ok (.invokestatic idx, 3))
    (kk : ex → X p l e R s m args below meth c cells slots Q nL G L b S' (pc + 3) lv (v :: rest)) : X p l e R s m args below meth c cells slots Q nL G L b S pc lv st := x_callSX0 C hX As rest hM w ws hr hc hst hk d kk
theorem x_callSX_ (C : CX p G s m args meth c cc y nL ret) (hX : SX bs Ls xs b s) {y2 : MethodName} {c2 : ByteArray} {r2 : Option FieldType} {rm : Room} {k n2 idx : Nat} {S' : Sg}  {ex : Prop} (As rest : List Value) (hM : Met l y2 (Cond.code y2 c2 n2 r2 :: zz_all) rm (PS G L b S bs Ls xs As) (QC G L b S' none ex) 0 0 (fun q => b ≤ q))
    (w : zz_cw y.cls idx y2 c2 n2 r2 k) (ws : Cond.static y2 ∈ zz_all) (hr : zz_fit R rm 0 0 n2) (hc : cells ≤ R.cells ∧ slots ≤ R.slots) (hst : st = As.reverse ++ rest) (hk : As.length = k ∧ (rest.map fun v => v.category).sum ≤ 8) (d : decode cc pc = .ok (.invokestatic idx, 3))
    (kk : ex → X p l e R s m args below meth c cells slots Q nL G L b S' (pc + 3) lv (rest)) : X p l e R s m args below meth c cells slots Q nL G L b S pc lv st := x_callSX0 C hX As rest hM w ws hr hc hst hk d kk
theorem x_lawret {rf v : Int32} (hE : ∀ (pc : Nat) (S : Sg), decode cL_law pc = .ok (.ireturn, 1) → X p l e room_1 s m args below meth c cells slots Q 16 G L b S pc [] [.int rf]) (d : decode cL_law pc = .ok (.ireturn, 1)) (e1 : v = rf) : X p l e room_1 s m args below meth c cells slots Q 16 G L b S pc lv [.int v] := by
  subst e1
  exact x_sub [] rfl (hE pc S d)
end ZSC
end
section
def isNum (L : Ly) (o n : Nat) : Prop := L.2 o = some (0, 1, [0, (o + 1) + 3]) ∧ L.2 (o + 1) = some (1, n, [])
def isQ (L : Ly) (o : Nat) : Prop := L.2 o = some (0, 2, [(o + 1) + 3]) ∧ L.2 (o + 1) = some (1, 8, [])
def isNa (L : Ly) (o : Nat) : Prop := L.2 o = some (0, 0, [(o + 1) + 3, (o + 2) + 3, 0]) ∧ L.2 (o + 1) = some (1, 10, []) ∧ L.2 (o + 2) = some (1, 10, [])
def isSp (L : Ly) (o : Nat) : Prop := L.2 o = some (0, 3, [(o + 1) + 3, 1, 0]) ∧ L.2 (o + 1) = some (4, 10, [(o + 2)]) ∧ (∀ j, j < 10 → L.2 ((o + 2) + j) = some (2, 10, []))
def isW (L : Ly) (o : Nat) : Prop := L.2 o = some (0, 4, [(o + 1) + 3, (o + 2) + 3, (o + 3) + 3, (o + 4) + 3, 0, 0, 0, (o + 5) + 3, (o + 16) + 3, 0, (o + 17) + 3, (o + 29) + 3, (o + 41) + 3, (o + 42) + 3]) ∧ L.2 (o + 1) = some (1, 8, []) ∧ L.2 (o + 2) = some (1, 10, []) ∧ L.2 (o + 3) = some (1, 10, []) ∧ L.2 (o + 4) = some (1, 10, []) ∧ L.2 (o + 5) = some (3, 10, [(o + 6)]) ∧ (∀ j, j < 10 → L.2 ((o + 6) + j) = some (1, 10, [])) ∧ L.2 (o + 16) = some (1, 10, []) ∧ isSp L (o + 17) ∧ isSp L (o + 29) ∧ L.2 (o + 41) = some (1, 10, []) ∧ L.2 (o + 42) = some (2, 10, [])
def isGu (L : Ly) : Prop := L.2 0 = some (0, 5, [1 + 3, 44 + 3, 87 + 3, 0, 130 + 3, 132 + 3, 135 + 3, 137 + 3, 139 + 3]) ∧ isW L 1 ∧ isW L 44 ∧ isW L 87 ∧ isQ L 130 ∧ isNa L 132 ∧ isNum L 135 96 ∧ isNum L 137 32 ∧ L.2 139 = some (1, 6, [])
theorem nh_J6 : RJ6 ≠ "java/lang/invoke/MethodHandle" ∧ RJ6 ≠ "java/lang/invoke/VarHandle" := ⟨by decide +kernel, by decide +kernel⟩
theorem nh_J9 : RJ9 ≠ "java/lang/invoke/MethodHandle" ∧ RJ9 ≠ "java/lang/invoke/VarHandle" := ⟨by decide +kernel, by decide +kernel⟩
theorem nh_L : RL ≠ "java/lang/invoke/MethodHandle" ∧ RL ≠ "java/lang/invoke/VarHandle" := ⟨by decide +kernel, by decide +kernel⟩
theorem nh_X0 : RX0 ≠ "java/lang/invoke/MethodHandle" ∧ RX0 ≠ "java/lang/invoke/VarHandle" := ⟨by decide +kernel, by decide +kernel⟩
theorem nh_X1 : RX1 ≠ "java/lang/invoke/MethodHandle" ∧ RX1 ≠ "java/lang/invoke/VarHandle" := ⟨by decide +kernel, by decide +kernel⟩
theorem nh_X2 : RX2 ≠ "java/lang/invoke/MethodHandle" ∧ RX2 ≠ "java/lang/invoke/VarHandle" := ⟨by decide +kernel, by decide +kernel⟩
theorem nh_X4 : RX4 ≠ "java/lang/invoke/MethodHandle" ∧ RX4 ≠ "java/lang/invoke/VarHandle" := ⟨by decide +kernel, by decide +kernel⟩
theorem nh_X5 : RX5 ≠ "java/lang/invoke/MethodHandle" ∧ RX5 ≠ "java/lang/invoke/VarHandle" := ⟨by decide +kernel, by decide +kernel⟩
theorem nh_X6 : RX6 ≠ "java/lang/invoke/MethodHandle" ∧ RX6 ≠ "java/lang/invoke/VarHandle" := ⟨by decide +kernel, by decide +kernel⟩
theorem pd_X0_init : (parseMethodDescriptor yX0_init.desc).map (fun d => d.parameters.length) = some 0 := by decide +kernel
theorem pd_X0_narrow : (parseMethodDescriptor yX0_narrow.desc).map (fun d => d.parameters.length) = some 1 := by decide +kernel
theorem vi_X0_narrow : Cond.instanceMethod yX0_narrow ∈ zz_all ∧ Cond.selects yX0_narrow.cls yX0_narrow yX0_narrow ∈ zz_all := ⟨wd_230, wd_231⟩
theorem pd_X0_narrowByRow : (parseMethodDescriptor yX0_narrowByRow.desc).map (fun d => d.parameters.length) = some 2 := by decide +kernel
theorem vi_X0_narrowByRow : Cond.instanceMethod yX0_narrowByRow ∈ zz_all ∧ Cond.selects yX0_narrowByRow.cls yX0_narrowByRow yX0_narrowByRow ∈ zz_all := ⟨wd_240, wd_2⟩
theorem pd_X0_narrowOne : (parseMethodDescriptor yX0_narrowOne.desc).map (fun d => d.parameters.length) = some 4 := by decide +kernel
theorem vi_X0_narrowOne : Cond.instanceMethod yX0_narrowOne ∈ zz_all ∧ Cond.selects yX0_narrowOne.cls yX0_narrowOne yX0_narrowOne ∈ zz_all := ⟨wd_266, wd_5⟩
theorem pd_X0_lowEnd : (parseMethodDescriptor yX0_lowEnd.desc).map (fun d => d.parameters.length) = some 2 := by decide +kernel
theorem vi_X0_lowEnd : Cond.instanceMethod yX0_lowEnd ∈ zz_all ∧ Cond.selects yX0_lowEnd.cls yX0_lowEnd yX0_lowEnd ∈ zz_all := ⟨wd_245, wd_3⟩
theorem pd_X0_highEnd : (parseMethodDescriptor yX0_highEnd.desc).map (fun d => d.parameters.length) = some 2 := by decide +kernel
theorem vi_X0_highEnd : Cond.instanceMethod yX0_highEnd ∈ zz_all ∧ Cond.selects yX0_highEnd.cls yX0_highEnd yX0_highEnd ∈ zz_all := ⟨wd_258, wd_4⟩
theorem pd_X0_leastOf : (parseMethodDescriptor yX0_leastOf.desc).map (fun d => d.parameters.length) = some 1 := by decide +kernel
theorem vi_X0_leastOf : Cond.instanceMethod yX0_leastOf ∈ zz_all ∧ Cond.selects yX0_leastOf.cls yX0_leastOf yX0_leastOf ∈ zz_all := ⟨wd_248, wd_249⟩
theorem pd_X0_mostOf : (parseMethodDescriptor yX0_mostOf.desc).map (fun d => d.parameters.length) = some 1 := by decide +kernel
theorem vi_X0_mostOf : Cond.instanceMethod yX0_mostOf ∈ zz_all ∧ Cond.selects yX0_mostOf.cls yX0_mostOf yX0_mostOf ∈ zz_all := ⟨wd_253, wd_254⟩
theorem pd_X0_widthOf : (parseMethodDescriptor yX0_widthOf.desc).map (fun d => d.parameters.length) = some 1 := by decide +kernel
theorem vi_X0_widthOf : Cond.instanceMethod yX0_widthOf ∈ zz_all ∧ Cond.selects yX0_widthOf.cls yX0_widthOf yX0_widthOf ∈ zz_all := ⟨wd_274, wd_275⟩
theorem pd_X1_init : (parseMethodDescriptor yX1_init.desc).map (fun d => d.parameters.length) = some 1 := by decide +kernel
theorem pd_X2_init : (parseMethodDescriptor yX2_init.desc).map (fun d => d.parameters.length) = some 0 := by decide +kernel
theorem pd_X2_misfitOf : (parseMethodDescriptor yX2_misfitOf.desc).map (fun d => d.parameters.length) = some 3 := by decide +kernel
theorem vs_X2_misfitOf : Cond.static yX2_misfitOf ∈ zz_all := wd_290
theorem pd_X2_make : (parseMethodDescriptor yX2_make.desc).map (fun d => d.parameters.length) = some 3 := by decide +kernel
theorem vi_X2_make : Cond.instanceMethod yX2_make ∈ zz_all ∧ Cond.selects yX2_make.cls yX2_make yX2_make ∈ zz_all := ⟨wd_294, wd_295⟩
theorem pd_X2_size : (parseMethodDescriptor yX2_size.desc).map (fun d => d.parameters.length) = some 0 := by decide +kernel
theorem vi_X2_size : Cond.instanceMethod yX2_size ∈ zz_all ∧ Cond.selects yX2_size.cls yX2_size yX2_size ∈ zz_all := ⟨wd_325, wd_326⟩
theorem pd_X4_init : (parseMethodDescriptor yX4_init.desc).map (fun d => d.parameters.length) = some 0 := by decide +kernel
theorem pd_X4_copyFrom : (parseMethodDescriptor yX4_copyFrom.desc).map (fun d => d.parameters.length) = some 1 := by decide +kernel
theorem vi_X4_copyFrom : Cond.instanceMethod yX4_copyFrom ∈ zz_all ∧ Cond.selects yX4_copyFrom.cls yX4_copyFrom yX4_copyFrom ∈ zz_all := ⟨wd_329, wd_330⟩
theorem pd_X4_leave : (parseMethodDescriptor yX4_leave.desc).map (fun d => d.parameters.length) = some 2 := by decide +kernel
theorem vi_X4_leave : Cond.instanceMethod yX4_leave ∈ zz_all ∧ Cond.selects yX4_leave.cls yX4_leave yX4_leave ∈ zz_all := ⟨wd_310, wd_311⟩
theorem pd_X4_join : (parseMethodDescriptor yX4_join.desc).map (fun d => d.parameters.length) = some 1 := by decide +kernel
theorem vi_X4_join : Cond.instanceMethod yX4_join ∈ zz_all ∧ Cond.selects yX4_join.cls yX4_join yX4_join ∈ zz_all := ⟨wd_336, wd_337⟩
theorem pd_X4_fixedBitsWith : (parseMethodDescriptor yX4_fixedBitsWith.desc).map (fun d => d.parameters.length) = some 1 := by decide +kernel
theorem vi_X4_fixedBitsWith : Cond.instanceMethod yX4_fixedBitsWith ∈ zz_all ∧ Cond.selects yX4_fixedBitsWith.cls yX4_fixedBitsWith yX4_fixedBitsWith ∈ zz_all := ⟨wd_317, wd_318⟩
theorem pd_X4_hasPair : (parseMethodDescriptor yX4_hasPair.desc).map (fun d => d.parameters.length) = some 0 := by decide +kernel
theorem vi_X4_hasPair : Cond.instanceMethod yX4_hasPair ∈ zz_all ∧ Cond.selects yX4_hasPair.cls yX4_hasPair yX4_hasPair ∈ zz_all := ⟨wd_341, wd_342⟩
theorem pd_X4_reducedPart : (parseMethodDescriptor yX4_reducedPart.desc).map (fun d => d.parameters.length) = some 3 := by decide +kernel
theorem vi_X4_reducedPart : Cond.instanceMethod yX4_reducedPart ∈ zz_all ∧ Cond.selects yX4_reducedPart.cls yX4_reducedPart yX4_reducedPart ∈ zz_all := ⟨wd_386, wd_387⟩
theorem pd_X4_pivotOf : (parseMethodDescriptor yX4_pivotOf.desc).map (fun d => d.parameters.length) = some 1 := by decide +kernel
theorem vi_X4_pivotOf : Cond.instanceMethod yX4_pivotOf ∈ zz_all ∧ Cond.selects yX4_pivotOf.cls yX4_pivotOf yX4_pivotOf ∈ zz_all := ⟨wd_391, wd_10⟩
theorem pd_X4_firstIn : (parseMethodDescriptor yX4_firstIn.desc).map (fun d => d.parameters.length) = some 1 := by decide +kernel
theorem vs_X4_firstIn : Cond.static yX4_firstIn ∈ zz_all := wd_314
theorem pd_X4_isOneLine : (parseMethodDescriptor yX4_isOneLine.desc).map (fun d => d.parameters.length) = some 3 := by decide +kernel
theorem vs_X4_isOneLine : Cond.static yX4_isOneLine ∈ zz_all := wd_322
theorem pd_X5_init : (parseMethodDescriptor yX5_init.desc).map (fun d => d.parameters.length) = some 0 := by decide +kernel
theorem pd_X5_copyFrom : (parseMethodDescriptor yX5_copyFrom.desc).map (fun d => d.parameters.length) = some 1 := by decide +kernel
theorem vi_X5_copyFrom : Cond.instanceMethod yX5_copyFrom ∈ zz_all ∧ Cond.selects yX5_copyFrom.cls yX5_copyFrom yX5_copyFrom ∈ zz_all := ⟨wd_420, wd_421⟩
theorem pd_X5_has : (parseMethodDescriptor yX5_has.desc).map (fun d => d.parameters.length) = some 1 := by decide +kernel
theorem vi_X5_has : Cond.instanceMethod yX5_has ∈ zz_all ∧ Cond.selects yX5_has.cls yX5_has yX5_has ∈ zz_all := ⟨wd_198, wd_199⟩
theorem pd_X5_variableOf : (parseMethodDescriptor yX5_variableOf.desc).map (fun d => d.parameters.length) = some 1 := by decide +kernel
theorem vi_X5_variableOf : Cond.instanceMethod yX5_variableOf ∈ zz_all ∧ Cond.selects yX5_variableOf.cls yX5_variableOf yX5_variableOf ∈ zz_all := ⟨wd_189, wd_190⟩
theorem pd_X5_valueOf : (parseMethodDescriptor yX5_valueOf.desc).map (fun d => d.parameters.length) = some 1 := by decide +kernel
theorem vi_X5_valueOf : Cond.instanceMethod yX5_valueOf ∈ zz_all ∧ Cond.selects yX5_valueOf.cls yX5_valueOf yX5_valueOf ∈ zz_all := ⟨wd_194, wd_195⟩
theorem pd_X5_lowOf : (parseMethodDescriptor yX5_lowOf.desc).map (fun d => d.parameters.length) = some 1 := by decide +kernel
theorem vi_X5_lowOf : Cond.instanceMethod yX5_lowOf ∈ zz_all ∧ Cond.selects yX5_lowOf.cls yX5_lowOf yX5_lowOf ∈ zz_all := ⟨wd_218, wd_219⟩
theorem pd_X5_highOf : (parseMethodDescriptor yX5_highOf.desc).map (fun d => d.parameters.length) = some 1 := by decide +kernel
theorem vi_X5_highOf : Cond.instanceMethod yX5_highOf ∈ zz_all ∧ Cond.selects yX5_highOf.cls yX5_highOf yX5_highOf ∈ zz_all := ⟨wd_222, wd_223⟩
theorem pd_X5_coefficient : (parseMethodDescriptor yX5_coefficient.desc).map (fun d => d.parameters.length) = some 2 := by decide +kernel
theorem vi_X5_coefficient : Cond.instanceMethod yX5_coefficient ∈ zz_all ∧ Cond.selects yX5_coefficient.cls yX5_coefficient yX5_coefficient ∈ zz_all := ⟨wd_206, wd_207⟩
theorem pd_X5_answerOf : (parseMethodDescriptor yX5_answerOf.desc).map (fun d => d.parameters.length) = some 1 := by decide +kernel
theorem vi_X5_answerOf : Cond.instanceMethod yX5_answerOf ∈ zz_all ∧ Cond.selects yX5_answerOf.cls yX5_answerOf yX5_answerOf ∈ zz_all := ⟨wd_261, wd_262⟩
theorem pd_X5_isFree : (parseMethodDescriptor yX5_isFree.desc).map (fun d => d.parameters.length) = some 1 := by decide +kernel
theorem vi_X5_isFree : Cond.instanceMethod yX5_isFree ∈ zz_all ∧ Cond.selects yX5_isFree.cls yX5_isFree yX5_isFree ∈ zz_all := ⟨wd_202, wd_203⟩
theorem pd_X5_usedBits : (parseMethodDescriptor yX5_usedBits.desc).map (fun d => d.parameters.length) = some 0 := by decide +kernel
theorem vi_X5_usedBits : Cond.instanceMethod yX5_usedBits ∈ zz_all ∧ Cond.selects yX5_usedBits.cls yX5_usedBits yX5_usedBits ∈ zz_all := ⟨wd_432, wd_433⟩
theorem pd_X5_valuesOfPeople : (parseMethodDescriptor yX5_valuesOfPeople.desc).map (fun d => d.parameters.length) = some 0 := by decide +kernel
theorem vi_X5_valuesOfPeople : Cond.instanceMethod yX5_valuesOfPeople ∈ zz_all ∧ Cond.selects yX5_valuesOfPeople.cls yX5_valuesOfPeople yX5_valuesOfPeople ∈ zz_all := ⟨wd_437, wd_438⟩
theorem pd_X5_takeTold : (parseMethodDescriptor yX5_takeTold.desc).map (fun d => d.parameters.length) = some 2 := by decide +kernel
theorem vi_X5_takeTold : Cond.instanceMethod yX5_takeTold ∈ zz_all ∧ Cond.selects yX5_takeTold.cls yX5_takeTold yX5_takeTold ∈ zz_all := ⟨wd_462, wd_463⟩
theorem pd_X5_takeChange : (parseMethodDescriptor yX5_takeChange.desc).map (fun d => d.parameters.length) = some 2 := by decide +kernel
theorem vi_X5_takeChange : Cond.instanceMethod yX5_takeChange ∈ zz_all ∧ Cond.selects yX5_takeChange.cls yX5_takeChange yX5_takeChange ∈ zz_all := ⟨wd_483, wd_484⟩
theorem pd_X5_set : (parseMethodDescriptor yX5_set.desc).map (fun d => d.parameters.length) = some 2 := by decide +kernel
theorem vi_X5_set : Cond.instanceMethod yX5_set ∈ zz_all ∧ Cond.selects yX5_set.cls yX5_set yX5_set ∈ zz_all := ⟨wd_468, wd_11⟩
theorem pd_X5_takeBounds : (parseMethodDescriptor yX5_takeBounds.desc).map (fun d => d.parameters.length) = some 3 := by decide +kernel
theorem vi_X5_takeBounds : Cond.instanceMethod yX5_takeBounds ∈ zz_all ∧ Cond.selects yX5_takeBounds.cls yX5_takeBounds yX5_takeBounds ∈ zz_all := ⟨wd_498, wd_499⟩
theorem pd_X5_takeRule : (parseMethodDescriptor yX5_takeRule.desc).map (fun d => d.parameters.length) = some 1 := by decide +kernel
theorem vi_X5_takeRule : Cond.instanceMethod yX5_takeRule ∈ zz_all ∧ Cond.selects yX5_takeRule.cls yX5_takeRule yX5_takeRule ∈ zz_all := ⟨wd_282, wd_283⟩
theorem pd_X5_takeLimit : (parseMethodDescriptor yX5_takeLimit.desc).map (fun d => d.parameters.length) = some 1 := by decide +kernel
theorem vi_X5_takeLimit : Cond.instanceMethod yX5_takeLimit ∈ zz_all ∧ Cond.selects yX5_takeLimit.cls yX5_takeLimit yX5_takeLimit ∈ zz_all := ⟨wd_475, wd_476⟩
theorem pd_X5_takeQuestion : (parseMethodDescriptor yX5_takeQuestion.desc).map (fun d => d.parameters.length) = some 1 := by decide +kernel
theorem vi_X5_takeQuestion : Cond.instanceMethod yX5_takeQuestion ∈ zz_all ∧ Cond.selects yX5_takeQuestion.cls yX5_takeQuestion yX5_takeQuestion ∈ zz_all := ⟨wd_298, wd_299⟩
theorem pd_X5_meetingBy : (parseMethodDescriptor yX5_meetingBy.desc).map (fun d => d.parameters.length) = some 3 := by decide +kernel
theorem vi_X5_meetingBy : Cond.instanceMethod yX5_meetingBy ∈ zz_all ∧ Cond.selects yX5_meetingBy.cls yX5_meetingBy yX5_meetingBy ∈ zz_all := ⟨wd_302, wd_303⟩
theorem pd_X5_fixedBitsWith : (parseMethodDescriptor yX5_fixedBitsWith.desc).map (fun d => d.parameters.length) = some 1 := by decide +kernel
theorem vi_X5_fixedBitsWith : Cond.instanceMethod yX5_fixedBitsWith ∈ zz_all ∧ Cond.selects yX5_fixedBitsWith.cls yX5_fixedBitsWith yX5_fixedBitsWith ∈ zz_all := ⟨wd_412, wd_413⟩
theorem pd_X5_join : (parseMethodDescriptor yX5_join.desc).map (fun d => d.parameters.length) = some 1 := by decide +kernel
theorem vi_X5_join : Cond.instanceMethod yX5_join ∈ zz_all ∧ Cond.selects yX5_join.cls yX5_join yX5_join ∈ zz_all := ⟨wd_345, wd_346⟩
theorem pd_X5_trueAnswer : (parseMethodDescriptor yX5_trueAnswer.desc).map (fun d => d.parameters.length) = some 1 := by decide +kernel
theorem vi_X5_trueAnswer : Cond.instanceMethod yX5_trueAnswer ∈ zz_all ∧ Cond.selects yX5_trueAnswer.cls yX5_trueAnswer yX5_trueAnswer ∈ zz_all := ⟨wd_350, wd_351⟩
theorem pd_X5_findRest : (parseMethodDescriptor yX5_findRest.desc).map (fun d => d.parameters.length) = some 1 := by decide +kernel
theorem vi_X5_findRest : Cond.instanceMethod yX5_findRest ∈ zz_all ∧ Cond.selects yX5_findRest.cls yX5_findRest yX5_findRest ∈ zz_all := ⟨wd_307, wd_6⟩
theorem pd_X6_init : (parseMethodDescriptor yX6_init.desc).map (fun d => d.parameters.length) = some 0 := by decide +kernel
theorem pd_X6_person : (parseMethodDescriptor yX6_person.desc).map (fun d => d.parameters.length) = some 2 := by decide +kernel
theorem vi_X6_person : Cond.instanceMethod yX6_person ∈ zz_all ∧ Cond.selects yX6_person.cls yX6_person yX6_person ∈ zz_all := ⟨wd_178, wd_179⟩
theorem pd_X6_variable : (parseMethodDescriptor yX6_variable.desc).map (fun d => d.parameters.length) = some 2 := by decide +kernel
theorem vi_X6_variable : Cond.instanceMethod yX6_variable ∈ zz_all ∧ Cond.selects yX6_variable.cls yX6_variable yX6_variable ∈ zz_all := ⟨wd_213, wd_214⟩
theorem pd_X6_narrowed : (parseMethodDescriptor yX6_narrowed.desc).map (fun d => d.parameters.length) = some 2 := by decide +kernel
theorem vi_X6_narrowed : Cond.instanceMethod yX6_narrowed ∈ zz_all ∧ Cond.selects yX6_narrowed.cls yX6_narrowed yX6_narrowed ∈ zz_all := ⟨wd_227, wd_1⟩
theorem pd_X6_tells : (parseMethodDescriptor yX6_tells.desc).map (fun d => d.parameters.length) = some 2 := by decide +kernel
theorem vi_X6_tells : Cond.instanceMethod yX6_tells ∈ zz_all ∧ Cond.selects yX6_tells.cls yX6_tells yX6_tells ∈ zz_all := ⟨wd_452, wd_453⟩
theorem pd_X6_changes : (parseMethodDescriptor yX6_changes.desc).map (fun d => d.parameters.length) = some 2 := by decide +kernel
theorem vi_X6_changes : Cond.instanceMethod yX6_changes ∈ zz_all ∧ Cond.selects yX6_changes.cls yX6_changes yX6_changes ∈ zz_all := ⟨wd_479, wd_480⟩
theorem pd_X6_misfitOfValue : (parseMethodDescriptor yX6_misfitOfValue.desc).map (fun d => d.parameters.length) = some 2 := by decide +kernel
theorem vs_X6_misfitOfValue : Cond.static yX6_misfitOfValue ∈ zz_all := wd_456
theorem pd_X6_bounds : (parseMethodDescriptor yX6_bounds.desc).map (fun d => d.parameters.length) = some 3 := by decide +kernel
theorem vi_X6_bounds : Cond.instanceMethod yX6_bounds ∈ zz_all ∧ Cond.selects yX6_bounds.cls yX6_bounds yX6_bounds ∈ zz_all := ⟨wd_494, wd_495⟩
theorem pd_X6_rule : (parseMethodDescriptor yX6_rule.desc).map (fun d => d.parameters.length) = some 1 := by decide +kernel
theorem vi_X6_rule : Cond.instanceMethod yX6_rule ∈ zz_all ∧ Cond.selects yX6_rule.cls yX6_rule yX6_rule ∈ zz_all := ⟨wd_278, wd_279⟩
theorem pd_X6_limit : (parseMethodDescriptor yX6_limit.desc).map (fun d => d.parameters.length) = some 1 := by decide +kernel
theorem vi_X6_limit : Cond.instanceMethod yX6_limit ∈ zz_all ∧ Cond.selects yX6_limit.cls yX6_limit yX6_limit ∈ zz_all := ⟨wd_471, wd_472⟩
theorem pd_X6_ask : (parseMethodDescriptor yX6_ask.desc).map (fun d => d.parameters.length) = some 3 := by decide +kernel
theorem vi_X6_ask : Cond.instanceMethod yX6_ask ∈ zz_all ∧ Cond.selects yX6_ask.cls yX6_ask yX6_ask ∈ zz_all := ⟨wd_286, wd_287⟩
theorem pd_X6_would : (parseMethodDescriptor yX6_would.desc).map (fun d => d.parameters.length) = some 3 := by decide +kernel
theorem vi_X6_would : Cond.instanceMethod yX6_would ∈ zz_all ∧ Cond.selects yX6_would.cls yX6_would yX6_would ∈ zz_all := ⟨wd_355, wd_356⟩
theorem pd_X6_sums : (parseMethodDescriptor yX6_sums.desc).map (fun d => d.parameters.length) = some 1 := by decide +kernel
theorem vi_X6_sums : Cond.instanceMethod yX6_sums ∈ zz_all ∧ Cond.selects yX6_sums.cls yX6_sums yX6_sums ∈ zz_all := ⟨wd_360, wd_361⟩
theorem pd_X6_leastJoining : (parseMethodDescriptor yX6_leastJoining.desc).map (fun d => d.parameters.length) = some 0 := by decide +kernel
theorem vi_X6_leastJoining : Cond.instanceMethod yX6_leastJoining ∈ zz_all ∧ Cond.selects yX6_leastJoining.cls yX6_leastJoining yX6_leastJoining ∈ zz_all := ⟨wd_365, wd_7⟩
theorem pd_X6_howMany : (parseMethodDescriptor yX6_howMany.desc).map (fun d => d.parameters.length) = some 1 := by decide +kernel
theorem vi_X6_howMany : Cond.instanceMethod yX6_howMany ∈ zz_all ∧ Cond.selects yX6_howMany.cls yX6_howMany yX6_howMany ∈ zz_all := ⟨wd_373, wd_9⟩
theorem pd_X6_meetingOfSum : (parseMethodDescriptor yX6_meetingOfSum.desc).map (fun d => d.parameters.length) = some 2 := by decide +kernel
theorem vi_X6_meetingOfSum : Cond.instanceMethod yX6_meetingOfSum ∈ zz_all ∧ Cond.selects yX6_meetingOfSum.cls yX6_meetingOfSum yX6_meetingOfSum ∈ zz_all := ⟨wd_369, wd_8⟩
theorem pd_X6_answer : (parseMethodDescriptor yX6_answer.desc).map (fun d => d.parameters.length) = some 1 := by decide +kernel
theorem vi_X6_answer : Cond.instanceMethod yX6_answer ∈ zz_all ∧ Cond.selects yX6_answer.cls yX6_answer yX6_answer ∈ zz_all := ⟨wd_376, wd_377⟩
theorem pd_X6_reduced : (parseMethodDescriptor yX6_reduced.desc).map (fun d => d.parameters.length) = some 3 := by decide +kernel
theorem vi_X6_reduced : Cond.instanceMethod yX6_reduced ∈ zz_all ∧ Cond.selects yX6_reduced.cls yX6_reduced yX6_reduced ∈ zz_all := ⟨wd_382, wd_383⟩
theorem pd_X6_pivots : (parseMethodDescriptor yX6_pivots.desc).map (fun d => d.parameters.length) = some 0 := by decide +kernel
theorem vi_X6_pivots : Cond.instanceMethod yX6_pivots ∈ zz_all ∧ Cond.selects yX6_pivots.cls yX6_pivots yX6_pivots ∈ zz_all := ⟨wd_404, wd_405⟩
theorem pd_X6_attack : (parseMethodDescriptor yX6_attack.desc).map (fun d => d.parameters.length) = some 2 := by decide +kernel
theorem vi_X6_attack : Cond.instanceMethod yX6_attack ∈ zz_all ∧ Cond.selects yX6_attack.cls yX6_attack yX6_attack ∈ zz_all := ⟨wd_408, wd_409⟩
theorem pd_X6_image : (parseMethodDescriptor yX6_image.desc).map (fun d => d.parameters.length) = some 0 := by decide +kernel
theorem vi_X6_image : Cond.instanceMethod yX6_image ∈ zz_all ∧ Cond.selects yX6_image.cls yX6_image yX6_image ∈ zz_all := ⟨wd_416, wd_417⟩
theorem pd_X6_on : (parseMethodDescriptor yX6_on.desc).map (fun d => d.parameters.length) = some 0 := by decide +kernel
theorem vi_X6_on : Cond.instanceMethod yX6_on ∈ zz_all ∧ Cond.selects yX6_on.cls yX6_on yX6_on ∈ zz_all := ⟨wd_424, wd_425⟩
theorem pd_X6_count : (parseMethodDescriptor yX6_count.desc).map (fun d => d.parameters.length) = some 1 := by decide +kernel
theorem vi_X6_count : Cond.instanceMethod yX6_count ∈ zz_all ∧ Cond.selects yX6_count.cls yX6_count yX6_count ∈ zz_all := ⟨wd_428, wd_429⟩
theorem pd_X6_refuse : (parseMethodDescriptor yX6_refuse.desc).map (fun d => d.parameters.length) = some 1 := by decide +kernel
theorem vi_X6_refuse : Cond.instanceMethod yX6_refuse ∈ zz_all ∧ Cond.selects yX6_refuse.cls yX6_refuse yX6_refuse ∈ zz_all := ⟨wd_186, wd_0⟩
theorem pd_X6_misfit : (parseMethodDescriptor yX6_misfit.desc).map (fun d => d.parameters.length) = some 3 := by decide +kernel
theorem vs_X6_misfit : Cond.static yX6_misfit ∈ zz_all := wd_459
theorem pd_X6_isWithin : (parseMethodDescriptor yX6_isWithin.desc).map (fun d => d.parameters.length) = some 2 := by decide +kernel
theorem vs_X6_isWithin : Cond.static yX6_isWithin ∈ zz_all := wd_182
theorem pd_X6_asNumber : (parseMethodDescriptor yX6_asNumber.desc).map (fun d => d.parameters.length) = some 1 := by decide +kernel
theorem vs_X6_asNumber : Cond.static yX6_asNumber ∈ zz_all := wd_210
theorem pd_X6_partInLeastTerms : (parseMethodDescriptor yX6_partInLeastTerms.desc).map (fun d => d.parameters.length) = some 3 := by decide +kernel
theorem vs_X6_partInLeastTerms : Cond.static yX6_partInLeastTerms ∈ zz_all := wd_395
theorem pd_X6_greatestDivisor : (parseMethodDescriptor yX6_greatestDivisor.desc).map (fun d => d.parameters.length) = some 2 := by decide +kernel
theorem vs_X6_greatestDivisor : Cond.static yX6_greatestDivisor ∈ zz_all := wd_401
theorem pd_J6_bitCount_0f7a4 : (parseMethodDescriptor yJ6_bitCount_0f7a4.desc).map (fun d => d.parameters.length) = some 1 := by decide +kernel
theorem vs_J6_bitCount_0f7a4 : Cond.static yJ6_bitCount_0f7a4 ∈ zz_all := wd_502
theorem pd_J9_floorDiv_7cf53 : (parseMethodDescriptor yJ9_floorDiv_7cf53.desc).map (fun d => d.parameters.length) = some 2 := by decide +kernel
theorem vs_J9_floorDiv_7cf53 : Cond.static yJ9_floorDiv_7cf53 ∈ zz_all := wd_269
theorem pd_J9_abs_067f4 : (parseMethodDescriptor yJ9_abs_067f4.desc).map (fun d => d.parameters.length) = some 1 := by decide +kernel
theorem vs_J9_abs_067f4 : Cond.static yJ9_abs_067f4 ∈ zz_all := wd_398
theorem pd_J9_max_7cf53 : (parseMethodDescriptor yJ9_max_7cf53.desc).map (fun d => d.parameters.length) = some 2 := by decide +kernel
theorem vs_J9_max_7cf53 : Cond.static yJ9_max_7cf53 ∈ zz_all := wd_490
theorem pd_J9_min_7cf53 : (parseMethodDescriptor yJ9_min_7cf53.desc).map (fun d => d.parameters.length) = some 2 := by decide +kernel
theorem vs_J9_min_7cf53 : Cond.static yJ9_min_7cf53 ∈ zz_all := wd_234
theorem pd_L_cell : (parseMethodDescriptor yL_cell.desc).map (fun d => d.parameters.length) = some 2 := by decide +kernel
theorem vs_L_cell : Cond.static yL_cell ∈ zz_all := wd_442
theorem pd_L_pick : (parseMethodDescriptor yL_pick.desc).map (fun d => d.parameters.length) = some 2 := by decide +kernel
theorem vs_L_pick : Cond.static yL_pick ∈ zz_all := wd_445
theorem pd_L_guard : (parseMethodDescriptor yL_guard.desc).map (fun d => d.parameters.length) = some 3 := by decide +kernel
theorem vs_L_guard : Cond.static yL_guard ∈ zz_all := wd_449
theorem pd_L_bound : (parseMethodDescriptor yL_bound.desc).map (fun d => d.parameters.length) = some 4 := by decide +kernel
theorem vs_L_bound : Cond.static yL_bound ∈ zz_all := wd_487
theorem cw_L_62 : zz_cw RL 62 yX6_init cX6_init 1 none 0 := ⟨wd_24, wd_26, wd_13, nh_X6, pd_X6_init⟩
theorem cw_X6_9 : zz_cw RX6 9 yX5_init cX5_init 2 none 0 := ⟨wd_32, wd_34, wd_14, nh_X5, pd_X5_init⟩
theorem cw_X5_41 : zz_cw RX5 41 yX4_init cX4_init 2 none 0 := ⟨wd_40, wd_42, wd_15, nh_X4, pd_X4_init⟩
theorem cw_X6_38 : zz_cw RX6 38 yX1_init cX1_init 2 none 1 := ⟨wd_138, wd_140, wd_18, nh_X1, pd_X1_init⟩
theorem cw_L_75 : zz_cw RL 75 yX6_person cX6_person 4 (some .int) 2 := ⟨wd_177, wd_180, wd_13, nh_X6, pd_X6_person⟩
theorem cw_X6_69 : zz_cw RX6 69 yX6_isWithin cX6_isWithin 2 (some .boolean) 2 := ⟨wd_181, wd_183, wd_13, nh_X6, pd_X6_isWithin⟩
theorem cw_X6_73 : zz_cw RX6 73 yX6_refuse cX6_refuse 3 (some .int) 1 := ⟨wd_184, wd_187, wd_13, nh_X6, pd_X6_refuse⟩
theorem cw_X6_77 : zz_cw RX6 77 yX5_variableOf cX5_variableOf 2 (some .int) 1 := ⟨wd_188, wd_191, wd_14, nh_X5, pd_X5_variableOf⟩
theorem cw_X6_80 : zz_cw RX6 80 yX5_valueOf cX5_valueOf 2 (some .int) 1 := ⟨wd_193, wd_196, wd_14, nh_X5, pd_X5_valueOf⟩
theorem cw_X5_76 : zz_cw RX5 76 yX5_has cX5_has 2 (some .boolean) 1 := ⟨wd_197, wd_200, wd_14, nh_X5, pd_X5_has⟩
theorem cw_X6_83 : zz_cw RX6 83 yX5_isFree cX5_isFree 3 (some .boolean) 1 := ⟨wd_201, wd_204, wd_14, nh_X5, pd_X5_isFree⟩
theorem cw_X5_80 : zz_cw RX5 80 yX5_coefficient cX5_coefficient 3 (some .int) 2 := ⟨wd_205, wd_208, wd_14, nh_X5, pd_X5_coefficient⟩
theorem cw_X6_87 : zz_cw RX6 87 yX6_asNumber cX6_asNumber 1 (some .int) 1 := ⟨wd_209, wd_211, wd_13, nh_X6, pd_X6_asNumber⟩
theorem cw_L_48 : zz_cw RL 48 yX6_variable cX6_variable 3 (some .int) 2 := ⟨wd_212, wd_215, wd_13, nh_X6, pd_X6_variable⟩
theorem cw_X6_91 : zz_cw RX6 91 yX5_has cX5_has 2 (some .boolean) 1 := ⟨wd_216, wd_200, wd_14, nh_X5, pd_X5_has⟩
theorem cw_X6_94 : zz_cw RX6 94 yX5_lowOf cX5_lowOf 2 (some .int) 1 := ⟨wd_217, wd_220, wd_14, nh_X5, pd_X5_lowOf⟩
theorem cw_X6_97 : zz_cw RX6 97 yX5_highOf cX5_highOf 2 (some .int) 1 := ⟨wd_221, wd_224, wd_14, nh_X5, pd_X5_highOf⟩
theorem cw_X6_100 : zz_cw RX6 100 yX6_narrowed cX6_narrowed 3 (some .int) 2 := ⟨wd_225, wd_228, wd_13, nh_X6, pd_X6_narrowed⟩
theorem cw_X6_104 : zz_cw RX6 104 yX0_narrow cX0_narrow 5 none 1 := ⟨wd_229, wd_232, wd_17, nh_X0, pd_X0_narrow⟩
theorem cw_X0_24 : zz_cw RX0 24 yJ9_min_7cf53 cJ9_min_7cf53 2 (some .int) 2 := ⟨wd_233, wd_235, wd_20, nh_J9, pd_J9_min_7cf53⟩
theorem cw_X0_31 : zz_cw RX0 31 yX5_lowOf cX5_lowOf 2 (some .int) 1 := ⟨wd_236, wd_220, wd_14, nh_X5, pd_X5_lowOf⟩
theorem cw_X0_35 : zz_cw RX0 35 yX5_highOf cX5_highOf 2 (some .int) 1 := ⟨wd_237, wd_224, wd_14, nh_X5, pd_X5_highOf⟩
theorem cw_X0_41 : zz_cw RX0 41 yX0_narrowByRow cX0_narrowByRow 11 (some .boolean) 2 := ⟨wd_238, wd_241, wd_17, nh_X0, pd_X0_narrowByRow⟩
theorem cw_X0_45 : zz_cw RX0 45 yX5_coefficient cX5_coefficient 3 (some .int) 2 := ⟨wd_242, wd_208, wd_14, nh_X5, pd_X5_coefficient⟩
theorem cw_X0_48 : zz_cw RX0 48 yX0_lowEnd cX0_lowEnd 3 (some .int) 2 := ⟨wd_243, wd_246, wd_17, nh_X0, pd_X0_lowEnd⟩
theorem cw_X0_68 : zz_cw RX0 68 yX0_leastOf cX0_leastOf 2 (some .int) 1 := ⟨wd_247, wd_250, wd_17, nh_X0, pd_X0_leastOf⟩
theorem cw_X0_71 : zz_cw RX0 71 yX0_mostOf cX0_mostOf 2 (some .int) 1 := ⟨wd_252, wd_255, wd_17, nh_X0, pd_X0_mostOf⟩
theorem cw_X0_51 : zz_cw RX0 51 yX0_highEnd cX0_highEnd 3 (some .int) 2 := ⟨wd_256, wd_259, wd_17, nh_X0, pd_X0_highEnd⟩
theorem cw_X0_54 : zz_cw RX0 54 yX5_answerOf cX5_answerOf 2 (some .int) 1 := ⟨wd_260, wd_263, wd_14, nh_X5, pd_X5_answerOf⟩
theorem cw_X0_57 : zz_cw RX0 57 yX0_narrowOne cX0_narrowOne 8 (some .boolean) 4 := ⟨wd_264, wd_267, wd_17, nh_X0, pd_X0_narrowOne⟩
theorem cw_X0_65 : zz_cw RX0 65 yJ9_floorDiv_7cf53 cJ9_floorDiv_7cf53 3 (some .int) 2 := ⟨wd_268, wd_270, wd_20, nh_J9, pd_J9_floorDiv_7cf53⟩
theorem cw_X6_107 : zz_cw RX6 107 yX0_leastOf cX0_leastOf 2 (some .int) 1 := ⟨wd_271, wd_250, wd_17, nh_X0, pd_X0_leastOf⟩
theorem cw_X6_110 : zz_cw RX6 110 yX0_mostOf cX0_mostOf 2 (some .int) 1 := ⟨wd_272, wd_255, wd_17, nh_X0, pd_X0_mostOf⟩
theorem cw_X6_113 : zz_cw RX6 113 yX0_widthOf cX0_widthOf 2 (some .int) 1 := ⟨wd_273, wd_276, wd_17, nh_X0, pd_X0_widthOf⟩
theorem cw_L_34 : zz_cw RL 34 yX6_rule cX6_rule 3 (some .int) 1 := ⟨wd_277, wd_280, wd_13, nh_X6, pd_X6_rule⟩
theorem cw_X6_137 : zz_cw RX6 137 yX5_takeRule cX5_takeRule 2 (some .boolean) 1 := ⟨wd_281, wd_284, wd_14, nh_X5, pd_X5_takeRule⟩
theorem cw_L_37 : zz_cw RL 37 yX6_ask cX6_ask 5 (some .int) 3 := ⟨wd_285, wd_288, wd_13, nh_X6, pd_X6_ask⟩
theorem cw_X6_146 : zz_cw RX6 146 yX2_misfitOf cX2_misfitOf 5 (some .int) 3 := ⟨wd_289, wd_291, wd_16, nh_X2, pd_X2_misfitOf⟩
theorem cw_X6_150 : zz_cw RX6 150 yX2_make cX2_make 8 none 3 := ⟨wd_293, wd_296, wd_16, nh_X2, pd_X2_make⟩
theorem cw_X6_154 : zz_cw RX6 154 yX5_takeQuestion cX5_takeQuestion 3 (some .int) 1 := ⟨wd_297, wd_300, wd_14, nh_X5, pd_X5_takeQuestion⟩
theorem cw_X5_106 : zz_cw RX5 106 yX5_meetingBy cX5_meetingBy 6 (some .int) 3 := ⟨wd_301, wd_304, wd_14, nh_X5, pd_X5_meetingBy⟩
theorem cw_X5_114 : zz_cw RX5 114 yX5_findRest cX5_findRest 4 none 1 := ⟨wd_305, wd_308, wd_14, nh_X5, pd_X5_findRest⟩
theorem cw_X5_143 : zz_cw RX5 143 yX4_leave cX4_leave 6 none 2 := ⟨wd_309, wd_312, wd_15, nh_X4, pd_X4_leave⟩
theorem cw_X5_117 : zz_cw RX5 117 yX4_firstIn cX4_firstIn 2 (some .int) 1 := ⟨wd_313, wd_315, wd_15, nh_X4, pd_X4_firstIn⟩
theorem cw_X5_121 : zz_cw RX5 121 yX4_fixedBitsWith cX4_fixedBitsWith 5 (some .int) 1 := ⟨wd_316, wd_319, wd_15, nh_X4, pd_X4_fixedBitsWith⟩
theorem cw_X4_30 : zz_cw RX4 30 yX4_firstIn cX4_firstIn 2 (some .int) 1 := ⟨wd_320, wd_315, wd_15, nh_X4, pd_X4_firstIn⟩
theorem cw_X4_38 : zz_cw RX4 38 yX4_isOneLine cX4_isOneLine 4 (some .boolean) 3 := ⟨wd_321, wd_323, wd_15, nh_X4, pd_X4_isOneLine⟩
theorem cw_X5_124 : zz_cw RX5 124 yX2_size cX2_size 3 (some .int) 0 := ⟨wd_324, wd_327, wd_16, nh_X2, pd_X2_size⟩
theorem cw_X5_68 : zz_cw RX5 68 yX4_copyFrom cX4_copyFrom 3 none 1 := ⟨wd_328, wd_331, wd_15, nh_X4, pd_X4_copyFrom⟩
theorem cw_X5_129 : zz_cw RX5 129 yX4_join cX4_join 9 none 1 := ⟨wd_335, wd_338, wd_15, nh_X4, pd_X4_join⟩
theorem cw_X5_132 : zz_cw RX5 132 yX4_hasPair cX4_hasPair 4 (some .boolean) 0 := ⟨wd_340, wd_343, wd_15, nh_X4, pd_X4_hasPair⟩
theorem cw_X5_110 : zz_cw RX5 110 yX5_join cX5_join 2 none 1 := ⟨wd_344, wd_347, wd_14, nh_X5, pd_X5_join⟩
theorem cw_X5_136 : zz_cw RX5 136 yX5_trueAnswer cX5_trueAnswer 5 (some .int) 1 := ⟨wd_349, wd_352, wd_14, nh_X5, pd_X5_trueAnswer⟩
theorem cw_X6_158 : zz_cw RX6 158 yX5_trueAnswer cX5_trueAnswer 5 (some .int) 1 := ⟨wd_353, wd_352, wd_14, nh_X5, pd_X5_trueAnswer⟩
theorem cw_L_72 : zz_cw RL 72 yX6_would cX6_would 5 (some .int) 3 := ⟨wd_354, wd_357, wd_13, nh_X6, pd_X6_would⟩
theorem cw_X6_161 : zz_cw RX6 161 yX5_meetingBy cX5_meetingBy 6 (some .int) 3 := ⟨wd_358, wd_304, wd_14, nh_X5, pd_X5_meetingBy⟩
theorem cw_L_93 : zz_cw RL 93 yX6_sums cX6_sums 2 (some .int) 1 := ⟨wd_359, wd_362, wd_13, nh_X6, pd_X6_sums⟩
theorem cw_X6_165 : zz_cw RX6 165 yX6_leastJoining cX6_leastJoining 2 (some .int) 0 := ⟨wd_363, wd_366, wd_13, nh_X6, pd_X6_leastJoining⟩
theorem cw_X6_172 : zz_cw RX6 172 yX6_meetingOfSum cX6_meetingOfSum 3 (some .int) 2 := ⟨wd_367, wd_370, wd_13, nh_X6, pd_X6_meetingOfSum⟩
theorem cw_X6_169 : zz_cw RX6 169 yX6_howMany cX6_howMany 4 (some .int) 1 := ⟨wd_371, wd_374, wd_13, nh_X6, pd_X6_howMany⟩
theorem cw_L_100 : zz_cw RL 100 yX6_answer cX6_answer 2 (some .long) 1 := ⟨wd_375, wd_378, wd_13, nh_X6, pd_X6_answer⟩
theorem cw_X6_184 : zz_cw RX6 184 yX5_answerOf cX5_answerOf 2 (some .int) 1 := ⟨wd_380, wd_263, wd_14, nh_X5, pd_X5_answerOf⟩
theorem cw_L_96 : zz_cw RL 96 yX6_reduced cX6_reduced 4 (some .long) 3 := ⟨wd_381, wd_384, wd_13, nh_X6, pd_X6_reduced⟩
theorem cw_X6_191 : zz_cw RX6 191 yX4_reducedPart cX4_reducedPart 5 (some .long) 3 := ⟨wd_385, wd_388, wd_15, nh_X4, pd_X4_reducedPart⟩
theorem cw_X4_42 : zz_cw RX4 42 yX4_pivotOf cX4_pivotOf 4 (some .int) 1 := ⟨wd_389, wd_392, wd_15, nh_X4, pd_X4_pivotOf⟩
theorem cw_X6_287 : zz_cw RX6 287 yJ9_abs_067f4 cJ9_abs_067f4 2 (some .long) 1 := ⟨wd_397, wd_399, wd_20, nh_J9, pd_J9_abs_067f4⟩
theorem cw_X6_291 : zz_cw RX6 291 yX6_greatestDivisor cX6_greatestDivisor 11 (some .long) 2 := ⟨wd_400, wd_402, wd_13, nh_X6, pd_X6_greatestDivisor⟩
theorem cw_L_85 : zz_cw RL 85 yX6_pivots cX6_pivots 1 (some .int) 0 := ⟨wd_403, wd_406, wd_13, nh_X6, pd_X6_pivots⟩
theorem cw_L_82 : zz_cw RL 82 yX6_attack cX6_attack 6 (some .int) 2 := ⟨wd_407, wd_410, wd_13, nh_X6, pd_X6_attack⟩
theorem cw_X6_200 : zz_cw RX6 200 yX5_fixedBitsWith cX5_fixedBitsWith 2 (some .int) 1 := ⟨wd_411, wd_414, wd_14, nh_X5, pd_X5_fixedBitsWith⟩
theorem cw_L_66 : zz_cw RL 66 yX6_image cX6_image 1 (some .int) 0 := ⟨wd_415, wd_418, wd_13, nh_X6, pd_X6_image⟩
theorem cw_X6_56 : zz_cw RX6 56 yX5_copyFrom cX5_copyFrom 3 none 1 := ⟨wd_419, wd_422, wd_14, nh_X5, pd_X5_copyFrom⟩
theorem cw_L_79 : zz_cw RL 79 yX6_on cX6_on 1 (some .int) 0 := ⟨wd_423, wd_426, wd_13, nh_X6, pd_X6_on⟩
theorem cw_L_69 : zz_cw RL 69 yX6_count cX6_count 2 (some .int) 1 := ⟨wd_427, wd_430, wd_13, nh_X6, pd_X6_count⟩
theorem cw_X6_278 : zz_cw RX6 278 yX5_usedBits cX5_usedBits 3 (some .int) 0 := ⟨wd_431, wd_434, wd_14, nh_X5, pd_X5_usedBits⟩
theorem cw_X5_84 : zz_cw RX5 84 yX5_isFree cX5_isFree 3 (some .boolean) 1 := ⟨wd_435, wd_204, wd_14, nh_X5, pd_X5_isFree⟩
theorem cw_X6_281 : zz_cw RX6 281 yX5_valuesOfPeople cX5_valuesOfPeople 3 (some .int) 0 := ⟨wd_436, wd_439, wd_14, nh_X5, pd_X5_valuesOfPeople⟩
theorem cw_X5_87 : zz_cw RX5 87 yX5_valueOf cX5_valueOf 2 (some .int) 1 := ⟨wd_440, wd_196, wd_14, nh_X5, pd_X5_valueOf⟩
theorem cw_L_18 : zz_cw RL 18 yL_cell cL_cell 2 (some .int) 2 := ⟨wd_441, wd_443, wd_12, nh_L, pd_L_cell⟩
theorem cw_L_24 : zz_cw RL 24 yL_pick cL_pick 2 (some .int) 2 := ⟨wd_444, wd_446, wd_12, nh_L, pd_L_pick⟩
theorem cw_L_63 : zz_cw RL 63 yL_guard cL_guard 7 none 3 := ⟨wd_448, wd_450, wd_12, nh_L, pd_L_guard⟩
theorem cw_L_28 : zz_cw RL 28 yX6_tells cX6_tells 5 (some .int) 2 := ⟨wd_451, wd_454, wd_13, nh_X6, pd_X6_tells⟩
theorem cw_X6_116 : zz_cw RX6 116 yX6_misfitOfValue cX6_misfitOfValue 2 (some .int) 2 := ⟨wd_455, wd_457, wd_13, nh_X6, pd_X6_misfitOfValue⟩
theorem cw_X6_125 : zz_cw RX6 125 yX6_misfit cX6_misfit 3 (some .int) 3 := ⟨wd_458, wd_460, wd_13, nh_X6, pd_X6_misfit⟩
theorem cw_X6_119 : zz_cw RX6 119 yX5_takeTold cX5_takeTold 4 (some .boolean) 2 := ⟨wd_461, wd_464, wd_14, nh_X5, pd_X5_takeTold⟩
theorem cw_X5_99 : zz_cw RX5 99 yX5_variableOf cX5_variableOf 2 (some .int) 1 := ⟨wd_465, wd_191, wd_14, nh_X5, pd_X5_variableOf⟩
theorem cw_X5_102 : zz_cw RX5 102 yX5_set cX5_set 3 none 2 := ⟨wd_466, wd_469, wd_14, nh_X5, pd_X5_set⟩
theorem cw_L_31 : zz_cw RL 31 yX6_limit cX6_limit 4 (some .int) 1 := ⟨wd_470, wd_473, wd_13, nh_X6, pd_X6_limit⟩
theorem cw_X6_143 : zz_cw RX6 143 yX5_takeLimit cX5_takeLimit 2 (some .boolean) 1 := ⟨wd_474, wd_477, wd_14, nh_X5, pd_X5_takeLimit⟩
theorem cw_L_41 : zz_cw RL 41 yX6_changes cX6_changes 4 (some .int) 2 := ⟨wd_478, wd_481, wd_13, nh_X6, pd_X6_changes⟩
theorem cw_X6_122 : zz_cw RX6 122 yX5_takeChange cX5_takeChange 3 (some .boolean) 2 := ⟨wd_482, wd_485, wd_14, nh_X5, pd_X5_takeChange⟩
theorem cw_L_44 : zz_cw RL 44 yL_bound cL_bound 5 none 4 := ⟨wd_486, wd_488, wd_12, nh_L, pd_L_bound⟩
theorem cw_L_51 : zz_cw RL 51 yJ9_max_7cf53 cJ9_max_7cf53 2 (some .int) 2 := ⟨wd_489, wd_491, wd_20, nh_J9, pd_J9_max_7cf53⟩
theorem cw_L_56 : zz_cw RL 56 yJ9_min_7cf53 cJ9_min_7cf53 2 (some .int) 2 := ⟨wd_492, wd_235, wd_20, nh_J9, pd_J9_min_7cf53⟩
theorem cw_L_59 : zz_cw RL 59 yX6_bounds cX6_bounds 4 (some .int) 3 := ⟨wd_493, wd_496, wd_13, nh_X6, pd_X6_bounds⟩
theorem cw_X6_129 : zz_cw RX6 129 yX5_takeBounds cX5_takeBounds 4 (some .boolean) 3 := ⟨wd_497, wd_500, wd_14, nh_X5, pd_X5_takeBounds⟩
theorem cw_L_88 : zz_cw RL 88 yJ6_bitCount_0f7a4 cJ6_bitCount_0f7a4 1 (some .int) 1 := ⟨wd_501, wd_503, wd_21, nh_J6, pd_J6_bitCount_0f7a4⟩
theorem cn_X6_24 : zz_cn RX6 24 yX2_init cX2_init 1 none 0 RX6 := ⟨by decide +kernel, wd_113, wd_16, nh_X2, pd_X2_init⟩
theorem cn_X6_31 : zz_cn RX6 31 yX0_init cX0_init 1 none 0 RX6 := ⟨by decide +kernel, wd_124, wd_17, nh_X0, pd_X0_init⟩
theorem cn_X5_72 : zz_cn RX5 72 yX6_isWithin cX6_isWithin 2 (some .boolean) 2 RX6 := ⟨by decide +kernel, wd_183, wd_13, nh_X6, pd_X6_isWithin⟩
theorem cn_X0_61 : zz_cn RX0 61 yX6_isWithin cX6_isWithin 2 (some .boolean) 2 RX6 := ⟨by decide +kernel, wd_183, wd_13, nh_X6, pd_X6_isWithin⟩
theorem cn_X4_34 : zz_cn RX4 34 yX6_isWithin cX6_isWithin 2 (some .boolean) 2 RX6 := ⟨by decide +kernel, wd_183, wd_13, nh_X6, pd_X6_isWithin⟩
theorem cn_X4_46 : zz_cn RX4 46 yX6_asNumber cX6_asNumber 1 (some .int) 1 RX6 := ⟨by decide +kernel, wd_211, wd_13, nh_X6, pd_X6_asNumber⟩
theorem cn_X4_50 : zz_cn RX4 50 yX6_partInLeastTerms cX6_partInLeastTerms 9 (some .long) 3 RX6 := ⟨by decide +kernel, wd_396, wd_13, nh_X6, pd_X6_partInLeastTerms⟩
theorem sysw_X4 : zz_sysw RX4 20 := ⟨wd_332, wd_334, wd_333, wd_19⟩
theorem sysw_X5 : zz_sysw RX5 56 := ⟨wd_348, wd_334, wd_333, wd_19⟩
end
section
def f_J6_bitCount_0f7a4 (p0 : Int32) : Int32 :=
  lt ((p0 - ((iusr p0 (1 : Int32)) &&& (1431655765 : Int32)))) fun v0_1 =>
  lt (((v0_1 &&& (858993459 : Int32)) + ((iusr v0_1 (2 : Int32)) &&& (858993459 : Int32)))) fun v0_2 =>
  lt (((v0_2 + (iusr v0_2 (4 : Int32))) &&& (252645135 : Int32))) fun v0_3 =>
  lt ((v0_3 + (iusr v0_3 (8 : Int32)))) fun v0_4 =>
  lt ((v0_4 + (iusr v0_4 (16 : Int32)))) fun v0_5 =>
  (v0_5 &&& (63 : Int32))
def f_J9_abs_067f4 (p0 : Int64) : Int64 :=
  lt (if p0 < (0 : Int64) then (-p0) else p0) fun x_1 =>
  x_1
def f_J9_floorDiv_7cf53 (p0 : Int32) (p1 : Int32) : Option Int32 :=
  gd (nz p1) <|
  lt ((p0 / p1)) fun v2_1 =>
  if (p0 ^^^ p1) < 0 then (
   if (v2_1 * p1) = p0 then (
    some v2_1
   ) else (
    some (v2_1 - (1 : Int32))
   )
  ) else (
   some v2_1
  )
def f_J9_max_7cf53 (p0 : Int32) (p1 : Int32) : Int32 :=
  lt (if p0 < p1 then p1 else p0) fun x_1 =>
  x_1
def f_J9_min_7cf53 (p0 : Int32) (p1 : Int32) : Int32 :=
  lt (if p1 < p0 then p1 else p0) fun x_1 =>
  x_1
def f_X6_isWithin (p0 : Int32) (p1 : Int32) : Int32 :=
  lt (if p0 < 0 then (0 : Int32) else (if p0 < p1 then (1 : Int32) else (0 : Int32))) fun x_1 =>
  x_1
def f_X5_has (o : Nat) (p1 : Int32) (S : Sg) : Int32 :=
  lt (if (f_X6_isWithin p1 (S.1 o 4)) = 0 then (0 : Int32) else (if (f_X6_isWithin p1 (10 : Int32)) = 0 then (0 : Int32) else (1 : Int32))) fun x_1 =>
  x_1
def f_X5_takeBounds (o : Nat) (p1 : Int32) (p2 : Int32) (p3 : Int32) (S : Sg) : Option (Int32 × Sg) :=
  if (f_X5_has o p1 S) = 0 then (
   some ((0 : Int32), S)
  ) else (
   gd (inb p1 10) <|
   if (S.1 (o + 2) (ix p1)) < p2 then (
    some ((0 : Int32), S)
   ) else (
    if p3 < (S.1 (o + 2) (ix p1)) then (
     some ((0 : Int32), S)
    ) else (
     lt (setI S (o + 3) (ix p1) p2) fun S_1 =>
     lt (setI S_1 (o + 4) (ix p1) p3) fun S_2 =>
     some ((1 : Int32), S_2)
    )
   )
  )
def f_X6_refuse (p1 : Int32) (S : Sg) : Option (Int32 × Sg) :=
  lt (((-1 : Int32) - p1)) fun v2_1 =>
  if (f_X6_isWithin v2_1 (6 : Int32)) = 0 then (
   some (p1, S)
  ) else (
   gd (inb v2_1 6) <|
   lt (setI S 139 (ix v2_1) ((S.1 139 (ix v2_1)) + (1 : Int32))) fun S_1 =>
   some (p1, S_1)
  )
def f_X6_bounds (p1 : Int32) (p2 : Int32) (p3 : Int32) (S : Sg) : Option (Int32 × Sg) :=
  if (f_X5_has 1 p1 S) = 0 then (
   bd (f_X6_refuse (-1 : Int32) S) (u2 fun r_7 S_7 =>
    some (r_7, S_7)
   )
  ) else (
   if p2 < 0 then (
    bd (f_X6_refuse (-4 : Int32) S) (u2 fun r_1 S_1 =>
     some (r_1, S_1)
    )
   ) else (
    if p3 < 0 then (
     bd (f_X6_refuse (-4 : Int32) S) (u2 fun r_6 S_6 =>
      some (r_6, S_6)
     )
    ) else (
     if (99 : Int32) < p2 then (
      bd (f_X6_refuse (-6 : Int32) S) (u2 fun r_2 S_2 =>
       some (r_2, S_2)
      )
     ) else (
      if (99 : Int32) < p3 then (
       bd (f_X6_refuse (-6 : Int32) S) (u2 fun r_5 S_5 =>
        some (r_5, S_5)
       )
      ) else (
       bd (f_X5_takeBounds 1 p1 p2 p3 S) (u2 fun r_3 S_3 =>
        if r_3 = 0 then (
         bd (f_X6_refuse (-3 : Int32) S_3) (u2 fun r_4 S_4 =>
          some (r_4, S_4)
         )
        ) else (
         some ((1 : Int32), S_3)
        )
       )
      )
     )
    )
   )
  )
def f_X5_highOf (o : Nat) (p1 : Int32) (S : Sg) : Option Int32 :=
  if (f_X5_has o p1 S) = 0 then (
   some (0 : Int32)
  ) else (
   gd (inb p1 10) <|
   some (S.1 (o + 4) (ix p1))
  )
def f_X5_coefficient (o : Nat) (p1 : Int32) (p2 : Int32) (S : Sg) : Option Int32 :=
  if (f_X6_isWithin p1 (10 : Int32)) = 0 then (
   some (0 : Int32)
  ) else (
   if (f_X6_isWithin p2 (10 : Int32)) = 0 then (
    some (0 : Int32)
   ) else (
    gd (inb p1 10) <|
    gd (inb p2 10) <|
    some (S.1 ((o + 6) + ix p1) (ix p2))
   )
  )
def L_X5_isFree_2 (o : Nat) (v1 : Int32) (S : Sg) : Nat → Int32 → Option (Int32 ⊕ (Unit))
  | 0, _ => none
  | n + 1, v2 =>
  if v2 < (S.1 o 9) then (
   bd (f_X5_coefficient o v2 v1 S) fun r_1 =>
   if r_1 = 0 then (
    lt (v2 + (1 : Int32)) fun v2_1 =>
    L_X5_isFree_2 o v1 S n v2_1
   ) else (
    some (.inl (0 : Int32))
   )
  ) else (
   some (.inr ())
  )
def f_X5_isFree (o : Nat) (p1 : Int32) (S : Sg) : Option Int32 :=
  bs (L_X5_isFree_2 o p1 S 400 (0 : Int32)) (fun q => some q) (fun _ => (
   some (1 : Int32)
  ))
def f_X5_lowOf (o : Nat) (p1 : Int32) (S : Sg) : Option Int32 :=
  if (f_X5_has o p1 S) = 0 then (
   some (0 : Int32)
  ) else (
   gd (inb p1 10) <|
   some (S.1 (o + 3) (ix p1))
  )
def f_X5_valueOf (o : Nat) (p1 : Int32) (S : Sg) : Option Int32 :=
  if (f_X5_has o p1 S) = 0 then (
   some (0 : Int32)
  ) else (
   gd (inb p1 10) <|
   some (S.1 (o + 2) (ix p1))
  )
def f_X6_asNumber (p0 : Int32) : Int32 :=
  lt (if p0 = 0 then (0 : Int32) else (1 : Int32)) fun x_1 =>
  x_1
def f_X0_leastOf (o : Nat) (p1 : Int32) (S : Sg) : Option Int32 :=
  if (f_X6_isWithin p1 (10 : Int32)) = 0 then (
   some (0 : Int32)
  ) else (
   gd (inb p1 10) <|
   some (S.1 (o + 1) (ix p1))
  )
def f_X0_mostOf (o : Nat) (p1 : Int32) (S : Sg) : Option Int32 :=
  if (f_X6_isWithin p1 (10 : Int32)) = 0 then (
   some (0 : Int32)
  ) else (
   gd (inb p1 10) <|
   some (S.1 (o + 2) (ix p1))
  )
def f_X0_highEnd (o : Nat) (p1 : Int32) (p2 : Int32) (S : Sg) : Option Int32 :=
  if 0 < p1 then (
   bd (f_X0_mostOf o p2 S) fun r_2 =>
   some (p1 * r_2)
  ) else (
   bd (f_X0_leastOf o p2 S) fun r_1 =>
   some (p1 * r_1)
  )
def f_X0_lowEnd (o : Nat) (p1 : Int32) (p2 : Int32) (S : Sg) : Option Int32 :=
  if 0 < p1 then (
   bd (f_X0_leastOf o p2 S) fun r_2 =>
   some (p1 * r_2)
  ) else (
   bd (f_X0_mostOf o p2 S) fun r_1 =>
   some (p1 * r_1)
  )
def f_X0_narrowOne (o : Nat) (p1 : Int32) (p2 : Int32) (p3 : Int32) (p4 : Int32) (S : Sg) : Option (Int32 × Sg) :=
  if (f_X6_isWithin p1 (10 : Int32)) = 0 then (
   some ((0 : Int32), S)
  ) else (
   if p2 = 0 then (
    some ((0 : Int32), S)
   ) else (
    lt (if 0 < p2 then (-p3) else (-p4)) fun x_1 =>
    bd (f_J9_floorDiv_7cf53 x_1 p2) fun r_1 =>
    lt ((-r_1)) fun v5_1 =>
    lt (if 0 < p2 then p4 else p3) fun x_2 =>
    bd (f_J9_floorDiv_7cf53 x_2 p2) fun r_2 =>
    gd (inb p1 10) <|
    lt (fun (v7_1 : Int32) (S_1 : Sg) => (
     if r_2 < (S_1.1 (o + 2) (ix p1)) then (
      lt (setI S_1 (o + 2) (ix p1) r_2) fun S_2 =>
      some ((1 : Int32), S_2)
     ) else (
      gd (isb v7_1) <|
      some (v7_1, S_1)
     )
    )) fun J_1 =>
    if (S.1 (o + 1) (ix p1)) < v5_1 then (
     lt (setI S (o + 1) (ix p1) v5_1) fun S_3 =>
     J_1 (1 : Int32) S_3
    ) else (
     J_1 (0 : Int32) S
    )
   )
  )
def f_X5_answerOf (o : Nat) (p1 : Int32) (S : Sg) : Option Int32 :=
  if (f_X6_isWithin p1 (10 : Int32)) = 0 then (
   some (0 : Int32)
  ) else (
   gd (inb p1 10) <|
   some (S.1 (o + 16) (ix p1))
  )
def L_X0_narrowByRow_8 (o : Nat) (o1 : Nat) (v2 : Int32) (S : Sg) : Nat → Int32 → Int32 → Int32 → Option (Int32 × Int32)
  | 0, _, _, _ => none
  | n + 1, v3, v4, v5 =>
  if v5 < (S.1 o 2) then (
   bd (f_X5_coefficient o1 v2 v5 S) fun r_1 =>
   bd (f_X0_lowEnd o r_1 v5 S) fun r_2 =>
   lt ((v3 + r_2)) fun v3_1 =>
   bd (f_X0_highEnd o r_1 v5 S) fun r_3 =>
   lt ((v4 + r_3)) fun v4_1 =>
   lt (v5 + (1 : Int32)) fun v5_1 =>
   L_X0_narrowByRow_8 o o1 v2 S n v3_1 v4_1 v5_1
  ) else (
   some (v3, v4)
  )
def L_X0_narrowByRow_69 (o : Nat) (o1 : Nat) (v2 : Int32) (v5 : Int32) : Nat → Int32 → Int32 → Int32 → Int32 → Sg → Option (Int32 × Sg)
  | 0, _, _, _, _, _ => none
  | n + 1, v3, v4, v6, v7, S =>
  if v7 < (S.1 o 2) then (
   bd (f_X5_coefficient o1 v2 v7 S) fun r_1 =>
   if r_1 = 0 then (
    lt (v7 + (1 : Int32)) fun v7_2 =>
    L_X0_narrowByRow_69 o o1 v2 v5 n v3 v4 v6 v7_2 S
   ) else (
    bd (f_X0_lowEnd o r_1 v7 S) fun r_2 =>
    lt ((v3 - r_2)) fun v9_1 =>
    bd (f_X0_highEnd o r_1 v7 S) fun r_3 =>
    lt ((v4 - r_3)) fun v10_1 =>
    bd (f_X0_narrowOne o v7 r_1 (v5 - v10_1) (v5 - v9_1) S) (u2 fun r_4 S_1 =>
     lt (if r_4 = 0 then v6 else (1 : Int32)) fun v6_1 =>
     bd (f_X0_lowEnd o r_1 v7 S_1) fun r_5 =>
     lt ((v9_1 + r_5)) fun v3_1 =>
     bd (f_X0_highEnd o r_1 v7 S_1) fun r_6 =>
     lt ((v10_1 + r_6)) fun v4_1 =>
     lt (v7 + (1 : Int32)) fun v7_1 =>
     L_X0_narrowByRow_69 o o1 v2 v5 n v3_1 v4_1 v6_1 v7_1 S_1
    )
   )
  ) else (
   some (v6, S)
  )
def f_X0_narrowByRow (o : Nat) (o1 : Nat) (p2 : Int32) (S : Sg) : Option (Int32 × Sg) :=
  bd (L_X0_narrowByRow_8 o o1 p2 S 400 (0 : Int32) (0 : Int32) (0 : Int32)) (u2 fun v3_1 v4_1 => (
   bd (f_X5_answerOf o1 p2 S) fun r_1 =>
   bd (L_X0_narrowByRow_69 o o1 p2 r_1 400 v3_1 v4_1 (0 : Int32) (0 : Int32) S) (u2 fun v6_1 S_1 => (
    gd (isb v6_1) <|
    some (v6_1, S_1)
   ))
  ))
def L_X0_narrow_15 (o : Nat) (o1 : Nat) : Nat → Int32 → Sg → Option (Sg)
  | 0, _, _ => none
  | n + 1, v2, S =>
  if v2 < (S.1 o 2) then (
   bd (f_X5_lowOf o1 v2 S) fun r_1 =>
   gd (inb v2 10) <|
   lt (setI S (o + 1) (ix v2) r_1) fun S_1 =>
   bd (f_X5_highOf o1 v2 S_1) fun r_2 =>
   lt (setI S_1 (o + 2) (ix v2) r_2) fun S_2 =>
   lt (v2 + (1 : Int32)) fun v2_1 =>
   L_X0_narrow_15 o o1 n v2_1 S_2
  ) else (
   some S
  )
def L_X0_narrow_70 (o : Nat) (o1 : Nat) (v3 : Int32) : Nat → Int32 → Int32 → Sg → Option (Int32 × Sg)
  | 0, _, _, _ => none
  | n + 1, v2, v4, S =>
  if v4 < (S.1 o1 9) then (
   bd (f_X0_narrowByRow o o1 v4 S) (u2 fun r_1 S_1 =>
    lt (if r_1 = 0 then v2 else (1 : Int32)) fun v2_1 =>
    lt (v4 + (1 : Int32)) fun v4_1 =>
    L_X0_narrow_70 o o1 v3 n v2_1 v4_1 S_1
   )
  ) else (
   some (v2, S)
  )
def L_X0_narrow_55 (o : Nat) (o1 : Nat) : Nat → Int32 → Int32 → Sg → Option (Sg)
  | 0, _, _, _ => none
  | n + 1, v2, v3, S =>
  if v3 < (60 : Int32) then (
   if v2 = 0 then (
    some S
   ) else (
    bd (L_X0_narrow_70 o o1 v3 400 (0 : Int32) (0 : Int32) S) (u2 fun v2_1 S_1 => (
     lt (v3 + (1 : Int32)) fun v3_1 =>
     L_X0_narrow_55 o o1 n v2_1 v3_1 S_1
    ))
   )
  ) else (
   some S
  )
def f_X0_narrow (o : Nat) (o1 : Nat) (S : Sg) : Option Sg :=
  lt (setI S o 2 (f_J9_min_7cf53 (S.1 o1 4) (10 : Int32))) fun S_1 =>
  bd (L_X0_narrow_15 o o1 400 (0 : Int32) S_1) (fun S_2 => (
   bd (L_X0_narrow_55 o o1 400 (1 : Int32) (0 : Int32) S_2) (fun S_3 => (
    some S_3
   ))
  ))
def f_X0_widthOf (o : Nat) (p1 : Int32) (S : Sg) : Option Int32 :=
  bd (f_X0_mostOf o p1 S) fun r_1 =>
  bd (f_X0_leastOf o p1 S) fun r_2 =>
  some ((r_1 - r_2) + (1 : Int32))
def f_X6_narrowed (p1 : Int32) (p2 : Int32) (S : Sg) : Option (Int32 × Sg) :=
  bd (f_X0_narrow 132 1 S) fun S_1 =>
  if p2 = (3 : Int32) then (
   bd (f_X0_leastOf 132 p1 S_1) fun r_3 =>
   some (r_3, S_1)
  ) else (
   if p2 = (4 : Int32) then (
    bd (f_X0_mostOf 132 p1 S_1) fun r_2 =>
    some (r_2, S_1)
   ) else (
    bd (f_X0_widthOf 132 p1 S_1) fun r_1 =>
    some (r_1, S_1)
   )
  )
def f_X6_variable (p1 : Int32) (p2 : Int32) (S : Sg) : Option (Int32 × Sg) :=
  if (f_X5_has 1 p1 S) = 0 then (
   bd (f_X6_refuse (-1 : Int32) S) (u2 fun r_7 S_3 =>
    some (r_7, S_3)
   )
  ) else (
   if (f_X6_isWithin p2 (7 : Int32)) = 0 then (
    bd (f_X6_refuse (-2 : Int32) S) (u2 fun r_6 S_2 =>
     some (r_6, S_2)
    )
   ) else (
    if p2 = (0 : Int32) then (
     bd (f_X5_valueOf 1 p1 S) fun r_1 =>
     some (r_1, S)
    ) else (
    if p2 = (1 : Int32) then (
     bd (f_X5_lowOf 1 p1 S) fun r_2 =>
     some (r_2, S)
    ) else (
    if p2 = (2 : Int32) then (
     bd (f_X5_highOf 1 p1 S) fun r_3 =>
     some (r_3, S)
    ) else (
    if p2 = (6 : Int32) then (
     bd (f_X5_isFree 1 p1 S) fun r_4 =>
     some ((f_X6_asNumber r_4), S)
    ) else (
     bd (f_X6_narrowed p1 p2 S) (u2 fun r_5 S_1 =>
      some (r_5, S_1)
     )
    ))))
   )
  )
def f_L_bound (p1 : Int32) (p2 : Int32) (p3 : Int32) (S : Sg) : Option Sg :=
  bd (f_X6_variable p1 (0 : Int32) S) (u2 fun r_1 S_1 =>
   if r_1 < 0 then (
    some S_1
   ) else (
    bd (f_X6_bounds p1 (f_J9_max_7cf53 (0 : Int32) (r_1 - p2)) (f_J9_min_7cf53 (99 : Int32) (r_1 + p3)) S_1) (u2 fun r_2 S_2 =>
     some S_2
    )
   )
  )
def f_L_cell (bs : Nat) (Ls : Nat) (xs : Nat → Int32) (p1 : Int32) (S : Sg) : Option Int32 :=
  if p1 < (Int32.ofNat Ls) then (
   gd (inb p1 Ls) <|
   some (xs (ix p1))
  ) else (
   some (((7919 : Int32) * p1) + (12 : Int32))
  )
def f_L_pick (p0 : Int32) (p1 : Int32) : Option Int32 :=
  gd (nz p1) <|
  some (irem (p0 &&& (2147483647 : Int32)) p1)
def L_X2_make_3 (o : Nat) (v1 : Int32) (v2 : Int32) (v3 : Int32) : Nat → Int32 → Sg → Option (Sg)
  | 0, _, _ => none
  | n + 1, v4, S =>
  if v4 < (8 : Int32) then (
   lt (((isr v2 v4) &&& (1 : Int32))) fun v5_1 =>
   lt (((isr v3 v4) &&& (1 : Int32))) fun v6_1 =>
   if v1 = (1 : Int32) then (
    lt ((v5_1 - v6_1)) fun v7_2 =>
    gd (inb v4 8) <|
    lt (setI S (o + 1) (ix v4) v7_2) fun S_4 =>
    lt (v4 + (1 : Int32)) fun v4_4 =>
    L_X2_make_3 o v1 v2 v3 n v4_4 S_4
   ) else (
    if v1 = (2 : Int32) then (
     if v3 = 0 then (
      gd (inb v4 8) <|
      lt (setI S (o + 1) (ix v4) v5_1) fun S_2 =>
      lt (v4 + (1 : Int32)) fun v4_2 =>
      L_X2_make_3 o v1 v2 v3 n v4_2 S_2
     ) else (
      gd (nz v3) <|
      lt ((v5_1 * ((1 : Int32) + (irem v4 v3)))) fun v7_1 =>
      gd (inb v4 8) <|
      lt (setI S (o + 1) (ix v4) v7_1) fun S_3 =>
      lt (v4 + (1 : Int32)) fun v4_3 =>
      L_X2_make_3 o v1 v2 v3 n v4_3 S_3
     )
    ) else (
     gd (inb v4 8) <|
     lt (setI S (o + 1) (ix v4) v5_1) fun S_1 =>
     lt (v4 + (1 : Int32)) fun v4_1 =>
     L_X2_make_3 o v1 v2 v3 n v4_1 S_1
    )
   )
  ) else (
   some S
  )
def f_X2_make (o : Nat) (p1 : Int32) (p2 : Int32) (p3 : Int32) (S : Sg) : Option Sg :=
  bd (L_X2_make_3 o p1 p2 p3 400 (0 : Int32) S) (fun S_1 => (
   some S_1
  ))
def f_X2_misfitOf (p0 : Int32) (p1 : Int32) (p2 : Int32) : Int32 :=
  lt (fun (_ : Unit) => (
   lt (if p0 = 0 then (0 : Int32) else (1 : Int32)) fun x_1 =>
   if p1 < (1 : Int32) then (
    (-4 : Int32)
   ) else (
    lt (fun (_ : Unit) => (
     lt (if p0 = (2 : Int32) then (3 : Int32) else (255 : Int32)) fun x_2 =>
     if (255 : Int32) < p1 then (
      (-6 : Int32)
     ) else (
      lt (fun (_ : Unit) => (
       lt (if p0 = (1 : Int32) then (if (p1 &&& p2) = 0 then (0 : Int32) else (-3 : Int32)) else (0 : Int32)) fun x_3 =>
       x_3
      )) fun J_3 =>
      if x_1 = 0 then (
       J_3 ()
      ) else (
       if x_2 < p2 then (
        (-6 : Int32)
       ) else (
        J_3 ()
       )
      )
     )
    )) fun J_2 =>
    if x_1 = 0 then (
     J_2 ()
    ) else (
     if p2 < (1 : Int32) then (
      (-4 : Int32)
     ) else (
      J_2 ()
     )
    )
   )
  )) fun J_1 =>
  if p0 = 0 then (
   J_1 ()
  ) else (
   if p0 = (1 : Int32) then (
    J_1 ()
   ) else (
    if p0 = (2 : Int32) then (
     J_1 ()
    ) else (
     (-2 : Int32)
    )
   )
  )
def L_X4_firstIn_2 (a0 : Nat) (n0 : Nat) (S : Sg) : Nat → Int32 → Option (Int32 ⊕ (Unit))
  | 0, _ => none
  | n + 1, v1 =>
  if v1 < (10 : Int32) then (
   gd (inb v1 n0) <|
   if (S.2 a0 (ix v1)) = (0 : Int64) then (
    lt (v1 + (1 : Int32)) fun v1_1 =>
    L_X4_firstIn_2 a0 n0 S n v1_1
   ) else (
    some (.inl v1)
   )
  ) else (
   some (.inr ())
  )
def f_X4_firstIn (a0 : Nat) (n0 : Nat) (S : Sg) : Option Int32 :=
  bs (L_X4_firstIn_2 a0 n0 S 400 (0 : Int32)) (fun q => some q) (fun _ => (
   some (-9 : Int32)
  ))
def L_X4_join_52 (o : Nat) (a1 : Nat) (n1 : Nat) (v2 : Int32) (v3 : Int64) (v5 : Int32) (v6 : Int64) : Nat → Int32 → Sg → Option (Sg)
  | 0, _, _ => none
  | n + 1, v8, S =>
  if v8 < (10 : Int32) then (
   gd (inb v5 10) <|
   gd (inb v8 10) <|
   gd (inb v8 n1) <|
   gd (nzJ (S.2 o 1)) <|
   lt (setJ S ((o + 2) + ix v5) (ix v8) ((((S.2 ((o + 2) + ix v5) (ix v8)) * v3) - (v6 * (S.2 a1 (ix v8)))) / (S.2 o 1))) fun S_1 =>
   lt (v8 + (1 : Int32)) fun v8_1 =>
   L_X4_join_52 o a1 n1 v2 v3 v5 v6 n v8_1 S_1
  ) else (
   some S
  )
def L_X4_join_31 (o : Nat) (a1 : Nat) (n1 : Nat) (v2 : Int32) (v3 : Int64) : Nat → Int32 → Sg → Option (Sg)
  | 0, _, _ => none
  | n + 1, v5, S =>
  if v5 < (10 : Int32) then (
   gd (inb v5 10) <|
   gd (inb v2 10) <|
   lt ((S.2 ((o + 2) + ix v5) (ix v2))) fun v6_1 =>
   bd (L_X4_join_52 o a1 n1 v2 v3 v5 v6_1 400 (0 : Int32) S) (fun S_1 => (
    lt (v5 + (1 : Int32)) fun v5_1 =>
    L_X4_join_31 o a1 n1 v2 v3 n v5_1 S_1
   ))
  ) else (
   some S
  )
def f_X4_join (o : Nat) (a1 : Nat) (n1 : Nat) (S : Sg) : Option Sg :=
  bd (f_X4_firstIn a1 n1 S) fun r_1 =>
  if (f_X6_isWithin r_1 (10 : Int32)) = 0 then (
   some S
  ) else (
   if (S.2 o 1) = (0 : Int64) then (
    some S
   ) else (
    gd (inb r_1 n1) <|
    lt ((S.2 a1 (ix r_1))) fun v3_1 =>
    bd (L_X4_join_31 o a1 n1 r_1 v3_1 400 (0 : Int32) S) (fun S_1 => (
     lt (setJ S_1 o 1 v3_1) fun S_2 =>
     lt (setI S_2 o 2 ((S_2.1 o 2) ||| (isl (1 : Int32) r_1))) fun S_3 =>
     some S_3
    ))
   )
  )
def L_X4_leave_2 (o : Nat) (a1 : Nat) (n1 : Nat) (a2 : Nat) (n2 : Nat) : Nat → Int32 → Sg → Option (Sg)
  | 0, _, _ => none
  | n + 1, v3, S =>
  if v3 < (10 : Int32) then (
   gd (inb v3 n2) <|
   lt (setJ S a2 (ix v3) (0 : Int64)) fun S_1 =>
   lt (v3 + (1 : Int32)) fun v3_1 =>
   L_X4_leave_2 o a1 n1 a2 n2 n v3_1 S_1
  ) else (
   some S
  )
def L_X4_leave_42 (o : Nat) (a1 : Nat) (n1 : Nat) (a2 : Nat) (n2 : Nat) (v3 : Int32) (v4 : Int32) : Nat → Int32 → Sg → Option (Sg)
  | 0, _, _ => none
  | n + 1, v5, S =>
  if v5 < (10 : Int32) then (
   gd (inb v5 n2) <|
   gd (inb v3 10) <|
   gd (inb v5 10) <|
   lt (setJ S a2 (ix v5) ((S.2 a2 (ix v5)) + (v4.toInt64 * (S.2 ((o + 2) + ix v3) (ix v5))))) fun S_1 =>
   lt (v5 + (1 : Int32)) fun v5_1 =>
   L_X4_leave_42 o a1 n1 a2 n2 v3 v4 n v5_1 S_1
  ) else (
   some S
  )
def L_X4_leave_20 (o : Nat) (a1 : Nat) (n1 : Nat) (a2 : Nat) (n2 : Nat) : Nat → Int32 → Sg → Option (Sg)
  | 0, _, _ => none
  | n + 1, v3, S =>
  if v3 < (10 : Int32) then (
   gd (inb v3 n1) <|
   lt ((S.1 a1 (ix v3))) fun v4_1 =>
   if v4_1 = 0 then (
    lt (v3 + (1 : Int32)) fun v3_2 =>
    L_X4_leave_20 o a1 n1 a2 n2 n v3_2 S
   ) else (
    bd (L_X4_leave_42 o a1 n1 a2 n2 v3 v4_1 400 (0 : Int32) S) (fun S_1 => (
     lt (v3 + (1 : Int32)) fun v3_1 =>
     L_X4_leave_20 o a1 n1 a2 n2 n v3_1 S_1
    ))
   )
  ) else (
   some S
  )
def f_X4_leave (o : Nat) (a1 : Nat) (n1 : Nat) (a2 : Nat) (n2 : Nat) (S : Sg) : Option Sg :=
  bd (L_X4_leave_2 o a1 n1 a2 n2 400 (0 : Int32) S) (fun S_1 => (
   bd (L_X4_leave_20 o a1 n1 a2 n2 400 (0 : Int32) S_1) (fun S_2 => (
    some S_2
   ))
  ))
def L_X5_findRest_2 (o : Nat) (o1 : Nat) : Nat → Int32 → Sg → Option (Sg)
  | 0, _, _ => none
  | n + 1, v2, S =>
  if v2 < (10 : Int32) then (
   gd (inb v2 10) <|
   lt (setI S (o + 41) (ix v2) (0 : Int32)) fun S_1 =>
   lt (v2 + (1 : Int32)) fun v2_1 =>
   L_X5_findRest_2 o o1 n v2_1 S_1
  ) else (
   some S
  )
def L_X5_findRest_23 (o : Nat) (o1 : Nat) : Nat → Int32 → Sg → Option (Sg)
  | 0, _, _ => none
  | n + 1, v2, S =>
  if v2 < (8 : Int32) then (
   gd (inb v2 8) <|
   lt ((S.1 (o + 1) (ix v2))) fun v3_1 =>
   if (f_X6_isWithin v3_1 (10 : Int32)) = 0 then (
    lt (v2 + (1 : Int32)) fun v2_1 =>
    L_X5_findRest_23 o o1 n v2_1 S
   ) else (
    gd (inb v3_1 10) <|
    lt (setI S (o + 41) (ix v3_1) (S.1 (o1 + 1) (ix v2))) fun S_1 =>
    lt (v2 + (1 : Int32)) fun v2_2 =>
    L_X5_findRest_23 o o1 n v2_2 S_1
   )
  ) else (
   some S
  )
def f_X5_findRest (o : Nat) (o1 : Nat) (S : Sg) : Option Sg :=
  bd (L_X5_findRest_2 o o1 400 (0 : Int32) S) (fun S_1 => (
   bd (L_X5_findRest_23 o o1 400 (0 : Int32) S_1) (fun S_2 => (
    bd (f_X4_leave (o + 17) (o + 41) 10 (o + 42) 10 S_2) fun S_3 =>
    some S_3
   ))
  ))
def L_X5_trueAnswer_4 (o : Nat) (o1 : Nat) (S : Sg) : Nat → Int32 → Int32 → Option (Int32)
  | 0, _, _ => none
  | n + 1, v2, v3 =>
  if v3 < (8 : Int32) then (
   gd (inb v3 8) <|
   lt ((S.1 (o + 1) (ix v3))) fun v4_1 =>
   if (f_X6_isWithin v4_1 (10 : Int32)) = 0 then (
    lt (v3 + (1 : Int32)) fun v3_1 =>
    L_X5_trueAnswer_4 o o1 S n v2 v3_1
   ) else (
    gd (inb v4_1 10) <|
    lt ((v2 + ((S.1 (o1 + 1) (ix v3)) * (S.1 (o + 2) (ix v4_1))))) fun v2_1 =>
    lt (v3 + (1 : Int32)) fun v3_2 =>
    L_X5_trueAnswer_4 o o1 S n v2_1 v3_2
   )
  ) else (
   some v2
  )
def f_X5_trueAnswer (o : Nat) (o1 : Nat) (S : Sg) : Option Int32 :=
  bd (L_X5_trueAnswer_4 o o1 S 400 (0 : Int32) (0 : Int32)) (fun v2_1 => (
   some v2_1
  ))
def f_X5_join (o : Nat) (o1 : Nat) (S : Sg) : Option Sg :=
  bd (f_X5_findRest o o1 S) fun S_1 =>
  bd (f_X4_firstIn (o + 42) 10 S_1) fun r_1 =>
  if r_1 < 0 then (
   some S_1
  ) else (
   if (f_X6_isWithin (S_1.1 o 9) (10 : Int32)) = 0 then (
    some S_1
   ) else (
    gd (inb (S_1.1 o 9) 10) <|
    lt (cpI S_1 (o + 41) (0 : Int32) ((o + 6) + ix (S_1.1 o 9)) (0 : Int32) (10 : Int32)) fun S_2 =>
    bd (f_X5_trueAnswer o o1 S_2) fun r_2 =>
    gd (inb (S_2.1 o 9) 10) <|
    lt (setI S_2 (o + 16) (ix (S_2.1 o 9)) r_2) fun S_3 =>
    lt (setI S_3 o 9 ((S_3.1 o 9) + (1 : Int32))) fun S_4 =>
    bd (f_X4_join (o + 17) (o + 42) 10 S_4) fun S_5 =>
    some S_5
   )
  )
def L_X2_size_4 (o : Nat) (S : Sg) : Nat → Int32 → Int32 → Option (Int32)
  | 0, _, _ => none
  | n + 1, v1, v2 =>
  if v2 < (8 : Int32) then (
   gd (inb v2 8) <|
   lt (if (S.1 (o + 1) (ix v2)) = 0 then v1 else (v1 + (1 : Int32))) fun v1_1 =>
   lt (v2 + (1 : Int32)) fun v2_1 =>
   L_X2_size_4 o S n v1_1 v2_1
  ) else (
   some v1
  )
def f_X2_size (o : Nat) (S : Sg) : Option Int32 :=
  bd (L_X2_size_4 o S 400 (0 : Int32) (0 : Int32)) (fun v1_1 => (
   some v1_1
  ))
def L_X4_copyFrom_2 (o : Nat) (o1 : Nat) : Nat → Int32 → Sg → Option (Sg)
  | 0, _, _ => none
  | n + 1, v2, S =>
  if v2 < (10 : Int32) then (
   gd (inb v2 10) <|
   lt (cpJ S ((o1 + 2) + ix v2) (0 : Int32) ((o + 2) + ix v2) (0 : Int32) (10 : Int32)) fun S_1 =>
   lt (v2 + (1 : Int32)) fun v2_1 =>
   L_X4_copyFrom_2 o o1 n v2_1 S_1
  ) else (
   some S
  )
def f_X4_copyFrom (o : Nat) (o1 : Nat) (S : Sg) : Option Sg :=
  bd (L_X4_copyFrom_2 o o1 400 (0 : Int32) S) (fun S_1 => (
   lt (setJ S_1 o 1 (S_1.2 o1 1)) fun S_2 =>
   lt (setI S_2 o 2 (S_2.1 o1 2)) fun S_3 =>
   some S_3
  ))
def L_X4_isOneLine_22 (a0 : Nat) (n0 : Nat) (a1 : Nat) (n1 : Nat) (v2 : Int32) (S : Sg) : Nat → Int32 → Option (Int32 ⊕ (Unit))
  | 0, _ => none
  | n + 1, v3 =>
  if v3 < (10 : Int32) then (
   gd (inb v3 n0) <|
   gd (inb v2 n1) <|
   gd (inb v3 n1) <|
   gd (inb v2 n0) <|
   if ((S.2 a0 (ix v3)) * (S.2 a1 (ix v2))) = ((S.2 a1 (ix v3)) * (S.2 a0 (ix v2))) then (
    lt (v3 + (1 : Int32)) fun v3_1 =>
    L_X4_isOneLine_22 a0 n0 a1 n1 v2 S n v3_1
   ) else (
    some (.inl (0 : Int32))
   )
  ) else (
   some (.inr ())
  )
def f_X4_isOneLine (a0 : Nat) (n0 : Nat) (a1 : Nat) (n1 : Nat) (p2 : Int32) (S : Sg) : Option Int32 :=
  if p2 < 0 then (
   some (0 : Int32)
  ) else (
   if p2 < (10 : Int32) then (
    gd (inb p2 n1) <|
    if (S.2 a1 (ix p2)) = (0 : Int64) then (
     some (0 : Int32)
    ) else (
     bs (L_X4_isOneLine_22 a0 n0 a1 n1 p2 S 400 (0 : Int32)) (fun q => some q) (fun _ => (
      some (1 : Int32)
     ))
    )
   ) else (
    some (0 : Int32)
   )
  )
def L_X4_fixedBitsWith_4 (o : Nat) (a1 : Nat) (n1 : Nat) (S : Sg) : Nat → Int32 → Int32 → Option (Int32)
  | 0, _, _ => none
  | n + 1, v2, v3 =>
  if v3 < (10 : Int32) then (
   gd (inb v3 10) <|
   bd (f_X4_firstIn ((o + 2) + ix v3) 10 S) fun r_1 =>
   if r_1 < 0 then (
    lt ((v2 ||| (isl (1 : Int32) v3))) fun v2_1 =>
    lt (v3 + (1 : Int32)) fun v3_1 =>
    L_X4_fixedBitsWith_4 o a1 n1 S n v2_1 v3_1
   ) else (
    bd (f_X4_isOneLine ((o + 2) + ix v3) 10 a1 n1 r_1 S) fun r_2 =>
    lt (if r_2 = 0 then v2 else (v2 ||| (isl (1 : Int32) v3))) fun v2_2 =>
    lt (v3 + (1 : Int32)) fun v3_2 =>
    L_X4_fixedBitsWith_4 o a1 n1 S n v2_2 v3_2
   )
  ) else (
   some v2
  )
def f_X4_fixedBitsWith (o : Nat) (a1 : Nat) (n1 : Nat) (S : Sg) : Option Int32 :=
  bd (L_X4_fixedBitsWith_4 o a1 n1 S 400 (0 : Int32) (0 : Int32)) (fun v2_1 => (
   some v2_1
  ))
def L_X4_hasPair_22 (o : Nat) (v1 : Int32) (v2 : Int32) (S : Sg) : Nat → Int32 → Option (Int32 ⊕ (Unit))
  | 0, _ => none
  | n + 1, v3 =>
  if v3 < (10 : Int32) then (
   gd (inb v1 10) <|
   gd (inb v3 10) <|
   bd (f_X4_isOneLine ((o + 2) + ix v1) 10 ((o + 2) + ix v3) 10 v2 S) fun r_1 =>
   if r_1 = 0 then (
    lt (v3 + (1 : Int32)) fun v3_1 =>
    L_X4_hasPair_22 o v1 v2 S n v3_1
   ) else (
    some (.inl (1 : Int32))
   )
  ) else (
   some (.inr ())
  )
def L_X4_hasPair_2 (o : Nat) (S : Sg) : Nat → Int32 → Option (Int32 ⊕ (Unit))
  | 0, _ => none
  | n + 1, v1 =>
  if v1 < (10 : Int32) then (
   gd (inb v1 10) <|
   bd (f_X4_firstIn ((o + 2) + ix v1) 10 S) fun r_1 =>
   lt ((v1 + (1 : Int32))) fun v3_1 =>
   bs (L_X4_hasPair_22 o v1 r_1 S 400 v3_1) (fun q => some (.inl q)) (fun _ => (
    lt (v1 + (1 : Int32)) fun v1_1 =>
    L_X4_hasPair_2 o S n v1_1
   ))
  ) else (
   some (.inr ())
  )
def f_X4_hasPair (o : Nat) (S : Sg) : Option Int32 :=
  bs (L_X4_hasPair_2 o S 400 (0 : Int32)) (fun q => some q) (fun _ => (
   some (0 : Int32)
  ))
def f_X5_meetingBy (o : Nat) (o1 : Nat) (p2 : Int32) (p3 : Int32) (S : Sg) : Option (Int32 × Sg) :=
  bd (f_X5_findRest o o1 S) fun S_1 =>
  bd (f_X4_firstIn (o + 42) 10 S_1) fun r_1 =>
  if r_1 < 0 then (
   some ((0 : Int32), S_1)
  ) else (
   bd (f_X4_fixedBitsWith (o + 17) (o + 42) 10 S_1) fun r_2 =>
   if r_2 = 0 then (
    lt (fun (v4_1 : Int32) (S_2 : Sg) => (
     lt (if v4_1 = 0 then (1 : Int32) else (2 : Int32)) fun x_1 =>
     some (x_1, S_2)
    )) fun J_1 =>
    if p2 = (1 : Int32) then (
     bd (f_X2_size o1 S_1) fun r_4 =>
     lt (if r_4 < (2 : Int32) then (1 : Int32) else (if (6 : Int32) < r_4 then (1 : Int32) else (0 : Int32))) fun x_3 =>
     J_1 x_3 S_1
    ) else (
     if p2 = (2 : Int32) then (
      bd (f_X4_copyFrom (o + 29) (o + 17) S_1) fun S_3 =>
      bd (f_X4_join (o + 29) (o + 42) 10 S_3) fun S_4 =>
      bd (f_X4_hasPair (o + 29) S_4) fun r_3 =>
      J_1 r_3 S_4
     ) else (
      if p2 = (3 : Int32) then (
       lt (if p3 < ((S_1.1 o 9) + (1 : Int32)) then (1 : Int32) else (0 : Int32)) fun x_2 =>
       J_1 x_2 S_1
      ) else (
       J_1 (0 : Int32) S_1
      )
     )
    )
   ) else (
    some ((2 : Int32), S_1)
   )
  )
def f_X5_takeQuestion (o : Nat) (o1 : Nat) (S : Sg) : Option (Int32 × Sg) :=
  bd (f_X5_meetingBy o o1 (S.1 o 5) (S.1 o 6) S) (u2 fun r_1 S_1 =>
   if r_1 = (1 : Int32) then (
    bd (f_X5_join o o1 S_1) fun S_2 =>
    some (r_1, S_2)
   ) else (
    some (r_1, S_1)
   )
  )
def f_X6_ask (p1 : Int32) (p2 : Int32) (p3 : Int32) (S : Sg) : Option (Int32 × Sg) :=
  lt ((f_X2_misfitOf p1 p2 p3)) fun v4_1 =>
  if v4_1 = 0 then (
   bd (f_X2_make 130 p1 p2 p3 S) fun S_1 =>
   bd (f_X5_takeQuestion 1 130 S_1) (u2 fun r_1 S_2 =>
    if r_1 = (2 : Int32) then (
     bd (f_X6_refuse (-5 : Int32) S_2) (u2 fun r_3 S_3 =>
      some (((1000000000 : Int32) - r_3), S_3)
     )
    ) else (
     bd (f_X5_trueAnswer 1 130 S_2) fun r_2 =>
     some (r_2, S_2)
    )
   )
  ) else (
   bd (f_X6_refuse v4_1 S) (u2 fun r_4 S_4 =>
    some (((1000000000 : Int32) - r_4), S_4)
   )
  )
def f_X5_set (o : Nat) (p1 : Int32) (p2 : Int32) (S : Sg) : Option Sg :=
  if (f_X6_isWithin p1 (10 : Int32)) = 0 then (
   some S
  ) else (
   gd (inb p1 10) <|
   lt (setI S (o + 2) (ix p1) p2) fun S_1 =>
   lt (setI S_1 (o + 3) (ix p1) (0 : Int32)) fun S_2 =>
   lt (setI S_2 (o + 4) (ix p1) (99 : Int32)) fun S_3 =>
   some S_3
  )
def f_X5_takeChange (o : Nat) (p1 : Int32) (p2 : Int32) (S : Sg) : Option (Int32 × Sg) :=
  if (f_X6_isWithin p1 (8 : Int32)) = 0 then (
   some ((0 : Int32), S)
  ) else (
   if (f_X6_isWithin (S.1 o 4) (10 : Int32)) = 0 then (
    some ((0 : Int32), S)
   ) else (
    gd (inb p1 8) <|
    lt (setI S (o + 1) (ix p1) (S.1 o 4)) fun S_1 =>
    bd (f_X5_set o (S_1.1 o 4) p2 S_1) fun S_2 =>
    lt (setI S_2 o 4 ((S_2.1 o 4) + (1 : Int32))) fun S_3 =>
    some ((1 : Int32), S_3)
   )
  )
def f_X5_variableOf (o : Nat) (p1 : Int32) (S : Sg) : Option Int32 :=
  if (f_X6_isWithin p1 (8 : Int32)) = 0 then (
   some (-9 : Int32)
  ) else (
   gd (inb p1 8) <|
   some (S.1 (o + 1) (ix p1))
  )
def f_X6_misfit (p0 : Int32) (p1 : Int32) (p2 : Int32) : Int32 :=
  lt (if p0 < p1 then (-4 : Int32) else (if p2 < p0 then (-6 : Int32) else (0 : Int32))) fun x_1 =>
  x_1
def f_X6_misfitOfValue (p0 : Int32) (p1 : Int32) : Int32 :=
  if (f_X6_isWithin p0 (8 : Int32)) = 0 then (
   (-1 : Int32)
  ) else (
   (f_X6_misfit p1 (0 : Int32) (99 : Int32))
  )
def f_X6_changes (p1 : Int32) (p2 : Int32) (S : Sg) : Option (Int32 × Sg) :=
  lt ((f_X6_misfitOfValue p1 p2)) fun v3_1 =>
  if v3_1 = 0 then (
   bd (f_X5_takeChange 1 p1 p2 S) (u2 fun r_1 S_1 =>
    if r_1 = 0 then (
     bd (f_X6_refuse (-6 : Int32) S_1) (u2 fun r_2 S_2 =>
      some (r_2, S_2)
     )
    ) else (
     bd (f_X5_variableOf 1 p1 S_1) fun r_3 =>
     some (r_3, S_1)
    )
   )
  ) else (
   bd (f_X6_refuse v3_1 S) (u2 fun r_4 S_3 =>
    some (r_4, S_3)
   )
  )
def f_X5_takeLimit (o : Nat) (p1 : Int32) (S : Sg) : Option (Int32 × Sg) :=
  if (f_X6_isWithin p1 (11 : Int32)) = 0 then (
   some ((0 : Int32), S)
  ) else (
   lt (setI S o 6 p1) fun S_1 =>
   some ((1 : Int32), S_1)
  )
def f_X6_limit (p1 : Int32) (S : Sg) : Option (Int32 × Sg) :=
  lt ((f_X6_misfit p1 (0 : Int32) (10 : Int32))) fun v2_1 =>
  if v2_1 = 0 then (
   lt ((S.1 1 6)) fun v3_1 =>
   bd (f_X5_takeLimit 1 p1 S) (u2 fun r_1 S_1 =>
    some (v3_1, S_1)
   )
  ) else (
   bd (f_X6_refuse v2_1 S) (u2 fun r_2 S_2 =>
    some (r_2, S_2)
   )
  )
def f_X5_takeRule (o : Nat) (p1 : Int32) (S : Sg) : Option (Int32 × Sg) :=
  if (f_X6_isWithin p1 (4 : Int32)) = 0 then (
   some ((0 : Int32), S)
  ) else (
   lt (setI S o 5 p1) fun S_1 =>
   some ((1 : Int32), S_1)
  )
def f_X6_rule (p1 : Int32) (S : Sg) : Option (Int32 × Sg) :=
  lt ((S.1 1 5)) fun v2_1 =>
  bd (f_X5_takeRule 1 p1 S) (u2 fun r_1 S_1 =>
   if r_1 = 0 then (
    bd (f_X6_refuse (-2 : Int32) S_1) (u2 fun r_2 S_2 =>
     some (r_2, S_2)
    )
   ) else (
    some (v2_1, S_1)
   )
  )
def f_X5_takeTold (o : Nat) (p1 : Int32) (p2 : Int32) (S : Sg) : Option (Int32 × Sg) :=
  bd (f_X5_variableOf o p1 S) fun r_1 =>
  if (f_X5_has o r_1 S) = 0 then (
   some ((0 : Int32), S)
  ) else (
   bd (f_X5_isFree o r_1 S) fun r_2 =>
   if r_2 = 0 then (
    some ((0 : Int32), S)
   ) else (
    bd (f_X5_set o r_1 p2 S) fun S_1 =>
    some ((1 : Int32), S_1)
   )
  )
def f_X6_tells (p1 : Int32) (p2 : Int32) (S : Sg) : Option (Int32 × Sg) :=
  lt ((f_X6_misfitOfValue p1 p2)) fun v3_1 =>
  if v3_1 = 0 then (
   bd (f_X5_variableOf 1 p1 S) fun r_1 =>
   bd (f_X5_valueOf 1 r_1 S) fun r_2 =>
   bd (f_X5_takeTold 1 p1 p2 S) (u2 fun r_3 S_1 =>
    if r_3 = 0 then (
     bd (f_X6_refuse (-3 : Int32) S_1) (u2 fun r_4 S_2 =>
      some (r_4, S_2)
     )
    ) else (
     some (r_2, S_1)
    )
   )
  ) else (
   bd (f_X6_refuse v3_1 S) (u2 fun r_5 S_3 =>
    some (r_5, S_3)
   )
  )
def L_L_guard_2 (bs : Nat) (Ls : Nat) (xs : Nat → Int32) (v2 : Int32) : Nat → Int32 → Sg → Option (Sg)
  | 0, _, _ => none
  | n + 1, v3, S =>
  if v3 < (8 : Int32) then (
   bd (f_L_cell bs Ls xs v3 S) fun r_1 =>
   bd (f_L_pick r_1 (3 : Int32)) fun r_2 =>
   if r_2 = 0 then (
    bd (f_L_cell bs Ls xs v3 S) fun r_6 =>
    bd (f_L_pick (isr r_6 (3 : Int32)) (4 : Int32)) fun r_7 =>
    bd (f_X6_tells v3 (r_7 * (33 : Int32)) S) (u2 fun r_8 S_2 =>
     lt (v3 + (1 : Int32)) fun v3_2 =>
     L_L_guard_2 bs Ls xs v2 n v3_2 S_2
    )
   ) else (
    bd (f_L_cell bs Ls xs v3 S) fun r_3 =>
    bd (f_L_pick (isr r_3 (3 : Int32)) (100 : Int32)) fun r_4 =>
    bd (f_X6_tells v3 r_4 S) (u2 fun r_5 S_1 =>
     lt (v3 + (1 : Int32)) fun v3_1 =>
     L_L_guard_2 bs Ls xs v2 n v3_1 S_1
    )
   )
  ) else (
   some S
  )
def L_L_guard_96 (bs : Nat) (Ls : Nat) (xs : Nat → Int32) (v2 : Int32) : Nat → Int32 → Sg → Option (Sg)
  | 0, _, _ => none
  | n + 1, v3, S =>
  if v3 < v2 then (
   bd (f_L_cell bs Ls xs ((10 : Int32) + v3) S) fun r_1 =>
   bd (f_L_pick r_1 (12 : Int32)) fun r_2 =>
   bd (f_L_pick (isr r_1 (4 : Int32)) (255 : Int32)) fun r_3 =>
   lt (((1 : Int32) + r_3)) fun v6_1 =>
   if r_2 < (6 : Int32) then (
    bd (f_X6_ask (0 : Int32) v6_1 (0 : Int32) S) (u2 fun r_16 S_6 =>
     lt (v3 + (1 : Int32)) fun v3_6 =>
     L_L_guard_96 bs Ls xs v2 n v3_6 S_6
    )
   ) else (
    if r_2 = (6 : Int32) then (
     bd (f_X6_ask (1 : Int32) v6_1 (((isr r_1 (12 : Int32)) &&& (255 : Int32)) &&& (v6_1 ^^^ (-1 : Int32))) S) (u2 fun r_15 S_5 =>
      lt (v3 + (1 : Int32)) fun v3_5 =>
      L_L_guard_96 bs Ls xs v2 n v3_5 S_5
     )
    ) else (
     if r_2 = (7 : Int32) then (
      bd (f_L_pick (isr r_1 (12 : Int32)) (3 : Int32)) fun r_13 =>
      bd (f_X6_ask (2 : Int32) v6_1 ((1 : Int32) + r_13) S) (u2 fun r_14 S_4 =>
       lt (v3 + (1 : Int32)) fun v3_4 =>
       L_L_guard_96 bs Ls xs v2 n v3_4 S_4
      )
     ) else (
      if r_2 = (8 : Int32) then (
       bd (f_L_pick (isr r_1 (4 : Int32)) (8 : Int32)) fun r_10 =>
       bd (f_L_pick (isr r_1 (7 : Int32)) (100 : Int32)) fun r_11 =>
       bd (f_X6_changes r_10 r_11 S) (u2 fun r_12 S_3 =>
        lt (v3 + (1 : Int32)) fun v3_3 =>
        L_L_guard_96 bs Ls xs v2 n v3_3 S_3
       )
      ) else (
       if r_2 < (11 : Int32) then (
        bd (f_L_pick (isr r_1 (4 : Int32)) (10 : Int32)) fun r_7 =>
        bd (f_L_pick (isr r_1 (8 : Int32)) (12 : Int32)) fun r_8 =>
        bd (f_L_pick (isr r_1 (12 : Int32)) (12 : Int32)) fun r_9 =>
        bd (f_L_bound r_7 r_8 r_9 S) fun S_2 =>
        lt (v3 + (1 : Int32)) fun v3_2 =>
        L_L_guard_96 bs Ls xs v2 n v3_2 S_2
       ) else (
        bd (f_L_pick (isr r_1 (4 : Int32)) (8 : Int32)) fun r_4 =>
        bd (f_L_pick (isr r_1 (7 : Int32)) (100 : Int32)) fun r_5 =>
        bd (f_X6_tells r_4 r_5 S) (u2 fun r_6 S_1 =>
         lt (v3 + (1 : Int32)) fun v3_1 =>
         L_L_guard_96 bs Ls xs v2 n v3_1 S_1
        )
       )
      )
     )
    )
   )
  ) else (
   some S
  )
def f_L_guard (bs : Nat) (Ls : Nat) (xs : Nat → Int32) (p2 : Int32) (S : Sg) : Option Sg :=
  bd (L_L_guard_2 bs Ls xs p2 400 (0 : Int32) S) (fun S_1 => (
   bd (f_L_cell bs Ls xs (8 : Int32) S_1) fun r_1 =>
   bd (f_L_pick r_1 (9 : Int32)) fun r_2 =>
   bd (f_X6_limit ((2 : Int32) + r_2) S_1) (u2 fun r_3 S_2 =>
    bd (f_L_cell bs Ls xs (9 : Int32) S_2) fun r_4 =>
    bd (f_L_pick r_4 (4 : Int32)) fun r_5 =>
    bd (f_X6_rule r_5 S_2) (u2 fun r_6 S_3 =>
     bd (L_L_guard_96 bs Ls xs p2 400 (0 : Int32) S_3) (fun S_4 => (
      some S_4
     ))
    )
   )
  ))
def f_X6_answer (p1 : Int32) (S : Sg) : Option (Int64 × Sg) :=
  if (f_X6_isWithin p1 (S.1 1 9)) = 0 then (
   bd (f_X6_refuse (-1 : Int32) S) (u2 fun r_2 S_1 =>
    some (((4000000000000000000 : Int64) - r_2.toInt64), S_1)
   )
  ) else (
   bd (f_X5_answerOf 1 p1 S) fun r_1 =>
   some (r_1.toInt64, S)
  )
def f_X5_fixedBitsWith (o : Nat) (o1 : Nat) (S : Sg) : Option (Int32 × Sg) :=
  bd (f_X5_findRest o o1 S) fun S_1 =>
  bd (f_X4_fixedBitsWith (o + 17) (o + 42) 10 S_1) fun r_1 =>
  some (r_1, S_1)
def L_X6_attack_43 (v1 : Int32) (v2 : Int32) : Nat → Int32 → Int32 → Int32 → Sg → Option (Int32 × Int32 × Sg)
  | 0, _, _, _, _ => none
  | n + 1, v3, v4, v5, S =>
  if v5 < (1 : Int32) then (
   some (v3, v4, S)
  ) else (
   bd (f_X2_make 130 (0 : Int32) v5 (0 : Int32) S) fun S_1 =>
   bd (f_X5_fixedBitsWith 1 130 S_1) (u2 fun r_1 S_2 =>
    lt (if ((isr r_1 v1) &&& (1 : Int32)) = (1 : Int32) then v5 else v3) fun v3_1 =>
    lt (if ((isr r_1 v1) &&& (1 : Int32)) = (1 : Int32) then (v4 + (1 : Int32)) else v4) fun v4_1 =>
    lt (v5 + (-1 : Int32)) fun v5_1 =>
    L_X6_attack_43 v1 v2 n v3_1 v4_1 v5_1 S_2
   )
  )
def f_X6_attack (p1 : Int32) (p2 : Int32) (S : Sg) : Option (Int32 × Sg) :=
  if (f_X5_has 1 p1 S) = 0 then (
   bd (f_X6_refuse (-1 : Int32) S) (u2 fun r_2 S_3 =>
    some (r_2, S_3)
   )
  ) else (
   if (f_X6_isWithin p2 (2 : Int32)) = 0 then (
    bd (f_X6_refuse (-2 : Int32) S) (u2 fun r_1 S_2 =>
     some (r_1, S_2)
    )
   ) else (
    bd (L_X6_attack_43 p1 p2 400 (-9 : Int32) (0 : Int32) (255 : Int32) S) (u3 fun v3_1 v4_1 S_1 => (
     lt (if p2 = 0 then v3_1 else v4_1) fun x_1 =>
     some (x_1, S_1)
    ))
   )
  )
def L_X5_usedBits_4 (o : Nat) (S : Sg) : Nat → Int32 → Int32 → Option (Int32)
  | 0, _, _ => none
  | n + 1, v1, v2 =>
  if v2 < (10 : Int32) then (
   bd (f_X5_isFree o v2 S) fun r_1 =>
   lt (if r_1 = 0 then (v1 ||| (isl (1 : Int32) v2)) else v1) fun v1_1 =>
   lt (v2 + (1 : Int32)) fun v2_1 =>
   L_X5_usedBits_4 o S n v1_1 v2_1
  ) else (
   some v1
  )
def f_X5_usedBits (o : Nat) (S : Sg) : Option Int32 :=
  bd (L_X5_usedBits_4 o S 400 (0 : Int32) (0 : Int32)) (fun v1_1 => (
   some v1_1
  ))
def L_X5_valuesOfPeople_4 (o : Nat) (S : Sg) : Nat → Int32 → Int32 → Option (Int32)
  | 0, _, _ => none
  | n + 1, v1, v2 =>
  if v2 < (8 : Int32) then (
   gd (inb v2 8) <|
   bd (f_X5_valueOf o (S.1 (o + 1) (ix v2)) S) fun r_1 =>
   lt ((v1 + r_1)) fun v1_1 =>
   lt (v2 + (1 : Int32)) fun v2_1 =>
   L_X5_valuesOfPeople_4 o S n v1_1 v2_1
  ) else (
   some v1
  )
def f_X5_valuesOfPeople (o : Nat) (S : Sg) : Option Int32 :=
  bd (L_X5_valuesOfPeople_4 o S 400 (0 : Int32) (0 : Int32)) (fun v1_1 => (
   some v1_1
  ))
def f_X6_count (p1 : Int32) (S : Sg) : Option Int32 :=
  if p1 = (0 : Int32) then (
   some (S.1 1 9)
  ) else (
  if p1 = (1 : Int32) then (
   some (S.1 1 4)
  ) else (
  if p1 = (2 : Int32) then (
   some (S.1 1 5)
  ) else (
  if p1 = (3 : Int32) then (
   some (S.1 1 6)
  ) else (
  if p1 = (4 : Int32) then (
   bd (f_X5_usedBits 1 S) fun r_1 =>
   some r_1
  ) else (
  if p1 = (5 : Int32) then (
   bd (f_X5_valuesOfPeople 1 S) fun r_2 =>
   some r_2
  ) else (
  if p1 = (6 : Int32) then (
   some (S.1 137 0)
  ) else (
  if p1 = (7 : Int32) then (
   some (S.1 135 0)
  ) else (
   if (f_X6_isWithin (p1 - (11 : Int32)) (6 : Int32)) = 0 then (
    some (-9 : Int32)
   ) else (
    gd (inb (p1 - (11 : Int32)) 6) <|
    some (S.1 139 (ix (p1 - (11 : Int32))))
   )
  ))))))))
def L_X5_copyFrom_77 (o : Nat) (o1 : Nat) : Nat → Int32 → Sg → Option (Sg)
  | 0, _, _ => none
  | n + 1, v2, S =>
  if v2 < (10 : Int32) then (
   gd (inb v2 10) <|
   lt (cpI S ((o1 + 6) + ix v2) (0 : Int32) ((o + 6) + ix v2) (0 : Int32) (10 : Int32)) fun S_1 =>
   lt (v2 + (1 : Int32)) fun v2_1 =>
   L_X5_copyFrom_77 o o1 n v2_1 S_1
  ) else (
   some S
  )
def f_X5_copyFrom (o : Nat) (o1 : Nat) (S : Sg) : Option Sg :=
  lt (cpI S (o1 + 1) (0 : Int32) (o + 1) (0 : Int32) (8 : Int32)) fun S_1 =>
  lt (cpI S_1 (o1 + 2) (0 : Int32) (o + 2) (0 : Int32) (10 : Int32)) fun S_2 =>
  lt (cpI S_2 (o1 + 3) (0 : Int32) (o + 3) (0 : Int32) (10 : Int32)) fun S_3 =>
  lt (cpI S_3 (o1 + 4) (0 : Int32) (o + 4) (0 : Int32) (10 : Int32)) fun S_4 =>
  lt (cpI S_4 (o1 + 16) (0 : Int32) (o + 16) (0 : Int32) (10 : Int32)) fun S_5 =>
  bd (L_X5_copyFrom_77 o o1 400 (0 : Int32) S_5) (fun S_6 => (
   lt (setI S_6 o 4 (S_6.1 o1 4)) fun S_7 =>
   lt (setI S_7 o 5 (S_7.1 o1 5)) fun S_8 =>
   lt (setI S_8 o 6 (S_8.1 o1 6)) fun S_9 =>
   lt (setI S_9 o 9 (S_9.1 o1 9)) fun S_10 =>
   bd (f_X4_copyFrom (o + 17) (o1 + 17) S_10) fun S_11 =>
   some S_11
  ))
def f_X6_image (S : Sg) : Option (Int32 × Sg) :=
  bd (f_X5_copyFrom 87 1 S) fun S_1 =>
  lt (setI S_1 0 3 (1 : Int32)) fun S_2 =>
  some ((S_2.1 1 9), S_2)
def f_X6_on (S : Sg) : Option (Int32 × Sg) :=
  if (S.1 0 3) = 0 then (
   bd (f_X6_refuse (-3 : Int32) S) (u2 fun r_1 S_2 =>
    some (r_1, S_2)
   )
  ) else (
   bd (f_X5_copyFrom 1 87 S) fun S_1 =>
   some ((S_1.1 1 9), S_1)
  )
def f_X6_person (p1 : Int32) (p2 : Int32) (S : Sg) : Option (Int32 × Sg) :=
  if (f_X6_isWithin p1 (8 : Int32)) = 0 then (
   bd (f_X6_refuse (-1 : Int32) S) (u2 fun r_5 S_2 =>
    some (r_5, S_2)
   )
  ) else (
   if (f_X6_isWithin p2 (3 : Int32)) = 0 then (
    bd (f_X6_refuse (-2 : Int32) S) (u2 fun r_4 S_1 =>
     some (r_4, S_1)
    )
   ) else (
    bd (f_X5_variableOf 1 p1 S) fun r_1 =>
    if p2 = 0 then (
     bd (f_X5_valueOf 1 r_1 S) fun r_3 =>
     some (r_3, S)
    ) else (
     if p2 = (1 : Int32) then (
      some (r_1, S)
     ) else (
      bd (f_X5_isFree 1 r_1 S) fun r_2 =>
      some ((f_X6_asNumber r_2), S)
     )
    )
   )
  )
def f_X6_pivots (S : Sg) : Int32 :=
  (S.1 (1 + 17) 2)
def L_X4_pivotOf_4 (o : Nat) (v1 : Int32) (S : Sg) : Nat → Int32 → Int32 → Option (Int32 ⊕ (Unit))
  | 0, _, _ => none
  | n + 1, v2, v3 =>
  if v3 < (10 : Int32) then (
   if ((isr (S.1 o 2) v3) &&& (1 : Int32)) = (1 : Int32) then (
    if v2 = v1 then (
     some (.inl v3)
    ) else (
     lt (v2 + (1 : Int32)) fun v2_1 =>
     lt (v3 + (1 : Int32)) fun v3_2 =>
     L_X4_pivotOf_4 o v1 S n v2_1 v3_2
    )
   ) else (
    lt (v3 + (1 : Int32)) fun v3_1 =>
    L_X4_pivotOf_4 o v1 S n v2 v3_1
   )
  ) else (
   some (.inr ())
  )
def f_X4_pivotOf (o : Nat) (p1 : Int32) (S : Sg) : Option Int32 :=
  bs (L_X4_pivotOf_4 o p1 S 400 (0 : Int32) (0 : Int32)) (fun q => some q) (fun _ => (
   some (-9 : Int32)
  ))
def L_X6_greatestDivisor_9 : Nat → Int64 → Int64 → Int32 → Option (Int64)
  | 0, _, _, _ => none
  | n + 1, v4, v6, v8 =>
  if v8 < (200 : Int32) then (
   if v6 = (0 : Int64) then (
    some v4
   ) else (
    gd (nzJ v6) <|
    lt ((jrem v4 v6)) fun v9_1 =>
    lt (v8 + (1 : Int32)) fun v8_1 =>
    L_X6_greatestDivisor_9 n v6 v9_1 v8_1
   )
  ) else (
   some v4
  )
def f_X6_greatestDivisor (p0 : Int64) (p1 : Int64) : Option Int64 :=
  bd (L_X6_greatestDivisor_9 400 p0 p1 (0 : Int32)) (fun v4_1 => (
   some v4_1
  ))
def f_X6_partInLeastTerms (p0 : Int64) (p1 : Int64) (p2 : Int32) : Option Int64 :=
  bd (f_X6_greatestDivisor (f_J9_abs_067f4 p0) (f_J9_abs_067f4 p1)) fun r_1 =>
  lt (fun (_ : Unit) => (
   lt (if p2 = 0 then (0 : Int64) else (1 : Int64)) fun x_1 =>
   some x_1
  )) fun J_1 =>
  if p0 = (0 : Int64) then (
   J_1 ()
  ) else (
   if p1 = (0 : Int64) then (
    J_1 ()
   ) else (
    if r_1 = (0 : Int64) then (
     J_1 ()
    ) else (
     lt (if p1 < (0 : Int64) then (-r_1) else r_1) fun x_2 =>
     lt (if p2 = 0 then p0 else p1) fun x_3 =>
     gd (nzJ x_2) <|
     some (x_3 / x_2)
    )
   )
  )
def f_X4_reducedPart (o : Nat) (p1 : Int32) (p2 : Int32) (p3 : Int32) (S : Sg) : Option Int64 :=
  bd (f_X4_pivotOf o p1 S) fun r_1 =>
  if (f_X6_isWithin r_1 (10 : Int32)) = 0 then (
   some (0 : Int64)
  ) else (
   if (f_X6_isWithin p2 (10 : Int32)) = 0 then (
    some (0 : Int64)
   ) else (
    if ((isr (S.1 o 2) p2) &&& (1 : Int32)) = (1 : Int32) then (
     lt (if p2 = r_1 then (1 : Int32) else (0 : Int32)) fun x_1 =>
     bd (f_X6_partInLeastTerms ((f_X6_asNumber x_1).toInt64) (1 : Int64) p3) fun r_3 =>
     some r_3
    ) else (
     gd (inb r_1 10) <|
     gd (inb p2 10) <|
     bd (f_X6_partInLeastTerms (-(S.2 ((o + 2) + ix r_1) (ix p2))) (S.2 o 1) p3) fun r_2 =>
     some r_2
    )
   )
  )
def f_X6_reduced (p1 : Int32) (p2 : Int32) (p3 : Int32) (S : Sg) : Option (Int64 × Sg) :=
  if (f_X6_isWithin p1 (S.1 1 9)) = 0 then (
   bd (f_X6_refuse (-1 : Int32) S) (u2 fun r_1 S_1 =>
    some (((4000000000000000000 : Int64) - r_1.toInt64), S_1)
   )
  ) else (
   if (f_X5_has 1 p2 S) = 0 then (
    bd (f_X6_refuse (-1 : Int32) S) (u2 fun r_4 S_3 =>
     some (((4000000000000000000 : Int64) - r_4.toInt64), S_3)
    )
   ) else (
    if (f_X6_isWithin p3 (2 : Int32)) = 0 then (
     bd (f_X6_refuse (-2 : Int32) S) (u2 fun r_3 S_2 =>
      some (((4000000000000000000 : Int64) - r_3.toInt64), S_2)
     )
    ) else (
     bd (f_X4_reducedPart (1 + 17) p1 p2 p3 S) fun r_2 =>
     some (r_2, S)
    )
   )
  )
def f_X6_meetingOfSum (o1 : Nat) (p2 : Int32) (S : Sg) : Option (Int32 × Sg) :=
  bd (f_X2_make 130 (0 : Int32) p2 (0 : Int32) S) fun S_1 =>
  bd (f_X5_meetingBy o1 130 (S_1.1 o1 5) (S_1.1 o1 6) S_1) (u2 fun r_1 S_2 =>
   some (r_1, S_2)
  )
def L_X6_howMany_4 (v1 : Int32) : Nat → Int32 → Int32 → Sg → Option (Int32 × Sg)
  | 0, _, _, _ => none
  | n + 1, v2, v3, S =>
  if (255 : Int32) < v3 then (
   some (v2, S)
  ) else (
   bd (f_X6_meetingOfSum 1 v3 S) (u2 fun r_1 S_1 =>
    lt (if r_1 = v1 then (v2 + (1 : Int32)) else v2) fun v2_1 =>
    lt (v3 + (1 : Int32)) fun v3_1 =>
    L_X6_howMany_4 v1 n v2_1 v3_1 S_1
   )
  )
def f_X6_howMany (p1 : Int32) (S : Sg) : Option (Int32 × Sg) :=
  bd (L_X6_howMany_4 p1 400 (0 : Int32) (1 : Int32) S) (u2 fun v2_1 S_1 => (
   some (v2_1, S_1)
  ))
def L_X6_leastJoining_2 : Nat → Int32 → Sg → Option ((Int32 × Sg) ⊕ (Sg))
  | 0, _, _ => none
  | n + 1, v1, S =>
  if (255 : Int32) < v1 then (
   some (.inr S)
  ) else (
   bd (f_X6_meetingOfSum 1 v1 S) (u2 fun r_1 S_1 =>
    if r_1 = (1 : Int32) then (
     some (.inl (v1, S_1))
    ) else (
     lt (v1 + (1 : Int32)) fun v1_1 =>
     L_X6_leastJoining_2 n v1_1 S_1
    )
   )
  )
def f_X6_leastJoining (S : Sg) : Option (Int32 × Sg) :=
  bs (L_X6_leastJoining_2 400 (1 : Int32) S) (fun q => some q) (fun S_1 => (
   some ((-9 : Int32), S_1)
  ))
def f_X6_sums (p1 : Int32) (S : Sg) : Option (Int32 × Sg) :=
  if p1 = (0 : Int32) then (
   bd (f_X6_leastJoining S) (u2 fun r_1 S_1 =>
    some (r_1, S_1)
   )
  ) else (
  if p1 = (1 : Int32) then (
   bd (f_X6_howMany (1 : Int32) S) (u2 fun r_2 S_2 =>
    some (r_2, S_2)
   )
  ) else (
  if p1 = (2 : Int32) then (
   bd (f_X6_howMany (2 : Int32) S) (u2 fun r_3 S_3 =>
    some (r_3, S_3)
   )
  ) else (
  if p1 = (3 : Int32) then (
   bd (f_X6_howMany (0 : Int32) S) (u2 fun r_4 S_4 =>
    some (r_4, S_4)
   )
  ) else (
   bd (f_X6_refuse (-2 : Int32) S) (u2 fun r_5 S_5 =>
    some (r_5, S_5)
   )
  ))))
def f_X6_would (p1 : Int32) (p2 : Int32) (p3 : Int32) (S : Sg) : Option (Int32 × Sg) :=
  lt ((f_X2_misfitOf p1 p2 p3)) fun v4_1 =>
  if v4_1 = 0 then (
   bd (f_X2_make 130 p1 p2 p3 S) fun S_1 =>
   bd (f_X5_meetingBy 1 130 (S_1.1 1 5) (S_1.1 1 6) S_1) (u2 fun r_1 S_2 =>
    some (r_1, S_2)
   )
  ) else (
   bd (f_X6_refuse v4_1 S) (u2 fun r_2 S_3 =>
    some (r_2, S_3)
   )
  )
def L_L_law_39 (bs : Nat) (Ls : Nat) (xs : Nat → Int32) (v2 : Int32) (v3 : Int32) (v4 : Int32) : Nat → Int32 → Sg → Option ((Int32 × Sg) ⊕ (Sg))
  | 0, _, _ => none
  | n + 1, v5, S =>
  if v5 < (4 : Int32) then (
   bd (f_X6_rule v5 S) (u2 fun r_1 S_1 =>
    if r_1 < 0 then (
     some (.inl ((0 : Int32), S_1))
    ) else (
     bd (f_X6_would (0 : Int32) (isl (1 : Int32) v4) (0 : Int32) S_1) (u2 fun r_2 S_2 =>
      if r_2 = (2 : Int32) then (
       lt (v5 + (1 : Int32)) fun v5_1 =>
       L_L_law_39 bs Ls xs v2 v3 v4 n v5_1 S_2
      ) else (
       some (.inl ((0 : Int32), S_2))
      )
     )
    )
   )
  ) else (
   some (.inr S)
  )
def L_L_law_29 (bs : Nat) (Ls : Nat) (xs : Nat → Int32) (v2 : Int32) (v3 : Int32) : Nat → Int32 → Sg → Option ((Int32 × Sg) ⊕ (Sg))
  | 0, _, _ => none
  | n + 1, v4, S =>
  if v4 < (8 : Int32) then (
   bs (L_L_law_39 bs Ls xs v2 v3 v4 400 (0 : Int32) S) (fun q => some (.inl q)) (fun S_1 => (
    bd (f_X6_person v4 (1 : Int32) S_1) (u2 fun r_1 S_2 =>
     bd (f_X6_person v4 (0 : Int32) S_2) (u2 fun r_2 S_3 =>
      bd (f_X6_ask (0 : Int32) (isl (1 : Int32) v4) (0 : Int32) S_3) (u2 fun r_3 S_4 =>
       if r_3 = (1000000005 : Int32) then (
        bd (f_X6_on S_4) (u2 fun r_4 S_5 =>
         if r_4 = v2 then (
          bd (f_X6_variable r_1 (0 : Int32) S_5) (u2 fun r_5 S_6 =>
           if r_5 = r_2 then (
            bd (f_X6_variable r_1 (3 : Int32) S_6) (u2 fun r_6 S_7 =>
             if r_2 < r_6 then (
              some (.inl ((0 : Int32), S_7))
             ) else (
              bd (f_X6_variable r_1 (4 : Int32) S_7) (u2 fun r_7 S_8 =>
               if r_7 < r_2 then (
                some (.inl ((0 : Int32), S_8))
               ) else (
                bd (f_X6_attack r_1 (1 : Int32) S_8) (u2 fun r_8 S_9 =>
                 if r_8 < (1 : Int32) then (
                  some (.inl ((0 : Int32), S_9))
                 ) else (
                  bd (f_X6_attack r_1 (0 : Int32) S_9) (u2 fun r_9 S_10 =>
                   if (isl (1 : Int32) v4) < r_9 then (
                    some (.inl ((0 : Int32), S_10))
                   ) else (
                    lt (v4 + (1 : Int32)) fun v4_1 =>
                    L_L_law_29 bs Ls xs v2 v3 n v4_1 S_10
                   )
                  )
                 )
                )
               )
              )
             )
            )
           ) else (
            some (.inl ((0 : Int32), S_6))
           )
          )
         ) else (
          some (.inl ((0 : Int32), S_5))
         )
        )
       ) else (
        some (.inl ((0 : Int32), S_4))
       )
      )
     )
    )
   ))
  ) else (
   some (.inr S)
  )
def L_L_law_249 (bs : Nat) (Ls : Nat) (xs : Nat → Int32) (v2 : Int32) (v3 : Int32) (v4 : Int32) (v5 : Int32) : Nat → Int32 → Int32 → Int32 → Sg → Option ((Int32 × Sg) ⊕ (Int32 × Sg))
  | 0, _, _, _, _ => none
  | n + 1, v6, v7, v8, S =>
  if v8 < v3 then (
   bd (f_X6_reduced v5 v8 (0 : Int32) S) (u2 fun r_1 S_1 =>
    if r_1 = (0 : Int64) then (
     lt (v8 + (1 : Int32)) fun v8_2 =>
     L_L_law_249 bs Ls xs v2 v3 v4 v5 n v6 v7 v8_2 S_1
    ) else (
     lt (fun (S_2 : Sg) => (
      lt (fun (_ : Unit) => (
       bd (f_X6_reduced v5 v8 (1 : Int32) S_2) (u2 fun r_2 S_3 =>
        if r_2 < (1 : Int64) then (
         some (.inl ((0 : Int32), S_3))
        ) else (
         lt (if v7 = 0 then (1 : Int32) else (0 : Int32)) fun x_1 =>
         lt ((v6 + x_1)) fun v6_1 =>
         lt (v8 + (1 : Int32)) fun v8_1 =>
         L_L_law_249 bs Ls xs v2 v3 v4 v5 n v6_1 (0 : Int32) v8_1 S_3
        )
       )
      )) fun J_2 =>
      if v7 = 0 then (
       if ((isr v4 v8) &&& (1 : Int32)) = (1 : Int32) then (
        some (.inl ((0 : Int32), S_2))
       ) else (
        J_2 ()
       )
      ) else (
       J_2 ()
      )
     )) fun J_1 =>
     if v7 = 0 then (
      J_1 S_1
     ) else (
      if ((isr v4 v8) &&& (1 : Int32)) = (1 : Int32) then (
       if r_1 = (1 : Int64) then (
        bd (f_X6_reduced v5 v8 (1 : Int32) S_1) (u2 fun r_3 S_4 =>
         if r_3 = (1 : Int64) then (
          J_1 S_4
         ) else (
          some (.inl ((0 : Int32), S_4))
         )
        )
       ) else (
        some (.inl ((0 : Int32), S_1))
       )
      ) else (
       some (.inl ((0 : Int32), S_1))
      )
     )
    )
   )
  ) else (
   some (.inr (v6, S))
  )
def L_L_law_234 (bs : Nat) (Ls : Nat) (xs : Nat → Int32) (v2 : Int32) (v3 : Int32) (v4 : Int32) : Nat → Int32 → Sg → Option ((Int32 × Sg) ⊕ (Sg))
  | 0, _, _ => none
  | n + 1, v5, S =>
  if v5 < v2 then (
   bs (L_L_law_249 bs Ls xs v2 v3 v4 v5 400 (0 : Int32) (1 : Int32) (0 : Int32) S) (fun q => some (.inl q)) (u2 fun v6_1 S_1 => (
    if v6_1 = 0 then (
     some (.inl ((0 : Int32), S_1))
    ) else (
     lt (v5 + (1 : Int32)) fun v5_1 =>
     L_L_law_234 bs Ls xs v2 v3 v4 n v5_1 S_1
    )
   ))
  ) else (
   some (.inr S)
  )
def L_L_law_501 (bs : Nat) (Ls : Nat) (xs : Nat → Int32) (v2 : Int32) (v3 : Int32) (v4 : Int32) (v5 : Int32) (v7 : Int32) (v8 : Int32) (v9 : Int32) (v10 : Int32) (v11 : Int32) : Nat → Int32 → Int32 → Sg → Option (Int32 × Sg)
  | 0, _, _, _ => none
  | n + 1, v12, v13, S =>
  if v13 < (8 : Int32) then (
   bd (f_X6_person v13 (0 : Int32) S) (u2 fun r_1 S_1 =>
    if v8 = (1 : Int32) then (
     lt ((v12 + (r_1 * (((isr v7 v13) &&& (1 : Int32)) - ((isr v9 v13) &&& (1 : Int32)))))) fun v12_3 =>
     lt (v13 + (1 : Int32)) fun v13_3 =>
     L_L_law_501 bs Ls xs v2 v3 v4 v5 v7 v8 v9 v10 v11 n v12_3 v13_3 S_1
    ) else (
     if v8 = 0 then (
      lt ((v12 + (r_1 * (((isr v7 v13) &&& (1 : Int32)) * (1 : Int32))))) fun v12_2 =>
      lt (v13 + (1 : Int32)) fun v13_2 =>
      L_L_law_501 bs Ls xs v2 v3 v4 v5 v7 v8 v9 v10 v11 n v12_2 v13_2 S_1
     ) else (
      gd (nz v9) <|
      lt ((v12 + (r_1 * (((isr v7 v13) &&& (1 : Int32)) * ((irem v13 v9) + (1 : Int32)))))) fun v12_1 =>
      lt (v13 + (1 : Int32)) fun v13_1 =>
      L_L_law_501 bs Ls xs v2 v3 v4 v5 v7 v8 v9 v10 v11 n v12_1 v13_1 S_1
     )
    )
   )
  ) else (
   some (v12, S)
  )
def L_L_law_693 (bs : Nat) (Ls : Nat) (xs : Nat → Int32) (v2 : Int32) (v3 : Int32) (v4 : Int32) (v5 : Int32) (v8 : Int32) (v10 : Int32) (v14 : Int32) : Nat → Int32 → Sg → Option ((Int32 × Sg) ⊕ (Sg))
  | 0, _, _ => none
  | n + 1, v15, S =>
  if v15 < (8 : Int32) then (
   bd (f_X6_would (0 : Int32) (isl (1 : Int32) v15) (0 : Int32) S) (u2 fun r_1 S_1 =>
    if r_1 = (2 : Int32) then (
     lt (v15 + (1 : Int32)) fun v15_1 =>
     L_L_law_693 bs Ls xs v2 v3 v4 v5 v8 v10 v14 n v15_1 S_1
    ) else (
     some (.inl ((0 : Int32), S_1))
    )
   )
  ) else (
   some (.inr S)
  )
def L_L_law_385 (bs : Nat) (Ls : Nat) (xs : Nat → Int32) (v2 : Int32) (v3 : Int32) (v4 : Int32) : Nat → Int32 → Sg → Option ((Int32 × Sg) ⊕ (Sg))
  | 0, _, _ => none
  | n + 1, v5, S =>
  if v5 < (6 : Int32) then (
   bd (f_L_cell bs Ls xs ((26 : Int32) + v5) S) fun r_1 =>
   bd (f_L_pick r_1 (255 : Int32)) fun r_2 =>
   lt (((1 : Int32) + r_2)) fun v7_1 =>
   bd (f_L_pick (isr r_1 (8 : Int32)) (3 : Int32)) fun r_3 =>
   lt (fun (x_1 : Int32) => (
    lt (fun (_ : Unit) => (
     bd (f_X6_would r_3 v7_1 x_1 S) (u2 fun r_4 S_1 =>
      bd (f_X6_count (0 : Int32) S_1) fun r_5 =>
      bd (L_L_law_501 bs Ls xs v2 v3 v4 v5 v7_1 r_3 x_1 r_4 r_5 400 (0 : Int32) (0 : Int32) S_1) (u2 fun v12_1 S_2 => (
       bd (f_X6_ask r_3 v7_1 x_1 S_2) (u2 fun r_6 S_3 =>
        lt (if r_4 = (2 : Int32) then (1000000005 : Int32) else v12_1) fun x_2 =>
        if r_6 = x_2 then (
         bd (f_X6_count (0 : Int32) S_3) fun r_7 =>
         lt (if r_4 = (1 : Int32) then (1 : Int32) else (0 : Int32)) fun x_3 =>
         if r_7 = (r_5 + x_3) then (
          lt (fun (S_4 : Sg) => (
           lt (fun (S_5 : Sg) => (
            lt ((v7_1 &&& (255 : Int32))) fun v14_1 =>
            bs (L_L_law_693 bs Ls xs v2 v3 v4 v5 r_3 r_4 v14_1 400 (0 : Int32) S_5) (fun q => some (.inl q)) (fun S_6 => (
             lt (fun (_ : Unit) => (
              if r_4 = (1 : Int32) then (
               bd (f_X6_count (2 : Int32) S_6) fun r_8 =>
               if r_8 = (3 : Int32) then (
                bd (f_X6_count (0 : Int32) S_6) fun r_9 =>
                bd (f_X6_count (3 : Int32) S_6) fun r_10 =>
                if r_10 < r_9 then (
                 some (.inl ((0 : Int32), S_6))
                ) else (
                 lt (v5 + (1 : Int32)) fun v5_3 =>
                 L_L_law_385 bs Ls xs v2 v3 v4 n v5_3 S_6
                )
               ) else (
                lt (v5 + (1 : Int32)) fun v5_2 =>
                L_L_law_385 bs Ls xs v2 v3 v4 n v5_2 S_6
               )
              ) else (
               lt (v5 + (1 : Int32)) fun v5_1 =>
               L_L_law_385 bs Ls xs v2 v3 v4 n v5_1 S_6
              )
             )) fun J_5 =>
             if r_4 = (1 : Int32) then (
              if r_3 = 0 then (
               bd (f_X6_count (2 : Int32) S_6) fun r_11 =>
               if r_11 = (1 : Int32) then (
                if (f_J6_bitCount_0f7a4 v14_1) < (2 : Int32) then (
                 some (.inl ((0 : Int32), S_6))
                ) else (
                 if (6 : Int32) < (f_J6_bitCount_0f7a4 v14_1) then (
                  some (.inl ((0 : Int32), S_6))
                 ) else (
                  J_5 ()
                 )
                )
               ) else (
                J_5 ()
               )
              ) else (
               J_5 ()
              )
             ) else (
              J_5 ()
             )
            ))
           )) fun J_4 =>
           if r_4 = (1 : Int32) then (
            bd (f_X6_answer r_5 S_4) (u2 fun r_12 S_7 =>
             if r_12 = v12_1.toInt64 then (
              J_4 S_7
             ) else (
              some (.inl ((0 : Int32), S_7))
             )
            )
           ) else (
            J_4 S_4
           )
          )) fun J_3 =>
          if r_4 = (2 : Int32) then (
           J_3 S_3
          ) else (
           bd (f_X6_would r_3 v7_1 x_1 S_3) (u2 fun r_13 S_8 =>
            if r_13 = 0 then (
             bd (f_X6_ask r_3 v7_1 x_1 S_8) (u2 fun r_14 S_9 =>
              if r_14 = v12_1 then (
               J_3 S_9
              ) else (
               some (.inl ((0 : Int32), S_9))
              )
             )
            ) else (
             some (.inl ((0 : Int32), S_8))
            )
           )
          )
         ) else (
          some (.inl ((0 : Int32), S_3))
         )
        ) else (
         some (.inl ((0 : Int32), S_3))
        )
       )
      ))
     )
    )) fun J_2 =>
    if r_3 = (1 : Int32) then (
     if x_1 = 0 then (
      lt (v5 + (1 : Int32)) fun v5_4 =>
      L_L_law_385 bs Ls xs v2 v3 v4 n v5_4 S
     ) else (
      J_2 ()
     )
    ) else (
     J_2 ()
    )
   )) fun J_1 =>
   if r_3 = (1 : Int32) then (
    J_1 (((isr r_1 (10 : Int32)) &&& (255 : Int32)) &&& (v7_1 ^^^ (-1 : Int32)))
   ) else (
    bd (f_L_pick (isr r_1 (10 : Int32)) (3 : Int32)) fun r_15 =>
    J_1 ((1 : Int32) + r_15)
   )
  ) else (
   some (.inr S)
  )
def f_L_law (bs : Nat) (Ls : Nat) (xs : Nat → Int32) (S : Sg) : Option (Int32 × Sg) :=
  bd (f_L_guard bs Ls xs (14 : Int32) S) fun S_1 =>
  bd (f_X6_image S_1) (u2 fun r_1 S_2 =>
   bd (f_X6_count (1 : Int32) S_2) fun r_2 =>
   bs (L_L_law_29 bs Ls xs r_1 r_2 400 (0 : Int32) S_2) (fun q => some q) (fun S_3 => (
    lt ((f_X6_pivots S_3)) fun v4_1 =>
    if (f_J6_bitCount_0f7a4 v4_1) = r_1 then (
     if r_1 < r_2 then (
      bd (f_X6_sums (1 : Int32) S_3) (u2 fun r_3 S_4 =>
       bd (f_X6_sums (2 : Int32) S_4) (u2 fun r_4 S_5 =>
        bd (f_X6_sums (3 : Int32) S_5) (u2 fun r_5 S_6 =>
         if ((r_3 + r_4) + r_5) = (255 : Int32) then (
          bs (L_L_law_234 bs Ls xs r_1 r_2 v4_1 400 (0 : Int32) S_6) (fun q => some q) (fun S_7 => (
           bs (L_L_law_385 bs Ls xs r_1 r_2 v4_1 400 (0 : Int32) S_7) (fun q => some q) (fun S_8 => (
            bd (f_X6_on S_8) (u2 fun r_6 S_9 =>
             if r_6 = r_1 then (
              bd (f_X6_count (0 : Int32) S_9) fun r_7 =>
              if r_7 = r_1 then (
               bd (f_X6_count (1 : Int32) S_9) fun r_8 =>
               lt (if r_8 = r_2 then (if (f_X6_pivots S_9) = v4_1 then (1 : Int32) else (0 : Int32)) else (0 : Int32)) fun x_1 =>
               some (x_1, S_9)
              ) else (
               some ((0 : Int32), S_9)
              )
             ) else (
              some ((0 : Int32), S_9)
             )
            )
           ))
          ))
         ) else (
          some ((0 : Int32), S_6)
         )
        )
       )
      )
     ) else (
      some ((0 : Int32), S_3)
     )
    ) else (
     some ((0 : Int32), S_3)
    )
   ))
  )
end
section
set_option maxRecDepth 100000 in
set_option maxHeartbeats 4000000 in
theorem c_J6_bitCount_0f7a4 {l : Launch} {G : zz_G} {L : Ly} {b : Nat} (p0 : Int32) (S : Sg) : Met l yJ6_bitCount_0f7a4 (Cond.code yJ6_bitCount_0f7a4 cJ6_bitCount_0f7a4 1 (some .int) :: zz_all) (rmz 0 0) (PC G L b S [.int p0]) (QC G L b S (some (.int (f_J6_bitCount_0f7a4 p0))) True) 0 0 (fun q => b ≤ q) := by
  refine x_metF [.int p0] (by decide +kernel) (Nat.le_of_ble_eq_true rfl) fun p e s m args below meth c C => ?_
  generalize h : f_J6_bitCount_0f7a4 p0 = rf
  unfold f_J6_bitCount_0f7a4 at h
  refine x_iload_n (pc := 0) C 0 dJ6_bitCount_0f7a4_0 rfl ?_
  refine x_iload_n (pc := 1) C 0 dJ6_bitCount_0f7a4_1 rfl ?_
  refine x_iconst (pc := 2) C (v := (1 : Int32)) dJ6_bitCount_0f7a4_2 rfl ?_
  refine x_iushr (pc := 3) C dJ6_bitCount_0f7a4_3 ?_
  refine x_ldcw (pc := 4) C wd_504 dJ6_bitCount_0f7a4_4 ?_
  refine x_iand (pc := 7) C dJ6_bitCount_0f7a4_7 ?_
  refine x_isub (pc := 8) C dJ6_bitCount_0f7a4_8 ?_
  obtain ⟨v0_1, ev0_1, h⟩ := of_lt h
  refine x_istore_n (pc := 9) C 0 [(0, .int v0_1)] dJ6_bitCount_0f7a4_9 rfl (Nat.le_of_ble_eq_true rfl) ev0_1 rfl ?_
  refine x_iload_n (pc := 10) C 0 dJ6_bitCount_0f7a4_10 rfl ?_
  refine x_ldcw (pc := 11) C wd_505 dJ6_bitCount_0f7a4_11 ?_
  refine x_iand (pc := 14) C dJ6_bitCount_0f7a4_14 ?_
  refine x_iload_n (pc := 15) C 0 dJ6_bitCount_0f7a4_15 rfl ?_
  refine x_iconst (pc := 16) C (v := (2 : Int32)) dJ6_bitCount_0f7a4_16 rfl ?_
  refine x_iushr (pc := 17) C dJ6_bitCount_0f7a4_17 ?_
  refine x_ldcw (pc := 18) C wd_505 dJ6_bitCount_0f7a4_18 ?_
  refine x_iand (pc := 21) C dJ6_bitCount_0f7a4_21 ?_
  refine x_iadd (pc := 22) C dJ6_bitCount_0f7a4_22 ?_
  obtain ⟨v0_2, ev0_2, h⟩ := of_lt h
  refine x_istore_n (pc := 23) C 0 [(0, .int v0_2)] dJ6_bitCount_0f7a4_23 rfl (Nat.le_of_ble_eq_true rfl) ev0_2 rfl ?_
  refine x_iload_n (pc := 24) C 0 dJ6_bitCount_0f7a4_24 rfl ?_
  refine x_iload_n (pc := 25) C 0 dJ6_bitCount_0f7a4_25 rfl ?_
  refine x_iconst (pc := 26) C (v := (4 : Int32)) dJ6_bitCount_0f7a4_26 rfl ?_
  refine x_iushr (pc := 27) C dJ6_bitCount_0f7a4_27 ?_
  refine x_iadd (pc := 28) C dJ6_bitCount_0f7a4_28 ?_
  refine x_ldcw (pc := 29) C wd_506 dJ6_bitCount_0f7a4_29 ?_
  refine x_iand (pc := 32) C dJ6_bitCount_0f7a4_32 ?_
  obtain ⟨v0_3, ev0_3, h⟩ := of_lt h
  refine x_istore_n (pc := 33) C 0 [(0, .int v0_3)] dJ6_bitCount_0f7a4_33 rfl (Nat.le_of_ble_eq_true rfl) ev0_3 rfl ?_
  refine x_iload_n (pc := 34) C 0 dJ6_bitCount_0f7a4_34 rfl ?_
  refine x_iload_n (pc := 35) C 0 dJ6_bitCount_0f7a4_35 rfl ?_
  refine x_bipush (pc := 36) C (v := (8 : Int32)) dJ6_bitCount_0f7a4_36 rfl ?_
  refine x_iushr (pc := 38) C dJ6_bitCount_0f7a4_38 ?_
  refine x_iadd (pc := 39) C dJ6_bitCount_0f7a4_39 ?_
  obtain ⟨v0_4, ev0_4, h⟩ := of_lt h
  refine x_istore_n (pc := 40) C 0 [(0, .int v0_4)] dJ6_bitCount_0f7a4_40 rfl (Nat.le_of_ble_eq_true rfl) ev0_4 rfl ?_
  refine x_iload_n (pc := 41) C 0 dJ6_bitCount_0f7a4_41 rfl ?_
  refine x_iload_n (pc := 42) C 0 dJ6_bitCount_0f7a4_42 rfl ?_
  refine x_bipush (pc := 43) C (v := (16 : Int32)) dJ6_bitCount_0f7a4_43 rfl ?_
  refine x_iushr (pc := 45) C dJ6_bitCount_0f7a4_45 ?_
  refine x_iadd (pc := 46) C dJ6_bitCount_0f7a4_46 ?_
  obtain ⟨v0_5, ev0_5, h⟩ := of_lt h
  refine x_istore_n (pc := 47) C 0 [(0, .int v0_5)] dJ6_bitCount_0f7a4_47 rfl (Nat.le_of_ble_eq_true rfl) ev0_5 rfl ?_
  refine x_iload_n (pc := 48) C 0 dJ6_bitCount_0f7a4_48 rfl ?_
  refine x_bipush (pc := 49) C (v := (63 : Int32)) dJ6_bitCount_0f7a4_49 rfl ?_
  refine x_iand (pc := 51) C dJ6_bitCount_0f7a4_51 ?_
  exact x_ireturn (pc := 52) C dJ6_bitCount_0f7a4_52 h rfl
set_option maxRecDepth 100000 in
set_option maxHeartbeats 4000000 in
theorem c_J9_abs_067f4 {l : Launch} {G : zz_G} {L : Ly} {b : Nat} (p0 : Int64) (S : Sg) : Met l yJ9_abs_067f4 (Cond.code yJ9_abs_067f4 cJ9_abs_067f4 2 (some .long) :: zz_all) (rmz 0 0) (PC G L b S [.long p0]) (QC G L b S (some (.long (f_J9_abs_067f4 p0))) True) 0 0 (fun q => b ≤ q) := by
  refine x_metF [.long p0] (by decide +kernel) (Nat.le_of_ble_eq_true rfl) fun p e s m args below meth c C => ?_
  generalize h : f_J9_abs_067f4 p0 = rf
  unfold f_J9_abs_067f4 at h
  refine x_lload_n (pc := 0) C 0 dJ9_abs_067f4_0 rfl ?_
  refine x_lconst (pc := 1) C (v := (0 : Int64)) dJ9_abs_067f4_1 rfl ?_
  obtain ⟨x_1, ex_1, h⟩ := of_lt h
  have kd_1 : X p l e (rmz 0 0) s m args below meth c 0 0 (RQ G L b S below args s (some (.long rf)) True) 2 G L b S 12 [] [.long x_1] := by
    exact x_lreturn (pc := 12) C dJ9_abs_067f4_12 h rfl
  refine x_lcmp_ge (pc := 2) C 11 dJ9_abs_067f4_2 dJ9_abs_067f4_3 rfl (fun c_1 => ?_) (fun c_1 => ?_)
  · refine x_lload_n (pc := 11) C 0 dJ9_abs_067f4_11 rfl ?_
    refine x_sub [] rfl ?_
    rw [show x_1 = p0 from (ex_1.trans (if_neg c_1))] at kd_1
    exact kd_1
  · refine x_lload_n (pc := 6) C 0 dJ9_abs_067f4_6 rfl ?_
    refine x_lneg (pc := 7) C dJ9_abs_067f4_7 ?_
    refine x_goto (pc := 8) C 12 dJ9_abs_067f4_8 rfl ?_
    refine x_sub [] rfl ?_
    rw [show x_1 = (-p0) from (ex_1.trans (if_pos c_1))] at kd_1
    exact kd_1
set_option maxRecDepth 100000 in
set_option maxHeartbeats 4000000 in
theorem c_J9_floorDiv_7cf53 {l : Launch} {G : zz_G} {L : Ly} {b : Nat} (p0 : Int32) (p1 : Int32) (S : Sg) (rf : Int32) (h : f_J9_floorDiv_7cf53 p0 p1 = some rf) : Met l yJ9_floorDiv_7cf53 (Cond.code yJ9_floorDiv_7cf53 cJ9_floorDiv_7cf53 3 (some .int) :: zz_all) (rmz 0 0) (PC G L b S [.int p0, .int p1]) (QC G L b S (some (.int rf)) True) 0 0 (fun q => b ≤ q) := by
  refine x_metF [.int p0, .int p1] (by decide +kernel) (Nat.le_of_ble_eq_true rfl) fun p e s m args below meth c C => ?_
  unfold f_J9_floorDiv_7cf53 at h
  refine x_iload_n (pc := 0) C 0 dJ9_floorDiv_7cf53_0 rfl ?_
  refine x_iload_n (pc := 1) C 1 dJ9_floorDiv_7cf53_1 rfl ?_
  obtain ⟨g_1, h⟩ := of_gd h
  refine x_idiv (pc := 2) C dJ9_floorDiv_7cf53_2 g_1 ?_
  obtain ⟨v2_1, ev2_1, h⟩ := of_lt h
  refine x_istore_n (pc := 3) C 2 [(2, .int v2_1), (0, .int p0), (1, .int p1)] dJ9_floorDiv_7cf53_3 rfl (Nat.le_of_ble_eq_true rfl) ev2_1 rfl ?_
  refine x_iload_n (pc := 4) C 1 dJ9_floorDiv_7cf53_4 rfl ?_
  refine x_iload_n (pc := 5) C 2 dJ9_floorDiv_7cf53_5 rfl ?_
  refine x_ixor (pc := 6) C dJ9_floorDiv_7cf53_6 ?_
  refine x_if_ge (pc := 7) C 21 dJ9_floorDiv_7cf53_7 rfl (fun c_1 => ?_) (fun c_1 => ?_)
  · replace h := of_ifn c_1 h
    refine x_iload_n (pc := 21) C 0 dJ9_floorDiv_7cf53_21 rfl ?_
    exact x_ireturn (pc := 22) C dJ9_floorDiv_7cf53_22 (of_s1 h) rfl
  · replace h := of_ifp c_1 h
    refine x_iload_n (pc := 10) C 0 dJ9_floorDiv_7cf53_10 rfl ?_
    refine x_iload_n (pc := 11) C 2 dJ9_floorDiv_7cf53_11 rfl ?_
    refine x_imul (pc := 12) C dJ9_floorDiv_7cf53_12 ?_
    refine x_iload_n (pc := 13) C 1 dJ9_floorDiv_7cf53_13 rfl ?_
    refine x_icmp_eq (pc := 14) C 21 dJ9_floorDiv_7cf53_14 rfl (fun c_2 => ?_) (fun c_2 => ?_)
    · replace h := of_ifp c_2 h
      refine x_iload_n (pc := 21) C 0 dJ9_floorDiv_7cf53_21 rfl ?_
      exact x_ireturn (pc := 22) C dJ9_floorDiv_7cf53_22 (of_s1 h) rfl
    · replace h := of_ifn c_2 h
      refine x_iload_n (pc := 17) C 0 dJ9_floorDiv_7cf53_17 rfl ?_
      refine x_iconst (pc := 18) C (v := (1 : Int32)) dJ9_floorDiv_7cf53_18 rfl ?_
      refine x_isub (pc := 19) C dJ9_floorDiv_7cf53_19 ?_
      exact x_ireturn (pc := 20) C dJ9_floorDiv_7cf53_20 (of_s1 h) rfl
set_option maxRecDepth 100000 in
set_option maxHeartbeats 4000000 in
theorem c_J9_max_7cf53 {l : Launch} {G : zz_G} {L : Ly} {b : Nat} (p0 : Int32) (p1 : Int32) (S : Sg) : Met l yJ9_max_7cf53 (Cond.code yJ9_max_7cf53 cJ9_max_7cf53 2 (some .int) :: zz_all) (rmz 0 0) (PC G L b S [.int p0, .int p1]) (QC G L b S (some (.int (f_J9_max_7cf53 p0 p1))) True) 0 0 (fun q => b ≤ q) := by
  refine x_metF [.int p0, .int p1] (by decide +kernel) (Nat.le_of_ble_eq_true rfl) fun p e s m args below meth c C => ?_
  generalize h : f_J9_max_7cf53 p0 p1 = rf
  unfold f_J9_max_7cf53 at h
  refine x_iload_n (pc := 0) C 0 dJ9_max_7cf53_0 rfl ?_
  refine x_iload_n (pc := 1) C 1 dJ9_max_7cf53_1 rfl ?_
  obtain ⟨x_1, ex_1, h⟩ := of_lt h
  have kd_1 : X p l e (rmz 0 0) s m args below meth c 0 0 (RQ G L b S below args s (some (.int rf)) True) 2 G L b S 10 [] [.int x_1] := by
    exact x_ireturn (pc := 10) C dJ9_max_7cf53_10 h rfl
  refine x_icmp_lt (pc := 2) C 9 dJ9_max_7cf53_2 rfl (fun c_1 => ?_) (fun c_1 => ?_)
  · refine x_iload_n (pc := 9) C 1 dJ9_max_7cf53_9 rfl ?_
    refine x_sub [] rfl ?_
    rw [show x_1 = p1 from (ex_1.trans (if_pos c_1))] at kd_1
    exact kd_1
  · refine x_iload_n (pc := 5) C 0 dJ9_max_7cf53_5 rfl ?_
    refine x_goto (pc := 6) C 10 dJ9_max_7cf53_6 rfl ?_
    refine x_sub [] rfl ?_
    rw [show x_1 = p0 from (ex_1.trans (if_neg c_1))] at kd_1
    exact kd_1
set_option maxRecDepth 100000 in
set_option maxHeartbeats 4000000 in
theorem c_J9_min_7cf53 {l : Launch} {G : zz_G} {L : Ly} {b : Nat} (p0 : Int32) (p1 : Int32) (S : Sg) : Met l yJ9_min_7cf53 (Cond.code yJ9_min_7cf53 cJ9_min_7cf53 2 (some .int) :: zz_all) (rmz 0 0) (PC G L b S [.int p0, .int p1]) (QC G L b S (some (.int (f_J9_min_7cf53 p0 p1))) True) 0 0 (fun q => b ≤ q) := by
  refine x_metF [.int p0, .int p1] (by decide +kernel) (Nat.le_of_ble_eq_true rfl) fun p e s m args below meth c C => ?_
  generalize h : f_J9_min_7cf53 p0 p1 = rf
  unfold f_J9_min_7cf53 at h
  refine x_iload_n (pc := 0) C 0 dJ9_min_7cf53_0 rfl ?_
  refine x_iload_n (pc := 1) C 1 dJ9_min_7cf53_1 rfl ?_
  obtain ⟨x_1, ex_1, h⟩ := of_lt h
  have kd_1 : X p l e (rmz 0 0) s m args below meth c 0 0 (RQ G L b S below args s (some (.int rf)) True) 2 G L b S 10 [] [.int x_1] := by
    exact x_ireturn (pc := 10) C dJ9_min_7cf53_10 h rfl
  refine x_icmp_gt (pc := 2) C 9 dJ9_min_7cf53_2 rfl (fun c_1 => ?_) (fun c_1 => ?_)
  · refine x_iload_n (pc := 9) C 1 dJ9_min_7cf53_9 rfl ?_
    refine x_sub [] rfl ?_
    rw [show x_1 = p1 from (ex_1.trans (if_pos c_1))] at kd_1
    exact kd_1
  · refine x_iload_n (pc := 5) C 0 dJ9_min_7cf53_5 rfl ?_
    refine x_goto (pc := 6) C 10 dJ9_min_7cf53_6 rfl ?_
    refine x_sub [] rfl ?_
    rw [show x_1 = p0 from (ex_1.trans (if_neg c_1))] at kd_1
    exact kd_1
set_option maxRecDepth 100000 in
set_option maxHeartbeats 4000000 in
theorem c_X6_isWithin {l : Launch} {G : zz_G} {L : Ly} {b : Nat} (p0 : Int32) (p1 : Int32) (S : Sg) : Met l yX6_isWithin (Cond.code yX6_isWithin cX6_isWithin 2 (some .boolean) :: zz_all) (rmz 0 0) (PC G L b S [.int p0, .int p1]) (QC G L b S (some (.int (f_X6_isWithin p0 p1))) (f_X6_isWithin p0 p1 = 0 ∨ f_X6_isWithin p0 p1 = 1)) 0 0 (fun q => b ≤ q) := by
  refine x_met [.int p0, .int p1] (by decide +kernel) (Nat.le_of_ble_eq_true rfl) fun p e s m args below meth c C => ?_
  generalize h : f_X6_isWithin p0 p1 = rf
  unfold f_X6_isWithin at h
  refine x_iload_n (pc := 0) C 0 dX6_isWithin_0 rfl ?_
  obtain ⟨x_1, ex_1, h⟩ := of_lt h
  have kd_1 : X p l e (rmz 0 0) s m args below meth c 0 0 (RQ G L b S below args s (some (.int rf)) (rf = 0 ∨ rf = 1)) 2 G L b S 14 [] [.int x_1] := by
    exact x_zreturn (pc := 14) C (ex_1 ▸ (if01 (by decide) (if01 (by decide) (by decide)))) dX6_isWithin_14 h rfl
  refine x_if_lt (pc := 1) C 13 dX6_isWithin_1 rfl (fun c_1 => ?_) (fun c_1 => ?_)
  · refine x_iconst (pc := 13) C (v := (0 : Int32)) dX6_isWithin_13 rfl ?_
    refine x_sub [] rfl ?_
    rw [show x_1 = (0 : Int32) from (ex_1.trans (if_pos c_1))] at kd_1
    exact kd_1
  · refine x_iload_n (pc := 4) C 0 dX6_isWithin_4 rfl ?_
    refine x_iload_n (pc := 5) C 1 dX6_isWithin_5 rfl ?_
    refine x_icmp_ge (pc := 6) C 13 dX6_isWithin_6 rfl (fun c_2 => ?_) (fun c_2 => ?_)
    · refine x_iconst (pc := 13) C (v := (0 : Int32)) dX6_isWithin_13 rfl ?_
      refine x_sub [] rfl ?_
      rw [show x_1 = (0 : Int32) from ((ex_1.trans (if_neg c_1)).trans (if_neg c_2))] at kd_1
      exact kd_1
    · refine x_iconst (pc := 9) C (v := (1 : Int32)) dX6_isWithin_9 rfl ?_
      refine x_goto (pc := 10) C 14 dX6_isWithin_10 rfl ?_
      refine x_sub [] rfl ?_
      rw [show x_1 = (1 : Int32) from ((ex_1.trans (if_neg c_1)).trans (if_pos c_2))] at kd_1
      exact kd_1
set_option maxRecDepth 100000 in
set_option maxHeartbeats 4000000 in
theorem c_X5_has {l : Launch} {G : zz_G} {L : Ly} {b : Nat} (o : Nat) (p1 : Int32) (hO : isW L o) (S : Sg) : Met l yX5_has (Cond.code yX5_has cX5_has 2 (some .boolean) :: zz_all) (rmz 1 21) (PC G L b S [.ref (b + o), .int p1]) (QC G L b S (some (.int (f_X5_has o p1 S))) (f_X5_has o p1 S = 0 ∨ f_X5_has o p1 S = 1)) 0 0 (fun q => b ≤ q) := by
  refine x_met [.ref (b + o), .int p1] (by decide +kernel) (Nat.le_of_ble_eq_true rfl) fun p e s m args below meth c C => ?_
  generalize h : f_X5_has o p1 S = rf
  unfold f_X5_has at h
  refine x_iload_n (pc := 0) C 1 dX5_has_0 rfl ?_
  refine x_aload_n (pc := 1) C 0 dX5_has_1 rfl ?_
  refine x_geti (pc := 2) C (k := 4) hO.1 rfl rfl wd_63 dX5_has_2 ⟨Nat.le_of_ble_eq_true rfl, rfl⟩ ?_
  refine x_callSN1 (pc := 5) C [.int p1, .int (S.1 o 4)] [] (c_X6_isWithin (b := b) p1 (S.1 o 4) S) cn_X5_72 vs_X6_isWithin ⟨rfl, rfl, Nat.le_of_ble_eq_true rfl, Nat.le_of_ble_eq_true rfl⟩ ⟨Nat.le_refl _, Nat.le_refl _⟩ rfl ⟨rfl, Nat.le_of_ble_eq_true rfl⟩ dX5_has_5 (fun hx_1 => ?_)
  obtain ⟨x_1, ex_1, h⟩ := of_lt h
  have kd_1 : X p l e (rmz 1 21) s m args below meth c 0 0 (RQ G L b S below args s (some (.int rf)) (rf = 0 ∨ rf = 1)) 2 G L b S 25 [] [.int x_1] := by
    exact x_zreturn (pc := 25) C (ex_1 ▸ (if01 (by decide) (if01 (by decide) (by decide)))) dX5_has_25 h rfl
  refine x_if_eq (pc := 8) C 24 dX5_has_8 rfl (fun c_1 => ?_) (fun c_1 => ?_)
  · refine x_iconst (pc := 24) C (v := (0 : Int32)) dX5_has_24 rfl ?_
    refine x_sub [] rfl ?_
    rw [show x_1 = (0 : Int32) from (ex_1.trans (if_pos c_1))] at kd_1
    exact kd_1
  · refine x_iload_n (pc := 11) C 1 dX5_has_11 rfl ?_
    refine x_bipush (pc := 12) C (v := (10 : Int32)) dX5_has_12 rfl ?_
    refine x_callSN1 (pc := 14) C [.int p1, .int (10 : Int32)] [] (c_X6_isWithin (b := b) p1 (10 : Int32) S) cn_X5_72 vs_X6_isWithin ⟨rfl, rfl, Nat.le_of_ble_eq_true rfl, Nat.le_of_ble_eq_true rfl⟩ ⟨Nat.le_refl _, Nat.le_refl _⟩ rfl ⟨rfl, Nat.le_of_ble_eq_true rfl⟩ dX5_has_14 (fun hx_2 => ?_)
    refine x_if_eq (pc := 17) C 24 dX5_has_17 rfl (fun c_2 => ?_) (fun c_2 => ?_)
    · refine x_iconst (pc := 24) C (v := (0 : Int32)) dX5_has_24 rfl ?_
      refine x_sub [] rfl ?_
      rw [show x_1 = (0 : Int32) from ((ex_1.trans (if_neg c_1)).trans (if_pos c_2))] at kd_1
      exact kd_1
    · refine x_iconst (pc := 20) C (v := (1 : Int32)) dX5_has_20 rfl ?_
      refine x_goto (pc := 21) C 25 dX5_has_21 rfl ?_
      refine x_sub [] rfl ?_
      rw [show x_1 = (1 : Int32) from ((ex_1.trans (if_neg c_1)).trans (if_neg c_2))] at kd_1
      exact kd_1
set_option maxRecDepth 100000 in
set_option maxHeartbeats 4000000 in
theorem c_X5_takeBounds {l : Launch} {G : zz_G} {L : Ly} {b : Nat} (o : Nat) (p1 : Int32) (p2 : Int32) (p3 : Int32) (hO : isW L o) (S : Sg) (rf : Int32) (Sf : Sg) (h : f_X5_takeBounds o p1 p2 p3 S = some (rf, Sf)) : Met l yX5_takeBounds (Cond.code yX5_takeBounds cX5_takeBounds 4 (some .boolean) :: zz_all) (rmz 2 42) (PC G L b S [.ref (b + o), .int p1, .int p2, .int p3]) (QC G L b Sf (some (.int rf)) (rf = 0 ∨ rf = 1)) 0 0 (fun q => b ≤ q) := by
  refine x_met [.ref (b + o), .int p1, .int p2, .int p3] (by decide +kernel) (Nat.le_of_ble_eq_true rfl) fun p e s m args below meth c C => ?_
  unfold f_X5_takeBounds at h
  refine x_aload_n (pc := 0) C 0 dX5_takeBounds_0 rfl ?_
  refine x_iload_n (pc := 1) C 1 dX5_takeBounds_1 rfl ?_
  refine x_callV1 (pc := 2) C (o := o) [.int p1] [] (c_X5_has (b := b) o p1 hO S) cw_X5_76 vi_X5_has ⟨rfl, rfl, Nat.le_of_ble_eq_true rfl, Nat.le_of_ble_eq_true rfl⟩ ⟨Nat.le_refl _, Nat.le_refl _⟩ hO.1 ⟨rfl, rfl, rfl⟩ rfl ⟨rfl, Nat.le_of_ble_eq_true rfl⟩ dX5_takeBounds_2 (fun hx_1 => ?_)
  refine x_if_eq (pc := 5) C 28 dX5_takeBounds_5 rfl (fun c_1 => ?_) (fun c_1 => ?_)
  · replace h := of_ifp c_1 h
    refine x_iconst (pc := 28) C (v := (0 : Int32)) dX5_takeBounds_28 rfl ?_
    exact x_zreturn (pc := 29) C (by decide) dX5_takeBounds_29 (of_sp h).1 (of_sp h).2
  · replace h := of_ifn c_1 h
    refine x_iload_n (pc := 8) C 2 dX5_takeBounds_8 rfl ?_
    refine x_aload_n (pc := 9) C 0 dX5_takeBounds_9 rfl ?_
    refine x_getr (pc := 10) C (k := 1) (o + 2) hO.1 rfl rfl wd_60 dX5_takeBounds_10 (Nat.le_of_ble_eq_true rfl) rfl ?_
    refine x_iload_n (pc := 13) C 1 dX5_takeBounds_13 rfl ?_
    obtain ⟨g_1, h⟩ := of_gd h
    refine x_iaload (pc := 14) C hO.2.2.1 g_1 dX5_takeBounds_14 ?_
    refine x_icmp_gt (pc := 15) C 28 dX5_takeBounds_15 rfl (fun c_2 => ?_) (fun c_2 => ?_)
    · replace h := of_ifp c_2 h
      refine x_iconst (pc := 28) C (v := (0 : Int32)) dX5_takeBounds_28 rfl ?_
      exact x_zreturn (pc := 29) C (by decide) dX5_takeBounds_29 (of_sp h).1 (of_sp h).2
    · replace h := of_ifn c_2 h
      refine x_iload_n (pc := 18) C 3 dX5_takeBounds_18 rfl ?_
      refine x_aload_n (pc := 19) C 0 dX5_takeBounds_19 rfl ?_
      refine x_getr (pc := 20) C (k := 1) (o + 2) hO.1 rfl rfl wd_60 dX5_takeBounds_20 (Nat.le_of_ble_eq_true rfl) rfl ?_
      refine x_iload_n (pc := 23) C 1 dX5_takeBounds_23 rfl ?_
      refine x_iaload (pc := 24) C hO.2.2.1 g_1 dX5_takeBounds_24 ?_
      refine x_icmp_ge (pc := 25) C 30 dX5_takeBounds_25 rfl (fun c_3 => ?_) (fun c_3 => ?_)
      · replace h := of_ifn c_3 h
        refine x_aload_n (pc := 30) C 0 dX5_takeBounds_30 rfl ?_
        refine x_getr (pc := 31) C (k := 2) (o + 3) hO.1 rfl rfl wd_61 dX5_takeBounds_31 (Nat.le_of_ble_eq_true rfl) rfl ?_
        refine x_iload_n (pc := 34) C 1 dX5_takeBounds_34 rfl ?_
        refine x_iload_n (pc := 35) C 2 dX5_takeBounds_35 rfl ?_
        obtain ⟨S_1, eS_1, h⟩ := of_lt h
        refine x_iastore (pc := 36) C hO.2.2.2.1 g_1 eS_1 dX5_takeBounds_36 ?_
        refine x_aload_n (pc := 37) C 0 dX5_takeBounds_37 rfl ?_
        refine x_getr (pc := 38) C (k := 3) (o + 4) hO.1 rfl rfl wd_62 dX5_takeBounds_38 (Nat.le_of_ble_eq_true rfl) rfl ?_
        refine x_iload_n (pc := 41) C 1 dX5_takeBounds_41 rfl ?_
        refine x_iload_n (pc := 42) C 3 dX5_takeBounds_42 rfl ?_
        obtain ⟨S_2, eS_2, h⟩ := of_lt h
        refine x_iastore (pc := 43) C hO.2.2.2.2.1 g_1 eS_2 dX5_takeBounds_43 ?_
        refine x_iconst (pc := 44) C (v := (1 : Int32)) dX5_takeBounds_44 rfl ?_
        exact x_zreturn (pc := 45) C (by decide) dX5_takeBounds_45 (of_sp h).1 (of_sp h).2
      · replace h := of_ifp c_3 h
        refine x_iconst (pc := 28) C (v := (0 : Int32)) dX5_takeBounds_28 rfl ?_
        exact x_zreturn (pc := 29) C (by decide) dX5_takeBounds_29 (of_sp h).1 (of_sp h).2
set_option maxRecDepth 100000 in
set_option maxHeartbeats 4000000 in
theorem c_X6_refuse {l : Launch} {G : zz_G} {L : Ly} {b : Nat} (p1 : Int32) (hO : isGu L) (S : Sg) (rf : Int32) (Sf : Sg) (h : f_X6_refuse p1 S = some (rf, Sf)) : Met l yX6_refuse (Cond.code yX6_refuse cX6_refuse 3 (some .int) :: zz_all) (rmz 1 21) (PC G L b S [.ref (b + 0), .int p1]) (QC G L b Sf (some (.int rf)) True) 0 0 (fun q => b ≤ q) := by
  refine x_met [.ref (b + 0), .int p1] (by decide +kernel) (Nat.le_of_ble_eq_true rfl) fun p e s m args below meth c C => ?_
  unfold f_X6_refuse at h
  refine x_iconst (pc := 0) C (v := (-1 : Int32)) dX6_refuse_0 rfl ?_
  refine x_iload_n (pc := 1) C 1 dX6_refuse_1 rfl ?_
  refine x_isub (pc := 2) C dX6_refuse_2 ?_
  obtain ⟨v2_1, ev2_1, h⟩ := of_lt h
  refine x_istore_n (pc := 3) C 2 [(2, .int v2_1), (0, .ref (b + 0)), (1, .int p1)] dX6_refuse_3 rfl (Nat.le_of_ble_eq_true rfl) ev2_1 rfl ?_
  refine x_iload_n (pc := 4) C 0 dX6_refuse_4 rfl ?_
  refine x_bipush (pc := 5) C (v := (6 : Int32)) dX6_refuse_5 rfl ?_
  refine x_callS1 (pc := 7) C [.int v2_1, .int (6 : Int32)] [] (c_X6_isWithin (b := b) v2_1 (6 : Int32) S) cw_X6_69 vs_X6_isWithin ⟨rfl, rfl, Nat.le_of_ble_eq_true rfl, Nat.le_of_ble_eq_true rfl⟩ ⟨Nat.le_refl _, Nat.le_refl _⟩ rfl ⟨rfl, Nat.le_of_ble_eq_true rfl⟩ dX6_refuse_7 (fun hx_1 => ?_)
  refine x_if_eq (pc := 10) C 23 dX6_refuse_10 rfl (fun c_1 => ?_) (fun c_1 => ?_)
  · replace h := of_ifp c_1 h
    refine x_iload_n (pc := 23) C 2 dX6_refuse_23 rfl ?_
    exact x_ireturn (pc := 24) C dX6_refuse_24 (of_sp h).1 (of_sp h).2
  · replace h := of_ifn c_1 h
    refine x_aload_n (pc := 13) C 1 dX6_refuse_13 rfl ?_
    refine x_getr (pc := 14) C (k := 8) 139 hO.1 rfl rfl wd_157 dX6_refuse_14 (Nat.le_of_ble_eq_true rfl) rfl ?_
    refine x_iload_n (pc := 17) C 0 dX6_refuse_17 rfl ?_
    refine x_dup2 (pc := 18) C dX6_refuse_18 rfl rfl ?_
    obtain ⟨g_1, h⟩ := of_gd h
    refine x_iaload (pc := 19) C hO.2.2.2.2.2.2.2.2 g_1 dX6_refuse_19 ?_
    refine x_iconst (pc := 20) C (v := (1 : Int32)) dX6_refuse_20 rfl ?_
    refine x_iadd (pc := 21) C dX6_refuse_21 ?_
    obtain ⟨S_1, eS_1, h⟩ := of_lt h
    refine x_iastore (pc := 22) C hO.2.2.2.2.2.2.2.2 g_1 eS_1 dX6_refuse_22 ?_
    refine x_iload_n (pc := 23) C 2 dX6_refuse_23 rfl ?_
    exact x_ireturn (pc := 24) C dX6_refuse_24 (of_sp h).1 (of_sp h).2
set_option maxRecDepth 100000 in
set_option maxHeartbeats 4000000 in
theorem c_X6_bounds {l : Launch} {G : zz_G} {L : Ly} {b : Nat} (p1 : Int32) (p2 : Int32) (p3 : Int32) (hO : isGu L) (S : Sg) (rf : Int32) (Sf : Sg) (h : f_X6_bounds p1 p2 p3 S = some (rf, Sf)) : Met l yX6_bounds (Cond.code yX6_bounds cX6_bounds 4 (some .int) :: zz_all) (rmz 3 65) (PC G L b S [.ref (b + 0), .int p1, .int p2, .int p3]) (QC G L b Sf (some (.int rf)) True) 0 0 (fun q => b ≤ q) := by
  refine x_met [.ref (b + 0), .int p1, .int p2, .int p3] (by decide +kernel) (Nat.le_of_ble_eq_true rfl) fun p e s m args below meth c C => ?_
  unfold f_X6_bounds at h
  refine x_aload_n (pc := 0) C 0 dX6_bounds_0 rfl ?_
  refine x_getr (pc := 1) C (k := 0) 1 hO.1 rfl rfl wd_149 dX6_bounds_1 (Nat.le_of_ble_eq_true rfl) rfl ?_
  refine x_iload_n (pc := 4) C 1 dX6_bounds_4 rfl ?_
  refine x_callV1 (pc := 5) C (o := 1) [.int p1] [] (c_X5_has (b := b) 1 p1 hO.2.1 S) cw_X6_91 vi_X5_has ⟨rfl, rfl, Nat.le_of_ble_eq_true rfl, Nat.le_of_ble_eq_true rfl⟩ ⟨Nat.le_refl _, Nat.le_refl _⟩ hO.2.1.1 ⟨rfl, rfl, rfl⟩ rfl ⟨rfl, Nat.le_of_ble_eq_true rfl⟩ dX6_bounds_5 (fun hx_1 => ?_)
  refine x_if_ne (pc := 8) C 17 dX6_bounds_8 rfl (fun c_1 => ?_) (fun c_1 => ?_)
  · replace h := of_ifn c_1 h
    refine x_iload_n (pc := 17) C 2 dX6_bounds_17 rfl ?_
    refine x_if_lt (pc := 18) C 25 dX6_bounds_18 rfl (fun c_2 => ?_) (fun c_2 => ?_)
    · replace h := of_ifp c_2 h
      refine x_aload_n (pc := 25) C 0 dX6_bounds_25 rfl ?_
      refine x_bipush (pc := 26) C (v := (-4 : Int32)) dX6_bounds_26 rfl ?_
      obtain ⟨⟨r_1, S_1⟩, hc_1, h⟩ := of_bd h
      replace h := of_u2 h
      refine x_callV1 (pc := 28) C (o := 0) [.int (-4 : Int32)] [] (c_X6_refuse (b := b) (-4 : Int32) hO S _ _ hc_1) cw_X6_73 vi_X6_refuse ⟨rfl, rfl, Nat.le_of_ble_eq_true rfl, Nat.le_of_ble_eq_true rfl⟩ ⟨Nat.le_refl _, Nat.le_refl _⟩ hO.1 ⟨rfl, rfl, rfl⟩ rfl ⟨rfl, Nat.le_of_ble_eq_true rfl⟩ dX6_bounds_28 (fun hx_2 => ?_)
      exact x_ireturn (pc := 31) C dX6_bounds_31 (of_sp h).1 (of_sp h).2
    · replace h := of_ifn c_2 h
      refine x_iload_n (pc := 21) C 3 dX6_bounds_21 rfl ?_
      refine x_if_ge (pc := 22) C 32 dX6_bounds_22 rfl (fun c_3 => ?_) (fun c_3 => ?_)
      · replace h := of_ifn c_3 h
        refine x_iload_n (pc := 32) C 2 dX6_bounds_32 rfl ?_
        refine x_bipush (pc := 33) C (v := (99 : Int32)) dX6_bounds_33 rfl ?_
        refine x_icmp_gt (pc := 35) C 44 dX6_bounds_35 rfl (fun c_4 => ?_) (fun c_4 => ?_)
        · replace h := of_ifp c_4 h
          refine x_aload_n (pc := 44) C 0 dX6_bounds_44 rfl ?_
          refine x_bipush (pc := 45) C (v := (-6 : Int32)) dX6_bounds_45 rfl ?_
          obtain ⟨⟨r_2, S_2⟩, hc_2, h⟩ := of_bd h
          replace h := of_u2 h
          refine x_callV1 (pc := 47) C (o := 0) [.int (-6 : Int32)] [] (c_X6_refuse (b := b) (-6 : Int32) hO S _ _ hc_2) cw_X6_73 vi_X6_refuse ⟨rfl, rfl, Nat.le_of_ble_eq_true rfl, Nat.le_of_ble_eq_true rfl⟩ ⟨Nat.le_refl _, Nat.le_refl _⟩ hO.1 ⟨rfl, rfl, rfl⟩ rfl ⟨rfl, Nat.le_of_ble_eq_true rfl⟩ dX6_bounds_47 (fun hx_3 => ?_)
          exact x_ireturn (pc := 50) C dX6_bounds_50 (of_sp h).1 (of_sp h).2
        · replace h := of_ifn c_4 h
          refine x_iload_n (pc := 38) C 3 dX6_bounds_38 rfl ?_
          refine x_bipush (pc := 39) C (v := (99 : Int32)) dX6_bounds_39 rfl ?_
          refine x_icmp_le (pc := 41) C 51 dX6_bounds_41 rfl (fun c_5 => ?_) (fun c_5 => ?_)
          · replace h := of_ifn c_5 h
            refine x_aload_n (pc := 51) C 0 dX6_bounds_51 rfl ?_
            refine x_getr (pc := 52) C (k := 0) 1 hO.1 rfl rfl wd_149 dX6_bounds_52 (Nat.le_of_ble_eq_true rfl) rfl ?_
            refine x_iload_n (pc := 55) C 1 dX6_bounds_55 rfl ?_
            refine x_iload_n (pc := 56) C 2 dX6_bounds_56 rfl ?_
            refine x_iload_n (pc := 57) C 3 dX6_bounds_57 rfl ?_
            obtain ⟨⟨r_3, S_3⟩, hc_3, h⟩ := of_bd h
            replace h := of_u2 h
            refine x_callV1 (pc := 58) C (o := 1) [.int p1, .int p2, .int p3] [] (c_X5_takeBounds (b := b) 1 p1 p2 p3 hO.2.1 S _ _ hc_3) cw_X6_129 vi_X5_takeBounds ⟨rfl, rfl, Nat.le_of_ble_eq_true rfl, Nat.le_of_ble_eq_true rfl⟩ ⟨Nat.le_refl _, Nat.le_refl _⟩ hO.2.1.1 ⟨rfl, rfl, rfl⟩ rfl ⟨rfl, Nat.le_of_ble_eq_true rfl⟩ dX6_bounds_58 (fun hx_4 => ?_)
            refine x_if_eq (pc := 61) C 68 dX6_bounds_61 rfl (fun c_6 => ?_) (fun c_6 => ?_)
            · replace h := of_ifp c_6 h
              refine x_aload_n (pc := 68) C 0 dX6_bounds_68 rfl ?_
              refine x_bipush (pc := 69) C (v := (-3 : Int32)) dX6_bounds_69 rfl ?_
              obtain ⟨⟨r_4, S_4⟩, hc_4, h⟩ := of_bd h
              replace h := of_u2 h
              refine x_callV1 (pc := 71) C (o := 0) [.int (-3 : Int32)] [] (c_X6_refuse (b := b) (-3 : Int32) hO S_3 _ _ hc_4) cw_X6_73 vi_X6_refuse ⟨rfl, rfl, Nat.le_of_ble_eq_true rfl, Nat.le_of_ble_eq_true rfl⟩ ⟨Nat.le_refl _, Nat.le_refl _⟩ hO.1 ⟨rfl, rfl, rfl⟩ rfl ⟨rfl, Nat.le_of_ble_eq_true rfl⟩ dX6_bounds_71 (fun hx_5 => ?_)
              exact x_ireturn (pc := 74) C dX6_bounds_74 (of_sp h).1 (of_sp h).2
            · replace h := of_ifn c_6 h
              refine x_iconst (pc := 64) C (v := (1 : Int32)) dX6_bounds_64 rfl ?_
              refine x_goto (pc := 65) C 74 dX6_bounds_65 rfl ?_
              exact x_ireturn (pc := 74) C dX6_bounds_74 (of_sp h).1 (of_sp h).2
          · replace h := of_ifp c_5 h
            refine x_aload_n (pc := 44) C 0 dX6_bounds_44 rfl ?_
            refine x_bipush (pc := 45) C (v := (-6 : Int32)) dX6_bounds_45 rfl ?_
            obtain ⟨⟨r_5, S_5⟩, hc_5, h⟩ := of_bd h
            replace h := of_u2 h
            refine x_callV1 (pc := 47) C (o := 0) [.int (-6 : Int32)] [] (c_X6_refuse (b := b) (-6 : Int32) hO S _ _ hc_5) cw_X6_73 vi_X6_refuse ⟨rfl, rfl, Nat.le_of_ble_eq_true rfl, Nat.le_of_ble_eq_true rfl⟩ ⟨Nat.le_refl _, Nat.le_refl _⟩ hO.1 ⟨rfl, rfl, rfl⟩ rfl ⟨rfl, Nat.le_of_ble_eq_true rfl⟩ dX6_bounds_47 (fun hx_6 => ?_)
            exact x_ireturn (pc := 50) C dX6_bounds_50 (of_sp h).1 (of_sp h).2
      · replace h := of_ifp c_3 h
        refine x_aload_n (pc := 25) C 0 dX6_bounds_25 rfl ?_
        refine x_bipush (pc := 26) C (v := (-4 : Int32)) dX6_bounds_26 rfl ?_
        obtain ⟨⟨r_6, S_6⟩, hc_6, h⟩ := of_bd h
        replace h := of_u2 h
        refine x_callV1 (pc := 28) C (o := 0) [.int (-4 : Int32)] [] (c_X6_refuse (b := b) (-4 : Int32) hO S _ _ hc_6) cw_X6_73 vi_X6_refuse ⟨rfl, rfl, Nat.le_of_ble_eq_true rfl, Nat.le_of_ble_eq_true rfl⟩ ⟨Nat.le_refl _, Nat.le_refl _⟩ hO.1 ⟨rfl, rfl, rfl⟩ rfl ⟨rfl, Nat.le_of_ble_eq_true rfl⟩ dX6_bounds_28 (fun hx_7 => ?_)
        exact x_ireturn (pc := 31) C dX6_bounds_31 (of_sp h).1 (of_sp h).2
  · replace h := of_ifp c_1 h
    refine x_aload_n (pc := 11) C 0 dX6_bounds_11 rfl ?_
    refine x_iconst (pc := 12) C (v := (-1 : Int32)) dX6_bounds_12 rfl ?_
    obtain ⟨⟨r_7, S_7⟩, hc_7, h⟩ := of_bd h
    replace h := of_u2 h
    refine x_callV1 (pc := 13) C (o := 0) [.int (-1 : Int32)] [] (c_X6_refuse (b := b) (-1 : Int32) hO S _ _ hc_7) cw_X6_73 vi_X6_refuse ⟨rfl, rfl, Nat.le_of_ble_eq_true rfl, Nat.le_of_ble_eq_true rfl⟩ ⟨Nat.le_refl _, Nat.le_refl _⟩ hO.1 ⟨rfl, rfl, rfl⟩ rfl ⟨rfl, Nat.le_of_ble_eq_true rfl⟩ dX6_bounds_13 (fun hx_8 => ?_)
    exact x_ireturn (pc := 16) C dX6_bounds_16 (of_sp h).1 (of_sp h).2
set_option maxRecDepth 100000 in
set_option maxHeartbeats 4000000 in
theorem c_X5_highOf {l : Launch} {G : zz_G} {L : Ly} {b : Nat} (o : Nat) (p1 : Int32) (hO : isW L o) (S : Sg) (rf : Int32) (h : f_X5_highOf o p1 S = some rf) : Met l yX5_highOf (Cond.code yX5_highOf cX5_highOf 2 (some .int) :: zz_all) (rmz 2 42) (PC G L b S [.ref (b + o), .int p1]) (QC G L b S (some (.int rf)) True) 0 0 (fun q => b ≤ q) := by
  refine x_met [.ref (b + o), .int p1] (by decide +kernel) (Nat.le_of_ble_eq_true rfl) fun p e s m args below meth c C => ?_
  unfold f_X5_highOf at h
  refine x_aload_n (pc := 0) C 0 dX5_highOf_0 rfl ?_
  refine x_iload_n (pc := 1) C 1 dX5_highOf_1 rfl ?_
  refine x_callV1 (pc := 2) C (o := o) [.int p1] [] (c_X5_has (b := b) o p1 hO S) cw_X5_76 vi_X5_has ⟨rfl, rfl, Nat.le_of_ble_eq_true rfl, Nat.le_of_ble_eq_true rfl⟩ ⟨Nat.le_refl _, Nat.le_refl _⟩ hO.1 ⟨rfl, rfl, rfl⟩ rfl ⟨rfl, Nat.le_of_ble_eq_true rfl⟩ dX5_highOf_2 (fun hx_1 => ?_)
  refine x_if_eq (pc := 5) C 17 dX5_highOf_5 rfl (fun c_1 => ?_) (fun c_1 => ?_)
  · replace h := of_ifp c_1 h
    refine x_iconst (pc := 17) C (v := (0 : Int32)) dX5_highOf_17 rfl ?_
    exact x_ireturn (pc := 18) C dX5_highOf_18 (of_s1 h) rfl
  · replace h := of_ifn c_1 h
    refine x_aload_n (pc := 8) C 0 dX5_highOf_8 rfl ?_
    refine x_getr (pc := 9) C (k := 3) (o + 4) hO.1 rfl rfl wd_62 dX5_highOf_9 (Nat.le_of_ble_eq_true rfl) rfl ?_
    refine x_iload_n (pc := 12) C 1 dX5_highOf_12 rfl ?_
    obtain ⟨g_1, h⟩ := of_gd h
    refine x_iaload (pc := 13) C hO.2.2.2.2.1 g_1 dX5_highOf_13 ?_
    refine x_goto (pc := 14) C 18 dX5_highOf_14 rfl ?_
    exact x_ireturn (pc := 18) C dX5_highOf_18 (of_s1 h) rfl
set_option maxRecDepth 100000 in
set_option maxHeartbeats 4000000 in
theorem c_X5_coefficient {l : Launch} {G : zz_G} {L : Ly} {b : Nat} (o : Nat) (p1 : Int32) (p2 : Int32) (hO : isW L o) (S : Sg) (rf : Int32) (h : f_X5_coefficient o p1 p2 S = some rf) : Met l yX5_coefficient (Cond.code yX5_coefficient cX5_coefficient 3 (some .int) :: zz_all) (rmz 1 21) (PC G L b S [.ref (b + o), .int p1, .int p2]) (QC G L b S (some (.int rf)) True) 0 0 (fun q => b ≤ q) := by
  refine x_met [.ref (b + o), .int p1, .int p2] (by decide +kernel) (Nat.le_of_ble_eq_true rfl) fun p e s m args below meth c C => ?_
  unfold f_X5_coefficient at h
  refine x_iload_n (pc := 0) C 1 dX5_coefficient_0 rfl ?_
  refine x_bipush (pc := 1) C (v := (10 : Int32)) dX5_coefficient_1 rfl ?_
  refine x_callSN1 (pc := 3) C [.int p1, .int (10 : Int32)] [] (c_X6_isWithin (b := b) p1 (10 : Int32) S) cn_X5_72 vs_X6_isWithin ⟨rfl, rfl, Nat.le_of_ble_eq_true rfl, Nat.le_of_ble_eq_true rfl⟩ ⟨Nat.le_refl _, Nat.le_refl _⟩ rfl ⟨rfl, Nat.le_of_ble_eq_true rfl⟩ dX5_coefficient_3 (fun hx_1 => ?_)
  refine x_if_eq (pc := 6) C 29 dX5_coefficient_6 rfl (fun c_1 => ?_) (fun c_1 => ?_)
  · replace h := of_ifp c_1 h
    refine x_iconst (pc := 29) C (v := (0 : Int32)) dX5_coefficient_29 rfl ?_
    exact x_ireturn (pc := 30) C dX5_coefficient_30 (of_s1 h) rfl
  · replace h := of_ifn c_1 h
    refine x_iload_n (pc := 9) C 2 dX5_coefficient_9 rfl ?_
    refine x_bipush (pc := 10) C (v := (10 : Int32)) dX5_coefficient_10 rfl ?_
    refine x_callSN1 (pc := 12) C [.int p2, .int (10 : Int32)] [] (c_X6_isWithin (b := b) p2 (10 : Int32) S) cn_X5_72 vs_X6_isWithin ⟨rfl, rfl, Nat.le_of_ble_eq_true rfl, Nat.le_of_ble_eq_true rfl⟩ ⟨Nat.le_refl _, Nat.le_refl _⟩ rfl ⟨rfl, Nat.le_of_ble_eq_true rfl⟩ dX5_coefficient_12 (fun hx_3 => ?_)
    refine x_if_eq (pc := 15) C 29 dX5_coefficient_15 rfl (fun c_2 => ?_) (fun c_2 => ?_)
    · replace h := of_ifp c_2 h
      refine x_iconst (pc := 29) C (v := (0 : Int32)) dX5_coefficient_29 rfl ?_
      exact x_ireturn (pc := 30) C dX5_coefficient_30 (of_s1 h) rfl
    · replace h := of_ifn c_2 h
      refine x_aload_n (pc := 18) C 0 dX5_coefficient_18 rfl ?_
      refine x_getr (pc := 19) C (k := 7) (o + 5) hO.1 rfl rfl wd_70 dX5_coefficient_19 (Nat.le_of_ble_eq_true rfl) rfl ?_
      refine x_iload_n (pc := 22) C 1 dX5_coefficient_22 rfl ?_
      obtain ⟨g_1, h⟩ := of_gd h
      refine x_aaloadI (pc := 23) C hO.2.2.2.2.2.1 g_1 dX5_coefficient_23 ?_
      refine x_iload_n (pc := 24) C 2 dX5_coefficient_24 rfl ?_
      obtain ⟨g_2, h⟩ := of_gd h
      refine x_iaload (pc := 25) C (hO.2.2.2.2.2.2.1 _ (inb_lt (i := p1) g_1)) g_2 dX5_coefficient_25 ?_
      refine x_goto (pc := 26) C 30 dX5_coefficient_26 rfl ?_
      exact x_ireturn (pc := 30) C dX5_coefficient_30 (of_s1 h) rfl
set_option maxRecDepth 100000 in
set_option maxHeartbeats 4000000 in
theorem l_X5_isFree_2 {p : Program} {l : Launch} {e : Env} {s : State} {m : MethodId} {args : Array Value} {below : List Frame} {meth : Method} {c : Code} {G : zz_G} {L : Ly} {b : Nat} (C : CX p G s m args meth c cX5_isFree yX5_isFree 3 (some .boolean)) (o : Nat) (hO : isW L o) (v1 : Int32) (S : Sg) (rf : Int32) : ∀ (n : Nat) (v2 : Int32) {z}, L_X5_isFree_2 o v1 S n v2 = some z → (∀ q, z = .inl q → q = rf) → (z = .inr () → X p l e (rmz 2 43) s m args below meth c 0 0 (RQ G L b S below args s (some (.int rf)) (rf = 0 ∨ rf = 1)) 3 G L b S 27 [] []) → X p l e (rmz 2 43) s m args below meth c 0 0 (RQ G L b S below args s (some (.int rf)) (rf = 0 ∨ rf = 1)) 3 G L b S 2 [(0, .ref (b + o)), (1, .int v1), (2, .int v2)] [] := by
  intro n
  induction n with
  | zero =>
    intro v2 z h
    exact of_none h
  | succ n ih =>
    intro v2 z h hr hx
    rw [L_X5_isFree_2] at h
    refine x_iload_n (pc := 2) C 2 dX5_isFree_2 rfl ?_
    refine x_aload_n (pc := 3) C 0 dX5_isFree_3 rfl ?_
    refine x_geti (pc := 4) C (k := 9) hO.1 rfl rfl wd_73 dX5_isFree_4 ⟨Nat.le_of_ble_eq_true rfl, rfl⟩ ?_
    refine x_icmp_ge (pc := 7) C 27 dX5_isFree_7 rfl (fun c_1 => ?_) (fun c_1 => ?_)
    · replace h := of_ifn c_1 h
      exact x_sub [] rfl (hx (of_s1 h).symm)
    · replace h := of_ifp c_1 h
      refine x_aload_n (pc := 10) C 0 dX5_isFree_10 rfl ?_
      refine x_iload_n (pc := 11) C 2 dX5_isFree_11 rfl ?_
      refine x_iload_n (pc := 12) C 1 dX5_isFree_12 rfl ?_
      obtain ⟨r_1, hc_1, h⟩ := of_bd h
      refine x_callV1 (pc := 13) C (o := o) [.int v2, .int v1] [] (c_X5_coefficient (b := b) o v2 v1 hO S _ hc_1) cw_X5_80 vi_X5_coefficient ⟨rfl, rfl, Nat.le_of_ble_eq_true rfl, Nat.le_of_ble_eq_true rfl⟩ ⟨Nat.le_refl _, Nat.le_refl _⟩ hO.1 ⟨rfl, rfl, rfl⟩ rfl ⟨rfl, Nat.le_of_ble_eq_true rfl⟩ dX5_isFree_13 (fun hx_1 => ?_)
      refine x_if_eq (pc := 16) C 21 dX5_isFree_16 rfl (fun c_2 => ?_) (fun c_2 => ?_)
      · replace h := of_ifp c_2 h
        obtain ⟨v2_1, ev2_1, h⟩ := of_lt h
        refine x_iinc (pc := 21) C (w := (1 : Int32)) 2 [(2, .int v2_1), (0, .ref (b + o)), (1, .int v1)] dX5_isFree_21 rfl rfl (Nat.le_of_ble_eq_true rfl) ev2_1 rfl ?_
        refine x_goto (pc := 24) C 2 dX5_isFree_24 rfl ?_
        exact x_sub [1, 2, 0] rfl (ih _ h hr hx)
      · replace h := of_ifn c_2 h
        refine x_iconst (pc := 19) C (v := (0 : Int32)) dX5_isFree_19 rfl ?_
        have hq := hr _ (of_s1 h).symm
        exact x_zreturn (pc := 20) C (by decide) dX5_isFree_20 hq rfl
set_option maxRecDepth 100000 in
set_option maxHeartbeats 4000000 in
theorem c_X5_isFree {l : Launch} {G : zz_G} {L : Ly} {b : Nat} (o : Nat) (p1 : Int32) (hO : isW L o) (S : Sg) (rf : Int32) (h : f_X5_isFree o p1 S = some rf) : Met l yX5_isFree (Cond.code yX5_isFree cX5_isFree 3 (some .boolean) :: zz_all) (rmz 2 43) (PC G L b S [.ref (b + o), .int p1]) (QC G L b S (some (.int rf)) (rf = 0 ∨ rf = 1)) 0 0 (fun q => b ≤ q) := by
  refine x_met [.ref (b + o), .int p1] (by decide +kernel) (Nat.le_of_ble_eq_true rfl) fun p e s m args below meth c C => ?_
  unfold f_X5_isFree at h
  refine x_iconst (pc := 0) C (v := (0 : Int32)) dX5_isFree_0 rfl ?_
  refine x_istore_n (pc := 1) C 2 [(2, .int (0 : Int32)), (0, .ref (b + o)), (1, .int p1)] dX5_isFree_1 rfl (Nat.le_of_ble_eq_true rfl) rfl rfl ?_
  refine x_sub [1, 2, 0] rfl ?_
  obtain ⟨z_hz_1, hz_1, hl, hrr⟩ := of_bs h
  refine l_X5_isFree_2 C o hO p1 S rf 400 _ hz_1 (fun q ez => of_s1 (hl _ ez)) (fun ez => ?_)
  replace h := hrr _ ez
  clear hl hrr
  refine x_iconst (pc := 27) C (v := (1 : Int32)) dX5_isFree_27 rfl ?_
  exact x_zreturn (pc := 28) C (by decide) dX5_isFree_28 (of_s1 h) rfl
set_option maxRecDepth 100000 in
set_option maxHeartbeats 4000000 in
theorem c_X5_lowOf {l : Launch} {G : zz_G} {L : Ly} {b : Nat} (o : Nat) (p1 : Int32) (hO : isW L o) (S : Sg) (rf : Int32) (h : f_X5_lowOf o p1 S = some rf) : Met l yX5_lowOf (Cond.code yX5_lowOf cX5_lowOf 2 (some .int) :: zz_all) (rmz 2 42) (PC G L b S [.ref (b + o), .int p1]) (QC G L b S (some (.int rf)) True) 0 0 (fun q => b ≤ q) := by
  refine x_met [.ref (b + o), .int p1] (by decide +kernel) (Nat.le_of_ble_eq_true rfl) fun p e s m args below meth c C => ?_
  unfold f_X5_lowOf at h
  refine x_aload_n (pc := 0) C 0 dX5_lowOf_0 rfl ?_
  refine x_iload_n (pc := 1) C 1 dX5_lowOf_1 rfl ?_
  refine x_callV1 (pc := 2) C (o := o) [.int p1] [] (c_X5_has (b := b) o p1 hO S) cw_X5_76 vi_X5_has ⟨rfl, rfl, Nat.le_of_ble_eq_true rfl, Nat.le_of_ble_eq_true rfl⟩ ⟨Nat.le_refl _, Nat.le_refl _⟩ hO.1 ⟨rfl, rfl, rfl⟩ rfl ⟨rfl, Nat.le_of_ble_eq_true rfl⟩ dX5_lowOf_2 (fun hx_1 => ?_)
  refine x_if_eq (pc := 5) C 17 dX5_lowOf_5 rfl (fun c_1 => ?_) (fun c_1 => ?_)
  · replace h := of_ifp c_1 h
    refine x_iconst (pc := 17) C (v := (0 : Int32)) dX5_lowOf_17 rfl ?_
    exact x_ireturn (pc := 18) C dX5_lowOf_18 (of_s1 h) rfl
  · replace h := of_ifn c_1 h
    refine x_aload_n (pc := 8) C 0 dX5_lowOf_8 rfl ?_
    refine x_getr (pc := 9) C (k := 2) (o + 3) hO.1 rfl rfl wd_61 dX5_lowOf_9 (Nat.le_of_ble_eq_true rfl) rfl ?_
    refine x_iload_n (pc := 12) C 1 dX5_lowOf_12 rfl ?_
    obtain ⟨g_1, h⟩ := of_gd h
    refine x_iaload (pc := 13) C hO.2.2.2.1 g_1 dX5_lowOf_13 ?_
    refine x_goto (pc := 14) C 18 dX5_lowOf_14 rfl ?_
    exact x_ireturn (pc := 18) C dX5_lowOf_18 (of_s1 h) rfl
set_option maxRecDepth 100000 in
set_option maxHeartbeats 4000000 in
theorem c_X5_valueOf {l : Launch} {G : zz_G} {L : Ly} {b : Nat} (o : Nat) (p1 : Int32) (hO : isW L o) (S : Sg) (rf : Int32) (h : f_X5_valueOf o p1 S = some rf) : Met l yX5_valueOf (Cond.code yX5_valueOf cX5_valueOf 2 (some .int) :: zz_all) (rmz 2 42) (PC G L b S [.ref (b + o), .int p1]) (QC G L b S (some (.int rf)) True) 0 0 (fun q => b ≤ q) := by
  refine x_met [.ref (b + o), .int p1] (by decide +kernel) (Nat.le_of_ble_eq_true rfl) fun p e s m args below meth c C => ?_
  unfold f_X5_valueOf at h
  refine x_aload_n (pc := 0) C 0 dX5_valueOf_0 rfl ?_
  refine x_iload_n (pc := 1) C 1 dX5_valueOf_1 rfl ?_
  refine x_callV1 (pc := 2) C (o := o) [.int p1] [] (c_X5_has (b := b) o p1 hO S) cw_X5_76 vi_X5_has ⟨rfl, rfl, Nat.le_of_ble_eq_true rfl, Nat.le_of_ble_eq_true rfl⟩ ⟨Nat.le_refl _, Nat.le_refl _⟩ hO.1 ⟨rfl, rfl, rfl⟩ rfl ⟨rfl, Nat.le_of_ble_eq_true rfl⟩ dX5_valueOf_2 (fun hx_1 => ?_)
  refine x_if_eq (pc := 5) C 17 dX5_valueOf_5 rfl (fun c_1 => ?_) (fun c_1 => ?_)
  · replace h := of_ifp c_1 h
    refine x_iconst (pc := 17) C (v := (0 : Int32)) dX5_valueOf_17 rfl ?_
    exact x_ireturn (pc := 18) C dX5_valueOf_18 (of_s1 h) rfl
  · replace h := of_ifn c_1 h
    refine x_aload_n (pc := 8) C 0 dX5_valueOf_8 rfl ?_
    refine x_getr (pc := 9) C (k := 1) (o + 2) hO.1 rfl rfl wd_60 dX5_valueOf_9 (Nat.le_of_ble_eq_true rfl) rfl ?_
    refine x_iload_n (pc := 12) C 1 dX5_valueOf_12 rfl ?_
    obtain ⟨g_1, h⟩ := of_gd h
    refine x_iaload (pc := 13) C hO.2.2.1 g_1 dX5_valueOf_13 ?_
    refine x_goto (pc := 14) C 18 dX5_valueOf_14 rfl ?_
    exact x_ireturn (pc := 18) C dX5_valueOf_18 (of_s1 h) rfl
set_option maxRecDepth 100000 in
set_option maxHeartbeats 4000000 in
theorem c_X6_asNumber {l : Launch} {G : zz_G} {L : Ly} {b : Nat} (p0 : Int32) (S : Sg) : Met l yX6_asNumber (Cond.code yX6_asNumber cX6_asNumber 1 (some .int) :: zz_all) (rmz 0 0) (PC G L b S [.int p0]) (QC G L b S (some (.int (f_X6_asNumber p0))) True) 0 0 (fun q => b ≤ q) := by
  refine x_met [.int p0] (by decide +kernel) (Nat.le_of_ble_eq_true rfl) fun p e s m args below meth c C => ?_
  generalize h : f_X6_asNumber p0 = rf
  unfold f_X6_asNumber at h
  refine x_iload_n (pc := 0) C 0 dX6_asNumber_0 rfl ?_
  obtain ⟨x_1, ex_1, h⟩ := of_lt h
  have kd_1 : X p l e (rmz 0 0) s m args below meth c 0 0 (RQ G L b S below args s (some (.int rf)) True) 1 G L b S 9 [] [.int x_1] := by
    exact x_ireturn (pc := 9) C dX6_asNumber_9 h rfl
  refine x_if_eq (pc := 1) C 8 dX6_asNumber_1 rfl (fun c_1 => ?_) (fun c_1 => ?_)
  · refine x_iconst (pc := 8) C (v := (0 : Int32)) dX6_asNumber_8 rfl ?_
    refine x_sub [] rfl ?_
    rw [show x_1 = (0 : Int32) from (ex_1.trans (if_pos c_1))] at kd_1
    exact kd_1
  · refine x_iconst (pc := 4) C (v := (1 : Int32)) dX6_asNumber_4 rfl ?_
    refine x_goto (pc := 5) C 9 dX6_asNumber_5 rfl ?_
    refine x_sub [] rfl ?_
    rw [show x_1 = (1 : Int32) from (ex_1.trans (if_neg c_1))] at kd_1
    exact kd_1
set_option maxRecDepth 100000 in
set_option maxHeartbeats 4000000 in
theorem c_X0_leastOf {l : Launch} {G : zz_G} {L : Ly} {b : Nat} (o : Nat) (p1 : Int32) (hO : isNa L o) (S : Sg) (rf : Int32) (h : f_X0_leastOf o p1 S = some rf) : Met l yX0_leastOf (Cond.code yX0_leastOf cX0_leastOf 2 (some .int) :: zz_all) (rmz 1 21) (PC G L b S [.ref (b + o), .int p1]) (QC G L b S (some (.int rf)) True) 0 0 (fun q => b ≤ q) := by
  refine x_met [.ref (b + o), .int p1] (by decide +kernel) (Nat.le_of_ble_eq_true rfl) fun p e s m args below meth c C => ?_
  unfold f_X0_leastOf at h
  refine x_iload_n (pc := 0) C 1 dX0_leastOf_0 rfl ?_
  refine x_bipush (pc := 1) C (v := (10 : Int32)) dX0_leastOf_1 rfl ?_
  refine x_callSN1 (pc := 3) C [.int p1, .int (10 : Int32)] [] (c_X6_isWithin (b := b) p1 (10 : Int32) S) cn_X0_61 vs_X6_isWithin ⟨rfl, rfl, Nat.le_of_ble_eq_true rfl, Nat.le_of_ble_eq_true rfl⟩ ⟨Nat.le_refl _, Nat.le_refl _⟩ rfl ⟨rfl, Nat.le_of_ble_eq_true rfl⟩ dX0_leastOf_3 (fun hx_1 => ?_)
  refine x_if_eq (pc := 6) C 18 dX0_leastOf_6 rfl (fun c_1 => ?_) (fun c_1 => ?_)
  · replace h := of_ifp c_1 h
    refine x_iconst (pc := 18) C (v := (0 : Int32)) dX0_leastOf_18 rfl ?_
    exact x_ireturn (pc := 19) C dX0_leastOf_19 (of_s1 h) rfl
  · replace h := of_ifn c_1 h
    refine x_aload_n (pc := 9) C 0 dX0_leastOf_9 rfl ?_
    refine x_getr (pc := 10) C (k := 0) (o + 1) hO.1 rfl rfl wd_126 dX0_leastOf_10 (Nat.le_of_ble_eq_true rfl) rfl ?_
    refine x_iload_n (pc := 13) C 1 dX0_leastOf_13 rfl ?_
    obtain ⟨g_1, h⟩ := of_gd h
    refine x_iaload (pc := 14) C hO.2.1 g_1 dX0_leastOf_14 ?_
    refine x_goto (pc := 15) C 19 dX0_leastOf_15 rfl ?_
    exact x_ireturn (pc := 19) C dX0_leastOf_19 (of_s1 h) rfl
set_option maxRecDepth 100000 in
set_option maxHeartbeats 4000000 in
theorem c_X0_mostOf {l : Launch} {G : zz_G} {L : Ly} {b : Nat} (o : Nat) (p1 : Int32) (hO : isNa L o) (S : Sg) (rf : Int32) (h : f_X0_mostOf o p1 S = some rf) : Met l yX0_mostOf (Cond.code yX0_mostOf cX0_mostOf 2 (some .int) :: zz_all) (rmz 1 21) (PC G L b S [.ref (b + o), .int p1]) (QC G L b S (some (.int rf)) True) 0 0 (fun q => b ≤ q) := by
  refine x_met [.ref (b + o), .int p1] (by decide +kernel) (Nat.le_of_ble_eq_true rfl) fun p e s m args below meth c C => ?_
  unfold f_X0_mostOf at h
  refine x_iload_n (pc := 0) C 1 dX0_mostOf_0 rfl ?_
  refine x_bipush (pc := 1) C (v := (10 : Int32)) dX0_mostOf_1 rfl ?_
  refine x_callSN1 (pc := 3) C [.int p1, .int (10 : Int32)] [] (c_X6_isWithin (b := b) p1 (10 : Int32) S) cn_X0_61 vs_X6_isWithin ⟨rfl, rfl, Nat.le_of_ble_eq_true rfl, Nat.le_of_ble_eq_true rfl⟩ ⟨Nat.le_refl _, Nat.le_refl _⟩ rfl ⟨rfl, Nat.le_of_ble_eq_true rfl⟩ dX0_mostOf_3 (fun hx_1 => ?_)
  refine x_if_eq (pc := 6) C 18 dX0_mostOf_6 rfl (fun c_1 => ?_) (fun c_1 => ?_)
  · replace h := of_ifp c_1 h
    refine x_iconst (pc := 18) C (v := (0 : Int32)) dX0_mostOf_18 rfl ?_
    exact x_ireturn (pc := 19) C dX0_mostOf_19 (of_s1 h) rfl
  · replace h := of_ifn c_1 h
    refine x_aload_n (pc := 9) C 0 dX0_mostOf_9 rfl ?_
    refine x_getr (pc := 10) C (k := 1) (o + 2) hO.1 rfl rfl wd_127 dX0_mostOf_10 (Nat.le_of_ble_eq_true rfl) rfl ?_
    refine x_iload_n (pc := 13) C 1 dX0_mostOf_13 rfl ?_
    obtain ⟨g_1, h⟩ := of_gd h
    refine x_iaload (pc := 14) C hO.2.2 g_1 dX0_mostOf_14 ?_
    refine x_goto (pc := 15) C 19 dX0_mostOf_15 rfl ?_
    exact x_ireturn (pc := 19) C dX0_mostOf_19 (of_s1 h) rfl
set_option maxRecDepth 100000 in
set_option maxHeartbeats 4000000 in
theorem c_X0_highEnd {l : Launch} {G : zz_G} {L : Ly} {b : Nat} (o : Nat) (p1 : Int32) (p2 : Int32) (hO : isNa L o) (S : Sg) (rf : Int32) (h : f_X0_highEnd o p1 p2 S = some rf) : Met l yX0_highEnd (Cond.code yX0_highEnd cX0_highEnd 3 (some .int) :: zz_all) (rmz 2 42) (PC G L b S [.ref (b + o), .int p1, .int p2]) (QC G L b S (some (.int rf)) True) 0 0 (fun q => b ≤ q) := by
  refine x_met [.ref (b + o), .int p1, .int p2] (by decide +kernel) (Nat.le_of_ble_eq_true rfl) fun p e s m args below meth c C => ?_
  unfold f_X0_highEnd at h
  refine x_iload_n (pc := 0) C 1 dX0_highEnd_0 rfl ?_
  refine x_iload_n (pc := 1) C 1 dX0_highEnd_1 rfl ?_
  refine x_if_le (pc := 2) C 13 dX0_highEnd_2 rfl (fun c_1 => ?_) (fun c_1 => ?_)
  · replace h := of_ifn c_1 h
    refine x_aload_n (pc := 13) C 0 dX0_highEnd_13 rfl ?_
    refine x_iload_n (pc := 14) C 2 dX0_highEnd_14 rfl ?_
    obtain ⟨r_1, hc_1, h⟩ := of_bd h
    refine x_callV1 (pc := 15) C (o := o) [.int p2] [.int p1] (c_X0_leastOf (b := b) o p2 hO S _ hc_1) cw_X0_68 vi_X0_leastOf ⟨rfl, rfl, Nat.le_of_ble_eq_true rfl, Nat.le_of_ble_eq_true rfl⟩ ⟨Nat.le_refl _, Nat.le_refl _⟩ hO.1 ⟨rfl, rfl, rfl⟩ rfl ⟨rfl, Nat.le_of_ble_eq_true rfl⟩ dX0_highEnd_15 (fun hx_1 => ?_)
    refine x_imul (pc := 18) C dX0_highEnd_18 ?_
    exact x_ireturn (pc := 19) C dX0_highEnd_19 (of_s1 h) rfl
  · replace h := of_ifp c_1 h
    refine x_aload_n (pc := 5) C 0 dX0_highEnd_5 rfl ?_
    refine x_iload_n (pc := 6) C 2 dX0_highEnd_6 rfl ?_
    obtain ⟨r_2, hc_2, h⟩ := of_bd h
    refine x_callV1 (pc := 7) C (o := o) [.int p2] [.int p1] (c_X0_mostOf (b := b) o p2 hO S _ hc_2) cw_X0_71 vi_X0_mostOf ⟨rfl, rfl, Nat.le_of_ble_eq_true rfl, Nat.le_of_ble_eq_true rfl⟩ ⟨Nat.le_refl _, Nat.le_refl _⟩ hO.1 ⟨rfl, rfl, rfl⟩ rfl ⟨rfl, Nat.le_of_ble_eq_true rfl⟩ dX0_highEnd_7 (fun hx_2 => ?_)
    refine x_goto (pc := 10) C 18 dX0_highEnd_10 rfl ?_
    refine x_imul (pc := 18) C dX0_highEnd_18 ?_
    exact x_ireturn (pc := 19) C dX0_highEnd_19 (of_s1 h) rfl
set_option maxRecDepth 100000 in
set_option maxHeartbeats 4000000 in
theorem c_X0_lowEnd {l : Launch} {G : zz_G} {L : Ly} {b : Nat} (o : Nat) (p1 : Int32) (p2 : Int32) (hO : isNa L o) (S : Sg) (rf : Int32) (h : f_X0_lowEnd o p1 p2 S = some rf) : Met l yX0_lowEnd (Cond.code yX0_lowEnd cX0_lowEnd 3 (some .int) :: zz_all) (rmz 2 42) (PC G L b S [.ref (b + o), .int p1, .int p2]) (QC G L b S (some (.int rf)) True) 0 0 (fun q => b ≤ q) := by
  refine x_met [.ref (b + o), .int p1, .int p2] (by decide +kernel) (Nat.le_of_ble_eq_true rfl) fun p e s m args below meth c C => ?_
  unfold f_X0_lowEnd at h
  refine x_iload_n (pc := 0) C 1 dX0_lowEnd_0 rfl ?_
  refine x_iload_n (pc := 1) C 1 dX0_lowEnd_1 rfl ?_
  refine x_if_le (pc := 2) C 13 dX0_lowEnd_2 rfl (fun c_1 => ?_) (fun c_1 => ?_)
  · replace h := of_ifn c_1 h
    refine x_aload_n (pc := 13) C 0 dX0_lowEnd_13 rfl ?_
    refine x_iload_n (pc := 14) C 2 dX0_lowEnd_14 rfl ?_
    obtain ⟨r_1, hc_1, h⟩ := of_bd h
    refine x_callV1 (pc := 15) C (o := o) [.int p2] [.int p1] (c_X0_mostOf (b := b) o p2 hO S _ hc_1) cw_X0_71 vi_X0_mostOf ⟨rfl, rfl, Nat.le_of_ble_eq_true rfl, Nat.le_of_ble_eq_true rfl⟩ ⟨Nat.le_refl _, Nat.le_refl _⟩ hO.1 ⟨rfl, rfl, rfl⟩ rfl ⟨rfl, Nat.le_of_ble_eq_true rfl⟩ dX0_lowEnd_15 (fun hx_1 => ?_)
    refine x_imul (pc := 18) C dX0_lowEnd_18 ?_
    exact x_ireturn (pc := 19) C dX0_lowEnd_19 (of_s1 h) rfl
  · replace h := of_ifp c_1 h
    refine x_aload_n (pc := 5) C 0 dX0_lowEnd_5 rfl ?_
    refine x_iload_n (pc := 6) C 2 dX0_lowEnd_6 rfl ?_
    obtain ⟨r_2, hc_2, h⟩ := of_bd h
    refine x_callV1 (pc := 7) C (o := o) [.int p2] [.int p1] (c_X0_leastOf (b := b) o p2 hO S _ hc_2) cw_X0_68 vi_X0_leastOf ⟨rfl, rfl, Nat.le_of_ble_eq_true rfl, Nat.le_of_ble_eq_true rfl⟩ ⟨Nat.le_refl _, Nat.le_refl _⟩ hO.1 ⟨rfl, rfl, rfl⟩ rfl ⟨rfl, Nat.le_of_ble_eq_true rfl⟩ dX0_lowEnd_7 (fun hx_2 => ?_)
    refine x_goto (pc := 10) C 18 dX0_lowEnd_10 rfl ?_
    refine x_imul (pc := 18) C dX0_lowEnd_18 ?_
    exact x_ireturn (pc := 19) C dX0_lowEnd_19 (of_s1 h) rfl
set_option maxRecDepth 100000 in
set_option maxHeartbeats 4000000 in
theorem c_X0_narrowOne {l : Launch} {G : zz_G} {L : Ly} {b : Nat} (o : Nat) (p1 : Int32) (p2 : Int32) (p3 : Int32) (p4 : Int32) (hO : isNa L o) (S : Sg) (rf : Int32) (Sf : Sg) (h : f_X0_narrowOne o p1 p2 p3 p4 S = some (rf, Sf)) : Met l yX0_narrowOne (Cond.code yX0_narrowOne cX0_narrowOne 8 (some .boolean) :: zz_all) (rmz 1 22) (PC G L b S [.ref (b + o), .int p1, .int p2, .int p3, .int p4]) (QC G L b Sf (some (.int rf)) (rf = 0 ∨ rf = 1)) 0 0 (fun q => b ≤ q) := by
  refine x_met [.ref (b + o), .int p1, .int p2, .int p3, .int p4] (by decide +kernel) (Nat.le_of_ble_eq_true rfl) fun p e s m args below meth c C => ?_
  unfold f_X0_narrowOne at h
  refine x_iload_n (pc := 0) C 1 dX0_narrowOne_0 rfl ?_
  refine x_bipush (pc := 1) C (v := (10 : Int32)) dX0_narrowOne_1 rfl ?_
  refine x_callSN1 (pc := 3) C [.int p1, .int (10 : Int32)] [] (c_X6_isWithin (b := b) p1 (10 : Int32) S) cn_X0_61 vs_X6_isWithin ⟨rfl, rfl, Nat.le_of_ble_eq_true rfl, Nat.le_of_ble_eq_true rfl⟩ ⟨Nat.le_refl _, Nat.le_refl _⟩ rfl ⟨rfl, Nat.le_of_ble_eq_true rfl⟩ dX0_narrowOne_3 (fun hx_1 => ?_)
  refine x_if_eq (pc := 6) C 13 dX0_narrowOne_6 rfl (fun c_1 => ?_) (fun c_1 => ?_)
  · replace h := of_ifp c_1 h
    refine x_iconst (pc := 13) C (v := (0 : Int32)) dX0_narrowOne_13 rfl ?_
    exact x_zreturn (pc := 14) C (by decide) dX0_narrowOne_14 (of_sp h).1 (of_sp h).2
  · replace h := of_ifn c_1 h
    refine x_iload_n (pc := 9) C 2 dX0_narrowOne_9 rfl ?_
    refine x_if_ne (pc := 10) C 15 dX0_narrowOne_10 rfl (fun c_2 => ?_) (fun c_2 => ?_)
    · replace h := of_ifn c_2 h
      refine x_iload_n (pc := 15) C 2 dX0_narrowOne_15 rfl ?_
      obtain ⟨x_1, ex_1, h⟩ := of_lt h
      have kd_1 : X p l e (rmz 1 22) s m args below meth c 0 0 (RQ G L b Sf below args s (some (.int rf)) (rf = 0 ∨ rf = 1)) 8 G L b S 27 [(0, .ref (b + o)), (1, .int p1), (2, .int p2), (3, .int p3), (4, .int p4)] [.int x_1] := by
        refine x_iload_n (pc := 27) C 2 dX0_narrowOne_27 rfl ?_
        obtain ⟨r_1, hc_1, h⟩ := of_bd h
        refine x_callS1 (pc := 28) C [.int x_1, .int p2] [] (c_J9_floorDiv_7cf53 (b := b) x_1 p2 S _ hc_1) cw_X0_65 vs_J9_floorDiv_7cf53 ⟨rfl, rfl, Nat.le_of_ble_eq_true rfl, Nat.le_of_ble_eq_true rfl⟩ ⟨Nat.le_refl _, Nat.le_refl _⟩ rfl ⟨rfl, Nat.le_of_ble_eq_true rfl⟩ dX0_narrowOne_28 (fun hx_2 => ?_)
        refine x_ineg (pc := 31) C dX0_narrowOne_31 ?_
        obtain ⟨v5_1, ev5_1, h⟩ := of_lt h
        refine x_istore (pc := 32) C [(5, .int v5_1), (0, .ref (b + o)), (1, .int p1), (2, .int p2), (3, .int p3), (4, .int p4)] dX0_narrowOne_32 (Nat.le_of_ble_eq_true rfl) ev5_1 rfl ?_
        refine x_iload_n (pc := 34) C 3 dX0_narrowOne_34 rfl ?_
        obtain ⟨x_2, ex_2, h⟩ := of_lt h
        have kd_2 : X p l e (rmz 1 22) s m args below meth c 0 0 (RQ G L b Sf below args s (some (.int rf)) (rf = 0 ∨ rf = 1)) 8 G L b S 44 [(0, .ref (b + o)), (1, .int p1), (2, .int p2), (5, .int v5_1)] [.int x_2] := by
          refine x_iload_n (pc := 44) C 2 dX0_narrowOne_44 rfl ?_
          obtain ⟨r_2, hc_2, h⟩ := of_bd h
          refine x_callS1 (pc := 45) C [.int x_2, .int p2] [] (c_J9_floorDiv_7cf53 (b := b) x_2 p2 S _ hc_2) cw_X0_65 vs_J9_floorDiv_7cf53 ⟨rfl, rfl, Nat.le_of_ble_eq_true rfl, Nat.le_of_ble_eq_true rfl⟩ ⟨Nat.le_refl _, Nat.le_refl _⟩ rfl ⟨rfl, Nat.le_of_ble_eq_true rfl⟩ dX0_narrowOne_45 (fun hx_3 => ?_)
          refine x_istore (pc := 48) C [(6, .int r_2), (0, .ref (b + o)), (1, .int p1), (2, .int p2), (5, .int v5_1)] dX0_narrowOne_48 (Nat.le_of_ble_eq_true rfl) rfl rfl ?_
          refine x_iconst (pc := 50) C (v := (0 : Int32)) dX0_narrowOne_50 rfl ?_
          refine x_istore (pc := 51) C [(7, .int (0 : Int32)), (6, .int r_2), (0, .ref (b + o)), (1, .int p1), (2, .int p2), (5, .int v5_1)] dX0_narrowOne_51 (Nat.le_of_ble_eq_true rfl) rfl rfl ?_
          refine x_iload (pc := 53) C 5 dX0_narrowOne_53 rfl ?_
          refine x_aload_n (pc := 55) C 2 dX0_narrowOne_55 rfl ?_
          refine x_getr (pc := 56) C (k := 0) (o + 1) hO.1 rfl rfl wd_126 dX0_narrowOne_56 (Nat.le_of_ble_eq_true rfl) rfl ?_
          refine x_iload_n (pc := 59) C 3 dX0_narrowOne_59 rfl ?_
          obtain ⟨g_1, h⟩ := of_gd h
          refine x_iaload (pc := 60) C hO.2.1 g_1 dX0_narrowOne_60 ?_
          obtain ⟨J_1, eJ_1, h⟩ := of_lt h
          have kJ_1 : ∀ (v7_1 : Int32) (S_1 : Sg), J_1 v7_1 S_1 = some (rf, Sf) → X p l e (rmz 1 22) s m args below meth c 0 0 (RQ G L b Sf below args s (some (.int rf)) (rf = 0 ∨ rf = 1)) 8 G L b S_1 75 [(0, .ref (b + o)), (1, .int p1), (6, .int r_2), (7, .int v7_1)] [] := by
            intro v7_1 S_1 h
            replace h := of_J2 eJ_1 h
            refine x_iload (pc := 75) C 2 dX0_narrowOne_75 rfl ?_
            refine x_aload_n (pc := 77) C 0 dX0_narrowOne_77 rfl ?_
            refine x_getr (pc := 78) C (k := 1) (o + 2) hO.1 rfl rfl wd_127 dX0_narrowOne_78 (Nat.le_of_ble_eq_true rfl) rfl ?_
            refine x_iload_n (pc := 81) C 1 dX0_narrowOne_81 rfl ?_
            refine x_iaload (pc := 82) C hO.2.2 g_1 dX0_narrowOne_82 ?_
            refine x_icmp_ge (pc := 83) C 97 dX0_narrowOne_83 rfl (fun c_3 => ?_) (fun c_3 => ?_)
            · replace h := of_ifn c_3 h
              refine x_iload (pc := 97) C 3 dX0_narrowOne_97 rfl ?_
              obtain ⟨g_2, h⟩ := of_gd h
              exact x_zreturn (pc := 99) C (of_isb g_2) dX0_narrowOne_99 (of_sp h).1 (of_sp h).2
            · replace h := of_ifp c_3 h
              refine x_aload_n (pc := 86) C 0 dX0_narrowOne_86 rfl ?_
              refine x_getr (pc := 87) C (k := 1) (o + 2) hO.1 rfl rfl wd_127 dX0_narrowOne_87 (Nat.le_of_ble_eq_true rfl) rfl ?_
              refine x_iload_n (pc := 90) C 1 dX0_narrowOne_90 rfl ?_
              refine x_iload (pc := 91) C 2 dX0_narrowOne_91 rfl ?_
              obtain ⟨S_2, eS_2, h⟩ := of_lt h
              refine x_iastore (pc := 93) C hO.2.2 g_1 eS_2 dX0_narrowOne_93 ?_
              refine x_iconst (pc := 94) C (v := (1 : Int32)) dX0_narrowOne_94 rfl ?_
              refine x_istore (pc := 95) C [(7, .int (1 : Int32)), (0, .ref (b + o)), (1, .int p1), (6, .int r_2)] dX0_narrowOne_95 (Nat.le_of_ble_eq_true rfl) rfl rfl ?_
              refine x_iload (pc := 97) C 0 dX0_narrowOne_97 rfl ?_
              exact x_zreturn (pc := 99) C (by decide) dX0_narrowOne_99 (of_sp h).1 (of_sp h).2
          refine x_icmp_le (pc := 61) C 75 dX0_narrowOne_61 rfl (fun c_4 => ?_) (fun c_4 => ?_)
          · replace h := of_ifn c_4 h
            exact x_sub [2, 3, 1, 0] rfl (kJ_1 _ _ h)
          · replace h := of_ifp c_4 h
            refine x_aload_n (pc := 64) C 2 dX0_narrowOne_64 rfl ?_
            refine x_getr (pc := 65) C (k := 0) (o + 1) hO.1 rfl rfl wd_126 dX0_narrowOne_65 (Nat.le_of_ble_eq_true rfl) rfl ?_
            refine x_iload_n (pc := 68) C 3 dX0_narrowOne_68 rfl ?_
            refine x_iload (pc := 69) C 5 dX0_narrowOne_69 rfl ?_
            obtain ⟨S_3, eS_3, h⟩ := of_lt h
            refine x_iastore (pc := 71) C hO.2.1 g_1 eS_3 dX0_narrowOne_71 ?_
            refine x_iconst (pc := 72) C (v := (1 : Int32)) dX0_narrowOne_72 rfl ?_
            refine x_istore (pc := 73) C [(7, .int (1 : Int32)), (6, .int r_2), (0, .ref (b + o)), (1, .int p1), (2, .int p2), (5, .int v5_1)] dX0_narrowOne_73 (Nat.le_of_ble_eq_true rfl) rfl rfl ?_
            exact x_sub [2, 3, 1, 0] rfl (kJ_1 _ _ h)
        refine x_if_le (pc := 35) C 43 dX0_narrowOne_35 rfl (fun c_5 => ?_) (fun c_5 => ?_)
        · refine x_iload_n (pc := 43) C 4 dX0_narrowOne_43 rfl ?_
          refine x_sub [1, 2, 3, 0] rfl ?_
          rw [show x_2 = p3 from (ex_2.trans (if_neg c_5))] at kd_2
          exact kd_2
        · refine x_iload (pc := 38) C 5 dX0_narrowOne_38 rfl ?_
          refine x_goto (pc := 40) C 44 dX0_narrowOne_40 rfl ?_
          refine x_sub [1, 2, 3, 0] rfl ?_
          rw [show x_2 = p4 from (ex_2.trans (if_pos c_5))] at kd_2
          exact kd_2
      refine x_if_le (pc := 16) C 24 dX0_narrowOne_16 rfl (fun c_6 => ?_) (fun c_6 => ?_)
      · refine x_iload (pc := 24) C 4 dX0_narrowOne_24 rfl ?_
        refine x_ineg (pc := 26) C dX0_narrowOne_26 ?_
        refine x_sub [0, 1, 2, 3, 4] rfl ?_
        rw [show x_1 = (-p4) from (ex_1.trans (if_neg c_6))] at kd_1
        exact kd_1
      · refine x_iload_n (pc := 19) C 3 dX0_narrowOne_19 rfl ?_
        refine x_ineg (pc := 20) C dX0_narrowOne_20 ?_
        refine x_goto (pc := 21) C 27 dX0_narrowOne_21 rfl ?_
        refine x_sub [0, 1, 2, 3, 4] rfl ?_
        rw [show x_1 = (-p3) from (ex_1.trans (if_pos c_6))] at kd_1
        exact kd_1
    · replace h := of_ifp c_2 h
      refine x_iconst (pc := 13) C (v := (0 : Int32)) dX0_narrowOne_13 rfl ?_
      exact x_zreturn (pc := 14) C (by decide) dX0_narrowOne_14 (of_sp h).1 (of_sp h).2
set_option maxRecDepth 100000 in
set_option maxHeartbeats 4000000 in
theorem c_X5_answerOf {l : Launch} {G : zz_G} {L : Ly} {b : Nat} (o : Nat) (p1 : Int32) (hO : isW L o) (S : Sg) (rf : Int32) (h : f_X5_answerOf o p1 S = some rf) : Met l yX5_answerOf (Cond.code yX5_answerOf cX5_answerOf 2 (some .int) :: zz_all) (rmz 1 21) (PC G L b S [.ref (b + o), .int p1]) (QC G L b S (some (.int rf)) True) 0 0 (fun q => b ≤ q) := by
  refine x_met [.ref (b + o), .int p1] (by decide +kernel) (Nat.le_of_ble_eq_true rfl) fun p e s m args below meth c C => ?_
  unfold f_X5_answerOf at h
  refine x_iload_n (pc := 0) C 1 dX5_answerOf_0 rfl ?_
  refine x_bipush (pc := 1) C (v := (10 : Int32)) dX5_answerOf_1 rfl ?_
  refine x_callSN1 (pc := 3) C [.int p1, .int (10 : Int32)] [] (c_X6_isWithin (b := b) p1 (10 : Int32) S) cn_X5_72 vs_X6_isWithin ⟨rfl, rfl, Nat.le_of_ble_eq_true rfl, Nat.le_of_ble_eq_true rfl⟩ ⟨Nat.le_refl _, Nat.le_refl _⟩ rfl ⟨rfl, Nat.le_of_ble_eq_true rfl⟩ dX5_answerOf_3 (fun hx_1 => ?_)
  refine x_if_eq (pc := 6) C 18 dX5_answerOf_6 rfl (fun c_1 => ?_) (fun c_1 => ?_)
  · replace h := of_ifp c_1 h
    refine x_iconst (pc := 18) C (v := (0 : Int32)) dX5_answerOf_18 rfl ?_
    exact x_ireturn (pc := 19) C dX5_answerOf_19 (of_s1 h) rfl
  · replace h := of_ifn c_1 h
    refine x_aload_n (pc := 9) C 0 dX5_answerOf_9 rfl ?_
    refine x_getr (pc := 10) C (k := 8) (o + 16) hO.1 rfl rfl wd_71 dX5_answerOf_10 (Nat.le_of_ble_eq_true rfl) rfl ?_
    refine x_iload_n (pc := 13) C 1 dX5_answerOf_13 rfl ?_
    obtain ⟨g_1, h⟩ := of_gd h
    refine x_iaload (pc := 14) C hO.2.2.2.2.2.2.2.1 g_1 dX5_answerOf_14 ?_
    refine x_goto (pc := 15) C 19 dX5_answerOf_15 rfl ?_
    exact x_ireturn (pc := 19) C dX5_answerOf_19 (of_s1 h) rfl
set_option maxRecDepth 100000 in
set_option maxHeartbeats 4000000 in
theorem l_X0_narrowByRow_8 {p : Program} {l : Launch} {e : Env} {s : State} {m : MethodId} {args : Array Value} {below : List Frame} {meth : Method} {c : Code} {G : zz_G} {L : Ly} {b : Nat} {Q : State → Prop} (C : CX p G s m args meth c cX0_narrowByRow yX0_narrowByRow 11 (some .boolean)) (o : Nat) (o1 : Nat) (hO : isNa L o) (h1 : isW L o1) (v2 : Int32) (S : Sg) : ∀ (n : Nat) (v3 : Int32) (v4 : Int32) (v5 : Int32) {z}, L_X0_narrowByRow_8 o o1 v2 S n v3 v4 v5 = some z → (∀ (v3_o : Int32) (v4_o : Int32), z = (v3_o, v4_o) → X p l e (rmz 3 64) s m args below meth c 0 0 Q 11 G L b S 56 [(0, .ref (b + o)), (1, .ref (b + o1)), (2, .int v2), (3, .int v3_o), (4, .int v4_o)] []) → X p l e (rmz 3 64) s m args below meth c 0 0 Q 11 G L b S 8 [(0, .ref (b + o)), (1, .ref (b + o1)), (2, .int v2), (3, .int v3), (4, .int v4), (5, .int v5)] [] := by
  intro n
  induction n with
  | zero =>
    intro v3 v4 v5 z h
    exact of_none h
  | succ n ih =>
    intro v3 v4 v5 z h hx
    rw [L_X0_narrowByRow_8] at h
    refine x_iload (pc := 8) C 5 dX0_narrowByRow_8 rfl ?_
    refine x_aload_n (pc := 10) C 0 dX0_narrowByRow_10 rfl ?_
    refine x_geti (pc := 11) C (k := 2) hO.1 rfl rfl wd_128 dX0_narrowByRow_11 ⟨Nat.le_of_ble_eq_true rfl, rfl⟩ ?_
    refine x_icmp_ge (pc := 14) C 56 dX0_narrowByRow_14 rfl (fun c_1 => ?_) (fun c_1 => ?_)
    · replace h := of_ifn c_1 h
      exact x_sub [0, 1, 2, 3, 4] rfl (hx _ _ (of_s1 h).symm)
    · replace h := of_ifp c_1 h
      refine x_aload_n (pc := 17) C 1 dX0_narrowByRow_17 rfl ?_
      refine x_iload_n (pc := 18) C 2 dX0_narrowByRow_18 rfl ?_
      refine x_iload (pc := 19) C 5 dX0_narrowByRow_19 rfl ?_
      obtain ⟨r_1, hc_1, h⟩ := of_bd h
      refine x_callV1 (pc := 21) C (o := o1) [.int v2, .int v5] [] (c_X5_coefficient (b := b) o1 v2 v5 h1 S _ hc_1) cw_X0_45 vi_X5_coefficient ⟨rfl, rfl, Nat.le_of_ble_eq_true rfl, Nat.le_of_ble_eq_true rfl⟩ ⟨Nat.le_refl _, Nat.le_refl _⟩ h1.1 ⟨rfl, rfl, rfl⟩ rfl ⟨rfl, Nat.le_of_ble_eq_true rfl⟩ dX0_narrowByRow_21 (fun hx_1 => ?_)
      refine x_istore (pc := 24) C [(6, .int r_1), (0, .ref (b + o)), (1, .ref (b + o1)), (2, .int v2), (3, .int v3), (4, .int v4), (5, .int v5)] dX0_narrowByRow_24 (Nat.le_of_ble_eq_true rfl) rfl rfl ?_
      refine x_iload_n (pc := 26) C 4 dX0_narrowByRow_26 rfl ?_
      refine x_aload_n (pc := 27) C 1 dX0_narrowByRow_27 rfl ?_
      refine x_iload (pc := 28) C 0 dX0_narrowByRow_28 rfl ?_
      refine x_iload (pc := 30) C 6 dX0_narrowByRow_30 rfl ?_
      obtain ⟨r_2, hc_2, h⟩ := of_bd h
      refine x_callV1 (pc := 32) C (o := o) [.int r_1, .int v5] [.int v3] (c_X0_lowEnd (b := b) o r_1 v5 hO S _ hc_2) cw_X0_48 vi_X0_lowEnd ⟨rfl, rfl, Nat.le_of_ble_eq_true rfl, Nat.le_of_ble_eq_true rfl⟩ ⟨Nat.le_refl _, Nat.le_refl _⟩ hO.1 ⟨rfl, rfl, rfl⟩ rfl ⟨rfl, Nat.le_of_ble_eq_true rfl⟩ dX0_narrowByRow_32 (fun hx_2 => ?_)
      refine x_iadd (pc := 35) C dX0_narrowByRow_35 ?_
      obtain ⟨v3_1, ev3_1, h⟩ := of_lt h
      refine x_istore_n (pc := 36) C 3 [(3, .int v3_1), (6, .int r_1), (0, .ref (b + o)), (1, .ref (b + o1)), (2, .int v2), (4, .int v4), (5, .int v5)] dX0_narrowByRow_36 rfl (Nat.le_of_ble_eq_true rfl) ev3_1 rfl ?_
      refine x_iload (pc := 37) C 5 dX0_narrowByRow_37 rfl ?_
      refine x_aload_n (pc := 39) C 2 dX0_narrowByRow_39 rfl ?_
      refine x_iload (pc := 40) C 1 dX0_narrowByRow_40 rfl ?_
      refine x_iload (pc := 42) C 6 dX0_narrowByRow_42 rfl ?_
      obtain ⟨r_3, hc_3, h⟩ := of_bd h
      refine x_callV1 (pc := 44) C (o := o) [.int r_1, .int v5] [.int v4] (c_X0_highEnd (b := b) o r_1 v5 hO S _ hc_3) cw_X0_51 vi_X0_highEnd ⟨rfl, rfl, Nat.le_of_ble_eq_true rfl, Nat.le_of_ble_eq_true rfl⟩ ⟨Nat.le_refl _, Nat.le_refl _⟩ hO.1 ⟨rfl, rfl, rfl⟩ rfl ⟨rfl, Nat.le_of_ble_eq_true rfl⟩ dX0_narrowByRow_44 (fun hx_3 => ?_)
      refine x_iadd (pc := 47) C dX0_narrowByRow_47 ?_
      obtain ⟨v4_1, ev4_1, h⟩ := of_lt h
      refine x_istore (pc := 48) C [(4, .int v4_1), (3, .int v3_1), (6, .int r_1), (0, .ref (b + o)), (1, .ref (b + o1)), (2, .int v2), (5, .int v5)] dX0_narrowByRow_48 (Nat.le_of_ble_eq_true rfl) ev4_1 rfl ?_
      obtain ⟨v5_1, ev5_1, h⟩ := of_lt h
      refine x_iinc (pc := 50) C (w := (1 : Int32)) 6 [(5, .int v5_1), (4, .int v4_1), (3, .int v3_1), (6, .int r_1), (0, .ref (b + o)), (1, .ref (b + o1)), (2, .int v2)] dX0_narrowByRow_50 rfl rfl (Nat.le_of_ble_eq_true rfl) ev5_1 rfl ?_
      refine x_goto (pc := 53) C 8 dX0_narrowByRow_53 rfl ?_
      exact x_sub [4, 5, 6, 2, 1, 0] rfl (ih _ _ _ h hx)
set_option maxRecDepth 100000 in
set_option maxHeartbeats 4000000 in
theorem l_X0_narrowByRow_69 {p : Program} {l : Launch} {e : Env} {s : State} {m : MethodId} {args : Array Value} {below : List Frame} {meth : Method} {c : Code} {G : zz_G} {L : Ly} {b : Nat} {Q : State → Prop} (C : CX p G s m args meth c cX0_narrowByRow yX0_narrowByRow 11 (some .boolean)) (o : Nat) (o1 : Nat) (hO : isNa L o) (h1 : isW L o1) (v2 : Int32) (v5 : Int32) : ∀ (n : Nat) (v3 : Int32) (v4 : Int32) (v6 : Int32) (v7 : Int32) (S : Sg) {z}, L_X0_narrowByRow_69 o o1 v2 v5 n v3 v4 v6 v7 S = some z → (∀ (v6_o : Int32) (S_o : Sg), z = (v6_o, S_o) → X p l e (rmz 3 64) s m args below meth c 0 0 Q 11 G L b S_o 175 [(6, .int v6_o)] []) → X p l e (rmz 3 64) s m args below meth c 0 0 Q 11 G L b S 69 [(0, .ref (b + o)), (1, .ref (b + o1)), (2, .int v2), (3, .int v3), (4, .int v4), (5, .int v5), (6, .int v6), (7, .int v7)] [] := by
  intro n
  induction n with
  | zero =>
    intro v3 v4 v6 v7 S z h
    exact of_none h
  | succ n ih =>
    intro v3 v4 v6 v7 S z h hx
    rw [L_X0_narrowByRow_69] at h
    refine x_iload (pc := 69) C 7 dX0_narrowByRow_69 rfl ?_
    refine x_aload_n (pc := 71) C 0 dX0_narrowByRow_71 rfl ?_
    refine x_geti (pc := 72) C (k := 2) hO.1 rfl rfl wd_128 dX0_narrowByRow_72 ⟨Nat.le_of_ble_eq_true rfl, rfl⟩ ?_
    refine x_icmp_ge (pc := 75) C 175 dX0_narrowByRow_75 rfl (fun c_1 => ?_) (fun c_1 => ?_)
    · replace h := of_ifn c_1 h
      exact x_sub [6] rfl (hx _ _ (of_s1 h).symm)
    · replace h := of_ifp c_1 h
      refine x_aload_n (pc := 78) C 1 dX0_narrowByRow_78 rfl ?_
      refine x_iload_n (pc := 79) C 2 dX0_narrowByRow_79 rfl ?_
      refine x_iload (pc := 80) C 7 dX0_narrowByRow_80 rfl ?_
      obtain ⟨r_1, hc_1, h⟩ := of_bd h
      refine x_callV1 (pc := 82) C (o := o1) [.int v2, .int v7] [] (c_X5_coefficient (b := b) o1 v2 v7 h1 S _ hc_1) cw_X0_45 vi_X5_coefficient ⟨rfl, rfl, Nat.le_of_ble_eq_true rfl, Nat.le_of_ble_eq_true rfl⟩ ⟨Nat.le_refl _, Nat.le_refl _⟩ h1.1 ⟨rfl, rfl, rfl⟩ rfl ⟨rfl, Nat.le_of_ble_eq_true rfl⟩ dX0_narrowByRow_82 (fun hx_1 => ?_)
      refine x_istore (pc := 85) C [(8, .int r_1), (0, .ref (b + o)), (1, .ref (b + o1)), (2, .int v2), (3, .int v3), (4, .int v4), (5, .int v5), (6, .int v6), (7, .int v7)] dX0_narrowByRow_85 (Nat.le_of_ble_eq_true rfl) rfl rfl ?_
      refine x_iload (pc := 87) C 0 dX0_narrowByRow_87 rfl ?_
      refine x_if_ne (pc := 89) C 95 dX0_narrowByRow_89 rfl (fun c_2 => ?_) (fun c_2 => ?_)
      · replace h := of_ifn c_2 h
        refine x_iload_n (pc := 95) C 4 dX0_narrowByRow_95 rfl ?_
        refine x_aload_n (pc := 96) C 1 dX0_narrowByRow_96 rfl ?_
        refine x_iload (pc := 97) C 0 dX0_narrowByRow_97 rfl ?_
        refine x_iload (pc := 99) C 8 dX0_narrowByRow_99 rfl ?_
        obtain ⟨r_2, hc_2, h⟩ := of_bd h
        refine x_callV1 (pc := 101) C (o := o) [.int r_1, .int v7] [.int v3] (c_X0_lowEnd (b := b) o r_1 v7 hO S _ hc_2) cw_X0_48 vi_X0_lowEnd ⟨rfl, rfl, Nat.le_of_ble_eq_true rfl, Nat.le_of_ble_eq_true rfl⟩ ⟨Nat.le_refl _, Nat.le_refl _⟩ hO.1 ⟨rfl, rfl, rfl⟩ rfl ⟨rfl, Nat.le_of_ble_eq_true rfl⟩ dX0_narrowByRow_101 (fun hx_2 => ?_)
        refine x_isub (pc := 104) C dX0_narrowByRow_104 ?_
        obtain ⟨v9_1, ev9_1, h⟩ := of_lt h
        refine x_istore (pc := 105) C [(9, .int v9_1), (8, .int r_1), (0, .ref (b + o)), (1, .ref (b + o1)), (2, .int v2), (3, .int v3), (4, .int v4), (5, .int v5), (6, .int v6), (7, .int v7)] dX0_narrowByRow_105 (Nat.le_of_ble_eq_true rfl) ev9_1 rfl ?_
        refine x_iload (pc := 107) C 6 dX0_narrowByRow_107 rfl ?_
        refine x_aload_n (pc := 109) C 2 dX0_narrowByRow_109 rfl ?_
        refine x_iload (pc := 110) C 1 dX0_narrowByRow_110 rfl ?_
        refine x_iload (pc := 112) C 9 dX0_narrowByRow_112 rfl ?_
        obtain ⟨r_3, hc_3, h⟩ := of_bd h
        refine x_callV1 (pc := 114) C (o := o) [.int r_1, .int v7] [.int v4] (c_X0_highEnd (b := b) o r_1 v7 hO S _ hc_3) cw_X0_51 vi_X0_highEnd ⟨rfl, rfl, Nat.le_of_ble_eq_true rfl, Nat.le_of_ble_eq_true rfl⟩ ⟨Nat.le_refl _, Nat.le_refl _⟩ hO.1 ⟨rfl, rfl, rfl⟩ rfl ⟨rfl, Nat.le_of_ble_eq_true rfl⟩ dX0_narrowByRow_114 (fun hx_3 => ?_)
        refine x_isub (pc := 117) C dX0_narrowByRow_117 ?_
        obtain ⟨v10_1, ev10_1, h⟩ := of_lt h
        refine x_istore (pc := 118) C [(10, .int v10_1), (9, .int v9_1), (8, .int r_1), (0, .ref (b + o)), (1, .ref (b + o1)), (2, .int v2), (3, .int v3), (4, .int v4), (5, .int v5), (6, .int v6), (7, .int v7)] dX0_narrowByRow_118 (Nat.le_of_ble_eq_true rfl) ev10_1 rfl ?_
        refine x_aload_n (pc := 120) C 3 dX0_narrowByRow_120 rfl ?_
        refine x_iload (pc := 121) C 10 dX0_narrowByRow_121 rfl ?_
        refine x_iload (pc := 123) C 2 dX0_narrowByRow_123 rfl ?_
        refine x_iload (pc := 125) C 8 dX0_narrowByRow_125 rfl ?_
        refine x_iload (pc := 127) C 0 dX0_narrowByRow_127 rfl ?_
        refine x_isub (pc := 129) C dX0_narrowByRow_129 ?_
        refine x_iload (pc := 130) C 8 dX0_narrowByRow_130 rfl ?_
        refine x_iload (pc := 132) C 1 dX0_narrowByRow_132 rfl ?_
        refine x_isub (pc := 134) C dX0_narrowByRow_134 ?_
        obtain ⟨⟨r_4, S_1⟩, hc_4, h⟩ := of_bd h
        replace h := of_u2 h
        refine x_callV1 (pc := 135) C (o := o) [.int v7, .int r_1, .int (v5 - v10_1), .int (v5 - v9_1)] [] (c_X0_narrowOne (b := b) o v7 r_1 (v5 - v10_1) (v5 - v9_1) hO S _ _ hc_4) cw_X0_57 vi_X0_narrowOne ⟨rfl, rfl, Nat.le_of_ble_eq_true rfl, Nat.le_of_ble_eq_true rfl⟩ ⟨Nat.le_refl _, Nat.le_refl _⟩ hO.1 ⟨rfl, rfl, rfl⟩ rfl ⟨rfl, Nat.le_of_ble_eq_true rfl⟩ dX0_narrowByRow_135 (fun hx_4 => ?_)
        obtain ⟨v6_1, ev6_1, h⟩ := of_lt h
        have kd_1 : X p l e (rmz 3 64) s m args below meth c 0 0 Q 11 G L b S_1 144 [(0, .ref (b + o)), (1, .ref (b + o1)), (2, .int v2), (5, .int v5), (6, .int v6_1), (7, .int v7), (8, .int r_1), (9, .int v9_1), (10, .int v10_1)] [] := by
          refine x_iload (pc := 144) C 7 dX0_narrowByRow_144 rfl ?_
          refine x_aload_n (pc := 146) C 0 dX0_narrowByRow_146 rfl ?_
          refine x_iload (pc := 147) C 6 dX0_narrowByRow_147 rfl ?_
          refine x_iload (pc := 149) C 5 dX0_narrowByRow_149 rfl ?_
          obtain ⟨r_5, hc_5, h⟩ := of_bd h
          refine x_callV1 (pc := 151) C (o := o) [.int r_1, .int v7] [.int v9_1] (c_X0_lowEnd (b := b) o r_1 v7 hO S_1 _ hc_5) cw_X0_48 vi_X0_lowEnd ⟨rfl, rfl, Nat.le_of_ble_eq_true rfl, Nat.le_of_ble_eq_true rfl⟩ ⟨Nat.le_refl _, Nat.le_refl _⟩ hO.1 ⟨rfl, rfl, rfl⟩ rfl ⟨rfl, Nat.le_of_ble_eq_true rfl⟩ dX0_narrowByRow_151 (fun hx_5 => ?_)
          refine x_iadd (pc := 154) C dX0_narrowByRow_154 ?_
          obtain ⟨v3_1, ev3_1, h⟩ := of_lt h
          refine x_istore_n (pc := 155) C 3 [(3, .int v3_1), (0, .ref (b + o)), (1, .ref (b + o1)), (2, .int v2), (5, .int v5), (6, .int v6_1), (7, .int v7), (8, .int r_1), (9, .int v9_1), (10, .int v10_1)] dX0_narrowByRow_155 rfl (Nat.le_of_ble_eq_true rfl) ev3_1 rfl ?_
          refine x_iload (pc := 156) C 9 dX0_narrowByRow_156 rfl ?_
          refine x_aload_n (pc := 158) C 1 dX0_narrowByRow_158 rfl ?_
          refine x_iload (pc := 159) C 7 dX0_narrowByRow_159 rfl ?_
          refine x_iload (pc := 161) C 6 dX0_narrowByRow_161 rfl ?_
          obtain ⟨r_6, hc_6, h⟩ := of_bd h
          refine x_callV1 (pc := 163) C (o := o) [.int r_1, .int v7] [.int v10_1] (c_X0_highEnd (b := b) o r_1 v7 hO S_1 _ hc_6) cw_X0_51 vi_X0_highEnd ⟨rfl, rfl, Nat.le_of_ble_eq_true rfl, Nat.le_of_ble_eq_true rfl⟩ ⟨Nat.le_refl _, Nat.le_refl _⟩ hO.1 ⟨rfl, rfl, rfl⟩ rfl ⟨rfl, Nat.le_of_ble_eq_true rfl⟩ dX0_narrowByRow_163 (fun hx_6 => ?_)
          refine x_iadd (pc := 166) C dX0_narrowByRow_166 ?_
          obtain ⟨v4_1, ev4_1, h⟩ := of_lt h
          refine x_istore (pc := 167) C [(4, .int v4_1), (3, .int v3_1), (0, .ref (b + o)), (1, .ref (b + o1)), (2, .int v2), (5, .int v5), (6, .int v6_1), (7, .int v7), (8, .int r_1), (9, .int v9_1), (10, .int v10_1)] dX0_narrowByRow_167 (Nat.le_of_ble_eq_true rfl) ev4_1 rfl ?_
          obtain ⟨v7_1, ev7_1, h⟩ := of_lt h
          refine x_iinc (pc := 169) C (w := (1 : Int32)) 7 [(7, .int v7_1), (4, .int v4_1), (3, .int v3_1), (0, .ref (b + o)), (1, .ref (b + o1)), (2, .int v2), (5, .int v5), (6, .int v6_1), (8, .int r_1), (9, .int v9_1), (10, .int v10_1)] dX0_narrowByRow_169 rfl rfl (Nat.le_of_ble_eq_true rfl) ev7_1 rfl ?_
          refine x_goto (pc := 172) C 69 dX0_narrowByRow_172 rfl ?_
          exact x_sub [3, 4, 5, 2, 1, 6, 7, 0] rfl (ih _ _ _ _ _ h hx)
        refine x_if_eq (pc := 138) C 144 dX0_narrowByRow_138 rfl (fun c_3 => ?_) (fun c_3 => ?_)
        · refine x_sub [3, 4, 5, 8, 9, 10, 2, 1, 0] rfl ?_
          rw [show v6_1 = v6 from (ev6_1.trans (if_pos c_3))] at kd_1
          exact kd_1
        · refine x_iconst (pc := 141) C (v := (1 : Int32)) dX0_narrowByRow_141 rfl ?_
          refine x_istore (pc := 142) C [(6, .int (1 : Int32)), (10, .int v10_1), (9, .int v9_1), (8, .int r_1), (0, .ref (b + o)), (1, .ref (b + o1)), (2, .int v2), (3, .int v3), (4, .int v4), (5, .int v5), (7, .int v7)] dX0_narrowByRow_142 (Nat.le_of_ble_eq_true rfl) rfl rfl ?_
          refine x_sub [4, 5, 6, 9, 0, 10, 3, 2, 1] rfl ?_
          rw [show v6_1 = (1 : Int32) from (ev6_1.trans (if_neg c_3))] at kd_1
          exact kd_1
      · replace h := of_ifp c_2 h
        refine x_goto (pc := 92) C 169 dX0_narrowByRow_92 rfl ?_
        obtain ⟨v7_2, ev7_2, h⟩ := of_lt h
        refine x_iinc (pc := 169) C (w := (1 : Int32)) 8 [(7, .int v7_2), (8, .int r_1), (0, .ref (b + o)), (1, .ref (b + o1)), (2, .int v2), (3, .int v3), (4, .int v4), (5, .int v5), (6, .int v6)] dX0_narrowByRow_169 rfl rfl (Nat.le_of_ble_eq_true rfl) ev7_2 rfl ?_
        refine x_goto (pc := 172) C 69 dX0_narrowByRow_172 rfl ?_
        exact x_sub [2, 3, 4, 5, 6, 7, 8, 0] rfl (ih _ _ _ _ _ h hx)
set_option maxRecDepth 100000 in
set_option maxHeartbeats 4000000 in
theorem c_X0_narrowByRow {l : Launch} {G : zz_G} {L : Ly} {b : Nat} (o : Nat) (o1 : Nat) (p2 : Int32) (hO : isNa L o) (h1 : isW L o1) (S : Sg) (rf : Int32) (Sf : Sg) (h : f_X0_narrowByRow o o1 p2 S = some (rf, Sf)) : Met l yX0_narrowByRow (Cond.code yX0_narrowByRow cX0_narrowByRow 11 (some .boolean) :: zz_all) (rmz 3 64) (PC G L b S [.ref (b + o), .ref (b + o1), .int p2]) (QC G L b Sf (some (.int rf)) (rf = 0 ∨ rf = 1)) 0 0 (fun q => b ≤ q) := by
  refine x_met [.ref (b + o), .ref (b + o1), .int p2] (by decide +kernel) (Nat.le_of_ble_eq_true rfl) fun p e s m args below meth c C => ?_
  unfold f_X0_narrowByRow at h
  refine x_iconst (pc := 0) C (v := (0 : Int32)) dX0_narrowByRow_0 rfl ?_
  refine x_istore_n (pc := 1) C 3 [(3, .int (0 : Int32)), (0, .ref (b + o)), (1, .ref (b + o1)), (2, .int p2)] dX0_narrowByRow_1 rfl (Nat.le_of_ble_eq_true rfl) rfl rfl ?_
  refine x_iconst (pc := 2) C (v := (0 : Int32)) dX0_narrowByRow_2 rfl ?_
  refine x_istore (pc := 3) C [(4, .int (0 : Int32)), (3, .int (0 : Int32)), (0, .ref (b + o)), (1, .ref (b + o1)), (2, .int p2)] dX0_narrowByRow_3 (Nat.le_of_ble_eq_true rfl) rfl rfl ?_
  refine x_iconst (pc := 5) C (v := (0 : Int32)) dX0_narrowByRow_5 rfl ?_
  refine x_istore (pc := 6) C [(5, .int (0 : Int32)), (4, .int (0 : Int32)), (3, .int (0 : Int32)), (0, .ref (b + o)), (1, .ref (b + o1)), (2, .int p2)] dX0_narrowByRow_6 (Nat.le_of_ble_eq_true rfl) rfl rfl ?_
  refine x_sub [3, 4, 5, 2, 1, 0] rfl ?_
  obtain ⟨z_hz_2, hz_2, h⟩ := of_bd h
  refine l_X0_narrowByRow_8 C o o1 hO h1 p2 S 400 _ _ _ hz_2 (fun v3_1 v4_1 ez => ?_)
  subst z_hz_2
  replace h := of_u2 h
  refine x_aload_n (pc := 56) C 1 dX0_narrowByRow_56 rfl ?_
  refine x_iload_n (pc := 57) C 2 dX0_narrowByRow_57 rfl ?_
  obtain ⟨r_1, hc_1, h⟩ := of_bd h
  refine x_callV1 (pc := 58) C (o := o1) [.int p2] [] (c_X5_answerOf (b := b) o1 p2 h1 S _ hc_1) cw_X0_54 vi_X5_answerOf ⟨rfl, rfl, Nat.le_of_ble_eq_true rfl, Nat.le_of_ble_eq_true rfl⟩ ⟨Nat.le_refl _, Nat.le_refl _⟩ h1.1 ⟨rfl, rfl, rfl⟩ rfl ⟨rfl, Nat.le_of_ble_eq_true rfl⟩ dX0_narrowByRow_58 (fun hx_1 => ?_)
  refine x_istore (pc := 61) C [(5, .int r_1), (0, .ref (b + o)), (1, .ref (b + o1)), (2, .int p2), (3, .int v3_1), (4, .int v4_1)] dX0_narrowByRow_61 (Nat.le_of_ble_eq_true rfl) rfl rfl ?_
  refine x_iconst (pc := 63) C (v := (0 : Int32)) dX0_narrowByRow_63 rfl ?_
  refine x_istore (pc := 64) C [(6, .int (0 : Int32)), (5, .int r_1), (0, .ref (b + o)), (1, .ref (b + o1)), (2, .int p2), (3, .int v3_1), (4, .int v4_1)] dX0_narrowByRow_64 (Nat.le_of_ble_eq_true rfl) rfl rfl ?_
  refine x_iconst (pc := 66) C (v := (0 : Int32)) dX0_narrowByRow_66 rfl ?_
  refine x_istore (pc := 67) C [(7, .int (0 : Int32)), (6, .int (0 : Int32)), (5, .int r_1), (0, .ref (b + o)), (1, .ref (b + o1)), (2, .int p2), (3, .int v3_1), (4, .int v4_1)] dX0_narrowByRow_67 (Nat.le_of_ble_eq_true rfl) rfl rfl ?_
  refine x_sub [3, 4, 5, 6, 7, 2, 1, 0] rfl ?_
  obtain ⟨z_hz_1, hz_1, h⟩ := of_bd h
  refine l_X0_narrowByRow_69 C o o1 hO h1 p2 r_1 400 _ _ _ _ _ hz_1 (fun v6_1 S_1 ez => ?_)
  subst z_hz_1
  replace h := of_u2 h
  refine x_iload (pc := 175) C 0 dX0_narrowByRow_175 rfl ?_
  obtain ⟨g_1, h⟩ := of_gd h
  exact x_zreturn (pc := 177) C (of_isb g_1) dX0_narrowByRow_177 (of_sp h).1 (of_sp h).2
set_option maxRecDepth 100000 in
set_option maxHeartbeats 4000000 in
theorem l_X0_narrow_15 {p : Program} {l : Launch} {e : Env} {s : State} {m : MethodId} {args : Array Value} {below : List Frame} {meth : Method} {c : Code} {G : zz_G} {L : Ly} {b : Nat} {Q : State → Prop} (C : CX p G s m args meth c cX0_narrow yX0_narrow 5 none) (o : Nat) (o1 : Nat) (hO : isNa L o) (h1 : isW L o1) : ∀ (n : Nat) (v2 : Int32) (S : Sg) {z}, L_X0_narrow_15 o o1 n v2 S = some z → (∀ (S_o : Sg), z = S_o → X p l e (rmz 4 94) s m args below meth c 0 0 Q 5 G L b S_o 51 [(0, .ref (b + o)), (1, .ref (b + o1))] []) → X p l e (rmz 4 94) s m args below meth c 0 0 Q 5 G L b S 15 [(0, .ref (b + o)), (1, .ref (b + o1)), (2, .int v2)] [] := by
  intro n
  induction n with
  | zero =>
    intro v2 S z h
    exact of_none h
  | succ n ih =>
    intro v2 S z h hx
    rw [L_X0_narrow_15] at h
    refine x_iload_n (pc := 15) C 2 dX0_narrow_15 rfl ?_
    refine x_aload_n (pc := 16) C 0 dX0_narrow_16 rfl ?_
    refine x_geti (pc := 17) C (k := 2) hO.1 rfl rfl wd_128 dX0_narrow_17 ⟨Nat.le_of_ble_eq_true rfl, rfl⟩ ?_
    refine x_icmp_ge (pc := 20) C 51 dX0_narrow_20 rfl (fun c_1 => ?_) (fun c_1 => ?_)
    · replace h := of_ifn c_1 h
      exact x_sub [0, 1] rfl (hx _ (of_s1 h).symm)
    · replace h := of_ifp c_1 h
      refine x_aload_n (pc := 23) C 0 dX0_narrow_23 rfl ?_
      refine x_getr (pc := 24) C (k := 0) (o + 1) hO.1 rfl rfl wd_126 dX0_narrow_24 (Nat.le_of_ble_eq_true rfl) rfl ?_
      refine x_iload_n (pc := 27) C 2 dX0_narrow_27 rfl ?_
      refine x_aload_n (pc := 28) C 1 dX0_narrow_28 rfl ?_
      refine x_iload_n (pc := 29) C 2 dX0_narrow_29 rfl ?_
      obtain ⟨r_1, hc_1, h⟩ := of_bd h
      refine x_callV1 (pc := 30) C (o := o1) [.int v2] [.int v2, .ref (b + (o + 1))] (c_X5_lowOf (b := b) o1 v2 h1 S _ hc_1) cw_X0_31 vi_X5_lowOf ⟨rfl, rfl, Nat.le_of_ble_eq_true rfl, Nat.le_of_ble_eq_true rfl⟩ ⟨Nat.le_refl _, Nat.le_refl _⟩ h1.1 ⟨rfl, rfl, rfl⟩ rfl ⟨rfl, Nat.le_of_ble_eq_true rfl⟩ dX0_narrow_30 (fun hx_1 => ?_)
      obtain ⟨g_1, h⟩ := of_gd h
      obtain ⟨S_1, eS_1, h⟩ := of_lt h
      refine x_iastore (pc := 33) C hO.2.1 g_1 eS_1 dX0_narrow_33 ?_
      refine x_aload_n (pc := 34) C 0 dX0_narrow_34 rfl ?_
      refine x_getr (pc := 35) C (k := 1) (o + 2) hO.1 rfl rfl wd_127 dX0_narrow_35 (Nat.le_of_ble_eq_true rfl) rfl ?_
      refine x_iload_n (pc := 38) C 2 dX0_narrow_38 rfl ?_
      refine x_aload_n (pc := 39) C 1 dX0_narrow_39 rfl ?_
      refine x_iload_n (pc := 40) C 2 dX0_narrow_40 rfl ?_
      obtain ⟨r_2, hc_2, h⟩ := of_bd h
      refine x_callV1 (pc := 41) C (o := o1) [.int v2] [.int v2, .ref (b + (o + 2))] (c_X5_highOf (b := b) o1 v2 h1 S_1 _ hc_2) cw_X0_35 vi_X5_highOf ⟨rfl, rfl, Nat.le_of_ble_eq_true rfl, Nat.le_of_ble_eq_true rfl⟩ ⟨Nat.le_refl _, Nat.le_refl _⟩ h1.1 ⟨rfl, rfl, rfl⟩ rfl ⟨rfl, Nat.le_of_ble_eq_true rfl⟩ dX0_narrow_41 (fun hx_2 => ?_)
      obtain ⟨S_2, eS_2, h⟩ := of_lt h
      refine x_iastore (pc := 44) C hO.2.2 g_1 eS_2 dX0_narrow_44 ?_
      obtain ⟨v2_1, ev2_1, h⟩ := of_lt h
      refine x_iinc (pc := 45) C (w := (1 : Int32)) 2 [(2, .int v2_1), (0, .ref (b + o)), (1, .ref (b + o1))] dX0_narrow_45 rfl rfl (Nat.le_of_ble_eq_true rfl) ev2_1 rfl ?_
      refine x_goto (pc := 48) C 15 dX0_narrow_48 rfl ?_
      exact x_sub [1, 2, 0] rfl (ih _ _ h hx)
set_option maxRecDepth 100000 in
set_option maxHeartbeats 4000000 in
theorem l_X0_narrow_70 {p : Program} {l : Launch} {e : Env} {s : State} {m : MethodId} {args : Array Value} {below : List Frame} {meth : Method} {c : Code} {G : zz_G} {L : Ly} {b : Nat} {Q : State → Prop} (C : CX p G s m args meth c cX0_narrow yX0_narrow 5 none) (o : Nat) (o1 : Nat) (hO : isNa L o) (h1 : isW L o1) (v3 : Int32) : ∀ (n : Nat) (v2 : Int32) (v4 : Int32) (S : Sg) {z}, L_X0_narrow_70 o o1 v3 n v2 v4 S = some z → (∀ (v2_o : Int32) (S_o : Sg), z = (v2_o, S_o) → X p l e (rmz 4 94) s m args below meth c 0 0 Q 5 G L b S_o 97 [(0, .ref (b + o)), (1, .ref (b + o1)), (2, .int v2_o), (3, .int v3)] []) → X p l e (rmz 4 94) s m args below meth c 0 0 Q 5 G L b S 70 [(0, .ref (b + o)), (1, .ref (b + o1)), (2, .int v2), (3, .int v3), (4, .int v4)] [] := by
  intro n
  induction n with
  | zero =>
    intro v2 v4 S z h
    exact of_none h
  | succ n ih =>
    intro v2 v4 S z h hx
    rw [L_X0_narrow_70] at h
    refine x_iload (pc := 70) C 4 dX0_narrow_70 rfl ?_
    refine x_aload_n (pc := 72) C 1 dX0_narrow_72 rfl ?_
    refine x_geti (pc := 73) C (k := 9) h1.1 rfl rfl wd_72 dX0_narrow_73 ⟨Nat.le_of_ble_eq_true rfl, rfl⟩ ?_
    refine x_icmp_ge (pc := 76) C 97 dX0_narrow_76 rfl (fun c_1 => ?_) (fun c_1 => ?_)
    · replace h := of_ifn c_1 h
      exact x_sub [0, 1, 2, 3] rfl (hx _ _ (of_s1 h).symm)
    · replace h := of_ifp c_1 h
      refine x_aload_n (pc := 79) C 0 dX0_narrow_79 rfl ?_
      refine x_aload_n (pc := 80) C 1 dX0_narrow_80 rfl ?_
      refine x_iload (pc := 81) C 4 dX0_narrow_81 rfl ?_
      obtain ⟨⟨r_1, S_1⟩, hc_1, h⟩ := of_bd h
      replace h := of_u2 h
      refine x_callV1 (pc := 83) C (o := o) [.ref (b + o1), .int v4] [] (c_X0_narrowByRow (b := b) o o1 v4 hO h1 S _ _ hc_1) cw_X0_41 vi_X0_narrowByRow ⟨rfl, rfl, Nat.le_of_ble_eq_true rfl, Nat.le_of_ble_eq_true rfl⟩ ⟨Nat.le_refl _, Nat.le_refl _⟩ hO.1 ⟨rfl, rfl, rfl⟩ rfl ⟨rfl, Nat.le_of_ble_eq_true rfl⟩ dX0_narrow_83 (fun hx_1 => ?_)
      obtain ⟨v2_1, ev2_1, h⟩ := of_lt h
      have kd_1 : X p l e (rmz 4 94) s m args below meth c 0 0 Q 5 G L b S_1 91 [(0, .ref (b + o)), (1, .ref (b + o1)), (2, .int v2_1), (3, .int v3), (4, .int v4)] [] := by
        obtain ⟨v4_1, ev4_1, h⟩ := of_lt h
        refine x_iinc (pc := 91) C (w := (1 : Int32)) 4 [(4, .int v4_1), (0, .ref (b + o)), (1, .ref (b + o1)), (2, .int v2_1), (3, .int v3)] dX0_narrow_91 rfl rfl (Nat.le_of_ble_eq_true rfl) ev4_1 rfl ?_
        refine x_goto (pc := 94) C 70 dX0_narrow_94 rfl ?_
        exact x_sub [1, 2, 3, 4, 0] rfl (ih _ _ _ h hx)
      refine x_if_eq (pc := 86) C 91 dX0_narrow_86 rfl (fun c_2 => ?_) (fun c_2 => ?_)
      · refine x_sub [0, 1, 2, 3, 4] rfl ?_
        rw [show v2_1 = v2 from (ev2_1.trans (if_pos c_2))] at kd_1
        exact kd_1
      · refine x_iconst (pc := 89) C (v := (1 : Int32)) dX0_narrow_89 rfl ?_
        refine x_istore_n (pc := 90) C 2 [(2, .int (1 : Int32)), (0, .ref (b + o)), (1, .ref (b + o1)), (3, .int v3), (4, .int v4)] dX0_narrow_90 rfl (Nat.le_of_ble_eq_true rfl) rfl rfl ?_
        refine x_sub [1, 2, 0, 3, 4] rfl ?_
        rw [show v2_1 = (1 : Int32) from (ev2_1.trans (if_neg c_2))] at kd_1
        exact kd_1
set_option maxRecDepth 100000 in
set_option maxHeartbeats 4000000 in
theorem l_X0_narrow_55 {p : Program} {l : Launch} {e : Env} {s : State} {m : MethodId} {args : Array Value} {below : List Frame} {meth : Method} {c : Code} {G : zz_G} {L : Ly} {b : Nat} {Q : State → Prop} (C : CX p G s m args meth c cX0_narrow yX0_narrow 5 none) (o : Nat) (o1 : Nat) (hO : isNa L o) (h1 : isW L o1) : ∀ (n : Nat) (v2 : Int32) (v3 : Int32) (S : Sg) {z}, L_X0_narrow_55 o o1 n v2 v3 S = some z → (∀ (S_o : Sg), z = S_o → X p l e (rmz 4 94) s m args below meth c 0 0 Q 5 G L b S_o 103 [] []) → X p l e (rmz 4 94) s m args below meth c 0 0 Q 5 G L b S 55 [(0, .ref (b + o)), (1, .ref (b + o1)), (2, .int v2), (3, .int v3)] [] := by
  intro n
  induction n with
  | zero =>
    intro v2 v3 S z h
    exact of_none h
  | succ n ih =>
    intro v2 v3 S z h hx
    rw [L_X0_narrow_55] at h
    refine x_iload_n (pc := 55) C 3 dX0_narrow_55 rfl ?_
    refine x_bipush (pc := 56) C (v := (60 : Int32)) dX0_narrow_56 rfl ?_
    refine x_icmp_ge (pc := 58) C 103 dX0_narrow_58 rfl (fun c_1 => ?_) (fun c_1 => ?_)
    · replace h := of_ifn c_1 h
      exact x_sub [] rfl (hx _ (of_s1 h).symm)
    · replace h := of_ifp c_1 h
      refine x_iload_n (pc := 61) C 2 dX0_narrow_61 rfl ?_
      refine x_if_eq (pc := 62) C 103 dX0_narrow_62 rfl (fun c_2 => ?_) (fun c_2 => ?_)
      · replace h := of_ifp c_2 h
        exact x_sub [] rfl (hx _ (of_s1 h).symm)
      · replace h := of_ifn c_2 h
        refine x_iconst (pc := 65) C (v := (0 : Int32)) dX0_narrow_65 rfl ?_
        refine x_istore_n (pc := 66) C 2 [(2, .int (0 : Int32)), (0, .ref (b + o)), (1, .ref (b + o1)), (3, .int v3)] dX0_narrow_66 rfl (Nat.le_of_ble_eq_true rfl) rfl rfl ?_
        refine x_iconst (pc := 67) C (v := (0 : Int32)) dX0_narrow_67 rfl ?_
        refine x_istore (pc := 68) C [(4, .int (0 : Int32)), (2, .int (0 : Int32)), (0, .ref (b + o)), (1, .ref (b + o1)), (3, .int v3)] dX0_narrow_68 (Nat.le_of_ble_eq_true rfl) rfl rfl ?_
        refine x_sub [2, 3, 1, 4, 0] rfl ?_
        obtain ⟨z_hz_1, hz_1, h⟩ := of_bd h
        refine l_X0_narrow_70 C o o1 hO h1 v3 400 _ _ _ hz_1 (fun v2_1 S_1 ez => ?_)
        subst z_hz_1
        replace h := of_u2 h
        obtain ⟨v3_1, ev3_1, h⟩ := of_lt h
        refine x_iinc (pc := 97) C (w := (1 : Int32)) 3 [(3, .int v3_1), (0, .ref (b + o)), (1, .ref (b + o1)), (2, .int v2_1)] dX0_narrow_97 rfl rfl (Nat.le_of_ble_eq_true rfl) ev3_1 rfl ?_
        refine x_goto (pc := 100) C 55 dX0_narrow_100 rfl ?_
        exact x_sub [1, 2, 3, 0] rfl (ih _ _ _ h hx)
set_option maxRecDepth 100000 in
set_option maxHeartbeats 4000000 in
theorem c_X0_narrow {l : Launch} {G : zz_G} {L : Ly} {b : Nat} (o : Nat) (o1 : Nat) (hO : isNa L o) (h1 : isW L o1) (S : Sg) (Sf : Sg) (h : f_X0_narrow o o1 S = some Sf) : Met l yX0_narrow (Cond.code yX0_narrow cX0_narrow 5 none :: zz_all) (rmz 4 94) (PC G L b S [.ref (b + o), .ref (b + o1)]) (QC G L b Sf none True) 0 0 (fun q => b ≤ q) := by
  refine x_met [.ref (b + o), .ref (b + o1)] (by decide +kernel) (Nat.le_of_ble_eq_true rfl) fun p e s m args below meth c C => ?_
  unfold f_X0_narrow at h
  refine x_aload_n (pc := 0) C 0 dX0_narrow_0 rfl ?_
  refine x_aload_n (pc := 1) C 1 dX0_narrow_1 rfl ?_
  refine x_geti (pc := 2) C (k := 4) h1.1 rfl rfl wd_64 dX0_narrow_2 ⟨Nat.le_of_ble_eq_true rfl, rfl⟩ ?_
  refine x_bipush (pc := 5) C (v := (10 : Int32)) dX0_narrow_5 rfl ?_
  refine x_callS1 (pc := 7) C [.int (S.1 o1 4), .int (10 : Int32)] [.ref (b + o)] (c_J9_min_7cf53 (b := b) (S.1 o1 4) (10 : Int32) S) cw_X0_24 vs_J9_min_7cf53 ⟨rfl, rfl, Nat.le_of_ble_eq_true rfl, Nat.le_of_ble_eq_true rfl⟩ ⟨Nat.le_refl _, Nat.le_refl _⟩ rfl ⟨rfl, Nat.le_of_ble_eq_true rfl⟩ dX0_narrow_7 (fun hx_1 => ?_)
  obtain ⟨S_1, eS_1, h⟩ := of_lt h
  refine x_puti (pc := 10) C (k := 2) hO.1 rfl rfl wd_128 dX0_narrow_10 ⟨Nat.le_of_ble_eq_true rfl, rfl⟩ eS_1 ?_
  refine x_iconst (pc := 13) C (v := (0 : Int32)) dX0_narrow_13 rfl ?_
  refine x_istore_n (pc := 14) C 2 [(2, .int (0 : Int32)), (0, .ref (b + o)), (1, .ref (b + o1))] dX0_narrow_14 rfl (Nat.le_of_ble_eq_true rfl) rfl rfl ?_
  refine x_sub [1, 2, 0] rfl ?_
  obtain ⟨z_hz_2, hz_2, h⟩ := of_bd h
  refine l_X0_narrow_15 C o o1 hO h1 400 _ _ hz_2 (fun S_2 ez => ?_)
  subst z_hz_2
  refine x_iconst (pc := 51) C (v := (1 : Int32)) dX0_narrow_51 rfl ?_
  refine x_istore_n (pc := 52) C 2 [(2, .int (1 : Int32)), (0, .ref (b + o)), (1, .ref (b + o1))] dX0_narrow_52 rfl (Nat.le_of_ble_eq_true rfl) rfl rfl ?_
  refine x_iconst (pc := 53) C (v := (0 : Int32)) dX0_narrow_53 rfl ?_
  refine x_istore_n (pc := 54) C 3 [(3, .int (0 : Int32)), (2, .int (1 : Int32)), (0, .ref (b + o)), (1, .ref (b + o1))] dX0_narrow_54 rfl (Nat.le_of_ble_eq_true rfl) rfl rfl ?_
  refine x_sub [2, 3, 1, 0] rfl ?_
  obtain ⟨z_hz_1, hz_1, h⟩ := of_bd h
  refine l_X0_narrow_55 C o o1 hO h1 400 _ _ _ hz_1 (fun S_3 ez => ?_)
  subst z_hz_1
  exact x_vreturn (pc := 103) C dX0_narrow_103 (of_s1 h)
set_option maxRecDepth 100000 in
set_option maxHeartbeats 4000000 in
theorem c_X0_widthOf {l : Launch} {G : zz_G} {L : Ly} {b : Nat} (o : Nat) (p1 : Int32) (hO : isNa L o) (S : Sg) (rf : Int32) (h : f_X0_widthOf o p1 S = some rf) : Met l yX0_widthOf (Cond.code yX0_widthOf cX0_widthOf 2 (some .int) :: zz_all) (rmz 2 42) (PC G L b S [.ref (b + o), .int p1]) (QC G L b S (some (.int rf)) True) 0 0 (fun q => b ≤ q) := by
  refine x_met [.ref (b + o), .int p1] (by decide +kernel) (Nat.le_of_ble_eq_true rfl) fun p e s m args below meth c C => ?_
  unfold f_X0_widthOf at h
  refine x_aload_n (pc := 0) C 0 dX0_widthOf_0 rfl ?_
  refine x_iload_n (pc := 1) C 1 dX0_widthOf_1 rfl ?_
  obtain ⟨r_1, hc_1, h⟩ := of_bd h
  refine x_callV1 (pc := 2) C (o := o) [.int p1] [] (c_X0_mostOf (b := b) o p1 hO S _ hc_1) cw_X0_71 vi_X0_mostOf ⟨rfl, rfl, Nat.le_of_ble_eq_true rfl, Nat.le_of_ble_eq_true rfl⟩ ⟨Nat.le_refl _, Nat.le_refl _⟩ hO.1 ⟨rfl, rfl, rfl⟩ rfl ⟨rfl, Nat.le_of_ble_eq_true rfl⟩ dX0_widthOf_2 (fun hx_1 => ?_)
  refine x_aload_n (pc := 5) C 0 dX0_widthOf_5 rfl ?_
  refine x_iload_n (pc := 6) C 1 dX0_widthOf_6 rfl ?_
  obtain ⟨r_2, hc_2, h⟩ := of_bd h
  refine x_callV1 (pc := 7) C (o := o) [.int p1] [.int r_1] (c_X0_leastOf (b := b) o p1 hO S _ hc_2) cw_X0_68 vi_X0_leastOf ⟨rfl, rfl, Nat.le_of_ble_eq_true rfl, Nat.le_of_ble_eq_true rfl⟩ ⟨Nat.le_refl _, Nat.le_refl _⟩ hO.1 ⟨rfl, rfl, rfl⟩ rfl ⟨rfl, Nat.le_of_ble_eq_true rfl⟩ dX0_widthOf_7 (fun hx_2 => ?_)
  refine x_isub (pc := 10) C dX0_widthOf_10 ?_
  refine x_iconst (pc := 11) C (v := (1 : Int32)) dX0_widthOf_11 rfl ?_
  refine x_iadd (pc := 12) C dX0_widthOf_12 ?_
  exact x_ireturn (pc := 13) C dX0_widthOf_13 (of_s1 h) rfl
set_option maxRecDepth 100000 in
set_option maxHeartbeats 4000000 in
theorem c_X6_narrowed {l : Launch} {G : zz_G} {L : Ly} {b : Nat} (p1 : Int32) (p2 : Int32) (hO : isGu L) (S : Sg) (rf : Int32) (Sf : Sg) (h : f_X6_narrowed p1 p2 S = some (rf, Sf)) : Met l yX6_narrowed (Cond.code yX6_narrowed cX6_narrowed 3 (some .int) :: zz_all) (rmz 5 118) (PC G L b S [.ref (b + 0), .int p1, .int p2]) (QC G L b Sf (some (.int rf)) True) 0 0 (fun q => b ≤ q) := by
  refine x_met [.ref (b + 0), .int p1, .int p2] (by decide +kernel) (Nat.le_of_ble_eq_true rfl) fun p e s m args below meth c C => ?_
  unfold f_X6_narrowed at h
  refine x_aload_n (pc := 0) C 0 dX6_narrowed_0 rfl ?_
  refine x_getr (pc := 1) C (k := 5) 132 hO.1 rfl rfl wd_154 dX6_narrowed_1 (Nat.le_of_ble_eq_true rfl) rfl ?_
  refine x_aload_n (pc := 4) C 0 dX6_narrowed_4 rfl ?_
  refine x_getr (pc := 5) C (k := 0) 1 hO.1 rfl rfl wd_149 dX6_narrowed_5 (Nat.le_of_ble_eq_true rfl) rfl ?_
  obtain ⟨S_1, hc_1, h⟩ := of_bd h
  refine x_callV_ (pc := 8) C (o := 132) [.ref (b + 1)] [] (c_X0_narrow (b := b) 132 1 hO.2.2.2.2.2.1 hO.2.1 S _ hc_1) cw_X6_104 vi_X0_narrow ⟨rfl, rfl, Nat.le_of_ble_eq_true rfl, Nat.le_of_ble_eq_true rfl⟩ ⟨Nat.le_refl _, Nat.le_refl _⟩ hO.2.2.2.2.2.1.1 ⟨rfl, rfl, rfl⟩ rfl ⟨rfl, Nat.le_of_ble_eq_true rfl⟩ dX6_narrowed_8 (fun hx_1 => ?_)
  refine x_iload_n (pc := 11) C 2 dX6_narrowed_11 rfl ?_
  refine x_iconst (pc := 12) C (v := (3 : Int32)) dX6_narrowed_12 rfl ?_
  refine x_icmp_ne (pc := 13) C 27 dX6_narrowed_13 rfl (fun c_1 => ?_) (fun c_1 => ?_)
  · replace h := of_ifn c_1 h
    refine x_iload_n (pc := 27) C 2 dX6_narrowed_27 rfl ?_
    refine x_iconst (pc := 28) C (v := (4 : Int32)) dX6_narrowed_28 rfl ?_
    refine x_icmp_ne (pc := 29) C 43 dX6_narrowed_29 rfl (fun c_2 => ?_) (fun c_2 => ?_)
    · replace h := of_ifn c_2 h
      refine x_aload_n (pc := 43) C 0 dX6_narrowed_43 rfl ?_
      refine x_getr (pc := 44) C (k := 5) 132 hO.1 rfl rfl wd_154 dX6_narrowed_44 (Nat.le_of_ble_eq_true rfl) rfl ?_
      refine x_iload_n (pc := 47) C 1 dX6_narrowed_47 rfl ?_
      obtain ⟨r_1, hc_2, h⟩ := of_bd h
      refine x_callV1 (pc := 48) C (o := 132) [.int p1] [] (c_X0_widthOf (b := b) 132 p1 hO.2.2.2.2.2.1 S_1 _ hc_2) cw_X6_113 vi_X0_widthOf ⟨rfl, rfl, Nat.le_of_ble_eq_true rfl, Nat.le_of_ble_eq_true rfl⟩ ⟨Nat.le_refl _, Nat.le_refl _⟩ hO.2.2.2.2.2.1.1 ⟨rfl, rfl, rfl⟩ rfl ⟨rfl, Nat.le_of_ble_eq_true rfl⟩ dX6_narrowed_48 (fun hx_2 => ?_)
      exact x_ireturn (pc := 51) C dX6_narrowed_51 (of_sp h).1 (of_sp h).2
    · replace h := of_ifp c_2 h
      refine x_aload_n (pc := 32) C 0 dX6_narrowed_32 rfl ?_
      refine x_getr (pc := 33) C (k := 5) 132 hO.1 rfl rfl wd_154 dX6_narrowed_33 (Nat.le_of_ble_eq_true rfl) rfl ?_
      refine x_iload_n (pc := 36) C 1 dX6_narrowed_36 rfl ?_
      obtain ⟨r_2, hc_3, h⟩ := of_bd h
      refine x_callV1 (pc := 37) C (o := 132) [.int p1] [] (c_X0_mostOf (b := b) 132 p1 hO.2.2.2.2.2.1 S_1 _ hc_3) cw_X6_110 vi_X0_mostOf ⟨rfl, rfl, Nat.le_of_ble_eq_true rfl, Nat.le_of_ble_eq_true rfl⟩ ⟨Nat.le_refl _, Nat.le_refl _⟩ hO.2.2.2.2.2.1.1 ⟨rfl, rfl, rfl⟩ rfl ⟨rfl, Nat.le_of_ble_eq_true rfl⟩ dX6_narrowed_37 (fun hx_3 => ?_)
      refine x_goto (pc := 40) C 51 dX6_narrowed_40 rfl ?_
      exact x_ireturn (pc := 51) C dX6_narrowed_51 (of_sp h).1 (of_sp h).2
  · replace h := of_ifp c_1 h
    refine x_aload_n (pc := 16) C 0 dX6_narrowed_16 rfl ?_
    refine x_getr (pc := 17) C (k := 5) 132 hO.1 rfl rfl wd_154 dX6_narrowed_17 (Nat.le_of_ble_eq_true rfl) rfl ?_
    refine x_iload_n (pc := 20) C 1 dX6_narrowed_20 rfl ?_
    obtain ⟨r_3, hc_4, h⟩ := of_bd h
    refine x_callV1 (pc := 21) C (o := 132) [.int p1] [] (c_X0_leastOf (b := b) 132 p1 hO.2.2.2.2.2.1 S_1 _ hc_4) cw_X6_107 vi_X0_leastOf ⟨rfl, rfl, Nat.le_of_ble_eq_true rfl, Nat.le_of_ble_eq_true rfl⟩ ⟨Nat.le_refl _, Nat.le_refl _⟩ hO.2.2.2.2.2.1.1 ⟨rfl, rfl, rfl⟩ rfl ⟨rfl, Nat.le_of_ble_eq_true rfl⟩ dX6_narrowed_21 (fun hx_4 => ?_)
    refine x_goto (pc := 24) C 51 dX6_narrowed_24 rfl ?_
    exact x_ireturn (pc := 51) C dX6_narrowed_51 (of_sp h).1 (of_sp h).2
set_option maxRecDepth 100000 in
set_option maxHeartbeats 4000000 in
theorem c_X6_variable {l : Launch} {G : zz_G} {L : Ly} {b : Nat} (p1 : Int32) (p2 : Int32) (hO : isGu L) (S : Sg) (rf : Int32) (Sf : Sg) (h : f_X6_variable p1 p2 S = some (rf, Sf)) : Met l yX6_variable (Cond.code yX6_variable cX6_variable 3 (some .int) :: zz_all) (rmz 6 140) (PC G L b S [.ref (b + 0), .int p1, .int p2]) (QC G L b Sf (some (.int rf)) True) 0 0 (fun q => b ≤ q) := by
  refine x_met [.ref (b + 0), .int p1, .int p2] (by decide +kernel) (Nat.le_of_ble_eq_true rfl) fun p e s m args below meth c C => ?_
  unfold f_X6_variable at h
  refine x_aload_n (pc := 0) C 0 dX6_variable_0 rfl ?_
  refine x_getr (pc := 1) C (k := 0) 1 hO.1 rfl rfl wd_149 dX6_variable_1 (Nat.le_of_ble_eq_true rfl) rfl ?_
  refine x_iload_n (pc := 4) C 1 dX6_variable_4 rfl ?_
  refine x_callV1 (pc := 5) C (o := 1) [.int p1] [] (c_X5_has (b := b) 1 p1 hO.2.1 S) cw_X6_91 vi_X5_has ⟨rfl, rfl, Nat.le_of_ble_eq_true rfl, Nat.le_of_ble_eq_true rfl⟩ ⟨Nat.le_refl _, Nat.le_refl _⟩ hO.2.1.1 ⟨rfl, rfl, rfl⟩ rfl ⟨rfl, Nat.le_of_ble_eq_true rfl⟩ dX6_variable_5 (fun hx_1 => ?_)
  refine x_if_ne (pc := 8) C 17 dX6_variable_8 rfl (fun c_1 => ?_) (fun c_1 => ?_)
  · replace h := of_ifn c_1 h
    refine x_iload_n (pc := 17) C 2 dX6_variable_17 rfl ?_
    refine x_bipush (pc := 18) C (v := (7 : Int32)) dX6_variable_18 rfl ?_
    refine x_callS1 (pc := 20) C [.int p2, .int (7 : Int32)] [] (c_X6_isWithin (b := b) p2 (7 : Int32) S) cw_X6_69 vs_X6_isWithin ⟨rfl, rfl, Nat.le_of_ble_eq_true rfl, Nat.le_of_ble_eq_true rfl⟩ ⟨Nat.le_refl _, Nat.le_refl _⟩ rfl ⟨rfl, Nat.le_of_ble_eq_true rfl⟩ dX6_variable_20 (fun hx_2 => ?_)
    refine x_if_ne (pc := 23) C 33 dX6_variable_23 rfl (fun c_2 => ?_) (fun c_2 => ?_)
    · replace h := of_ifn c_2 h
      refine x_iload_n (pc := 33) C 2 dX6_variable_33 rfl ?_
      by_cases c_3 : p2 = (0 : Int32)
      · replace h := of_ifp c_3 h
        refine x_tabIn (pc := 34) C 76 dX6_variable_34 c_3 (by decide) (by decide) rfl rfl ?_
        refine x_aload_n (pc := 76) C 0 dX6_variable_76 rfl ?_
        refine x_getr (pc := 77) C (k := 0) 1 hO.1 rfl rfl wd_149 dX6_variable_77 (Nat.le_of_ble_eq_true rfl) rfl ?_
        refine x_iload_n (pc := 80) C 1 dX6_variable_80 rfl ?_
        obtain ⟨r_1, hc_1, h⟩ := of_bd h
        refine x_callV1 (pc := 81) C (o := 1) [.int p1] [] (c_X5_valueOf (b := b) 1 p1 hO.2.1 S _ hc_1) cw_X6_80 vi_X5_valueOf ⟨rfl, rfl, Nat.le_of_ble_eq_true rfl, Nat.le_of_ble_eq_true rfl⟩ ⟨Nat.le_refl _, Nat.le_refl _⟩ hO.2.1.1 ⟨rfl, rfl, rfl⟩ rfl ⟨rfl, Nat.le_of_ble_eq_true rfl⟩ dX6_variable_81 (fun hx_3 => ?_)
        exact x_ireturn (pc := 84) C dX6_variable_84 (of_sp h).1 (of_sp h).2
      replace h := of_ifn c_3 h
      by_cases c_4 : p2 = (1 : Int32)
      · replace h := of_ifp c_4 h
        refine x_tabIn (pc := 34) C 85 dX6_variable_34 c_4 (by decide) (by decide) rfl rfl ?_
        refine x_aload_n (pc := 85) C 0 dX6_variable_85 rfl ?_
        refine x_getr (pc := 86) C (k := 0) 1 hO.1 rfl rfl wd_149 dX6_variable_86 (Nat.le_of_ble_eq_true rfl) rfl ?_
        refine x_iload_n (pc := 89) C 1 dX6_variable_89 rfl ?_
        obtain ⟨r_2, hc_2, h⟩ := of_bd h
        refine x_callV1 (pc := 90) C (o := 1) [.int p1] [] (c_X5_lowOf (b := b) 1 p1 hO.2.1 S _ hc_2) cw_X6_94 vi_X5_lowOf ⟨rfl, rfl, Nat.le_of_ble_eq_true rfl, Nat.le_of_ble_eq_true rfl⟩ ⟨Nat.le_refl _, Nat.le_refl _⟩ hO.2.1.1 ⟨rfl, rfl, rfl⟩ rfl ⟨rfl, Nat.le_of_ble_eq_true rfl⟩ dX6_variable_90 (fun hx_4 => ?_)
        exact x_ireturn (pc := 93) C dX6_variable_93 (of_sp h).1 (of_sp h).2
      replace h := of_ifn c_4 h
      by_cases c_5 : p2 = (2 : Int32)
      · replace h := of_ifp c_5 h
        refine x_tabIn (pc := 34) C 94 dX6_variable_34 c_5 (by decide) (by decide) rfl rfl ?_
        refine x_aload_n (pc := 94) C 0 dX6_variable_94 rfl ?_
        refine x_getr (pc := 95) C (k := 0) 1 hO.1 rfl rfl wd_149 dX6_variable_95 (Nat.le_of_ble_eq_true rfl) rfl ?_
        refine x_iload_n (pc := 98) C 1 dX6_variable_98 rfl ?_
        obtain ⟨r_3, hc_3, h⟩ := of_bd h
        refine x_callV1 (pc := 99) C (o := 1) [.int p1] [] (c_X5_highOf (b := b) 1 p1 hO.2.1 S _ hc_3) cw_X6_97 vi_X5_highOf ⟨rfl, rfl, Nat.le_of_ble_eq_true rfl, Nat.le_of_ble_eq_true rfl⟩ ⟨Nat.le_refl _, Nat.le_refl _⟩ hO.2.1.1 ⟨rfl, rfl, rfl⟩ rfl ⟨rfl, Nat.le_of_ble_eq_true rfl⟩ dX6_variable_99 (fun hx_5 => ?_)
        exact x_ireturn (pc := 102) C dX6_variable_102 (of_sp h).1 (of_sp h).2
      replace h := of_ifn c_5 h
      by_cases c_6 : p2 = (6 : Int32)
      · replace h := of_ifp c_6 h
        refine x_tabIn (pc := 34) C 103 dX6_variable_34 c_6 (by decide) (by decide) rfl rfl ?_
        refine x_aload_n (pc := 103) C 0 dX6_variable_103 rfl ?_
        refine x_getr (pc := 104) C (k := 0) 1 hO.1 rfl rfl wd_149 dX6_variable_104 (Nat.le_of_ble_eq_true rfl) rfl ?_
        refine x_iload_n (pc := 107) C 1 dX6_variable_107 rfl ?_
        obtain ⟨r_4, hc_4, h⟩ := of_bd h
        refine x_callV1 (pc := 108) C (o := 1) [.int p1] [] (c_X5_isFree (b := b) 1 p1 hO.2.1 S _ hc_4) cw_X6_83 vi_X5_isFree ⟨rfl, rfl, Nat.le_of_ble_eq_true rfl, Nat.le_of_ble_eq_true rfl⟩ ⟨Nat.le_refl _, Nat.le_refl _⟩ hO.2.1.1 ⟨rfl, rfl, rfl⟩ rfl ⟨rfl, Nat.le_of_ble_eq_true rfl⟩ dX6_variable_108 (fun hx_6 => ?_)
        refine x_callS1 (pc := 111) C [.int r_4] [] (c_X6_asNumber (b := b) r_4 S) cw_X6_87 vs_X6_asNumber ⟨rfl, rfl, Nat.le_of_ble_eq_true rfl, Nat.le_of_ble_eq_true rfl⟩ ⟨Nat.le_refl _, Nat.le_refl _⟩ rfl ⟨rfl, Nat.le_of_ble_eq_true rfl⟩ dX6_variable_111 (fun hx_7 => ?_)
        exact x_ireturn (pc := 114) C dX6_variable_114 (of_sp h).1 (of_sp h).2
      replace h := of_ifn c_6 h
      by_cases c_7 : p2 = (3 : Int32)
      · refine x_tabIn (pc := 34) C 115 dX6_variable_34 c_7 (by decide) (by decide) rfl rfl ?_
        refine x_aload_n (pc := 115) C 0 dX6_variable_115 rfl ?_
        refine x_iload_n (pc := 116) C 1 dX6_variable_116 rfl ?_
        refine x_iload_n (pc := 117) C 2 dX6_variable_117 rfl ?_
        obtain ⟨⟨r_5, S_1⟩, hc_5, h⟩ := of_bd h
        replace h := of_u2 h
        refine x_callV1 (pc := 118) C (o := 0) [.int p1, .int p2] [] (c_X6_narrowed (b := b) p1 p2 hO S _ _ hc_5) cw_X6_100 vi_X6_narrowed ⟨rfl, rfl, Nat.le_of_ble_eq_true rfl, Nat.le_of_ble_eq_true rfl⟩ ⟨Nat.le_refl _, Nat.le_refl _⟩ hO.1 ⟨rfl, rfl, rfl⟩ rfl ⟨rfl, Nat.le_of_ble_eq_true rfl⟩ dX6_variable_118 (fun hx_8 => ?_)
        exact x_ireturn (pc := 121) C dX6_variable_121 (of_sp h).1 (of_sp h).2
      by_cases c_8 : p2 = (4 : Int32)
      · refine x_tabIn (pc := 34) C 115 dX6_variable_34 c_8 (by decide) (by decide) rfl rfl ?_
        refine x_aload_n (pc := 115) C 0 dX6_variable_115 rfl ?_
        refine x_iload_n (pc := 116) C 1 dX6_variable_116 rfl ?_
        refine x_iload_n (pc := 117) C 2 dX6_variable_117 rfl ?_
        obtain ⟨⟨r_5, S_1⟩, hc_5, h⟩ := of_bd h
        replace h := of_u2 h
        refine x_callV1 (pc := 118) C (o := 0) [.int p1, .int p2] [] (c_X6_narrowed (b := b) p1 p2 hO S _ _ hc_5) cw_X6_100 vi_X6_narrowed ⟨rfl, rfl, Nat.le_of_ble_eq_true rfl, Nat.le_of_ble_eq_true rfl⟩ ⟨Nat.le_refl _, Nat.le_refl _⟩ hO.1 ⟨rfl, rfl, rfl⟩ rfl ⟨rfl, Nat.le_of_ble_eq_true rfl⟩ dX6_variable_118 (fun hx_8 => ?_)
        exact x_ireturn (pc := 121) C dX6_variable_121 (of_sp h).1 (of_sp h).2
      by_cases c_9 : p2 = (5 : Int32)
      · refine x_tabIn (pc := 34) C 115 dX6_variable_34 c_9 (by decide) (by decide) rfl rfl ?_
        refine x_aload_n (pc := 115) C 0 dX6_variable_115 rfl ?_
        refine x_iload_n (pc := 116) C 1 dX6_variable_116 rfl ?_
        refine x_iload_n (pc := 117) C 2 dX6_variable_117 rfl ?_
        obtain ⟨⟨r_5, S_1⟩, hc_5, h⟩ := of_bd h
        replace h := of_u2 h
        refine x_callV1 (pc := 118) C (o := 0) [.int p1, .int p2] [] (c_X6_narrowed (b := b) p1 p2 hO S _ _ hc_5) cw_X6_100 vi_X6_narrowed ⟨rfl, rfl, Nat.le_of_ble_eq_true rfl, Nat.le_of_ble_eq_true rfl⟩ ⟨Nat.le_refl _, Nat.le_refl _⟩ hO.1 ⟨rfl, rfl, rfl⟩ rfl ⟨rfl, Nat.le_of_ble_eq_true rfl⟩ dX6_variable_118 (fun hx_8 => ?_)
        exact x_ireturn (pc := 121) C dX6_variable_121 (of_sp h).1 (of_sp h).2
      refine x_tabOut (pc := 34) C 115 dX6_variable_34 (by have := lv_neT c_3 (show ((0 : Int32)).toInt = 0 from rfl); have := lv_neT c_4 (show ((1 : Int32)).toInt = 1 from rfl); have := lv_neT c_5 (show ((2 : Int32)).toInt = 2 from rfl); have := lv_neT c_6 (show ((6 : Int32)).toInt = 6 from rfl); have := lv_neT c_7 (show ((3 : Int32)).toInt = 3 from rfl); have := lv_neT c_8 (show ((4 : Int32)).toInt = 4 from rfl); have := lv_neT c_9 (show ((5 : Int32)).toInt = 5 from rfl); omega) rfl ?_
      refine x_aload_n (pc := 115) C 0 dX6_variable_115 rfl ?_
      refine x_iload_n (pc := 116) C 1 dX6_variable_116 rfl ?_
      refine x_iload_n (pc := 117) C 2 dX6_variable_117 rfl ?_
      obtain ⟨⟨r_5, S_1⟩, hc_5, h⟩ := of_bd h
      replace h := of_u2 h
      refine x_callV1 (pc := 118) C (o := 0) [.int p1, .int p2] [] (c_X6_narrowed (b := b) p1 p2 hO S _ _ hc_5) cw_X6_100 vi_X6_narrowed ⟨rfl, rfl, Nat.le_of_ble_eq_true rfl, Nat.le_of_ble_eq_true rfl⟩ ⟨Nat.le_refl _, Nat.le_refl _⟩ hO.1 ⟨rfl, rfl, rfl⟩ rfl ⟨rfl, Nat.le_of_ble_eq_true rfl⟩ dX6_variable_118 (fun hx_8 => ?_)
      exact x_ireturn (pc := 121) C dX6_variable_121 (of_sp h).1 (of_sp h).2
    · replace h := of_ifp c_2 h
      refine x_aload_n (pc := 26) C 0 dX6_variable_26 rfl ?_
      refine x_bipush (pc := 27) C (v := (-2 : Int32)) dX6_variable_27 rfl ?_
      obtain ⟨⟨r_6, S_2⟩, hc_6, h⟩ := of_bd h
      replace h := of_u2 h
      refine x_callV1 (pc := 29) C (o := 0) [.int (-2 : Int32)] [] (c_X6_refuse (b := b) (-2 : Int32) hO S _ _ hc_6) cw_X6_73 vi_X6_refuse ⟨rfl, rfl, Nat.le_of_ble_eq_true rfl, Nat.le_of_ble_eq_true rfl⟩ ⟨Nat.le_refl _, Nat.le_refl _⟩ hO.1 ⟨rfl, rfl, rfl⟩ rfl ⟨rfl, Nat.le_of_ble_eq_true rfl⟩ dX6_variable_29 (fun hx_9 => ?_)
      exact x_ireturn (pc := 32) C dX6_variable_32 (of_sp h).1 (of_sp h).2
  · replace h := of_ifp c_1 h
    refine x_aload_n (pc := 11) C 0 dX6_variable_11 rfl ?_
    refine x_iconst (pc := 12) C (v := (-1 : Int32)) dX6_variable_12 rfl ?_
    obtain ⟨⟨r_7, S_3⟩, hc_7, h⟩ := of_bd h
    replace h := of_u2 h
    refine x_callV1 (pc := 13) C (o := 0) [.int (-1 : Int32)] [] (c_X6_refuse (b := b) (-1 : Int32) hO S _ _ hc_7) cw_X6_73 vi_X6_refuse ⟨rfl, rfl, Nat.le_of_ble_eq_true rfl, Nat.le_of_ble_eq_true rfl⟩ ⟨Nat.le_refl _, Nat.le_refl _⟩ hO.1 ⟨rfl, rfl, rfl⟩ rfl ⟨rfl, Nat.le_of_ble_eq_true rfl⟩ dX6_variable_13 (fun hx_10 => ?_)
    exact x_ireturn (pc := 16) C dX6_variable_16 (of_sp h).1 (of_sp h).2
set_option maxRecDepth 100000 in
set_option maxHeartbeats 4000000 in
theorem c_L_bound {l : Launch} {G : zz_G} {L : Ly} {b : Nat} (p1 : Int32) (p2 : Int32) (p3 : Int32) (hO : isGu L) (S : Sg) (Sf : Sg) (h : f_L_bound p1 p2 p3 S = some Sf) : Met l yL_bound (Cond.code yL_bound cL_bound 5 none :: zz_all) (rmz 7 162) (PC G L b S [.ref (b + 0), .int p1, .int p2, .int p3]) (QC G L b Sf none True) 0 0 (fun q => b ≤ q) := by
  refine x_met [.ref (b + 0), .int p1, .int p2, .int p3] (by decide +kernel) (Nat.le_of_ble_eq_true rfl) fun p e s m args below meth c C => ?_
  unfold f_L_bound at h
  refine x_aload_n (pc := 0) C 0 dL_bound_0 rfl ?_
  refine x_iload_n (pc := 1) C 1 dL_bound_1 rfl ?_
  refine x_iconst (pc := 2) C (v := (0 : Int32)) dL_bound_2 rfl ?_
  obtain ⟨⟨r_1, S_1⟩, hc_1, h⟩ := of_bd h
  replace h := of_u2 h
  refine x_callV1 (pc := 3) C (o := 0) [.int p1, .int (0 : Int32)] [] (c_X6_variable (b := b) p1 (0 : Int32) hO S _ _ hc_1) cw_L_48 vi_X6_variable ⟨rfl, rfl, Nat.le_of_ble_eq_true rfl, Nat.le_of_ble_eq_true rfl⟩ ⟨Nat.le_refl _, Nat.le_refl _⟩ hO.1 ⟨rfl, rfl, rfl⟩ rfl ⟨rfl, Nat.le_of_ble_eq_true rfl⟩ dL_bound_3 (fun hx_1 => ?_)
  refine x_istore (pc := 6) C [(4, .int r_1), (0, .ref (b + 0)), (1, .int p1), (2, .int p2), (3, .int p3)] dL_bound_6 (Nat.le_of_ble_eq_true rfl) rfl rfl ?_
  refine x_iload (pc := 8) C 0 dL_bound_8 rfl ?_
  refine x_if_lt (pc := 10) C 36 dL_bound_10 rfl (fun c_1 => ?_) (fun c_1 => ?_)
  · replace h := of_ifp c_1 h
    exact x_vreturn (pc := 36) C dL_bound_36 (of_s1 h)
  · replace h := of_ifn c_1 h
    refine x_aload_n (pc := 13) C 1 dL_bound_13 rfl ?_
    refine x_iload_n (pc := 14) C 2 dL_bound_14 rfl ?_
    refine x_iconst (pc := 15) C (v := (0 : Int32)) dL_bound_15 rfl ?_
    refine x_iload (pc := 16) C 0 dL_bound_16 rfl ?_
    refine x_iload_n (pc := 18) C 3 dL_bound_18 rfl ?_
    refine x_isub (pc := 19) C dL_bound_19 ?_
    refine x_callS1 (pc := 20) C [.int (0 : Int32), .int (r_1 - p2)] [.int p1, .ref (b + 0)] (c_J9_max_7cf53 (b := b) (0 : Int32) (r_1 - p2) S_1) cw_L_51 vs_J9_max_7cf53 ⟨rfl, rfl, Nat.le_of_ble_eq_true rfl, Nat.le_of_ble_eq_true rfl⟩ ⟨Nat.le_refl _, Nat.le_refl _⟩ rfl ⟨rfl, Nat.le_of_ble_eq_true rfl⟩ dL_bound_20 (fun hx_4 => ?_)
    refine x_bipush (pc := 23) C (v := (99 : Int32)) dL_bound_23 rfl ?_
    refine x_iload (pc := 25) C 0 dL_bound_25 rfl ?_
    refine x_iload_n (pc := 27) C 4 dL_bound_27 rfl ?_
    refine x_iadd (pc := 28) C dL_bound_28 ?_
    refine x_callS1 (pc := 29) C [.int (99 : Int32), .int (r_1 + p3)] [.int (f_J9_max_7cf53 (0 : Int32) (r_1 - p2)), .int p1, .ref (b + 0)] (c_J9_min_7cf53 (b := b) (99 : Int32) (r_1 + p3) S_1) cw_L_56 vs_J9_min_7cf53 ⟨rfl, rfl, Nat.le_of_ble_eq_true rfl, Nat.le_of_ble_eq_true rfl⟩ ⟨Nat.le_refl _, Nat.le_refl _⟩ rfl ⟨rfl, Nat.le_of_ble_eq_true rfl⟩ dL_bound_29 (fun hx_5 => ?_)
    obtain ⟨⟨r_2, S_2⟩, hc_2, h⟩ := of_bd h
    replace h := of_u2 h
    refine x_callV1 (pc := 32) C (o := 0) [.int p1, .int (f_J9_max_7cf53 (0 : Int32) (r_1 - p2)), .int (f_J9_min_7cf53 (99 : Int32) (r_1 + p3))] [] (c_X6_bounds (b := b) p1 (f_J9_max_7cf53 (0 : Int32) (r_1 - p2)) (f_J9_min_7cf53 (99 : Int32) (r_1 + p3)) hO S_1 _ _ hc_2) cw_L_59 vi_X6_bounds ⟨rfl, rfl, Nat.le_of_ble_eq_true rfl, Nat.le_of_ble_eq_true rfl⟩ ⟨Nat.le_refl _, Nat.le_refl _⟩ hO.1 ⟨rfl, rfl, rfl⟩ rfl ⟨rfl, Nat.le_of_ble_eq_true rfl⟩ dL_bound_32 (fun hx_6 => ?_)
    refine x_pop (pc := 35) C dL_bound_35 rfl ?_
    exact x_vreturn (pc := 36) C dL_bound_36 (of_s1 h)
set_option maxRecDepth 100000 in
set_option maxHeartbeats 4000000 in
theorem c_L_cell {l : Launch} {G : zz_G} {L : Ly} {b : Nat} (bs : Nat) (Ls : Nat) (xs : Nat → Int32) (p1 : Int32) (S : Sg) (rf : Int32) (h : f_L_cell bs Ls xs p1 S = some rf) : Met l yL_cell (Cond.code yL_cell cL_cell 2 (some .int) :: zz_all) (rmz 0 0) (PS G L b S bs Ls xs [.ref bs, .int p1]) (QC G L b S (some (.int rf)) True) 0 0 (fun q => b ≤ q) := by
  refine x_metS [.ref bs, .int p1] (by decide +kernel) (Nat.le_of_ble_eq_true rfl) fun p e s m args below meth c C hX => ?_
  unfold f_L_cell at h
  refine x_iload_n (pc := 0) C 1 dL_cell_0 rfl ?_
  refine x_aload_n (pc := 1) C 0 dL_cell_1 rfl ?_
  refine x_scn (pc := 2) C hX dL_cell_2 ?_
  refine x_icmp_ge (pc := 3) C 12 dL_cell_3 rfl (fun c_1 => ?_) (fun c_1 => ?_)
  · replace h := of_ifn c_1 h
    refine x_sipush (pc := 12) C (v := (7919 : Int32)) dL_cell_12 rfl ?_
    refine x_iload_n (pc := 15) C 1 dL_cell_15 rfl ?_
    refine x_imul (pc := 16) C dL_cell_16 ?_
    refine x_bipush (pc := 17) C (v := (12 : Int32)) dL_cell_17 rfl ?_
    refine x_iadd (pc := 19) C dL_cell_19 ?_
    exact x_ireturn (pc := 20) C dL_cell_20 (of_s1 h) rfl
  · replace h := of_ifp c_1 h
    refine x_aload_n (pc := 6) C 0 dL_cell_6 rfl ?_
    refine x_iload_n (pc := 7) C 1 dL_cell_7 rfl ?_
    obtain ⟨g_1, h⟩ := of_gd h
    refine x_scl (pc := 8) C hX g_1 dL_cell_8 ?_
    refine x_goto (pc := 9) C 20 dL_cell_9 rfl ?_
    exact x_ireturn (pc := 20) C dL_cell_20 (of_s1 h) rfl
set_option maxRecDepth 100000 in
set_option maxHeartbeats 4000000 in
theorem c_L_pick {l : Launch} {G : zz_G} {L : Ly} {b : Nat} (p0 : Int32) (p1 : Int32) (S : Sg) (rf : Int32) (h : f_L_pick p0 p1 = some rf) : Met l yL_pick (Cond.code yL_pick cL_pick 2 (some .int) :: zz_all) (rmz 0 0) (PC G L b S [.int p0, .int p1]) (QC G L b S (some (.int rf)) True) 0 0 (fun q => b ≤ q) := by
  refine x_met [.int p0, .int p1] (by decide +kernel) (Nat.le_of_ble_eq_true rfl) fun p e s m args below meth c C => ?_
  unfold f_L_pick at h
  refine x_iload_n (pc := 0) C 0 dL_pick_0 rfl ?_
  refine x_ldc (pc := 1) C wd_447 dL_pick_1 ?_
  refine x_iand (pc := 3) C dL_pick_3 ?_
  refine x_iload_n (pc := 4) C 1 dL_pick_4 rfl ?_
  obtain ⟨g_1, h⟩ := of_gd h
  refine x_irem (pc := 5) C dL_pick_5 g_1 ?_
  exact x_ireturn (pc := 6) C dL_pick_6 (of_s1 h) rfl
set_option maxRecDepth 100000 in
set_option maxHeartbeats 4000000 in
theorem l_X2_make_3 {p : Program} {l : Launch} {e : Env} {s : State} {m : MethodId} {args : Array Value} {below : List Frame} {meth : Method} {c : Code} {G : zz_G} {L : Ly} {b : Nat} {Q : State → Prop} (C : CX p G s m args meth c cX2_make yX2_make 8 none) (o : Nat) (hO : isQ L o) (v1 : Int32) (v2 : Int32) (v3 : Int32) : ∀ (n : Nat) (v4 : Int32) (S : Sg) {z}, L_X2_make_3 o v1 v2 v3 n v4 S = some z → (∀ (S_o : Sg), z = S_o → X p l e (rmz 0 0) s m args below meth c 0 0 Q 8 G L b S_o 80 [] []) → X p l e (rmz 0 0) s m args below meth c 0 0 Q 8 G L b S 3 [(0, .ref (b + o)), (1, .int v1), (2, .int v2), (3, .int v3), (4, .int v4)] [] := by
  intro n
  induction n with
  | zero =>
    intro v4 S z h
    exact of_none h
  | succ n ih =>
    intro v4 S z h hx
    rw [L_X2_make_3] at h
    refine x_iload (pc := 3) C 4 dX2_make_3 rfl ?_
    refine x_bipush (pc := 5) C (v := (8 : Int32)) dX2_make_5 rfl ?_
    refine x_icmp_ge (pc := 7) C 80 dX2_make_7 rfl (fun c_1 => ?_) (fun c_1 => ?_)
    · replace h := of_ifn c_1 h
      exact x_sub [] rfl (hx _ (of_s1 h).symm)
    · replace h := of_ifp c_1 h
      refine x_iload_n (pc := 10) C 2 dX2_make_10 rfl ?_
      refine x_iload (pc := 11) C 4 dX2_make_11 rfl ?_
      refine x_ishr (pc := 13) C dX2_make_13 ?_
      refine x_iconst (pc := 14) C (v := (1 : Int32)) dX2_make_14 rfl ?_
      refine x_iand (pc := 15) C dX2_make_15 ?_
      obtain ⟨v5_1, ev5_1, h⟩ := of_lt h
      refine x_istore (pc := 16) C [(5, .int v5_1), (0, .ref (b + o)), (1, .int v1), (2, .int v2), (3, .int v3), (4, .int v4)] dX2_make_16 (Nat.le_of_ble_eq_true rfl) ev5_1 rfl ?_
      refine x_iload_n (pc := 18) C 4 dX2_make_18 rfl ?_
      refine x_iload (pc := 19) C 5 dX2_make_19 rfl ?_
      refine x_ishr (pc := 21) C dX2_make_21 ?_
      refine x_iconst (pc := 22) C (v := (1 : Int32)) dX2_make_22 rfl ?_
      refine x_iand (pc := 23) C dX2_make_23 ?_
      obtain ⟨v6_1, ev6_1, h⟩ := of_lt h
      refine x_istore (pc := 24) C [(6, .int v6_1), (5, .int v5_1), (0, .ref (b + o)), (1, .int v1), (2, .int v2), (3, .int v3), (4, .int v4)] dX2_make_24 (Nat.le_of_ble_eq_true rfl) ev6_1 rfl ?_
      refine x_iload (pc := 26) C 1 dX2_make_26 rfl ?_
      refine x_istore (pc := 28) C [(7, .int v5_1), (6, .int v6_1), (5, .int v5_1), (0, .ref (b + o)), (1, .int v1), (2, .int v2), (3, .int v3), (4, .int v4)] dX2_make_28 (Nat.le_of_ble_eq_true rfl) rfl rfl ?_
      refine x_iload_n (pc := 30) C 4 dX2_make_30 rfl ?_
      refine x_iconst (pc := 31) C (v := (1 : Int32)) dX2_make_31 rfl ?_
      refine x_icmp_ne (pc := 32) C 45 dX2_make_32 rfl (fun c_2 => ?_) (fun c_2 => ?_)
      · replace h := of_ifn c_2 h
        refine x_iload_n (pc := 45) C 4 dX2_make_45 rfl ?_
        refine x_iconst (pc := 46) C (v := (2 : Int32)) dX2_make_46 rfl ?_
        refine x_icmp_ne (pc := 47) C 65 dX2_make_47 rfl (fun c_3 => ?_) (fun c_3 => ?_)
        · replace h := of_ifn c_3 h
          refine x_aload_n (pc := 65) C 3 dX2_make_65 rfl ?_
          refine x_getr (pc := 66) C (k := 0) (o + 1) hO.1 rfl rfl wd_115 dX2_make_66 (Nat.le_of_ble_eq_true rfl) rfl ?_
          refine x_iload (pc := 69) C 7 dX2_make_69 rfl ?_
          refine x_iload (pc := 71) C 0 dX2_make_71 rfl ?_
          obtain ⟨g_1, h⟩ := of_gd h
          obtain ⟨S_1, eS_1, h⟩ := of_lt h
          refine x_iastore (pc := 73) C hO.2 g_1 eS_1 dX2_make_73 ?_
          obtain ⟨v4_1, ev4_1, h⟩ := of_lt h
          refine x_iinc (pc := 74) C (w := (1 : Int32)) 7 [(4, .int v4_1), (7, .int v5_1), (6, .int v6_1), (5, .int v5_1), (0, .ref (b + o)), (1, .int v1), (2, .int v2), (3, .int v3)] dX2_make_74 rfl rfl (Nat.le_of_ble_eq_true rfl) ev4_1 rfl ?_
          refine x_goto (pc := 77) C 3 dX2_make_77 rfl ?_
          exact x_sub [4, 5, 6, 7, 0] rfl (ih _ _ h hx)
        · replace h := of_ifp c_3 h
          refine x_iload_n (pc := 50) C 6 dX2_make_50 rfl ?_
          refine x_if_eq (pc := 51) C 65 dX2_make_51 rfl (fun c_4 => ?_) (fun c_4 => ?_)
          · replace h := of_ifp c_4 h
            refine x_aload_n (pc := 65) C 3 dX2_make_65 rfl ?_
            refine x_getr (pc := 66) C (k := 0) (o + 1) hO.1 rfl rfl wd_115 dX2_make_66 (Nat.le_of_ble_eq_true rfl) rfl ?_
            refine x_iload (pc := 69) C 7 dX2_make_69 rfl ?_
            refine x_iload (pc := 71) C 0 dX2_make_71 rfl ?_
            obtain ⟨g_2, h⟩ := of_gd h
            obtain ⟨S_2, eS_2, h⟩ := of_lt h
            refine x_iastore (pc := 73) C hO.2 g_2 eS_2 dX2_make_73 ?_
            obtain ⟨v4_2, ev4_2, h⟩ := of_lt h
            refine x_iinc (pc := 74) C (w := (1 : Int32)) 7 [(4, .int v4_2), (7, .int v5_1), (6, .int v6_1), (5, .int v5_1), (0, .ref (b + o)), (1, .int v1), (2, .int v2), (3, .int v3)] dX2_make_74 rfl rfl (Nat.le_of_ble_eq_true rfl) ev4_2 rfl ?_
            refine x_goto (pc := 77) C 3 dX2_make_77 rfl ?_
            exact x_sub [4, 5, 6, 7, 0] rfl (ih _ _ h hx)
          · replace h := of_ifn c_4 h
            refine x_iload (pc := 54) C 2 dX2_make_54 rfl ?_
            refine x_iconst (pc := 56) C (v := (1 : Int32)) dX2_make_56 rfl ?_
            refine x_iload (pc := 57) C 7 dX2_make_57 rfl ?_
            refine x_iload_n (pc := 59) C 6 dX2_make_59 rfl ?_
            obtain ⟨g_3, h⟩ := of_gd h
            refine x_irem (pc := 60) C dX2_make_60 g_3 ?_
            refine x_iadd (pc := 61) C dX2_make_61 ?_
            refine x_imul (pc := 62) C dX2_make_62 ?_
            obtain ⟨v7_1, ev7_1, h⟩ := of_lt h
            refine x_istore (pc := 63) C [(7, .int v7_1), (6, .int v6_1), (5, .int v5_1), (0, .ref (b + o)), (1, .int v1), (2, .int v2), (3, .int v3), (4, .int v4)] dX2_make_63 (Nat.le_of_ble_eq_true rfl) ev7_1 rfl ?_
            refine x_aload_n (pc := 65) C 3 dX2_make_65 rfl ?_
            refine x_getr (pc := 66) C (k := 0) (o + 1) hO.1 rfl rfl wd_115 dX2_make_66 (Nat.le_of_ble_eq_true rfl) rfl ?_
            refine x_iload (pc := 69) C 7 dX2_make_69 rfl ?_
            refine x_iload (pc := 71) C 0 dX2_make_71 rfl ?_
            obtain ⟨g_4, h⟩ := of_gd h
            obtain ⟨S_3, eS_3, h⟩ := of_lt h
            refine x_iastore (pc := 73) C hO.2 g_4 eS_3 dX2_make_73 ?_
            obtain ⟨v4_3, ev4_3, h⟩ := of_lt h
            refine x_iinc (pc := 74) C (w := (1 : Int32)) 7 [(4, .int v4_3), (7, .int v7_1), (6, .int v6_1), (5, .int v5_1), (0, .ref (b + o)), (1, .int v1), (2, .int v2), (3, .int v3)] dX2_make_74 rfl rfl (Nat.le_of_ble_eq_true rfl) ev4_3 rfl ?_
            refine x_goto (pc := 77) C 3 dX2_make_77 rfl ?_
            exact x_sub [4, 5, 6, 7, 0] rfl (ih _ _ h hx)
      · replace h := of_ifp c_2 h
        refine x_iload (pc := 35) C 2 dX2_make_35 rfl ?_
        refine x_iload (pc := 37) C 1 dX2_make_37 rfl ?_
        refine x_isub (pc := 39) C dX2_make_39 ?_
        obtain ⟨v7_2, ev7_2, h⟩ := of_lt h
        refine x_istore (pc := 40) C [(7, .int v7_2), (6, .int v6_1), (5, .int v5_1), (0, .ref (b + o)), (1, .int v1), (2, .int v2), (3, .int v3), (4, .int v4)] dX2_make_40 (Nat.le_of_ble_eq_true rfl) ev7_2 rfl ?_
        refine x_goto (pc := 42) C 65 dX2_make_42 rfl ?_
        refine x_aload_n (pc := 65) C 3 dX2_make_65 rfl ?_
        refine x_getr (pc := 66) C (k := 0) (o + 1) hO.1 rfl rfl wd_115 dX2_make_66 (Nat.le_of_ble_eq_true rfl) rfl ?_
        refine x_iload (pc := 69) C 7 dX2_make_69 rfl ?_
        refine x_iload (pc := 71) C 0 dX2_make_71 rfl ?_
        obtain ⟨g_5, h⟩ := of_gd h
        obtain ⟨S_4, eS_4, h⟩ := of_lt h
        refine x_iastore (pc := 73) C hO.2 g_5 eS_4 dX2_make_73 ?_
        obtain ⟨v4_4, ev4_4, h⟩ := of_lt h
        refine x_iinc (pc := 74) C (w := (1 : Int32)) 7 [(4, .int v4_4), (7, .int v7_2), (6, .int v6_1), (5, .int v5_1), (0, .ref (b + o)), (1, .int v1), (2, .int v2), (3, .int v3)] dX2_make_74 rfl rfl (Nat.le_of_ble_eq_true rfl) ev4_4 rfl ?_
        refine x_goto (pc := 77) C 3 dX2_make_77 rfl ?_
        exact x_sub [4, 5, 6, 7, 0] rfl (ih _ _ h hx)
set_option maxRecDepth 100000 in
set_option maxHeartbeats 4000000 in
theorem c_X2_make {l : Launch} {G : zz_G} {L : Ly} {b : Nat} (o : Nat) (p1 : Int32) (p2 : Int32) (p3 : Int32) (hO : isQ L o) (S : Sg) (Sf : Sg) (h : f_X2_make o p1 p2 p3 S = some Sf) : Met l yX2_make (Cond.code yX2_make cX2_make 8 none :: zz_all) (rmz 0 0) (PC G L b S [.ref (b + o), .int p1, .int p2, .int p3]) (QC G L b Sf none True) 0 0 (fun q => b ≤ q) := by
  refine x_met [.ref (b + o), .int p1, .int p2, .int p3] (by decide +kernel) (Nat.le_of_ble_eq_true rfl) fun p e s m args below meth c C => ?_
  unfold f_X2_make at h
  refine x_iconst (pc := 0) C (v := (0 : Int32)) dX2_make_0 rfl ?_
  refine x_istore (pc := 1) C [(4, .int (0 : Int32)), (0, .ref (b + o)), (1, .int p1), (2, .int p2), (3, .int p3)] dX2_make_1 (Nat.le_of_ble_eq_true rfl) rfl rfl ?_
  refine x_sub [1, 2, 3, 4, 0] rfl ?_
  obtain ⟨z_hz_1, hz_1, h⟩ := of_bd h
  refine l_X2_make_3 C o hO p1 p2 p3 400 _ _ hz_1 (fun S_1 ez => ?_)
  subst z_hz_1
  exact x_vreturn (pc := 80) C dX2_make_80 (of_s1 h)
end
section
set_option maxRecDepth 100000 in
set_option maxHeartbeats 4000000 in
theorem c_X2_misfitOf {l : Launch} {G : zz_G} {L : Ly} {b : Nat} (p0 : Int32) (p1 : Int32) (p2 : Int32) (S : Sg) : Met l yX2_misfitOf (Cond.code yX2_misfitOf cX2_misfitOf 5 (some .int) :: zz_all) (rmz 0 0) (PC G L b S [.int p0, .int p1, .int p2]) (QC G L b S (some (.int (f_X2_misfitOf p0 p1 p2))) True) 0 0 (fun q => b ≤ q) := by
  refine x_met [.int p0, .int p1, .int p2] (by decide +kernel) (Nat.le_of_ble_eq_true rfl) fun p e s m args below meth c C => ?_
  generalize h : f_X2_misfitOf p0 p1 p2 = rf
  unfold f_X2_misfitOf at h
  refine x_iload_n (pc := 0) C 0 dX2_misfitOf_0 rfl ?_
  obtain ⟨J_1, eJ_1, h⟩ := of_lt h
  have kJ_1 : ∀ (_ : Unit), J_1 () = rf → X p l e (rmz 0 0) s m args below meth c 0 0 (RQ G L b S below args s (some (.int rf)) True) 5 G L b S 17 [(0, .int p0), (1, .int p1), (2, .int p2)] [] := by
    intro _ h
    replace h := of_J1 eJ_1 h
    refine x_iload_n (pc := 17) C 0 dX2_misfitOf_17 rfl ?_
    obtain ⟨x_1, ex_1, h⟩ := of_lt h
    have kd_1 : X p l e (rmz 0 0) s m args below meth c 0 0 (RQ G L b S below args s (some (.int rf)) True) 5 G L b S 26 [(0, .int p0), (1, .int p1), (2, .int p2)] [.int x_1] := by
      refine x_istore_n (pc := 26) C 3 [(3, .int x_1), (0, .int p0), (1, .int p1), (2, .int p2)] dX2_misfitOf_26 rfl (Nat.le_of_ble_eq_true rfl) rfl rfl ?_
      refine x_iload_n (pc := 27) C 2 dX2_misfitOf_27 rfl ?_
      refine x_iconst (pc := 28) C (v := (1 : Int32)) dX2_misfitOf_28 rfl ?_
      refine x_icmp_lt (pc := 29) C 41 dX2_misfitOf_29 rfl (fun c_1 => ?_) (fun c_1 => ?_)
      · replace h := of_ifp c_1 h
        refine x_bipush (pc := 41) C (v := (-4 : Int32)) dX2_misfitOf_41 rfl ?_
        exact x_ireturn (pc := 43) C dX2_misfitOf_43 h rfl
      · replace h := of_ifn c_1 h
        refine x_iload_n (pc := 32) C 0 dX2_misfitOf_32 rfl ?_
        obtain ⟨J_2, eJ_2, h⟩ := of_lt h
        have kJ_2 : ∀ (_ : Unit), J_2 () = rf → X p l e (rmz 0 0) s m args below meth c 0 0 (RQ G L b S below args s (some (.int rf)) True) 5 G L b S 44 [(0, .int p0), (1, .int p1), (2, .int p2), (3, .int x_1)] [] := by
          intro _ h
          replace h := of_J1 eJ_2 h
          refine x_iload_n (pc := 44) C 0 dX2_misfitOf_44 rfl ?_
          refine x_iconst (pc := 45) C (v := (2 : Int32)) dX2_misfitOf_45 rfl ?_
          obtain ⟨x_2, ex_2, h⟩ := of_lt h
          have kd_2 : X p l e (rmz 0 0) s m args below meth c 0 0 (RQ G L b S below args s (some (.int rf)) True) 5 G L b S 56 [(0, .int p0), (1, .int p1), (2, .int p2), (3, .int x_1)] [.int x_2] := by
            refine x_istore (pc := 56) C [(4, .int x_2), (0, .int p0), (1, .int p1), (2, .int p2), (3, .int x_1)] dX2_misfitOf_56 (Nat.le_of_ble_eq_true rfl) rfl rfl ?_
            refine x_iload_n (pc := 58) C 2 dX2_misfitOf_58 rfl ?_
            refine x_sipush (pc := 59) C (v := (255 : Int32)) dX2_misfitOf_59 rfl ?_
            refine x_icmp_gt (pc := 62) C 75 dX2_misfitOf_62 rfl (fun c_2 => ?_) (fun c_2 => ?_)
            · replace h := of_ifp c_2 h
              refine x_bipush (pc := 75) C (v := (-6 : Int32)) dX2_misfitOf_75 rfl ?_
              exact x_ireturn (pc := 77) C dX2_misfitOf_77 h rfl
            · replace h := of_ifn c_2 h
              refine x_iload_n (pc := 65) C 4 dX2_misfitOf_65 rfl ?_
              obtain ⟨J_3, eJ_3, h⟩ := of_lt h
              have kJ_3 : ∀ (_ : Unit), J_3 () = rf → X p l e (rmz 0 0) s m args below meth c 0 0 (RQ G L b S below args s (some (.int rf)) True) 5 G L b S 78 [(0, .int p0), (1, .int p1), (2, .int p2)] [] := by
                intro _ h
                replace h := of_J1 eJ_3 h
                refine x_iload_n (pc := 78) C 0 dX2_misfitOf_78 rfl ?_
                refine x_iconst (pc := 79) C (v := (1 : Int32)) dX2_misfitOf_79 rfl ?_
                obtain ⟨x_3, ex_3, h⟩ := of_lt h
                have kd_3 : X p l e (rmz 0 0) s m args below meth c 0 0 (RQ G L b S below args s (some (.int rf)) True) 5 G L b S 95 [] [.int x_3] := by
                  exact x_ireturn (pc := 95) C dX2_misfitOf_95 h rfl
                refine x_icmp_ne (pc := 80) C 94 dX2_misfitOf_80 rfl (fun c_3 => ?_) (fun c_3 => ?_)
                · refine x_iconst (pc := 94) C (v := (0 : Int32)) dX2_misfitOf_94 rfl ?_
                  refine x_sub [] rfl ?_
                  rw [show x_3 = (0 : Int32) from (ex_3.trans (if_neg c_3))] at kd_3
                  exact kd_3
                · refine x_iload_n (pc := 83) C 1 dX2_misfitOf_83 rfl ?_
                  refine x_iload_n (pc := 84) C 2 dX2_misfitOf_84 rfl ?_
                  refine x_iand (pc := 85) C dX2_misfitOf_85 ?_
                  refine x_if_eq (pc := 86) C 94 dX2_misfitOf_86 rfl (fun c_4 => ?_) (fun c_4 => ?_)
                  · refine x_iconst (pc := 94) C (v := (0 : Int32)) dX2_misfitOf_94 rfl ?_
                    refine x_sub [] rfl ?_
                    rw [show x_3 = (0 : Int32) from ((ex_3.trans (if_pos c_3)).trans (if_pos c_4))] at kd_3
                    exact kd_3
                  · refine x_bipush (pc := 89) C (v := (-3 : Int32)) dX2_misfitOf_89 rfl ?_
                    refine x_goto (pc := 91) C 95 dX2_misfitOf_91 rfl ?_
                    refine x_sub [] rfl ?_
                    rw [show x_3 = (-3 : Int32) from ((ex_3.trans (if_pos c_3)).trans (if_neg c_4))] at kd_3
                    exact kd_3
              refine x_if_eq (pc := 66) C 78 dX2_misfitOf_66 rfl (fun c_5 => ?_) (fun c_5 => ?_)
              · replace h := of_ifp c_5 h
                exact x_sub [1, 2, 3] rfl (kJ_3 () h)
              · replace h := of_ifn c_5 h
                refine x_iload_n (pc := 69) C 3 dX2_misfitOf_69 rfl ?_
                refine x_iload (pc := 70) C 0 dX2_misfitOf_70 rfl ?_
                refine x_icmp_le (pc := 72) C 78 dX2_misfitOf_72 rfl (fun c_6 => ?_) (fun c_6 => ?_)
                · replace h := of_ifn c_6 h
                  exact x_sub [1, 2, 3] rfl (kJ_3 () h)
                · replace h := of_ifp c_6 h
                  refine x_bipush (pc := 75) C (v := (-6 : Int32)) dX2_misfitOf_75 rfl ?_
                  exact x_ireturn (pc := 77) C dX2_misfitOf_77 h rfl
          refine x_icmp_ne (pc := 46) C 53 dX2_misfitOf_46 rfl (fun c_7 => ?_) (fun c_7 => ?_)
          · refine x_sipush (pc := 53) C (v := (255 : Int32)) dX2_misfitOf_53 rfl ?_
            refine x_sub [0, 1, 2, 3] rfl ?_
            rw [show x_2 = (255 : Int32) from (ex_2.trans (if_neg c_7))] at kd_2
            exact kd_2
          · refine x_iconst (pc := 49) C (v := (3 : Int32)) dX2_misfitOf_49 rfl ?_
            refine x_goto (pc := 50) C 56 dX2_misfitOf_50 rfl ?_
            refine x_sub [0, 1, 2, 3] rfl ?_
            rw [show x_2 = (3 : Int32) from (ex_2.trans (if_pos c_7))] at kd_2
            exact kd_2
        refine x_if_eq (pc := 33) C 44 dX2_misfitOf_33 rfl (fun c_8 => ?_) (fun c_8 => ?_)
        · replace h := of_ifp c_8 h
          exact x_sub [1, 2, 3, 0] rfl (kJ_2 () h)
        · replace h := of_ifn c_8 h
          refine x_iload_n (pc := 36) C 3 dX2_misfitOf_36 rfl ?_
          refine x_iconst (pc := 37) C (v := (1 : Int32)) dX2_misfitOf_37 rfl ?_
          refine x_icmp_ge (pc := 38) C 44 dX2_misfitOf_38 rfl (fun c_9 => ?_) (fun c_9 => ?_)
          · replace h := of_ifn c_9 h
            exact x_sub [1, 2, 3, 0] rfl (kJ_2 () h)
          · replace h := of_ifp c_9 h
            refine x_bipush (pc := 41) C (v := (-4 : Int32)) dX2_misfitOf_41 rfl ?_
            exact x_ireturn (pc := 43) C dX2_misfitOf_43 h rfl
    refine x_if_eq (pc := 18) C 25 dX2_misfitOf_18 rfl (fun c_10 => ?_) (fun c_10 => ?_)
    · refine x_iconst (pc := 25) C (v := (0 : Int32)) dX2_misfitOf_25 rfl ?_
      refine x_sub [0, 1, 2] rfl ?_
      rw [show x_1 = (0 : Int32) from (ex_1.trans (if_pos c_10))] at kd_1
      exact kd_1
    · refine x_iconst (pc := 21) C (v := (1 : Int32)) dX2_misfitOf_21 rfl ?_
      refine x_goto (pc := 22) C 26 dX2_misfitOf_22 rfl ?_
      refine x_sub [0, 1, 2] rfl ?_
      rw [show x_1 = (1 : Int32) from (ex_1.trans (if_neg c_10))] at kd_1
      exact kd_1
  refine x_if_eq (pc := 1) C 17 dX2_misfitOf_1 rfl (fun c_11 => ?_) (fun c_11 => ?_)
  · replace h := of_ifp c_11 h
    exact x_sub [0, 1, 2] rfl (kJ_1 () h)
  · replace h := of_ifn c_11 h
    refine x_iload_n (pc := 4) C 0 dX2_misfitOf_4 rfl ?_
    refine x_iconst (pc := 5) C (v := (1 : Int32)) dX2_misfitOf_5 rfl ?_
    refine x_icmp_eq (pc := 6) C 17 dX2_misfitOf_6 rfl (fun c_12 => ?_) (fun c_12 => ?_)
    · replace h := of_ifp c_12 h
      exact x_sub [0, 1, 2] rfl (kJ_1 () h)
    · replace h := of_ifn c_12 h
      refine x_iload_n (pc := 9) C 0 dX2_misfitOf_9 rfl ?_
      refine x_iconst (pc := 10) C (v := (2 : Int32)) dX2_misfitOf_10 rfl ?_
      refine x_icmp_eq (pc := 11) C 17 dX2_misfitOf_11 rfl (fun c_13 => ?_) (fun c_13 => ?_)
      · replace h := of_ifp c_13 h
        exact x_sub [0, 1, 2] rfl (kJ_1 () h)
      · replace h := of_ifn c_13 h
        refine x_bipush (pc := 14) C (v := (-2 : Int32)) dX2_misfitOf_14 rfl ?_
        exact x_ireturn (pc := 16) C dX2_misfitOf_16 h rfl
set_option maxRecDepth 100000 in
set_option maxHeartbeats 4000000 in
theorem l_X4_firstIn_2 {p : Program} {l : Launch} {e : Env} {s : State} {m : MethodId} {args : Array Value} {below : List Frame} {meth : Method} {c : Code} {G : zz_G} {L : Ly} {b : Nat} (C : CX p G s m args meth c cX4_firstIn yX4_firstIn 2 (some .int)) (a0 : Nat) (n0 : Nat) (h0 : L.2 a0 = some (2, n0, [])) (S : Sg) (rf : Int32) : ∀ (n : Nat) (v1 : Int32) {z}, L_X4_firstIn_2 a0 n0 S n v1 = some z → (∀ q, z = .inl q → q = rf) → (z = .inr () → X p l e (rmz 0 0) s m args below meth c 0 0 (RQ G L b S below args s (some (.int rf)) True) 2 G L b S 24 [] []) → X p l e (rmz 0 0) s m args below meth c 0 0 (RQ G L b S below args s (some (.int rf)) True) 2 G L b S 2 [(0, .ref (b + a0)), (1, .int v1)] [] := by
  intro n
  induction n with
  | zero =>
    intro v1 z h
    exact of_none h
  | succ n ih =>
    intro v1 z h hr hx
    rw [L_X4_firstIn_2] at h
    refine x_iload_n (pc := 2) C 1 dX4_firstIn_2 rfl ?_
    refine x_bipush (pc := 3) C (v := (10 : Int32)) dX4_firstIn_3 rfl ?_
    refine x_icmp_ge (pc := 5) C 24 dX4_firstIn_5 rfl (fun c_1 => ?_) (fun c_1 => ?_)
    · replace h := of_ifn c_1 h
      exact x_sub [] rfl (hx (of_s1 h).symm)
    · replace h := of_ifp c_1 h
      refine x_aload_n (pc := 8) C 0 dX4_firstIn_8 rfl ?_
      refine x_iload_n (pc := 9) C 1 dX4_firstIn_9 rfl ?_
      obtain ⟨g_1, h⟩ := of_gd h
      refine x_laload (pc := 10) C h0 g_1 dX4_firstIn_10 ?_
      refine x_lconst (pc := 11) C (v := (0 : Int64)) dX4_firstIn_11 rfl ?_
      refine x_lcmp_eq (pc := 12) C 18 dX4_firstIn_12 dX4_firstIn_13 rfl (fun c_2 => ?_) (fun c_2 => ?_)
      · replace h := of_ifp c_2 h
        obtain ⟨v1_1, ev1_1, h⟩ := of_lt h
        refine x_iinc (pc := 18) C (w := (1 : Int32)) 1 [(1, .int v1_1), (0, .ref (b + a0))] dX4_firstIn_18 rfl rfl (Nat.le_of_ble_eq_true rfl) ev1_1 rfl ?_
        refine x_goto (pc := 21) C 2 dX4_firstIn_21 rfl ?_
        exact x_sub [1, 0] rfl (ih _ h hr hx)
      · replace h := of_ifn c_2 h
        refine x_iload_n (pc := 16) C 1 dX4_firstIn_16 rfl ?_
        have hq := hr _ (of_s1 h).symm
        exact x_ireturn (pc := 17) C dX4_firstIn_17 hq rfl
set_option maxRecDepth 100000 in
set_option maxHeartbeats 4000000 in
theorem c_X4_firstIn {l : Launch} {G : zz_G} {L : Ly} {b : Nat} (a0 : Nat) (n0 : Nat) (h0 : L.2 a0 = some (2, n0, [])) (S : Sg) (rf : Int32) (h : f_X4_firstIn a0 n0 S = some rf) : Met l yX4_firstIn (Cond.code yX4_firstIn cX4_firstIn 2 (some .int) :: zz_all) (rmz 0 0) (PC G L b S [.ref (b + a0)]) (QC G L b S (some (.int rf)) True) 0 0 (fun q => b ≤ q) := by
  refine x_met [.ref (b + a0)] (by decide +kernel) (Nat.le_of_ble_eq_true rfl) fun p e s m args below meth c C => ?_
  unfold f_X4_firstIn at h
  refine x_iconst (pc := 0) C (v := (0 : Int32)) dX4_firstIn_0 rfl ?_
  refine x_istore_n (pc := 1) C 1 [(1, .int (0 : Int32)), (0, .ref (b + a0))] dX4_firstIn_1 rfl (Nat.le_of_ble_eq_true rfl) rfl rfl ?_
  refine x_sub [1, 0] rfl ?_
  obtain ⟨z_hz_1, hz_1, hl, hrr⟩ := of_bs h
  refine l_X4_firstIn_2 C a0 n0 h0 S rf 400 _ hz_1 (fun q ez => of_s1 (hl _ ez)) (fun ez => ?_)
  replace h := hrr _ ez
  clear hl hrr
  refine x_bipush (pc := 24) C (v := (-9 : Int32)) dX4_firstIn_24 rfl ?_
  exact x_ireturn (pc := 26) C dX4_firstIn_26 (of_s1 h) rfl
set_option maxRecDepth 100000 in
set_option maxHeartbeats 4000000 in
theorem l_X4_join_52 {p : Program} {l : Launch} {e : Env} {s : State} {m : MethodId} {args : Array Value} {below : List Frame} {meth : Method} {c : Code} {G : zz_G} {L : Ly} {b : Nat} {Q : State → Prop} (C : CX p G s m args meth c cX4_join yX4_join 9 none) (o : Nat) (a1 : Nat) (n1 : Nat) (hO : isSp L o) (h1 : L.2 a1 = some (2, n1, [])) (v2 : Int32) (v3 : Int64) (v5 : Int32) (v6 : Int64) : ∀ (n : Nat) (v8 : Int32) (S : Sg) {z}, L_X4_join_52 o a1 n1 v2 v3 v5 v6 n v8 S = some z → (∀ (S_o : Sg), z = S_o → X p l e (rmz 1 21) s m args below meth c 0 0 Q 9 G L b S_o 100 [(0, .ref (b + o)), (1, .ref (b + a1)), (2, .int v2), (3, .long v3), (5, .int v5)] []) → X p l e (rmz 1 21) s m args below meth c 0 0 Q 9 G L b S 52 [(0, .ref (b + o)), (1, .ref (b + a1)), (2, .int v2), (3, .long v3), (5, .int v5), (6, .long v6), (8, .int v8)] [] := by
  intro n
  induction n with
  | zero =>
    intro v8 S z h
    exact of_none h
  | succ n ih =>
    intro v8 S z h hx
    rw [L_X4_join_52] at h
    refine x_iload (pc := 52) C 6 dX4_join_52 rfl ?_
    refine x_bipush (pc := 54) C (v := (10 : Int32)) dX4_join_54 rfl ?_
    refine x_icmp_ge (pc := 56) C 100 dX4_join_56 rfl (fun c_1 => ?_) (fun c_1 => ?_)
    · replace h := of_ifn c_1 h
      exact x_sub [0, 1, 2, 3, 4] rfl (hx _ (of_s1 h).symm)
    · replace h := of_ifp c_1 h
      refine x_aload_n (pc := 59) C 0 dX4_join_59 rfl ?_
      refine x_getr (pc := 60) C (k := 0) (o + 1) hO.1 rfl rfl wd_46 dX4_join_60 (Nat.le_of_ble_eq_true rfl) rfl ?_
      refine x_iload (pc := 63) C 4 dX4_join_63 rfl ?_
      obtain ⟨g_1, h⟩ := of_gd h
      refine x_aaloadJ (pc := 65) C hO.2.1 g_1 dX4_join_65 ?_
      refine x_iload (pc := 66) C 6 dX4_join_66 rfl ?_
      refine x_aload_n (pc := 68) C 0 dX4_join_68 rfl ?_
      refine x_getr (pc := 69) C (k := 0) (o + 1) hO.1 rfl rfl wd_46 dX4_join_69 (Nat.le_of_ble_eq_true rfl) rfl ?_
      refine x_iload (pc := 72) C 4 dX4_join_72 rfl ?_
      refine x_aaloadJ (pc := 74) C hO.2.1 g_1 dX4_join_74 ?_
      refine x_iload (pc := 75) C 6 dX4_join_75 rfl ?_
      obtain ⟨g_2, h⟩ := of_gd h
      refine x_laload (pc := 77) C (hO.2.2 _ (inb_lt (i := v5) g_1)) g_2 dX4_join_77 ?_
      refine x_lload_n (pc := 78) C 3 dX4_join_78 rfl ?_
      refine x_lmul (pc := 79) C dX4_join_79 ?_
      refine x_lload (pc := 80) C 5 dX4_join_80 rfl ?_
      refine x_aload_n (pc := 82) C 1 dX4_join_82 rfl ?_
      refine x_iload (pc := 83) C 6 dX4_join_83 rfl ?_
      obtain ⟨g_3, h⟩ := of_gd h
      refine x_laload (pc := 85) C h1 g_3 dX4_join_85 ?_
      refine x_lmul (pc := 86) C dX4_join_86 ?_
      refine x_lsub (pc := 87) C dX4_join_87 ?_
      refine x_aload_n (pc := 88) C 0 dX4_join_88 rfl ?_
      refine x_getj (pc := 89) C (k := 1) hO.1 rfl rfl wd_47 dX4_join_89 ⟨Nat.le_of_ble_eq_true rfl, rfl⟩ ?_
      obtain ⟨g_4, h⟩ := of_gd h
      refine x_ldiv (pc := 92) C dX4_join_92 g_4 ?_
      obtain ⟨S_1, eS_1, h⟩ := of_lt h
      refine x_lastore (pc := 93) C (hO.2.2 _ (inb_lt (i := v5) g_1)) g_2 eS_1 dX4_join_93 ?_
      obtain ⟨v8_1, ev8_1, h⟩ := of_lt h
      refine x_iinc (pc := 94) C (w := (1 : Int32)) 6 [(8, .int v8_1), (0, .ref (b + o)), (1, .ref (b + a1)), (2, .int v2), (3, .long v3), (5, .int v5), (6, .long v6)] dX4_join_94 rfl rfl (Nat.le_of_ble_eq_true rfl) ev8_1 rfl ?_
      refine x_goto (pc := 97) C 52 dX4_join_97 rfl ?_
      exact x_sub [1, 2, 3, 4, 5, 6, 0] rfl (ih _ _ h hx)
set_option maxRecDepth 100000 in
set_option maxHeartbeats 4000000 in
theorem l_X4_join_31 {p : Program} {l : Launch} {e : Env} {s : State} {m : MethodId} {args : Array Value} {below : List Frame} {meth : Method} {c : Code} {G : zz_G} {L : Ly} {b : Nat} {Q : State → Prop} (C : CX p G s m args meth c cX4_join yX4_join 9 none) (o : Nat) (a1 : Nat) (n1 : Nat) (hO : isSp L o) (h1 : L.2 a1 = some (2, n1, [])) (v2 : Int32) (v3 : Int64) : ∀ (n : Nat) (v5 : Int32) (S : Sg) {z}, L_X4_join_31 o a1 n1 v2 v3 n v5 S = some z → (∀ (S_o : Sg), z = S_o → X p l e (rmz 1 21) s m args below meth c 0 0 Q 9 G L b S_o 106 [(0, .ref (b + o)), (2, .int v2), (3, .long v3)] []) → X p l e (rmz 1 21) s m args below meth c 0 0 Q 9 G L b S 31 [(0, .ref (b + o)), (1, .ref (b + a1)), (2, .int v2), (3, .long v3), (5, .int v5)] [] := by
  intro n
  induction n with
  | zero =>
    intro v5 S z h
    exact of_none h
  | succ n ih =>
    intro v5 S z h hx
    rw [L_X4_join_31] at h
    refine x_iload (pc := 31) C 4 dX4_join_31 rfl ?_
    refine x_bipush (pc := 33) C (v := (10 : Int32)) dX4_join_33 rfl ?_
    refine x_icmp_ge (pc := 35) C 106 dX4_join_35 rfl (fun c_1 => ?_) (fun c_1 => ?_)
    · replace h := of_ifn c_1 h
      exact x_sub [0, 2, 3] rfl (hx _ (of_s1 h).symm)
    · replace h := of_ifp c_1 h
      refine x_aload_n (pc := 38) C 0 dX4_join_38 rfl ?_
      refine x_getr (pc := 39) C (k := 0) (o + 1) hO.1 rfl rfl wd_46 dX4_join_39 (Nat.le_of_ble_eq_true rfl) rfl ?_
      refine x_iload (pc := 42) C 4 dX4_join_42 rfl ?_
      obtain ⟨g_1, h⟩ := of_gd h
      refine x_aaloadJ (pc := 44) C hO.2.1 g_1 dX4_join_44 ?_
      refine x_iload_n (pc := 45) C 2 dX4_join_45 rfl ?_
      obtain ⟨g_2, h⟩ := of_gd h
      refine x_laload (pc := 46) C (hO.2.2 _ (inb_lt (i := v5) g_1)) g_2 dX4_join_46 ?_
      obtain ⟨v6_1, ev6_1, h⟩ := of_lt h
      refine x_lstore (pc := 47) C [(6, .long v6_1), (0, .ref (b + o)), (1, .ref (b + a1)), (2, .int v2), (3, .long v3), (5, .int v5)] dX4_join_47 (Nat.le_of_ble_eq_true rfl) ev6_1 rfl ?_
      refine x_iconst (pc := 49) C (v := (0 : Int32)) dX4_join_49 rfl ?_
      refine x_istore (pc := 50) C [(8, .int (0 : Int32)), (6, .long v6_1), (0, .ref (b + o)), (1, .ref (b + a1)), (2, .int v2), (3, .long v3), (5, .int v5)] dX4_join_50 (Nat.le_of_ble_eq_true rfl) rfl rfl ?_
      refine x_sub [2, 3, 4, 5, 6, 1, 0] rfl ?_
      obtain ⟨z_hz_1, hz_1, h⟩ := of_bd h
      refine l_X4_join_52 C o a1 n1 hO h1 v2 v3 v5 v6_1 400 _ _ hz_1 (fun S_1 ez => ?_)
      subst z_hz_1
      obtain ⟨v5_1, ev5_1, h⟩ := of_lt h
      refine x_iinc (pc := 100) C (w := (1 : Int32)) 4 [(5, .int v5_1), (0, .ref (b + o)), (1, .ref (b + a1)), (2, .int v2), (3, .long v3)] dX4_join_100 rfl rfl (Nat.le_of_ble_eq_true rfl) ev5_1 rfl ?_
      refine x_goto (pc := 103) C 31 dX4_join_103 rfl ?_
      exact x_sub [1, 2, 3, 4, 0] rfl (ih _ _ h hx)
set_option maxRecDepth 100000 in
set_option maxHeartbeats 4000000 in
theorem c_X4_join {l : Launch} {G : zz_G} {L : Ly} {b : Nat} (o : Nat) (a1 : Nat) (n1 : Nat) (hO : isSp L o) (h1 : L.2 a1 = some (2, n1, [])) (S : Sg) (Sf : Sg) (h : f_X4_join o a1 n1 S = some Sf) : Met l yX4_join (Cond.code yX4_join cX4_join 9 none :: zz_all) (rmz 1 21) (PC G L b S [.ref (b + o), .ref (b + a1)]) (QC G L b Sf none True) 0 0 (fun q => b ≤ q) := by
  refine x_met [.ref (b + o), .ref (b + a1)] (by decide +kernel) (Nat.le_of_ble_eq_true rfl) fun p e s m args below meth c C => ?_
  unfold f_X4_join at h
  refine x_aload_n (pc := 0) C 1 dX4_join_0 rfl ?_
  obtain ⟨r_1, hc_1, h⟩ := of_bd h
  refine x_callS1 (pc := 1) C [.ref (b + a1)] [] (c_X4_firstIn (b := b) a1 n1 h1 S _ hc_1) cw_X4_30 vs_X4_firstIn ⟨rfl, rfl, Nat.le_of_ble_eq_true rfl, Nat.le_of_ble_eq_true rfl⟩ ⟨Nat.le_refl _, Nat.le_refl _⟩ rfl ⟨rfl, Nat.le_of_ble_eq_true rfl⟩ dX4_join_1 (fun hx_1 => ?_)
  refine x_istore_n (pc := 4) C 2 [(2, .int r_1), (0, .ref (b + o)), (1, .ref (b + a1))] dX4_join_4 rfl (Nat.le_of_ble_eq_true rfl) rfl rfl ?_
  refine x_iload_n (pc := 5) C 0 dX4_join_5 rfl ?_
  refine x_bipush (pc := 6) C (v := (10 : Int32)) dX4_join_6 rfl ?_
  refine x_callSN1 (pc := 8) C [.int r_1, .int (10 : Int32)] [] (c_X6_isWithin (b := b) r_1 (10 : Int32) S) cn_X4_34 vs_X6_isWithin ⟨rfl, rfl, Nat.le_of_ble_eq_true rfl, Nat.le_of_ble_eq_true rfl⟩ ⟨Nat.le_refl _, Nat.le_refl _⟩ rfl ⟨rfl, Nat.le_of_ble_eq_true rfl⟩ dX4_join_8 (fun hx_2 => ?_)
  refine x_if_eq (pc := 11) C 23 dX4_join_11 rfl (fun c_1 => ?_) (fun c_1 => ?_)
  · replace h := of_ifp c_1 h
    exact x_vreturn (pc := 23) C dX4_join_23 (of_s1 h)
  · replace h := of_ifn c_1 h
    refine x_aload_n (pc := 14) C 1 dX4_join_14 rfl ?_
    refine x_getj (pc := 15) C (k := 1) hO.1 rfl rfl wd_47 dX4_join_15 ⟨Nat.le_of_ble_eq_true rfl, rfl⟩ ?_
    refine x_lconst (pc := 18) C (v := (0 : Int64)) dX4_join_18 rfl ?_
    refine x_lcmp_ne (pc := 19) C 24 dX4_join_19 dX4_join_20 rfl (fun c_2 => ?_) (fun c_2 => ?_)
    · replace h := of_ifn c_2 h
      refine x_aload_n (pc := 24) C 2 dX4_join_24 rfl ?_
      refine x_iload_n (pc := 25) C 0 dX4_join_25 rfl ?_
      obtain ⟨g_1, h⟩ := of_gd h
      refine x_laload (pc := 26) C h1 g_1 dX4_join_26 ?_
      obtain ⟨v3_1, ev3_1, h⟩ := of_lt h
      refine x_lstore_n (pc := 27) C 3 [(3, .long v3_1), (2, .int r_1), (0, .ref (b + o)), (1, .ref (b + a1))] dX4_join_27 rfl (Nat.le_of_ble_eq_true rfl) ev3_1 rfl ?_
      refine x_iconst (pc := 28) C (v := (0 : Int32)) dX4_join_28 rfl ?_
      refine x_istore (pc := 29) C [(5, .int (0 : Int32)), (3, .long v3_1), (2, .int r_1), (0, .ref (b + o)), (1, .ref (b + a1))] dX4_join_29 (Nat.le_of_ble_eq_true rfl) rfl rfl ?_
      refine x_sub [3, 4, 2, 1, 0] rfl ?_
      obtain ⟨z_hz_1, hz_1, h⟩ := of_bd h
      refine l_X4_join_31 C o a1 n1 hO h1 r_1 v3_1 400 _ _ hz_1 (fun S_1 ez => ?_)
      subst z_hz_1
      refine x_aload_n (pc := 106) C 0 dX4_join_106 rfl ?_
      refine x_lload_n (pc := 107) C 2 dX4_join_107 rfl ?_
      obtain ⟨S_2, eS_2, h⟩ := of_lt h
      refine x_putj (pc := 108) C (k := 1) hO.1 rfl rfl wd_47 dX4_join_108 ⟨Nat.le_of_ble_eq_true rfl, rfl⟩ eS_2 ?_
      refine x_aload_n (pc := 111) C 0 dX4_join_111 rfl ?_
      refine x_dup (pc := 112) C dX4_join_112 rfl ?_
      refine x_geti (pc := 113) C (k := 2) hO.1 rfl rfl wd_48 dX4_join_113 ⟨Nat.le_of_ble_eq_true rfl, rfl⟩ ?_
      refine x_iconst (pc := 116) C (v := (1 : Int32)) dX4_join_116 rfl ?_
      refine x_iload_n (pc := 117) C 1 dX4_join_117 rfl ?_
      refine x_ishl (pc := 118) C dX4_join_118 ?_
      refine x_ior (pc := 119) C dX4_join_119 ?_
      obtain ⟨S_3, eS_3, h⟩ := of_lt h
      refine x_puti (pc := 120) C (k := 2) hO.1 rfl rfl wd_48 dX4_join_120 ⟨Nat.le_of_ble_eq_true rfl, rfl⟩ eS_3 ?_
      exact x_vreturn (pc := 123) C dX4_join_123 (of_s1 h)
    · replace h := of_ifp c_2 h
      exact x_vreturn (pc := 23) C dX4_join_23 (of_s1 h)
set_option maxRecDepth 100000 in
set_option maxHeartbeats 4000000 in
theorem l_X4_leave_2 {p : Program} {l : Launch} {e : Env} {s : State} {m : MethodId} {args : Array Value} {below : List Frame} {meth : Method} {c : Code} {G : zz_G} {L : Ly} {b : Nat} {Q : State → Prop} (C : CX p G s m args meth c cX4_leave yX4_leave 6 none) (o : Nat) (a1 : Nat) (n1 : Nat) (a2 : Nat) (n2 : Nat) (hO : isSp L o) (h1 : L.2 a1 = some (1, n1, [])) (h2 : L.2 a2 = some (2, n2, [])) : ∀ (n : Nat) (v3 : Int32) (S : Sg) {z}, L_X4_leave_2 o a1 n1 a2 n2 n v3 S = some z → (∀ (S_o : Sg), z = S_o → X p l e (rmz 0 0) s m args below meth c 0 0 Q 6 G L b S_o 18 [(0, .ref (b + o)), (1, .ref (b + a1)), (2, .ref (b + a2))] []) → X p l e (rmz 0 0) s m args below meth c 0 0 Q 6 G L b S 2 [(0, .ref (b + o)), (1, .ref (b + a1)), (2, .ref (b + a2)), (3, .int v3)] [] := by
  intro n
  induction n with
  | zero =>
    intro v3 S z h
    exact of_none h
  | succ n ih =>
    intro v3 S z h hx
    rw [L_X4_leave_2] at h
    refine x_iload_n (pc := 2) C 3 dX4_leave_2 rfl ?_
    refine x_bipush (pc := 3) C (v := (10 : Int32)) dX4_leave_3 rfl ?_
    refine x_icmp_ge (pc := 5) C 18 dX4_leave_5 rfl (fun c_1 => ?_) (fun c_1 => ?_)
    · replace h := of_ifn c_1 h
      exact x_sub [0, 1, 2] rfl (hx _ (of_s1 h).symm)
    · replace h := of_ifp c_1 h
      refine x_aload_n (pc := 8) C 2 dX4_leave_8 rfl ?_
      refine x_iload_n (pc := 9) C 3 dX4_leave_9 rfl ?_
      refine x_lconst (pc := 10) C (v := (0 : Int64)) dX4_leave_10 rfl ?_
      obtain ⟨g_1, h⟩ := of_gd h
      obtain ⟨S_1, eS_1, h⟩ := of_lt h
      refine x_lastore (pc := 11) C h2 g_1 eS_1 dX4_leave_11 ?_
      obtain ⟨v3_1, ev3_1, h⟩ := of_lt h
      refine x_iinc (pc := 12) C (w := (1 : Int32)) 3 [(3, .int v3_1), (0, .ref (b + o)), (1, .ref (b + a1)), (2, .ref (b + a2))] dX4_leave_12 rfl rfl (Nat.le_of_ble_eq_true rfl) ev3_1 rfl ?_
      refine x_goto (pc := 15) C 2 dX4_leave_15 rfl ?_
      exact x_sub [1, 2, 3, 0] rfl (ih _ _ h hx)
set_option maxRecDepth 100000 in
set_option maxHeartbeats 4000000 in
theorem l_X4_leave_42 {p : Program} {l : Launch} {e : Env} {s : State} {m : MethodId} {args : Array Value} {below : List Frame} {meth : Method} {c : Code} {G : zz_G} {L : Ly} {b : Nat} {Q : State → Prop} (C : CX p G s m args meth c cX4_leave yX4_leave 6 none) (o : Nat) (a1 : Nat) (n1 : Nat) (a2 : Nat) (n2 : Nat) (hO : isSp L o) (h1 : L.2 a1 = some (1, n1, [])) (h2 : L.2 a2 = some (2, n2, [])) (v3 : Int32) (v4 : Int32) : ∀ (n : Nat) (v5 : Int32) (S : Sg) {z}, L_X4_leave_42 o a1 n1 a2 n2 v3 v4 n v5 S = some z → (∀ (S_o : Sg), z = S_o → X p l e (rmz 0 0) s m args below meth c 0 0 Q 6 G L b S_o 75 [(0, .ref (b + o)), (1, .ref (b + a1)), (2, .ref (b + a2)), (3, .int v3)] []) → X p l e (rmz 0 0) s m args below meth c 0 0 Q 6 G L b S 42 [(0, .ref (b + o)), (1, .ref (b + a1)), (2, .ref (b + a2)), (3, .int v3), (4, .int v4), (5, .int v5)] [] := by
  intro n
  induction n with
  | zero =>
    intro v5 S z h
    exact of_none h
  | succ n ih =>
    intro v5 S z h hx
    rw [L_X4_leave_42] at h
    refine x_iload (pc := 42) C 5 dX4_leave_42 rfl ?_
    refine x_bipush (pc := 44) C (v := (10 : Int32)) dX4_leave_44 rfl ?_
    refine x_icmp_ge (pc := 46) C 75 dX4_leave_46 rfl (fun c_1 => ?_) (fun c_1 => ?_)
    · replace h := of_ifn c_1 h
      exact x_sub [0, 1, 2, 3] rfl (hx _ (of_s1 h).symm)
    · replace h := of_ifp c_1 h
      refine x_aload_n (pc := 49) C 2 dX4_leave_49 rfl ?_
      refine x_iload (pc := 50) C 5 dX4_leave_50 rfl ?_
      refine x_dup2 (pc := 52) C dX4_leave_52 rfl rfl ?_
      obtain ⟨g_1, h⟩ := of_gd h
      refine x_laload (pc := 53) C h2 g_1 dX4_leave_53 ?_
      refine x_iload (pc := 54) C 4 dX4_leave_54 rfl ?_
      refine x_i2l (pc := 56) C dX4_leave_56 ?_
      refine x_aload_n (pc := 57) C 0 dX4_leave_57 rfl ?_
      refine x_getr (pc := 58) C (k := 0) (o + 1) hO.1 rfl rfl wd_46 dX4_leave_58 (Nat.le_of_ble_eq_true rfl) rfl ?_
      refine x_iload_n (pc := 61) C 3 dX4_leave_61 rfl ?_
      obtain ⟨g_2, h⟩ := of_gd h
      refine x_aaloadJ (pc := 62) C hO.2.1 g_2 dX4_leave_62 ?_
      refine x_iload (pc := 63) C 5 dX4_leave_63 rfl ?_
      obtain ⟨g_3, h⟩ := of_gd h
      refine x_laload (pc := 65) C (hO.2.2 _ (inb_lt (i := v3) g_2)) g_3 dX4_leave_65 ?_
      refine x_lmul (pc := 66) C dX4_leave_66 ?_
      refine x_ladd (pc := 67) C dX4_leave_67 ?_
      obtain ⟨S_1, eS_1, h⟩ := of_lt h
      refine x_lastore (pc := 68) C h2 g_1 eS_1 dX4_leave_68 ?_
      obtain ⟨v5_1, ev5_1, h⟩ := of_lt h
      refine x_iinc (pc := 69) C (w := (1 : Int32)) 5 [(5, .int v5_1), (0, .ref (b + o)), (1, .ref (b + a1)), (2, .ref (b + a2)), (3, .int v3), (4, .int v4)] dX4_leave_69 rfl rfl (Nat.le_of_ble_eq_true rfl) ev5_1 rfl ?_
      refine x_goto (pc := 72) C 42 dX4_leave_72 rfl ?_
      exact x_sub [1, 2, 3, 4, 5, 0] rfl (ih _ _ h hx)
set_option maxRecDepth 100000 in
set_option maxHeartbeats 4000000 in
theorem l_X4_leave_20 {p : Program} {l : Launch} {e : Env} {s : State} {m : MethodId} {args : Array Value} {below : List Frame} {meth : Method} {c : Code} {G : zz_G} {L : Ly} {b : Nat} {Q : State → Prop} (C : CX p G s m args meth c cX4_leave yX4_leave 6 none) (o : Nat) (a1 : Nat) (n1 : Nat) (a2 : Nat) (n2 : Nat) (hO : isSp L o) (h1 : L.2 a1 = some (1, n1, [])) (h2 : L.2 a2 = some (2, n2, [])) : ∀ (n : Nat) (v3 : Int32) (S : Sg) {z}, L_X4_leave_20 o a1 n1 a2 n2 n v3 S = some z → (∀ (S_o : Sg), z = S_o → X p l e (rmz 0 0) s m args below meth c 0 0 Q 6 G L b S_o 81 [] []) → X p l e (rmz 0 0) s m args below meth c 0 0 Q 6 G L b S 20 [(0, .ref (b + o)), (1, .ref (b + a1)), (2, .ref (b + a2)), (3, .int v3)] [] := by
  intro n
  induction n with
  | zero =>
    intro v3 S z h
    exact of_none h
  | succ n ih =>
    intro v3 S z h hx
    rw [L_X4_leave_20] at h
    refine x_iload_n (pc := 20) C 3 dX4_leave_20 rfl ?_
    refine x_bipush (pc := 21) C (v := (10 : Int32)) dX4_leave_21 rfl ?_
    refine x_icmp_ge (pc := 23) C 81 dX4_leave_23 rfl (fun c_1 => ?_) (fun c_1 => ?_)
    · replace h := of_ifn c_1 h
      exact x_sub [] rfl (hx _ (of_s1 h).symm)
    · replace h := of_ifp c_1 h
      refine x_aload_n (pc := 26) C 1 dX4_leave_26 rfl ?_
      refine x_iload_n (pc := 27) C 3 dX4_leave_27 rfl ?_
      obtain ⟨g_1, h⟩ := of_gd h
      refine x_iaload (pc := 28) C h1 g_1 dX4_leave_28 ?_
      obtain ⟨v4_1, ev4_1, h⟩ := of_lt h
      refine x_istore (pc := 29) C [(4, .int v4_1), (0, .ref (b + o)), (1, .ref (b + a1)), (2, .ref (b + a2)), (3, .int v3)] dX4_leave_29 (Nat.le_of_ble_eq_true rfl) ev4_1 rfl ?_
      refine x_iload (pc := 31) C 0 dX4_leave_31 rfl ?_
      refine x_if_ne (pc := 33) C 39 dX4_leave_33 rfl (fun c_2 => ?_) (fun c_2 => ?_)
      · replace h := of_ifn c_2 h
        refine x_iconst (pc := 39) C (v := (0 : Int32)) dX4_leave_39 rfl ?_
        refine x_istore (pc := 40) C [(5, .int (0 : Int32)), (4, .int v4_1), (0, .ref (b + o)), (1, .ref (b + a1)), (2, .ref (b + a2)), (3, .int v3)] dX4_leave_40 (Nat.le_of_ble_eq_true rfl) rfl rfl ?_
        refine x_sub [2, 3, 4, 5, 1, 0] rfl ?_
        obtain ⟨z_hz_1, hz_1, h⟩ := of_bd h
        refine l_X4_leave_42 C o a1 n1 a2 n2 hO h1 h2 v3 v4_1 400 _ _ hz_1 (fun S_1 ez => ?_)
        subst z_hz_1
        obtain ⟨v3_1, ev3_1, h⟩ := of_lt h
        refine x_iinc (pc := 75) C (w := (1 : Int32)) 3 [(3, .int v3_1), (0, .ref (b + o)), (1, .ref (b + a1)), (2, .ref (b + a2))] dX4_leave_75 rfl rfl (Nat.le_of_ble_eq_true rfl) ev3_1 rfl ?_
        refine x_goto (pc := 78) C 20 dX4_leave_78 rfl ?_
        exact x_sub [1, 2, 3, 0] rfl (ih _ _ h hx)
      · replace h := of_ifp c_2 h
        refine x_goto (pc := 36) C 75 dX4_leave_36 rfl ?_
        obtain ⟨v3_2, ev3_2, h⟩ := of_lt h
        refine x_iinc (pc := 75) C (w := (1 : Int32)) 4 [(3, .int v3_2), (4, .int v4_1), (0, .ref (b + o)), (1, .ref (b + a1)), (2, .ref (b + a2))] dX4_leave_75 rfl rfl (Nat.le_of_ble_eq_true rfl) ev3_2 rfl ?_
        refine x_goto (pc := 78) C 20 dX4_leave_78 rfl ?_
        exact x_sub [2, 3, 4, 0] rfl (ih _ _ h hx)
set_option maxRecDepth 100000 in
set_option maxHeartbeats 4000000 in
theorem c_X4_leave {l : Launch} {G : zz_G} {L : Ly} {b : Nat} (o : Nat) (a1 : Nat) (n1 : Nat) (a2 : Nat) (n2 : Nat) (hO : isSp L o) (h1 : L.2 a1 = some (1, n1, [])) (h2 : L.2 a2 = some (2, n2, [])) (S : Sg) (Sf : Sg) (h : f_X4_leave o a1 n1 a2 n2 S = some Sf) : Met l yX4_leave (Cond.code yX4_leave cX4_leave 6 none :: zz_all) (rmz 0 0) (PC G L b S [.ref (b + o), .ref (b + a1), .ref (b + a2)]) (QC G L b Sf none True) 0 0 (fun q => b ≤ q) := by
  refine x_met [.ref (b + o), .ref (b + a1), .ref (b + a2)] (by decide +kernel) (Nat.le_of_ble_eq_true rfl) fun p e s m args below meth c C => ?_
  unfold f_X4_leave at h
  refine x_iconst (pc := 0) C (v := (0 : Int32)) dX4_leave_0 rfl ?_
  refine x_istore_n (pc := 1) C 3 [(3, .int (0 : Int32)), (0, .ref (b + o)), (1, .ref (b + a1)), (2, .ref (b + a2))] dX4_leave_1 rfl (Nat.le_of_ble_eq_true rfl) rfl rfl ?_
  refine x_sub [1, 2, 3, 0] rfl ?_
  obtain ⟨z_hz_2, hz_2, h⟩ := of_bd h
  refine l_X4_leave_2 C o a1 n1 a2 n2 hO h1 h2 400 _ _ hz_2 (fun S_1 ez => ?_)
  subst z_hz_2
  refine x_iconst (pc := 18) C (v := (0 : Int32)) dX4_leave_18 rfl ?_
  refine x_istore_n (pc := 19) C 3 [(3, .int (0 : Int32)), (0, .ref (b + o)), (1, .ref (b + a1)), (2, .ref (b + a2))] dX4_leave_19 rfl (Nat.le_of_ble_eq_true rfl) rfl rfl ?_
  refine x_sub [1, 2, 3, 0] rfl ?_
  obtain ⟨z_hz_1, hz_1, h⟩ := of_bd h
  refine l_X4_leave_20 C o a1 n1 a2 n2 hO h1 h2 400 _ _ hz_1 (fun S_2 ez => ?_)
  subst z_hz_1
  exact x_vreturn (pc := 81) C dX4_leave_81 (of_s1 h)
set_option maxRecDepth 100000 in
set_option maxHeartbeats 4000000 in
theorem l_X5_findRest_2 {p : Program} {l : Launch} {e : Env} {s : State} {m : MethodId} {args : Array Value} {below : List Frame} {meth : Method} {c : Code} {G : zz_G} {L : Ly} {b : Nat} {Q : State → Prop} (C : CX p G s m args meth c cX5_findRest yX5_findRest 4 none) (o : Nat) (o1 : Nat) (hO : isW L o) (h1 : isQ L o1) : ∀ (n : Nat) (v2 : Int32) (S : Sg) {z}, L_X5_findRest_2 o o1 n v2 S = some z → (∀ (S_o : Sg), z = S_o → X p l e (rmz 1 25) s m args below meth c 0 0 Q 4 G L b S_o 21 [(0, .ref (b + o)), (1, .ref (b + o1))] []) → X p l e (rmz 1 25) s m args below meth c 0 0 Q 4 G L b S 2 [(0, .ref (b + o)), (1, .ref (b + o1)), (2, .int v2)] [] := by
  intro n
  induction n with
  | zero =>
    intro v2 S z h
    exact of_none h
  | succ n ih =>
    intro v2 S z h hx
    rw [L_X5_findRest_2] at h
    refine x_iload_n (pc := 2) C 2 dX5_findRest_2 rfl ?_
    refine x_bipush (pc := 3) C (v := (10 : Int32)) dX5_findRest_3 rfl ?_
    refine x_icmp_ge (pc := 5) C 21 dX5_findRest_5 rfl (fun c_1 => ?_) (fun c_1 => ?_)
    · replace h := of_ifn c_1 h
      exact x_sub [0, 1] rfl (hx _ (of_s1 h).symm)
    · replace h := of_ifp c_1 h
      refine x_aload_n (pc := 8) C 0 dX5_findRest_8 rfl ?_
      refine x_getr (pc := 9) C (k := 12) (o + 41) hO.1 rfl rfl wd_78 dX5_findRest_9 (Nat.le_of_ble_eq_true rfl) rfl ?_
      refine x_iload_n (pc := 12) C 2 dX5_findRest_12 rfl ?_
      refine x_iconst (pc := 13) C (v := (0 : Int32)) dX5_findRest_13 rfl ?_
      obtain ⟨g_1, h⟩ := of_gd h
      obtain ⟨S_1, eS_1, h⟩ := of_lt h
      refine x_iastore (pc := 14) C hO.2.2.2.2.2.2.2.2.2.2.1 g_1 eS_1 dX5_findRest_14 ?_
      obtain ⟨v2_1, ev2_1, h⟩ := of_lt h
      refine x_iinc (pc := 15) C (w := (1 : Int32)) 2 [(2, .int v2_1), (0, .ref (b + o)), (1, .ref (b + o1))] dX5_findRest_15 rfl rfl (Nat.le_of_ble_eq_true rfl) ev2_1 rfl ?_
      refine x_goto (pc := 18) C 2 dX5_findRest_18 rfl ?_
      exact x_sub [1, 2, 0] rfl (ih _ _ h hx)
set_option maxRecDepth 100000 in
set_option maxHeartbeats 4000000 in
theorem l_X5_findRest_23 {p : Program} {l : Launch} {e : Env} {s : State} {m : MethodId} {args : Array Value} {below : List Frame} {meth : Method} {c : Code} {G : zz_G} {L : Ly} {b : Nat} {Q : State → Prop} (C : CX p G s m args meth c cX5_findRest yX5_findRest 4 none) (o : Nat) (o1 : Nat) (hO : isW L o) (h1 : isQ L o1) : ∀ (n : Nat) (v2 : Int32) (S : Sg) {z}, L_X5_findRest_23 o o1 n v2 S = some z → (∀ (S_o : Sg), z = S_o → X p l e (rmz 1 25) s m args below meth c 0 0 Q 4 G L b S_o 63 [(0, .ref (b + o))] []) → X p l e (rmz 1 25) s m args below meth c 0 0 Q 4 G L b S 23 [(0, .ref (b + o)), (1, .ref (b + o1)), (2, .int v2)] [] := by
  intro n
  induction n with
  | zero =>
    intro v2 S z h
    exact of_none h
  | succ n ih =>
    intro v2 S z h hx
    rw [L_X5_findRest_23] at h
    refine x_iload_n (pc := 23) C 2 dX5_findRest_23 rfl ?_
    refine x_bipush (pc := 24) C (v := (8 : Int32)) dX5_findRest_24 rfl ?_
    refine x_icmp_ge (pc := 26) C 63 dX5_findRest_26 rfl (fun c_1 => ?_) (fun c_1 => ?_)
    · replace h := of_ifn c_1 h
      exact x_sub [0] rfl (hx _ (of_s1 h).symm)
    · replace h := of_ifp c_1 h
      refine x_aload_n (pc := 29) C 0 dX5_findRest_29 rfl ?_
      refine x_getr (pc := 30) C (k := 0) (o + 1) hO.1 rfl rfl wd_59 dX5_findRest_30 (Nat.le_of_ble_eq_true rfl) rfl ?_
      refine x_iload_n (pc := 33) C 2 dX5_findRest_33 rfl ?_
      obtain ⟨g_1, h⟩ := of_gd h
      refine x_iaload (pc := 34) C hO.2.1 g_1 dX5_findRest_34 ?_
      obtain ⟨v3_1, ev3_1, h⟩ := of_lt h
      refine x_istore_n (pc := 35) C 3 [(3, .int v3_1), (0, .ref (b + o)), (1, .ref (b + o1)), (2, .int v2)] dX5_findRest_35 rfl (Nat.le_of_ble_eq_true rfl) ev3_1 rfl ?_
      refine x_iload_n (pc := 36) C 0 dX5_findRest_36 rfl ?_
      refine x_bipush (pc := 37) C (v := (10 : Int32)) dX5_findRest_37 rfl ?_
      refine x_callSN1 (pc := 39) C [.int v3_1, .int (10 : Int32)] [] (c_X6_isWithin (b := b) v3_1 (10 : Int32) S) cn_X5_72 vs_X6_isWithin ⟨rfl, rfl, Nat.le_of_ble_eq_true rfl, Nat.le_of_ble_eq_true rfl⟩ ⟨Nat.le_refl _, Nat.le_refl _⟩ rfl ⟨rfl, Nat.le_of_ble_eq_true rfl⟩ dX5_findRest_39 (fun hx_1 => ?_)
      refine x_if_eq (pc := 42) C 57 dX5_findRest_42 rfl (fun c_2 => ?_) (fun c_2 => ?_)
      · replace h := of_ifp c_2 h
        obtain ⟨v2_1, ev2_1, h⟩ := of_lt h
        refine x_iinc (pc := 57) C (w := (1 : Int32)) 3 [(2, .int v2_1), (3, .int v3_1), (0, .ref (b + o)), (1, .ref (b + o1))] dX5_findRest_57 rfl rfl (Nat.le_of_ble_eq_true rfl) ev2_1 rfl ?_
        refine x_goto (pc := 60) C 23 dX5_findRest_60 rfl ?_
        exact x_sub [2, 3, 0] rfl (ih _ _ h hx)
      · replace h := of_ifn c_2 h
        refine x_aload_n (pc := 45) C 1 dX5_findRest_45 rfl ?_
        refine x_getr (pc := 46) C (k := 12) (o + 41) hO.1 rfl rfl wd_78 dX5_findRest_46 (Nat.le_of_ble_eq_true rfl) rfl ?_
        refine x_iload_n (pc := 49) C 0 dX5_findRest_49 rfl ?_
        refine x_aload_n (pc := 50) C 2 dX5_findRest_50 rfl ?_
        refine x_getr (pc := 51) C (k := 0) (o1 + 1) h1.1 rfl rfl wd_116 dX5_findRest_51 (Nat.le_of_ble_eq_true rfl) rfl ?_
        refine x_iload_n (pc := 54) C 3 dX5_findRest_54 rfl ?_
        refine x_iaload (pc := 55) C h1.2 g_1 dX5_findRest_55 ?_
        obtain ⟨g_2, h⟩ := of_gd h
        obtain ⟨S_1, eS_1, h⟩ := of_lt h
        refine x_iastore (pc := 56) C hO.2.2.2.2.2.2.2.2.2.2.1 g_2 eS_1 dX5_findRest_56 ?_
        obtain ⟨v2_2, ev2_2, h⟩ := of_lt h
        refine x_iinc (pc := 57) C (w := (1 : Int32)) 3 [(2, .int v2_2), (3, .int v3_1), (0, .ref (b + o)), (1, .ref (b + o1))] dX5_findRest_57 rfl rfl (Nat.le_of_ble_eq_true rfl) ev2_2 rfl ?_
        refine x_goto (pc := 60) C 23 dX5_findRest_60 rfl ?_
        exact x_sub [2, 3, 0] rfl (ih _ _ h hx)
set_option maxRecDepth 100000 in
set_option maxHeartbeats 4000000 in
theorem c_X5_findRest {l : Launch} {G : zz_G} {L : Ly} {b : Nat} (o : Nat) (o1 : Nat) (hO : isW L o) (h1 : isQ L o1) (S : Sg) (Sf : Sg) (h : f_X5_findRest o o1 S = some Sf) : Met l yX5_findRest (Cond.code yX5_findRest cX5_findRest 4 none :: zz_all) (rmz 1 25) (PC G L b S [.ref (b + o), .ref (b + o1)]) (QC G L b Sf none True) 0 0 (fun q => b ≤ q) := by
  refine x_met [.ref (b + o), .ref (b + o1)] (by decide +kernel) (Nat.le_of_ble_eq_true rfl) fun p e s m args below meth c C => ?_
  unfold f_X5_findRest at h
  refine x_iconst (pc := 0) C (v := (0 : Int32)) dX5_findRest_0 rfl ?_
  refine x_istore_n (pc := 1) C 2 [(2, .int (0 : Int32)), (0, .ref (b + o)), (1, .ref (b + o1))] dX5_findRest_1 rfl (Nat.le_of_ble_eq_true rfl) rfl rfl ?_
  refine x_sub [1, 2, 0] rfl ?_
  obtain ⟨z_hz_2, hz_2, h⟩ := of_bd h
  refine l_X5_findRest_2 C o o1 hO h1 400 _ _ hz_2 (fun S_1 ez => ?_)
  subst z_hz_2
  refine x_iconst (pc := 21) C (v := (0 : Int32)) dX5_findRest_21 rfl ?_
  refine x_istore_n (pc := 22) C 2 [(2, .int (0 : Int32)), (0, .ref (b + o)), (1, .ref (b + o1))] dX5_findRest_22 rfl (Nat.le_of_ble_eq_true rfl) rfl rfl ?_
  refine x_sub [1, 2, 0] rfl ?_
  obtain ⟨z_hz_1, hz_1, h⟩ := of_bd h
  refine l_X5_findRest_23 C o o1 hO h1 400 _ _ hz_1 (fun S_2 ez => ?_)
  subst z_hz_1
  refine x_aload_n (pc := 63) C 0 dX5_findRest_63 rfl ?_
  refine x_getr (pc := 64) C (k := 10) (o + 17) hO.1 rfl rfl wd_75 dX5_findRest_64 (Nat.le_of_ble_eq_true rfl) rfl ?_
  refine x_aload_n (pc := 67) C 0 dX5_findRest_67 rfl ?_
  refine x_getr (pc := 68) C (k := 12) (o + 41) hO.1 rfl rfl wd_78 dX5_findRest_68 (Nat.le_of_ble_eq_true rfl) rfl ?_
  refine x_aload_n (pc := 71) C 0 dX5_findRest_71 rfl ?_
  refine x_getr (pc := 72) C (k := 13) (o + 42) hO.1 rfl rfl wd_79 dX5_findRest_72 (Nat.le_of_ble_eq_true rfl) rfl ?_
  obtain ⟨S_3, hc_1, h⟩ := of_bd h
  refine x_callV_ (pc := 75) C (o := (o + 17)) [.ref (b + (o + 41)), .ref (b + (o + 42))] [] (c_X4_leave (b := b) (o + 17) (o + 41) 10 (o + 42) 10 hO.2.2.2.2.2.2.2.2.1 hO.2.2.2.2.2.2.2.2.2.2.1 hO.2.2.2.2.2.2.2.2.2.2.2 S_2 _ hc_1) cw_X5_143 vi_X4_leave ⟨rfl, rfl, Nat.le_of_ble_eq_true rfl, Nat.le_of_ble_eq_true rfl⟩ ⟨Nat.le_refl _, Nat.le_refl _⟩ hO.2.2.2.2.2.2.2.2.1.1 ⟨rfl, rfl, rfl⟩ rfl ⟨rfl, Nat.le_of_ble_eq_true rfl⟩ dX5_findRest_75 (fun hx_1 => ?_)
  exact x_vreturn (pc := 78) C dX5_findRest_78 (of_s1 h)
set_option maxRecDepth 100000 in
set_option maxHeartbeats 4000000 in
theorem l_X5_trueAnswer_4 {p : Program} {l : Launch} {e : Env} {s : State} {m : MethodId} {args : Array Value} {below : List Frame} {meth : Method} {c : Code} {G : zz_G} {L : Ly} {b : Nat} {Q : State → Prop} (C : CX p G s m args meth c cX5_trueAnswer yX5_trueAnswer 5 (some .int)) (o : Nat) (o1 : Nat) (hO : isW L o) (h1 : isQ L o1) (S : Sg) : ∀ (n : Nat) (v2 : Int32) (v3 : Int32) {z}, L_X5_trueAnswer_4 o o1 S n v2 v3 = some z → (∀ (v2_o : Int32), z = v2_o → X p l e (rmz 1 21) s m args below meth c 0 0 Q 5 G L b S 51 [(2, .int v2_o)] []) → X p l e (rmz 1 21) s m args below meth c 0 0 Q 5 G L b S 4 [(0, .ref (b + o)), (1, .ref (b + o1)), (2, .int v2), (3, .int v3)] [] := by
  intro n
  induction n with
  | zero =>
    intro v2 v3 z h
    exact of_none h
  | succ n ih =>
    intro v2 v3 z h hx
    rw [L_X5_trueAnswer_4] at h
    refine x_iload_n (pc := 4) C 3 dX5_trueAnswer_4 rfl ?_
    refine x_bipush (pc := 5) C (v := (8 : Int32)) dX5_trueAnswer_5 rfl ?_
    refine x_icmp_ge (pc := 7) C 51 dX5_trueAnswer_7 rfl (fun c_1 => ?_) (fun c_1 => ?_)
    · replace h := of_ifn c_1 h
      exact x_sub [2] rfl (hx _ (of_s1 h).symm)
    · replace h := of_ifp c_1 h
      refine x_aload_n (pc := 10) C 0 dX5_trueAnswer_10 rfl ?_
      refine x_getr (pc := 11) C (k := 0) (o + 1) hO.1 rfl rfl wd_59 dX5_trueAnswer_11 (Nat.le_of_ble_eq_true rfl) rfl ?_
      refine x_iload_n (pc := 14) C 3 dX5_trueAnswer_14 rfl ?_
      obtain ⟨g_1, h⟩ := of_gd h
      refine x_iaload (pc := 15) C hO.2.1 g_1 dX5_trueAnswer_15 ?_
      obtain ⟨v4_1, ev4_1, h⟩ := of_lt h
      refine x_istore (pc := 16) C [(4, .int v4_1), (0, .ref (b + o)), (1, .ref (b + o1)), (2, .int v2), (3, .int v3)] dX5_trueAnswer_16 (Nat.le_of_ble_eq_true rfl) ev4_1 rfl ?_
      refine x_iload (pc := 18) C 0 dX5_trueAnswer_18 rfl ?_
      refine x_bipush (pc := 20) C (v := (10 : Int32)) dX5_trueAnswer_20 rfl ?_
      refine x_callSN1 (pc := 22) C [.int v4_1, .int (10 : Int32)] [] (c_X6_isWithin (b := b) v4_1 (10 : Int32) S) cn_X5_72 vs_X6_isWithin ⟨rfl, rfl, Nat.le_of_ble_eq_true rfl, Nat.le_of_ble_eq_true rfl⟩ ⟨Nat.le_refl _, Nat.le_refl _⟩ rfl ⟨rfl, Nat.le_of_ble_eq_true rfl⟩ dX5_trueAnswer_22 (fun hx_1 => ?_)
      refine x_if_eq (pc := 25) C 45 dX5_trueAnswer_25 rfl (fun c_2 => ?_) (fun c_2 => ?_)
      · replace h := of_ifp c_2 h
        obtain ⟨v3_1, ev3_1, h⟩ := of_lt h
        refine x_iinc (pc := 45) C (w := (1 : Int32)) 4 [(3, .int v3_1), (4, .int v4_1), (0, .ref (b + o)), (1, .ref (b + o1)), (2, .int v2)] dX5_trueAnswer_45 rfl rfl (Nat.le_of_ble_eq_true rfl) ev3_1 rfl ?_
        refine x_goto (pc := 48) C 4 dX5_trueAnswer_48 rfl ?_
        exact x_sub [2, 3, 4, 0] rfl (ih _ _ h hx)
      · replace h := of_ifn c_2 h
        refine x_iload_n (pc := 28) C 3 dX5_trueAnswer_28 rfl ?_
        refine x_aload_n (pc := 29) C 2 dX5_trueAnswer_29 rfl ?_
        refine x_getr (pc := 30) C (k := 0) (o1 + 1) h1.1 rfl rfl wd_116 dX5_trueAnswer_30 (Nat.le_of_ble_eq_true rfl) rfl ?_
        refine x_iload_n (pc := 33) C 4 dX5_trueAnswer_33 rfl ?_
        refine x_iaload (pc := 34) C h1.2 g_1 dX5_trueAnswer_34 ?_
        refine x_aload_n (pc := 35) C 1 dX5_trueAnswer_35 rfl ?_
        refine x_getr (pc := 36) C (k := 1) (o + 2) hO.1 rfl rfl wd_60 dX5_trueAnswer_36 (Nat.le_of_ble_eq_true rfl) rfl ?_
        refine x_iload (pc := 39) C 0 dX5_trueAnswer_39 rfl ?_
        obtain ⟨g_2, h⟩ := of_gd h
        refine x_iaload (pc := 41) C hO.2.2.1 g_2 dX5_trueAnswer_41 ?_
        refine x_imul (pc := 42) C dX5_trueAnswer_42 ?_
        refine x_iadd (pc := 43) C dX5_trueAnswer_43 ?_
        obtain ⟨v2_1, ev2_1, h⟩ := of_lt h
        refine x_istore_n (pc := 44) C 2 [(2, .int v2_1), (4, .int v4_1), (0, .ref (b + o)), (1, .ref (b + o1)), (3, .int v3)] dX5_trueAnswer_44 rfl (Nat.le_of_ble_eq_true rfl) ev2_1 rfl ?_
        obtain ⟨v3_2, ev3_2, h⟩ := of_lt h
        refine x_iinc (pc := 45) C (w := (1 : Int32)) 4 [(3, .int v3_2), (2, .int v2_1), (4, .int v4_1), (0, .ref (b + o)), (1, .ref (b + o1))] dX5_trueAnswer_45 rfl rfl (Nat.le_of_ble_eq_true rfl) ev3_2 rfl ?_
        refine x_goto (pc := 48) C 4 dX5_trueAnswer_48 rfl ?_
        exact x_sub [3, 4, 1, 0] rfl (ih _ _ h hx)
set_option maxRecDepth 100000 in
set_option maxHeartbeats 4000000 in
theorem c_X5_trueAnswer {l : Launch} {G : zz_G} {L : Ly} {b : Nat} (o : Nat) (o1 : Nat) (hO : isW L o) (h1 : isQ L o1) (S : Sg) (rf : Int32) (h : f_X5_trueAnswer o o1 S = some rf) : Met l yX5_trueAnswer (Cond.code yX5_trueAnswer cX5_trueAnswer 5 (some .int) :: zz_all) (rmz 1 21) (PC G L b S [.ref (b + o), .ref (b + o1)]) (QC G L b S (some (.int rf)) True) 0 0 (fun q => b ≤ q) := by
  refine x_met [.ref (b + o), .ref (b + o1)] (by decide +kernel) (Nat.le_of_ble_eq_true rfl) fun p e s m args below meth c C => ?_
  unfold f_X5_trueAnswer at h
  refine x_iconst (pc := 0) C (v := (0 : Int32)) dX5_trueAnswer_0 rfl ?_
  refine x_istore_n (pc := 1) C 2 [(2, .int (0 : Int32)), (0, .ref (b + o)), (1, .ref (b + o1))] dX5_trueAnswer_1 rfl (Nat.le_of_ble_eq_true rfl) rfl rfl ?_
  refine x_iconst (pc := 2) C (v := (0 : Int32)) dX5_trueAnswer_2 rfl ?_
  refine x_istore_n (pc := 3) C 3 [(3, .int (0 : Int32)), (2, .int (0 : Int32)), (0, .ref (b + o)), (1, .ref (b + o1))] dX5_trueAnswer_3 rfl (Nat.le_of_ble_eq_true rfl) rfl rfl ?_
  refine x_sub [2, 3, 1, 0] rfl ?_
  obtain ⟨z_hz_1, hz_1, h⟩ := of_bd h
  refine l_X5_trueAnswer_4 C o o1 hO h1 S 400 _ _ hz_1 (fun v2_1 ez => ?_)
  subst z_hz_1
  refine x_iload_n (pc := 51) C 0 dX5_trueAnswer_51 rfl ?_
  exact x_ireturn (pc := 52) C dX5_trueAnswer_52 (of_s1 h) rfl
set_option maxRecDepth 100000 in
set_option maxHeartbeats 4000000 in
theorem c_X5_join {l : Launch} {G : zz_G} {L : Ly} {b : Nat} (o : Nat) (o1 : Nat) (hO : isW L o) (h1 : isQ L o1) (S : Sg) (Sf : Sg) (h : f_X5_join o o1 S = some Sf) : Met l yX5_join (Cond.code yX5_join cX5_join 2 none :: zz_all) (rmz 2 49) (PC G L b S [.ref (b + o), .ref (b + o1)]) (QC G L b Sf none True) 0 0 (fun q => b ≤ q) := by
  refine x_met [.ref (b + o), .ref (b + o1)] (by decide +kernel) (Nat.le_of_ble_eq_true rfl) fun p e s m args below meth c C => ?_
  unfold f_X5_join at h
  refine x_aload_n (pc := 0) C 0 dX5_join_0 rfl ?_
  refine x_aload_n (pc := 1) C 1 dX5_join_1 rfl ?_
  obtain ⟨S_1, hc_1, h⟩ := of_bd h
  refine x_callV_ (pc := 2) C (o := o) [.ref (b + o1)] [] (c_X5_findRest (b := b) o o1 hO h1 S _ hc_1) cw_X5_114 vi_X5_findRest ⟨rfl, rfl, Nat.le_of_ble_eq_true rfl, Nat.le_of_ble_eq_true rfl⟩ ⟨Nat.le_refl _, Nat.le_refl _⟩ hO.1 ⟨rfl, rfl, rfl⟩ rfl ⟨rfl, Nat.le_of_ble_eq_true rfl⟩ dX5_join_2 (fun hx_1 => ?_)
  refine x_aload_n (pc := 5) C 0 dX5_join_5 rfl ?_
  refine x_getr (pc := 6) C (k := 13) (o + 42) hO.1 rfl rfl wd_79 dX5_join_6 (Nat.le_of_ble_eq_true rfl) rfl ?_
  obtain ⟨r_1, hc_2, h⟩ := of_bd h
  refine x_callS1 (pc := 9) C [.ref (b + (o + 42))] [] (c_X4_firstIn (b := b) (o + 42) 10 hO.2.2.2.2.2.2.2.2.2.2.2 S_1 _ hc_2) cw_X5_117 vs_X4_firstIn ⟨rfl, rfl, Nat.le_of_ble_eq_true rfl, Nat.le_of_ble_eq_true rfl⟩ ⟨Nat.le_refl _, Nat.le_refl _⟩ rfl ⟨rfl, Nat.le_of_ble_eq_true rfl⟩ dX5_join_9 (fun hx_2 => ?_)
  refine x_if_lt (pc := 12) C 27 dX5_join_12 rfl (fun c_1 => ?_) (fun c_1 => ?_)
  · replace h := of_ifp c_1 h
    exact x_vreturn (pc := 27) C dX5_join_27 (of_s1 h)
  · replace h := of_ifn c_1 h
    refine x_aload_n (pc := 15) C 0 dX5_join_15 rfl ?_
    refine x_geti (pc := 16) C (k := 9) hO.1 rfl rfl wd_73 dX5_join_16 ⟨Nat.le_of_ble_eq_true rfl, rfl⟩ ?_
    refine x_bipush (pc := 19) C (v := (10 : Int32)) dX5_join_19 rfl ?_
    refine x_callSN1 (pc := 21) C [.int (S_1.1 o 9), .int (10 : Int32)] [] (c_X6_isWithin (b := b) (S_1.1 o 9) (10 : Int32) S_1) cn_X5_72 vs_X6_isWithin ⟨rfl, rfl, Nat.le_of_ble_eq_true rfl, Nat.le_of_ble_eq_true rfl⟩ ⟨Nat.le_refl _, Nat.le_refl _⟩ rfl ⟨rfl, Nat.le_of_ble_eq_true rfl⟩ dX5_join_21 (fun hx_3 => ?_)
    refine x_if_ne (pc := 24) C 28 dX5_join_24 rfl (fun c_2 => ?_) (fun c_2 => ?_)
    · replace h := of_ifn c_2 h
      refine x_aload_n (pc := 28) C 0 dX5_join_28 rfl ?_
      refine x_getr (pc := 29) C (k := 12) (o + 41) hO.1 rfl rfl wd_78 dX5_join_29 (Nat.le_of_ble_eq_true rfl) rfl ?_
      refine x_iconst (pc := 32) C (v := (0 : Int32)) dX5_join_32 rfl ?_
      refine x_aload_n (pc := 33) C 0 dX5_join_33 rfl ?_
      refine x_getr (pc := 34) C (k := 7) (o + 5) hO.1 rfl rfl wd_70 dX5_join_34 (Nat.le_of_ble_eq_true rfl) rfl ?_
      refine x_aload_n (pc := 37) C 0 dX5_join_37 rfl ?_
      refine x_geti (pc := 38) C (k := 9) hO.1 rfl rfl wd_73 dX5_join_38 ⟨Nat.le_of_ble_eq_true rfl, rfl⟩ ?_
      obtain ⟨g_1, h⟩ := of_gd h
      refine x_aaloadI (pc := 41) C hO.2.2.2.2.2.1 g_1 dX5_join_41 ?_
      refine x_iconst (pc := 42) C (v := (0 : Int32)) dX5_join_42 rfl ?_
      refine x_bipush (pc := 43) C (v := (10 : Int32)) dX5_join_43 rfl ?_
      obtain ⟨S_2, eS_2, h⟩ := of_lt h
      refine x_acpI (pc := 45) C sysw_X5 hO.2.2.2.2.2.2.2.2.2.2.1 (hO.2.2.2.2.2.2.1 _ (inb_lt (i := (S_1.1 o 9)) g_1)) (by decide) eS_2 ⟨Nat.le_of_ble_eq_true rfl, Nat.le_of_ble_eq_true rfl⟩ (Nat.le_of_ble_eq_true rfl) dX5_join_45 ?_
      refine x_aload_n (pc := 48) C 0 dX5_join_48 rfl ?_
      refine x_getr (pc := 49) C (k := 8) (o + 16) hO.1 rfl rfl wd_71 dX5_join_49 (Nat.le_of_ble_eq_true rfl) rfl ?_
      refine x_aload_n (pc := 52) C 0 dX5_join_52 rfl ?_
      refine x_geti (pc := 53) C (k := 9) hO.1 rfl rfl wd_73 dX5_join_53 ⟨Nat.le_of_ble_eq_true rfl, rfl⟩ ?_
      refine x_aload_n (pc := 56) C 0 dX5_join_56 rfl ?_
      refine x_aload_n (pc := 57) C 1 dX5_join_57 rfl ?_
      obtain ⟨r_2, hc_3, h⟩ := of_bd h
      refine x_callV1 (pc := 58) C (o := o) [.ref (b + o1)] [.int (S_2.1 o 9), .ref (b + (o + 16))] (c_X5_trueAnswer (b := b) o o1 hO h1 S_2 _ hc_3) cw_X5_136 vi_X5_trueAnswer ⟨rfl, rfl, Nat.le_of_ble_eq_true rfl, Nat.le_of_ble_eq_true rfl⟩ ⟨Nat.le_refl _, Nat.le_refl _⟩ hO.1 ⟨rfl, rfl, rfl⟩ rfl ⟨rfl, Nat.le_of_ble_eq_true rfl⟩ dX5_join_58 (fun hx_4 => ?_)
      obtain ⟨g_2, h⟩ := of_gd h
      obtain ⟨S_3, eS_3, h⟩ := of_lt h
      refine x_iastore (pc := 61) C hO.2.2.2.2.2.2.2.1 g_2 eS_3 dX5_join_61 ?_
      refine x_aload_n (pc := 62) C 0 dX5_join_62 rfl ?_
      refine x_dup (pc := 63) C dX5_join_63 rfl ?_
      refine x_geti (pc := 64) C (k := 9) hO.1 rfl rfl wd_73 dX5_join_64 ⟨Nat.le_of_ble_eq_true rfl, rfl⟩ ?_
      refine x_iconst (pc := 67) C (v := (1 : Int32)) dX5_join_67 rfl ?_
      refine x_iadd (pc := 68) C dX5_join_68 ?_
      obtain ⟨S_4, eS_4, h⟩ := of_lt h
      refine x_puti (pc := 69) C (k := 9) hO.1 rfl rfl wd_73 dX5_join_69 ⟨Nat.le_of_ble_eq_true rfl, rfl⟩ eS_4 ?_
      refine x_aload_n (pc := 72) C 0 dX5_join_72 rfl ?_
      refine x_getr (pc := 73) C (k := 10) (o + 17) hO.1 rfl rfl wd_75 dX5_join_73 (Nat.le_of_ble_eq_true rfl) rfl ?_
      refine x_aload_n (pc := 76) C 0 dX5_join_76 rfl ?_
      refine x_getr (pc := 77) C (k := 13) (o + 42) hO.1 rfl rfl wd_79 dX5_join_77 (Nat.le_of_ble_eq_true rfl) rfl ?_
      obtain ⟨S_5, hc_4, h⟩ := of_bd h
      refine x_callV_ (pc := 80) C (o := (o + 17)) [.ref (b + (o + 42))] [] (c_X4_join (b := b) (o + 17) (o + 42) 10 hO.2.2.2.2.2.2.2.2.1 hO.2.2.2.2.2.2.2.2.2.2.2 S_4 _ hc_4) cw_X5_129 vi_X4_join ⟨rfl, rfl, Nat.le_of_ble_eq_true rfl, Nat.le_of_ble_eq_true rfl⟩ ⟨Nat.le_refl _, Nat.le_refl _⟩ hO.2.2.2.2.2.2.2.2.1.1 ⟨rfl, rfl, rfl⟩ rfl ⟨rfl, Nat.le_of_ble_eq_true rfl⟩ dX5_join_80 (fun hx_5 => ?_)
      exact x_vreturn (pc := 83) C dX5_join_83 (of_s1 h)
    · replace h := of_ifp c_2 h
      exact x_vreturn (pc := 27) C dX5_join_27 (of_s1 h)
set_option maxRecDepth 100000 in
set_option maxHeartbeats 4000000 in
theorem l_X2_size_4 {p : Program} {l : Launch} {e : Env} {s : State} {m : MethodId} {args : Array Value} {below : List Frame} {meth : Method} {c : Code} {G : zz_G} {L : Ly} {b : Nat} {Q : State → Prop} (C : CX p G s m args meth c cX2_size yX2_size 3 (some .int)) (o : Nat) (hO : isQ L o) (S : Sg) : ∀ (n : Nat) (v1 : Int32) (v2 : Int32) {z}, L_X2_size_4 o S n v1 v2 = some z → (∀ (v1_o : Int32), z = v1_o → X p l e (rmz 0 0) s m args below meth c 0 0 Q 3 G L b S 28 [(1, .int v1_o)] []) → X p l e (rmz 0 0) s m args below meth c 0 0 Q 3 G L b S 4 [(0, .ref (b + o)), (1, .int v1), (2, .int v2)] [] := by
  intro n
  induction n with
  | zero =>
    intro v1 v2 z h
    exact of_none h
  | succ n ih =>
    intro v1 v2 z h hx
    rw [L_X2_size_4] at h
    refine x_iload_n (pc := 4) C 2 dX2_size_4 rfl ?_
    refine x_bipush (pc := 5) C (v := (8 : Int32)) dX2_size_5 rfl ?_
    refine x_icmp_ge (pc := 7) C 28 dX2_size_7 rfl (fun c_1 => ?_) (fun c_1 => ?_)
    · replace h := of_ifn c_1 h
      exact x_sub [1] rfl (hx _ (of_s1 h).symm)
    · replace h := of_ifp c_1 h
      refine x_aload_n (pc := 10) C 0 dX2_size_10 rfl ?_
      refine x_getr (pc := 11) C (k := 0) (o + 1) hO.1 rfl rfl wd_115 dX2_size_11 (Nat.le_of_ble_eq_true rfl) rfl ?_
      refine x_iload_n (pc := 14) C 2 dX2_size_14 rfl ?_
      obtain ⟨g_1, h⟩ := of_gd h
      refine x_iaload (pc := 15) C hO.2 g_1 dX2_size_15 ?_
      obtain ⟨v1_1, ev1_1, h⟩ := of_lt h
      have kd_1 : X p l e (rmz 0 0) s m args below meth c 0 0 Q 3 G L b S 22 [(0, .ref (b + o)), (1, .int v1_1), (2, .int v2)] [] := by
        obtain ⟨v2_1, ev2_1, h⟩ := of_lt h
        refine x_iinc (pc := 22) C (w := (1 : Int32)) 2 [(2, .int v2_1), (0, .ref (b + o)), (1, .int v1_1)] dX2_size_22 rfl rfl (Nat.le_of_ble_eq_true rfl) ev2_1 rfl ?_
        refine x_goto (pc := 25) C 4 dX2_size_25 rfl ?_
        exact x_sub [1, 2, 0] rfl (ih _ _ h hx)
      refine x_if_eq (pc := 16) C 22 dX2_size_16 rfl (fun c_2 => ?_) (fun c_2 => ?_)
      · refine x_sub [0, 1, 2] rfl ?_
        rw [show v1_1 = v1 from (ev1_1.trans (if_pos c_2))] at kd_1
        exact kd_1
      · refine x_iinc (pc := 19) C (w := (1 : Int32)) 1 [(1, .int (v1 + (1 : Int32))), (0, .ref (b + o)), (2, .int v2)] dX2_size_19 rfl rfl (Nat.le_of_ble_eq_true rfl) rfl rfl ?_
        refine x_sub [1, 0, 2] rfl ?_
        rw [show v1_1 = (v1 + (1 : Int32)) from (ev1_1.trans (if_neg c_2))] at kd_1
        exact kd_1
set_option maxRecDepth 100000 in
set_option maxHeartbeats 4000000 in
theorem c_X2_size {l : Launch} {G : zz_G} {L : Ly} {b : Nat} (o : Nat) (hO : isQ L o) (S : Sg) (rf : Int32) (h : f_X2_size o S = some rf) : Met l yX2_size (Cond.code yX2_size cX2_size 3 (some .int) :: zz_all) (rmz 0 0) (PC G L b S [.ref (b + o)]) (QC G L b S (some (.int rf)) True) 0 0 (fun q => b ≤ q) := by
  refine x_met [.ref (b + o)] (by decide +kernel) (Nat.le_of_ble_eq_true rfl) fun p e s m args below meth c C => ?_
  unfold f_X2_size at h
  refine x_iconst (pc := 0) C (v := (0 : Int32)) dX2_size_0 rfl ?_
  refine x_istore_n (pc := 1) C 1 [(1, .int (0 : Int32)), (0, .ref (b + o))] dX2_size_1 rfl (Nat.le_of_ble_eq_true rfl) rfl rfl ?_
  refine x_iconst (pc := 2) C (v := (0 : Int32)) dX2_size_2 rfl ?_
  refine x_istore_n (pc := 3) C 2 [(2, .int (0 : Int32)), (1, .int (0 : Int32)), (0, .ref (b + o))] dX2_size_3 rfl (Nat.le_of_ble_eq_true rfl) rfl rfl ?_
  refine x_sub [2, 1, 0] rfl ?_
  obtain ⟨z_hz_1, hz_1, h⟩ := of_bd h
  refine l_X2_size_4 C o hO S 400 _ _ hz_1 (fun v1_1 ez => ?_)
  subst z_hz_1
  refine x_iload_n (pc := 28) C 0 dX2_size_28 rfl ?_
  exact x_ireturn (pc := 29) C dX2_size_29 (of_s1 h) rfl
set_option maxRecDepth 100000 in
set_option maxHeartbeats 4000000 in
theorem l_X4_copyFrom_2 {p : Program} {l : Launch} {e : Env} {s : State} {m : MethodId} {args : Array Value} {below : List Frame} {meth : Method} {c : Code} {G : zz_G} {L : Ly} {b : Nat} {Q : State → Prop} (C : CX p G s m args meth c cX4_copyFrom yX4_copyFrom 3 none) (o : Nat) (o1 : Nat) (hO : isSp L o) (h1 : isSp L o1) : ∀ (n : Nat) (v2 : Int32) (S : Sg) {z}, L_X4_copyFrom_2 o o1 n v2 S = some z → (∀ (S_o : Sg), z = S_o → X p l e (rmz 1 26) s m args below meth c 0 0 Q 3 G L b S_o 33 [(0, .ref (b + o)), (1, .ref (b + o1))] []) → X p l e (rmz 1 26) s m args below meth c 0 0 Q 3 G L b S 2 [(0, .ref (b + o)), (1, .ref (b + o1)), (2, .int v2)] [] := by
  intro n
  induction n with
  | zero =>
    intro v2 S z h
    exact of_none h
  | succ n ih =>
    intro v2 S z h hx
    rw [L_X4_copyFrom_2] at h
    refine x_iload_n (pc := 2) C 2 dX4_copyFrom_2 rfl ?_
    refine x_bipush (pc := 3) C (v := (10 : Int32)) dX4_copyFrom_3 rfl ?_
    refine x_icmp_ge (pc := 5) C 33 dX4_copyFrom_5 rfl (fun c_1 => ?_) (fun c_1 => ?_)
    · replace h := of_ifn c_1 h
      exact x_sub [0, 1] rfl (hx _ (of_s1 h).symm)
    · replace h := of_ifp c_1 h
      refine x_aload_n (pc := 8) C 1 dX4_copyFrom_8 rfl ?_
      refine x_getr (pc := 9) C (k := 0) (o1 + 1) h1.1 rfl rfl wd_46 dX4_copyFrom_9 (Nat.le_of_ble_eq_true rfl) rfl ?_
      refine x_iload_n (pc := 12) C 2 dX4_copyFrom_12 rfl ?_
      obtain ⟨g_1, h⟩ := of_gd h
      refine x_aaloadJ (pc := 13) C h1.2.1 g_1 dX4_copyFrom_13 ?_
      refine x_iconst (pc := 14) C (v := (0 : Int32)) dX4_copyFrom_14 rfl ?_
      refine x_aload_n (pc := 15) C 0 dX4_copyFrom_15 rfl ?_
      refine x_getr (pc := 16) C (k := 0) (o + 1) hO.1 rfl rfl wd_46 dX4_copyFrom_16 (Nat.le_of_ble_eq_true rfl) rfl ?_
      refine x_iload_n (pc := 19) C 2 dX4_copyFrom_19 rfl ?_
      refine x_aaloadJ (pc := 20) C hO.2.1 g_1 dX4_copyFrom_20 ?_
      refine x_iconst (pc := 21) C (v := (0 : Int32)) dX4_copyFrom_21 rfl ?_
      refine x_bipush (pc := 22) C (v := (10 : Int32)) dX4_copyFrom_22 rfl ?_
      obtain ⟨S_1, eS_1, h⟩ := of_lt h
      refine x_acpJ (pc := 24) C sysw_X4 (h1.2.2 _ (inb_lt (i := v2) g_1)) (hO.2.2 _ (inb_lt (i := v2) g_1)) (by decide) eS_1 ⟨Nat.le_of_ble_eq_true rfl, Nat.le_of_ble_eq_true rfl⟩ (Nat.le_of_ble_eq_true rfl) dX4_copyFrom_24 ?_
      obtain ⟨v2_1, ev2_1, h⟩ := of_lt h
      refine x_iinc (pc := 27) C (w := (1 : Int32)) 2 [(2, .int v2_1), (0, .ref (b + o)), (1, .ref (b + o1))] dX4_copyFrom_27 rfl rfl (Nat.le_of_ble_eq_true rfl) ev2_1 rfl ?_
      refine x_goto (pc := 30) C 2 dX4_copyFrom_30 rfl ?_
      exact x_sub [1, 2, 0] rfl (ih _ _ h hx)
set_option maxRecDepth 100000 in
set_option maxHeartbeats 4000000 in
theorem c_X4_copyFrom {l : Launch} {G : zz_G} {L : Ly} {b : Nat} (o : Nat) (o1 : Nat) (hO : isSp L o) (h1 : isSp L o1) (S : Sg) (Sf : Sg) (h : f_X4_copyFrom o o1 S = some Sf) : Met l yX4_copyFrom (Cond.code yX4_copyFrom cX4_copyFrom 3 none :: zz_all) (rmz 1 26) (PC G L b S [.ref (b + o), .ref (b + o1)]) (QC G L b Sf none True) 0 0 (fun q => b ≤ q) := by
  refine x_met [.ref (b + o), .ref (b + o1)] (by decide +kernel) (Nat.le_of_ble_eq_true rfl) fun p e s m args below meth c C => ?_
  unfold f_X4_copyFrom at h
  refine x_iconst (pc := 0) C (v := (0 : Int32)) dX4_copyFrom_0 rfl ?_
  refine x_istore_n (pc := 1) C 2 [(2, .int (0 : Int32)), (0, .ref (b + o)), (1, .ref (b + o1))] dX4_copyFrom_1 rfl (Nat.le_of_ble_eq_true rfl) rfl rfl ?_
  refine x_sub [1, 2, 0] rfl ?_
  obtain ⟨z_hz_1, hz_1, h⟩ := of_bd h
  refine l_X4_copyFrom_2 C o o1 hO h1 400 _ _ hz_1 (fun S_1 ez => ?_)
  subst z_hz_1
  refine x_aload_n (pc := 33) C 0 dX4_copyFrom_33 rfl ?_
  refine x_aload_n (pc := 34) C 1 dX4_copyFrom_34 rfl ?_
  refine x_getj (pc := 35) C (k := 1) h1.1 rfl rfl wd_47 dX4_copyFrom_35 ⟨Nat.le_of_ble_eq_true rfl, rfl⟩ ?_
  obtain ⟨S_2, eS_2, h⟩ := of_lt h
  refine x_putj (pc := 38) C (k := 1) hO.1 rfl rfl wd_47 dX4_copyFrom_38 ⟨Nat.le_of_ble_eq_true rfl, rfl⟩ eS_2 ?_
  refine x_aload_n (pc := 41) C 0 dX4_copyFrom_41 rfl ?_
  refine x_aload_n (pc := 42) C 1 dX4_copyFrom_42 rfl ?_
  refine x_geti (pc := 43) C (k := 2) h1.1 rfl rfl wd_48 dX4_copyFrom_43 ⟨Nat.le_of_ble_eq_true rfl, rfl⟩ ?_
  obtain ⟨S_3, eS_3, h⟩ := of_lt h
  refine x_puti (pc := 46) C (k := 2) hO.1 rfl rfl wd_48 dX4_copyFrom_46 ⟨Nat.le_of_ble_eq_true rfl, rfl⟩ eS_3 ?_
  exact x_vreturn (pc := 49) C dX4_copyFrom_49 (of_s1 h)
set_option maxRecDepth 100000 in
set_option maxHeartbeats 4000000 in
theorem l_X4_isOneLine_22 {p : Program} {l : Launch} {e : Env} {s : State} {m : MethodId} {args : Array Value} {below : List Frame} {meth : Method} {c : Code} {G : zz_G} {L : Ly} {b : Nat} (C : CX p G s m args meth c cX4_isOneLine yX4_isOneLine 4 (some .boolean)) (a0 : Nat) (n0 : Nat) (a1 : Nat) (n1 : Nat) (h0 : L.2 a0 = some (2, n0, [])) (h1 : L.2 a1 = some (2, n1, [])) (v2 : Int32) (S : Sg) (rf : Int32) : ∀ (n : Nat) (v3 : Int32) {z}, L_X4_isOneLine_22 a0 n0 a1 n1 v2 S n v3 = some z → (∀ q, z = .inl q → q = rf) → (z = .inr () → X p l e (rmz 0 0) s m args below meth c 0 0 (RQ G L b S below args s (some (.int rf)) (rf = 0 ∨ rf = 1)) 4 G L b S 54 [] []) → X p l e (rmz 0 0) s m args below meth c 0 0 (RQ G L b S below args s (some (.int rf)) (rf = 0 ∨ rf = 1)) 4 G L b S 22 [(0, .ref (b + a0)), (1, .ref (b + a1)), (2, .int v2), (3, .int v3)] [] := by
  intro n
  induction n with
  | zero =>
    intro v3 z h
    exact of_none h
  | succ n ih =>
    intro v3 z h hr hx
    rw [L_X4_isOneLine_22] at h
    refine x_iload_n (pc := 22) C 3 dX4_isOneLine_22 rfl ?_
    refine x_bipush (pc := 23) C (v := (10 : Int32)) dX4_isOneLine_23 rfl ?_
    refine x_icmp_ge (pc := 25) C 54 dX4_isOneLine_25 rfl (fun c_1 => ?_) (fun c_1 => ?_)
    · replace h := of_ifn c_1 h
      exact x_sub [] rfl (hx (of_s1 h).symm)
    · replace h := of_ifp c_1 h
      refine x_aload_n (pc := 28) C 0 dX4_isOneLine_28 rfl ?_
      refine x_iload_n (pc := 29) C 3 dX4_isOneLine_29 rfl ?_
      obtain ⟨g_1, h⟩ := of_gd h
      refine x_laload (pc := 30) C h0 g_1 dX4_isOneLine_30 ?_
      refine x_aload_n (pc := 31) C 1 dX4_isOneLine_31 rfl ?_
      refine x_iload_n (pc := 32) C 2 dX4_isOneLine_32 rfl ?_
      obtain ⟨g_2, h⟩ := of_gd h
      refine x_laload (pc := 33) C h1 g_2 dX4_isOneLine_33 ?_
      refine x_lmul (pc := 34) C dX4_isOneLine_34 ?_
      refine x_aload_n (pc := 35) C 1 dX4_isOneLine_35 rfl ?_
      refine x_iload_n (pc := 36) C 3 dX4_isOneLine_36 rfl ?_
      obtain ⟨g_3, h⟩ := of_gd h
      refine x_laload (pc := 37) C h1 g_3 dX4_isOneLine_37 ?_
      refine x_aload_n (pc := 38) C 0 dX4_isOneLine_38 rfl ?_
      refine x_iload_n (pc := 39) C 2 dX4_isOneLine_39 rfl ?_
      obtain ⟨g_4, h⟩ := of_gd h
      refine x_laload (pc := 40) C h0 g_4 dX4_isOneLine_40 ?_
      refine x_lmul (pc := 41) C dX4_isOneLine_41 ?_
      refine x_lcmp_eq (pc := 42) C 48 dX4_isOneLine_42 dX4_isOneLine_43 rfl (fun c_2 => ?_) (fun c_2 => ?_)
      · replace h := of_ifp c_2 h
        obtain ⟨v3_1, ev3_1, h⟩ := of_lt h
        refine x_iinc (pc := 48) C (w := (1 : Int32)) 3 [(3, .int v3_1), (0, .ref (b + a0)), (1, .ref (b + a1)), (2, .int v2)] dX4_isOneLine_48 rfl rfl (Nat.le_of_ble_eq_true rfl) ev3_1 rfl ?_
        refine x_goto (pc := 51) C 22 dX4_isOneLine_51 rfl ?_
        exact x_sub [1, 2, 3, 0] rfl (ih _ h hr hx)
      · replace h := of_ifn c_2 h
        refine x_iconst (pc := 46) C (v := (0 : Int32)) dX4_isOneLine_46 rfl ?_
        have hq := hr _ (of_s1 h).symm
        exact x_zreturn (pc := 47) C (by decide) dX4_isOneLine_47 hq rfl
set_option maxRecDepth 100000 in
set_option maxHeartbeats 4000000 in
theorem c_X4_isOneLine {l : Launch} {G : zz_G} {L : Ly} {b : Nat} (a0 : Nat) (n0 : Nat) (a1 : Nat) (n1 : Nat) (p2 : Int32) (h0 : L.2 a0 = some (2, n0, [])) (h1 : L.2 a1 = some (2, n1, [])) (S : Sg) (rf : Int32) (h : f_X4_isOneLine a0 n0 a1 n1 p2 S = some rf) : Met l yX4_isOneLine (Cond.code yX4_isOneLine cX4_isOneLine 4 (some .boolean) :: zz_all) (rmz 0 0) (PC G L b S [.ref (b + a0), .ref (b + a1), .int p2]) (QC G L b S (some (.int rf)) (rf = 0 ∨ rf = 1)) 0 0 (fun q => b ≤ q) := by
  refine x_met [.ref (b + a0), .ref (b + a1), .int p2] (by decide +kernel) (Nat.le_of_ble_eq_true rfl) fun p e s m args below meth c C => ?_
  unfold f_X4_isOneLine at h
  refine x_iload_n (pc := 0) C 2 dX4_isOneLine_0 rfl ?_
  refine x_if_lt (pc := 1) C 18 dX4_isOneLine_1 rfl (fun c_1 => ?_) (fun c_1 => ?_)
  · replace h := of_ifp c_1 h
    refine x_iconst (pc := 18) C (v := (0 : Int32)) dX4_isOneLine_18 rfl ?_
    exact x_zreturn (pc := 19) C (by decide) dX4_isOneLine_19 (of_s1 h) rfl
  · replace h := of_ifn c_1 h
    refine x_iload_n (pc := 4) C 2 dX4_isOneLine_4 rfl ?_
    refine x_bipush (pc := 5) C (v := (10 : Int32)) dX4_isOneLine_5 rfl ?_
    refine x_icmp_ge (pc := 7) C 18 dX4_isOneLine_7 rfl (fun c_2 => ?_) (fun c_2 => ?_)
    · replace h := of_ifn c_2 h
      refine x_iconst (pc := 18) C (v := (0 : Int32)) dX4_isOneLine_18 rfl ?_
      exact x_zreturn (pc := 19) C (by decide) dX4_isOneLine_19 (of_s1 h) rfl
    · replace h := of_ifp c_2 h
      refine x_aload_n (pc := 10) C 1 dX4_isOneLine_10 rfl ?_
      refine x_iload_n (pc := 11) C 2 dX4_isOneLine_11 rfl ?_
      obtain ⟨g_1, h⟩ := of_gd h
      refine x_laload (pc := 12) C h1 g_1 dX4_isOneLine_12 ?_
      refine x_lconst (pc := 13) C (v := (0 : Int64)) dX4_isOneLine_13 rfl ?_
      refine x_lcmp_ne (pc := 14) C 20 dX4_isOneLine_14 dX4_isOneLine_15 rfl (fun c_3 => ?_) (fun c_3 => ?_)
      · replace h := of_ifn c_3 h
        refine x_iconst (pc := 20) C (v := (0 : Int32)) dX4_isOneLine_20 rfl ?_
        refine x_istore_n (pc := 21) C 3 [(3, .int (0 : Int32)), (0, .ref (b + a0)), (1, .ref (b + a1)), (2, .int p2)] dX4_isOneLine_21 rfl (Nat.le_of_ble_eq_true rfl) rfl rfl ?_
        refine x_sub [1, 2, 3, 0] rfl ?_
        obtain ⟨z_hz_1, hz_1, hl, hrr⟩ := of_bs h
        refine l_X4_isOneLine_22 C a0 n0 a1 n1 h0 h1 p2 S rf 400 _ hz_1 (fun q ez => of_s1 (hl _ ez)) (fun ez => ?_)
        replace h := hrr _ ez
        clear hl hrr
        refine x_iconst (pc := 54) C (v := (1 : Int32)) dX4_isOneLine_54 rfl ?_
        exact x_zreturn (pc := 55) C (by decide) dX4_isOneLine_55 (of_s1 h) rfl
      · replace h := of_ifp c_3 h
        refine x_iconst (pc := 18) C (v := (0 : Int32)) dX4_isOneLine_18 rfl ?_
        exact x_zreturn (pc := 19) C (by decide) dX4_isOneLine_19 (of_s1 h) rfl
set_option maxRecDepth 100000 in
set_option maxHeartbeats 4000000 in
theorem l_X4_fixedBitsWith_4 {p : Program} {l : Launch} {e : Env} {s : State} {m : MethodId} {args : Array Value} {below : List Frame} {meth : Method} {c : Code} {G : zz_G} {L : Ly} {b : Nat} {Q : State → Prop} (C : CX p G s m args meth c cX4_fixedBitsWith yX4_fixedBitsWith 5 (some .int)) (o : Nat) (a1 : Nat) (n1 : Nat) (hO : isSp L o) (h1 : L.2 a1 = some (2, n1, [])) (S : Sg) : ∀ (n : Nat) (v2 : Int32) (v3 : Int32) {z}, L_X4_fixedBitsWith_4 o a1 n1 S n v2 v3 = some z → (∀ (v2_o : Int32), z = v2_o → X p l e (rmz 1 23) s m args below meth c 0 0 Q 5 G L b S 53 [(2, .int v2_o)] []) → X p l e (rmz 1 23) s m args below meth c 0 0 Q 5 G L b S 4 [(0, .ref (b + o)), (1, .ref (b + a1)), (2, .int v2), (3, .int v3)] [] := by
  intro n
  induction n with
  | zero =>
    intro v2 v3 z h
    exact of_none h
  | succ n ih =>
    intro v2 v3 z h hx
    rw [L_X4_fixedBitsWith_4] at h
    refine x_iload_n (pc := 4) C 3 dX4_fixedBitsWith_4 rfl ?_
    refine x_bipush (pc := 5) C (v := (10 : Int32)) dX4_fixedBitsWith_5 rfl ?_
    refine x_icmp_ge (pc := 7) C 53 dX4_fixedBitsWith_7 rfl (fun c_1 => ?_) (fun c_1 => ?_)
    · replace h := of_ifn c_1 h
      exact x_sub [2] rfl (hx _ (of_s1 h).symm)
    · replace h := of_ifp c_1 h
      refine x_aload_n (pc := 10) C 0 dX4_fixedBitsWith_10 rfl ?_
      refine x_getr (pc := 11) C (k := 0) (o + 1) hO.1 rfl rfl wd_46 dX4_fixedBitsWith_11 (Nat.le_of_ble_eq_true rfl) rfl ?_
      refine x_iload_n (pc := 14) C 3 dX4_fixedBitsWith_14 rfl ?_
      obtain ⟨g_1, h⟩ := of_gd h
      refine x_aaloadJ (pc := 15) C hO.2.1 g_1 dX4_fixedBitsWith_15 ?_
      obtain ⟨r_1, hc_1, h⟩ := of_bd h
      refine x_callS1 (pc := 16) C [.ref (b + ((o + 2) + ix v3))] [] (c_X4_firstIn (b := b) ((o + 2) + ix v3) 10 (hO.2.2 _ (inb_lt (i := v3) g_1)) S _ hc_1) cw_X4_30 vs_X4_firstIn ⟨rfl, rfl, Nat.le_of_ble_eq_true rfl, Nat.le_of_ble_eq_true rfl⟩ ⟨Nat.le_refl _, Nat.le_refl _⟩ rfl ⟨rfl, Nat.le_of_ble_eq_true rfl⟩ dX4_fixedBitsWith_16 (fun hx_1 => ?_)
      refine x_istore (pc := 19) C [(4, .int r_1), (0, .ref (b + o)), (1, .ref (b + a1)), (2, .int v2), (3, .int v3)] dX4_fixedBitsWith_19 (Nat.le_of_ble_eq_true rfl) rfl rfl ?_
      refine x_iload (pc := 21) C 0 dX4_fixedBitsWith_21 rfl ?_
      refine x_if_lt (pc := 23) C 41 dX4_fixedBitsWith_23 rfl (fun c_2 => ?_) (fun c_2 => ?_)
      · replace h := of_ifp c_2 h
        refine x_iload_n (pc := 41) C 3 dX4_fixedBitsWith_41 rfl ?_
        refine x_iconst (pc := 42) C (v := (1 : Int32)) dX4_fixedBitsWith_42 rfl ?_
        refine x_iload_n (pc := 43) C 4 dX4_fixedBitsWith_43 rfl ?_
        refine x_ishl (pc := 44) C dX4_fixedBitsWith_44 ?_
        refine x_ior (pc := 45) C dX4_fixedBitsWith_45 ?_
        obtain ⟨v2_1, ev2_1, h⟩ := of_lt h
        refine x_istore_n (pc := 46) C 2 [(2, .int v2_1), (4, .int r_1), (0, .ref (b + o)), (1, .ref (b + a1)), (3, .int v3)] dX4_fixedBitsWith_46 rfl (Nat.le_of_ble_eq_true rfl) ev2_1 rfl ?_
        obtain ⟨v3_1, ev3_1, h⟩ := of_lt h
        refine x_iinc (pc := 47) C (w := (1 : Int32)) 4 [(3, .int v3_1), (2, .int v2_1), (4, .int r_1), (0, .ref (b + o)), (1, .ref (b + a1))] dX4_fixedBitsWith_47 rfl rfl (Nat.le_of_ble_eq_true rfl) ev3_1 rfl ?_
        refine x_goto (pc := 50) C 4 dX4_fixedBitsWith_50 rfl ?_
        exact x_sub [3, 4, 1, 0] rfl (ih _ _ h hx)
      · replace h := of_ifn c_2 h
        refine x_aload_n (pc := 26) C 1 dX4_fixedBitsWith_26 rfl ?_
        refine x_getr (pc := 27) C (k := 0) (o + 1) hO.1 rfl rfl wd_46 dX4_fixedBitsWith_27 (Nat.le_of_ble_eq_true rfl) rfl ?_
        refine x_iload_n (pc := 30) C 4 dX4_fixedBitsWith_30 rfl ?_
        refine x_aaloadJ (pc := 31) C hO.2.1 g_1 dX4_fixedBitsWith_31 ?_
        refine x_aload_n (pc := 32) C 2 dX4_fixedBitsWith_32 rfl ?_
        refine x_iload (pc := 33) C 0 dX4_fixedBitsWith_33 rfl ?_
        obtain ⟨r_2, hc_2, h⟩ := of_bd h
        refine x_callS1 (pc := 35) C [.ref (b + ((o + 2) + ix v3)), .ref (b + a1), .int r_1] [] (c_X4_isOneLine (b := b) ((o + 2) + ix v3) 10 a1 n1 r_1 (hO.2.2 _ (inb_lt (i := v3) g_1)) h1 S _ hc_2) cw_X4_38 vs_X4_isOneLine ⟨rfl, rfl, Nat.le_of_ble_eq_true rfl, Nat.le_of_ble_eq_true rfl⟩ ⟨Nat.le_refl _, Nat.le_refl _⟩ rfl ⟨rfl, Nat.le_of_ble_eq_true rfl⟩ dX4_fixedBitsWith_35 (fun hx_2 => ?_)
        obtain ⟨v2_2, ev2_2, h⟩ := of_lt h
        have kd_1 : X p l e (rmz 1 23) s m args below meth c 0 0 Q 5 G L b S 47 [(0, .ref (b + o)), (1, .ref (b + a1)), (2, .int v2_2), (3, .int v3)] [] := by
          obtain ⟨v3_2, ev3_2, h⟩ := of_lt h
          refine x_iinc (pc := 47) C (w := (1 : Int32)) 3 [(3, .int v3_2), (0, .ref (b + o)), (1, .ref (b + a1)), (2, .int v2_2)] dX4_fixedBitsWith_47 rfl rfl (Nat.le_of_ble_eq_true rfl) ev3_2 rfl ?_
          refine x_goto (pc := 50) C 4 dX4_fixedBitsWith_50 rfl ?_
          exact x_sub [1, 2, 3, 0] rfl (ih _ _ h hx)
        refine x_if_eq (pc := 38) C 47 dX4_fixedBitsWith_38 rfl (fun c_3 => ?_) (fun c_3 => ?_)
        · refine x_sub [1, 2, 3, 4] rfl ?_
          rw [show v2_2 = v2 from (ev2_2.trans (if_pos c_3))] at kd_1
          exact kd_1
        · refine x_iload_n (pc := 41) C 3 dX4_fixedBitsWith_41 rfl ?_
          refine x_iconst (pc := 42) C (v := (1 : Int32)) dX4_fixedBitsWith_42 rfl ?_
          refine x_iload_n (pc := 43) C 4 dX4_fixedBitsWith_43 rfl ?_
          refine x_ishl (pc := 44) C dX4_fixedBitsWith_44 ?_
          refine x_ior (pc := 45) C dX4_fixedBitsWith_45 ?_
          refine x_istore_n (pc := 46) C 2 [(2, .int (v2 ||| (isl (1 : Int32) v3))), (4, .int r_1), (0, .ref (b + o)), (1, .ref (b + a1)), (3, .int v3)] dX4_fixedBitsWith_46 rfl (Nat.le_of_ble_eq_true rfl) rfl rfl ?_
          refine x_sub [2, 3, 0, 4] rfl ?_
          rw [show v2_2 = (v2 ||| (isl (1 : Int32) v3)) from (ev2_2.trans (if_neg c_3))] at kd_1
          exact kd_1
set_option maxRecDepth 100000 in
set_option maxHeartbeats 4000000 in
theorem c_X4_fixedBitsWith {l : Launch} {G : zz_G} {L : Ly} {b : Nat} (o : Nat) (a1 : Nat) (n1 : Nat) (hO : isSp L o) (h1 : L.2 a1 = some (2, n1, [])) (S : Sg) (rf : Int32) (h : f_X4_fixedBitsWith o a1 n1 S = some rf) : Met l yX4_fixedBitsWith (Cond.code yX4_fixedBitsWith cX4_fixedBitsWith 5 (some .int) :: zz_all) (rmz 1 23) (PC G L b S [.ref (b + o), .ref (b + a1)]) (QC G L b S (some (.int rf)) True) 0 0 (fun q => b ≤ q) := by
  refine x_met [.ref (b + o), .ref (b + a1)] (by decide +kernel) (Nat.le_of_ble_eq_true rfl) fun p e s m args below meth c C => ?_
  unfold f_X4_fixedBitsWith at h
  refine x_iconst (pc := 0) C (v := (0 : Int32)) dX4_fixedBitsWith_0 rfl ?_
  refine x_istore_n (pc := 1) C 2 [(2, .int (0 : Int32)), (0, .ref (b + o)), (1, .ref (b + a1))] dX4_fixedBitsWith_1 rfl (Nat.le_of_ble_eq_true rfl) rfl rfl ?_
  refine x_iconst (pc := 2) C (v := (0 : Int32)) dX4_fixedBitsWith_2 rfl ?_
  refine x_istore_n (pc := 3) C 3 [(3, .int (0 : Int32)), (2, .int (0 : Int32)), (0, .ref (b + o)), (1, .ref (b + a1))] dX4_fixedBitsWith_3 rfl (Nat.le_of_ble_eq_true rfl) rfl rfl ?_
  refine x_sub [2, 3, 1, 0] rfl ?_
  obtain ⟨z_hz_1, hz_1, h⟩ := of_bd h
  refine l_X4_fixedBitsWith_4 C o a1 n1 hO h1 S 400 _ _ hz_1 (fun v2_1 ez => ?_)
  subst z_hz_1
  refine x_iload_n (pc := 53) C 0 dX4_fixedBitsWith_53 rfl ?_
  exact x_ireturn (pc := 54) C dX4_fixedBitsWith_54 (of_s1 h) rfl
set_option maxRecDepth 100000 in
set_option maxHeartbeats 4000000 in
theorem l_X4_hasPair_22 {p : Program} {l : Launch} {e : Env} {s : State} {m : MethodId} {args : Array Value} {below : List Frame} {meth : Method} {c : Code} {G : zz_G} {L : Ly} {b : Nat} (C : CX p G s m args meth c cX4_hasPair yX4_hasPair 4 (some .boolean)) (o : Nat) (hO : isSp L o) (v1 : Int32) (v2 : Int32) (S : Sg) (rf : Int32) : ∀ (n : Nat) (v3 : Int32) {z}, L_X4_hasPair_22 o v1 v2 S n v3 = some z → (∀ q, z = .inl q → q = rf) → (z = .inr () → X p l e (rmz 1 23) s m args below meth c 0 0 (RQ G L b S below args s (some (.int rf)) (rf = 0 ∨ rf = 1)) 4 G L b S 55 [(0, .ref (b + o)), (1, .int v1)] []) → X p l e (rmz 1 23) s m args below meth c 0 0 (RQ G L b S below args s (some (.int rf)) (rf = 0 ∨ rf = 1)) 4 G L b S 22 [(0, .ref (b + o)), (1, .int v1), (2, .int v2), (3, .int v3)] [] := by
  intro n
  induction n with
  | zero =>
    intro v3 z h
    exact of_none h
  | succ n ih =>
    intro v3 z h hr hx
    rw [L_X4_hasPair_22] at h
    refine x_iload_n (pc := 22) C 3 dX4_hasPair_22 rfl ?_
    refine x_bipush (pc := 23) C (v := (10 : Int32)) dX4_hasPair_23 rfl ?_
    refine x_icmp_ge (pc := 25) C 55 dX4_hasPair_25 rfl (fun c_1 => ?_) (fun c_1 => ?_)
    · replace h := of_ifn c_1 h
      exact x_sub [0, 1] rfl (hx (of_s1 h).symm)
    · replace h := of_ifp c_1 h
      refine x_aload_n (pc := 28) C 0 dX4_hasPair_28 rfl ?_
      refine x_getr (pc := 29) C (k := 0) (o + 1) hO.1 rfl rfl wd_46 dX4_hasPair_29 (Nat.le_of_ble_eq_true rfl) rfl ?_
      refine x_iload_n (pc := 32) C 1 dX4_hasPair_32 rfl ?_
      obtain ⟨g_1, h⟩ := of_gd h
      refine x_aaloadJ (pc := 33) C hO.2.1 g_1 dX4_hasPair_33 ?_
      refine x_aload_n (pc := 34) C 0 dX4_hasPair_34 rfl ?_
      refine x_getr (pc := 35) C (k := 0) (o + 1) hO.1 rfl rfl wd_46 dX4_hasPair_35 (Nat.le_of_ble_eq_true rfl) rfl ?_
      refine x_iload_n (pc := 38) C 3 dX4_hasPair_38 rfl ?_
      obtain ⟨g_2, h⟩ := of_gd h
      refine x_aaloadJ (pc := 39) C hO.2.1 g_2 dX4_hasPair_39 ?_
      refine x_iload_n (pc := 40) C 2 dX4_hasPair_40 rfl ?_
      obtain ⟨r_1, hc_1, h⟩ := of_bd h
      refine x_callS1 (pc := 41) C [.ref (b + ((o + 2) + ix v1)), .ref (b + ((o + 2) + ix v3)), .int v2] [] (c_X4_isOneLine (b := b) ((o + 2) + ix v1) 10 ((o + 2) + ix v3) 10 v2 (hO.2.2 _ (inb_lt (i := v1) g_1)) (hO.2.2 _ (inb_lt (i := v3) g_2)) S _ hc_1) cw_X4_38 vs_X4_isOneLine ⟨rfl, rfl, Nat.le_of_ble_eq_true rfl, Nat.le_of_ble_eq_true rfl⟩ ⟨Nat.le_refl _, Nat.le_refl _⟩ rfl ⟨rfl, Nat.le_of_ble_eq_true rfl⟩ dX4_hasPair_41 (fun hx_1 => ?_)
      refine x_if_eq (pc := 44) C 49 dX4_hasPair_44 rfl (fun c_2 => ?_) (fun c_2 => ?_)
      · replace h := of_ifp c_2 h
        obtain ⟨v3_1, ev3_1, h⟩ := of_lt h
        refine x_iinc (pc := 49) C (w := (1 : Int32)) 3 [(3, .int v3_1), (0, .ref (b + o)), (1, .int v1), (2, .int v2)] dX4_hasPair_49 rfl rfl (Nat.le_of_ble_eq_true rfl) ev3_1 rfl ?_
        refine x_goto (pc := 52) C 22 dX4_hasPair_52 rfl ?_
        exact x_sub [1, 2, 3, 0] rfl (ih _ h hr hx)
      · replace h := of_ifn c_2 h
        refine x_iconst (pc := 47) C (v := (1 : Int32)) dX4_hasPair_47 rfl ?_
        have hq := hr _ (of_s1 h).symm
        exact x_zreturn (pc := 48) C (by decide) dX4_hasPair_48 hq rfl
set_option maxRecDepth 100000 in
set_option maxHeartbeats 4000000 in
theorem l_X4_hasPair_2 {p : Program} {l : Launch} {e : Env} {s : State} {m : MethodId} {args : Array Value} {below : List Frame} {meth : Method} {c : Code} {G : zz_G} {L : Ly} {b : Nat} (C : CX p G s m args meth c cX4_hasPair yX4_hasPair 4 (some .boolean)) (o : Nat) (hO : isSp L o) (S : Sg) (rf : Int32) : ∀ (n : Nat) (v1 : Int32) {z}, L_X4_hasPair_2 o S n v1 = some z → (∀ q, z = .inl q → q = rf) → (z = .inr () → X p l e (rmz 1 23) s m args below meth c 0 0 (RQ G L b S below args s (some (.int rf)) (rf = 0 ∨ rf = 1)) 4 G L b S 61 [] []) → X p l e (rmz 1 23) s m args below meth c 0 0 (RQ G L b S below args s (some (.int rf)) (rf = 0 ∨ rf = 1)) 4 G L b S 2 [(0, .ref (b + o)), (1, .int v1)] [] := by
  intro n
  induction n with
  | zero =>
    intro v1 z h
    exact of_none h
  | succ n ih =>
    intro v1 z h hr hx
    rw [L_X4_hasPair_2] at h
    refine x_iload_n (pc := 2) C 1 dX4_hasPair_2 rfl ?_
    refine x_bipush (pc := 3) C (v := (10 : Int32)) dX4_hasPair_3 rfl ?_
    refine x_icmp_ge (pc := 5) C 61 dX4_hasPair_5 rfl (fun c_1 => ?_) (fun c_1 => ?_)
    · replace h := of_ifn c_1 h
      exact x_sub [] rfl (hx (of_s1 h).symm)
    · replace h := of_ifp c_1 h
      refine x_aload_n (pc := 8) C 0 dX4_hasPair_8 rfl ?_
      refine x_getr (pc := 9) C (k := 0) (o + 1) hO.1 rfl rfl wd_46 dX4_hasPair_9 (Nat.le_of_ble_eq_true rfl) rfl ?_
      refine x_iload_n (pc := 12) C 1 dX4_hasPair_12 rfl ?_
      obtain ⟨g_1, h⟩ := of_gd h
      refine x_aaloadJ (pc := 13) C hO.2.1 g_1 dX4_hasPair_13 ?_
      obtain ⟨r_1, hc_1, h⟩ := of_bd h
      refine x_callS1 (pc := 14) C [.ref (b + ((o + 2) + ix v1))] [] (c_X4_firstIn (b := b) ((o + 2) + ix v1) 10 (hO.2.2 _ (inb_lt (i := v1) g_1)) S _ hc_1) cw_X4_30 vs_X4_firstIn ⟨rfl, rfl, Nat.le_of_ble_eq_true rfl, Nat.le_of_ble_eq_true rfl⟩ ⟨Nat.le_refl _, Nat.le_refl _⟩ rfl ⟨rfl, Nat.le_of_ble_eq_true rfl⟩ dX4_hasPair_14 (fun hx_1 => ?_)
      refine x_istore_n (pc := 17) C 2 [(2, .int r_1), (0, .ref (b + o)), (1, .int v1)] dX4_hasPair_17 rfl (Nat.le_of_ble_eq_true rfl) rfl rfl ?_
      refine x_iload_n (pc := 18) C 2 dX4_hasPair_18 rfl ?_
      refine x_iconst (pc := 19) C (v := (1 : Int32)) dX4_hasPair_19 rfl ?_
      refine x_iadd (pc := 20) C dX4_hasPair_20 ?_
      obtain ⟨v3_1, ev3_1, h⟩ := of_lt h
      refine x_istore_n (pc := 21) C 3 [(3, .int v3_1), (2, .int r_1), (0, .ref (b + o)), (1, .int v1)] dX4_hasPair_21 rfl (Nat.le_of_ble_eq_true rfl) ev3_1 rfl ?_
      refine x_sub [2, 3, 1, 0] rfl ?_
      obtain ⟨z_hz_1, hz_1, hl, hrr⟩ := of_bs h
      refine l_X4_hasPair_22 C o hO v1 r_1 S rf 400 _ hz_1 (fun q ez => hr _ (of_s1 (hl _ ez)).symm) (fun ez => ?_)
      replace h := hrr _ ez
      clear hl hrr
      obtain ⟨v1_1, ev1_1, h⟩ := of_lt h
      refine x_iinc (pc := 55) C (w := (1 : Int32)) 1 [(1, .int v1_1), (0, .ref (b + o))] dX4_hasPair_55 rfl rfl (Nat.le_of_ble_eq_true rfl) ev1_1 rfl ?_
      refine x_goto (pc := 58) C 2 dX4_hasPair_58 rfl ?_
      exact x_sub [1, 0] rfl (ih _ h hr hx)
set_option maxRecDepth 100000 in
set_option maxHeartbeats 4000000 in
theorem c_X4_hasPair {l : Launch} {G : zz_G} {L : Ly} {b : Nat} (o : Nat) (hO : isSp L o) (S : Sg) (rf : Int32) (h : f_X4_hasPair o S = some rf) : Met l yX4_hasPair (Cond.code yX4_hasPair cX4_hasPair 4 (some .boolean) :: zz_all) (rmz 1 23) (PC G L b S [.ref (b + o)]) (QC G L b S (some (.int rf)) (rf = 0 ∨ rf = 1)) 0 0 (fun q => b ≤ q) := by
  refine x_met [.ref (b + o)] (by decide +kernel) (Nat.le_of_ble_eq_true rfl) fun p e s m args below meth c C => ?_
  unfold f_X4_hasPair at h
  refine x_iconst (pc := 0) C (v := (0 : Int32)) dX4_hasPair_0 rfl ?_
  refine x_istore_n (pc := 1) C 1 [(1, .int (0 : Int32)), (0, .ref (b + o))] dX4_hasPair_1 rfl (Nat.le_of_ble_eq_true rfl) rfl rfl ?_
  refine x_sub [1, 0] rfl ?_
  obtain ⟨z_hz_1, hz_1, hl, hrr⟩ := of_bs h
  refine l_X4_hasPair_2 C o hO S rf 400 _ hz_1 (fun q ez => of_s1 (hl _ ez)) (fun ez => ?_)
  replace h := hrr _ ez
  clear hl hrr
  refine x_iconst (pc := 61) C (v := (0 : Int32)) dX4_hasPair_61 rfl ?_
  exact x_zreturn (pc := 62) C (by decide) dX4_hasPair_62 (of_s1 h) rfl
set_option maxRecDepth 100000 in
set_option maxHeartbeats 4000000 in
theorem c_X5_meetingBy {l : Launch} {G : zz_G} {L : Ly} {b : Nat} (o : Nat) (o1 : Nat) (p2 : Int32) (p3 : Int32) (hO : isW L o) (h1 : isQ L o1) (S : Sg) (rf : Int32) (Sf : Sg) (h : f_X5_meetingBy o o1 p2 p3 S = some (rf, Sf)) : Met l yX5_meetingBy (Cond.code yX5_meetingBy cX5_meetingBy 6 (some .int) :: zz_all) (rmz 2 49) (PC G L b S [.ref (b + o), .ref (b + o1), .int p2, .int p3]) (QC G L b Sf (some (.int rf)) True) 0 0 (fun q => b ≤ q) := by
  refine x_met [.ref (b + o), .ref (b + o1), .int p2, .int p3] (by decide +kernel) (Nat.le_of_ble_eq_true rfl) fun p e s m args below meth c C => ?_
  unfold f_X5_meetingBy at h
  refine x_aload_n (pc := 0) C 0 dX5_meetingBy_0 rfl ?_
  refine x_aload_n (pc := 1) C 1 dX5_meetingBy_1 rfl ?_
  obtain ⟨S_1, hc_1, h⟩ := of_bd h
  refine x_callV_ (pc := 2) C (o := o) [.ref (b + o1)] [] (c_X5_findRest (b := b) o o1 hO h1 S _ hc_1) cw_X5_114 vi_X5_findRest ⟨rfl, rfl, Nat.le_of_ble_eq_true rfl, Nat.le_of_ble_eq_true rfl⟩ ⟨Nat.le_refl _, Nat.le_refl _⟩ hO.1 ⟨rfl, rfl, rfl⟩ rfl ⟨rfl, Nat.le_of_ble_eq_true rfl⟩ dX5_meetingBy_2 (fun hx_1 => ?_)
  refine x_aload_n (pc := 5) C 0 dX5_meetingBy_5 rfl ?_
  refine x_getr (pc := 6) C (k := 13) (o + 42) hO.1 rfl rfl wd_79 dX5_meetingBy_6 (Nat.le_of_ble_eq_true rfl) rfl ?_
  obtain ⟨r_1, hc_2, h⟩ := of_bd h
  refine x_callS1 (pc := 9) C [.ref (b + (o + 42))] [] (c_X4_firstIn (b := b) (o + 42) 10 hO.2.2.2.2.2.2.2.2.2.2.2 S_1 _ hc_2) cw_X5_117 vs_X4_firstIn ⟨rfl, rfl, Nat.le_of_ble_eq_true rfl, Nat.le_of_ble_eq_true rfl⟩ ⟨Nat.le_refl _, Nat.le_refl _⟩ rfl ⟨rfl, Nat.le_of_ble_eq_true rfl⟩ dX5_meetingBy_9 (fun hx_2 => ?_)
  refine x_if_ge (pc := 12) C 17 dX5_meetingBy_12 rfl (fun c_1 => ?_) (fun c_1 => ?_)
  · replace h := of_ifn c_1 h
    refine x_aload_n (pc := 17) C 0 dX5_meetingBy_17 rfl ?_
    refine x_getr (pc := 18) C (k := 10) (o + 17) hO.1 rfl rfl wd_75 dX5_meetingBy_18 (Nat.le_of_ble_eq_true rfl) rfl ?_
    refine x_aload_n (pc := 21) C 0 dX5_meetingBy_21 rfl ?_
    refine x_getr (pc := 22) C (k := 13) (o + 42) hO.1 rfl rfl wd_79 dX5_meetingBy_22 (Nat.le_of_ble_eq_true rfl) rfl ?_
    obtain ⟨r_2, hc_3, h⟩ := of_bd h
    refine x_callV1 (pc := 25) C (o := (o + 17)) [.ref (b + (o + 42))] [] (c_X4_fixedBitsWith (b := b) (o + 17) (o + 42) 10 hO.2.2.2.2.2.2.2.2.1 hO.2.2.2.2.2.2.2.2.2.2.2 S_1 _ hc_3) cw_X5_121 vi_X4_fixedBitsWith ⟨rfl, rfl, Nat.le_of_ble_eq_true rfl, Nat.le_of_ble_eq_true rfl⟩ ⟨Nat.le_refl _, Nat.le_refl _⟩ hO.2.2.2.2.2.2.2.2.1.1 ⟨rfl, rfl, rfl⟩ rfl ⟨rfl, Nat.le_of_ble_eq_true rfl⟩ dX5_meetingBy_25 (fun hx_3 => ?_)
    refine x_if_eq (pc := 28) C 33 dX5_meetingBy_28 rfl (fun c_2 => ?_) (fun c_2 => ?_)
    · replace h := of_ifp c_2 h
      refine x_iconst (pc := 33) C (v := (0 : Int32)) dX5_meetingBy_33 rfl ?_
      refine x_istore (pc := 34) C [(4, .int (0 : Int32)), (0, .ref (b + o)), (1, .ref (b + o1)), (2, .int p2), (3, .int p3)] dX5_meetingBy_34 (Nat.le_of_ble_eq_true rfl) rfl rfl ?_
      refine x_iload_n (pc := 36) C 3 dX5_meetingBy_36 rfl ?_
      refine x_iconst (pc := 37) C (v := (1 : Int32)) dX5_meetingBy_37 rfl ?_
      obtain ⟨J_1, eJ_1, h⟩ := of_lt h
      have kJ_1 : ∀ (v4_1 : Int32) (S_2 : Sg), J_1 v4_1 S_2 = some (rf, Sf) → X p l e (rmz 2 49) s m args below meth c 0 0 (RQ G L b Sf below args s (some (.int rf)) True) 6 G L b S_2 131 [(4, .int v4_1)] [] := by
        intro v4_1 S_2 h
        replace h := of_J2 eJ_1 h
        refine x_iload (pc := 131) C 0 dX5_meetingBy_131 rfl ?_
        obtain ⟨x_1, ex_1, h⟩ := of_lt h
        have kd_1 : X p l e (rmz 2 49) s m args below meth c 0 0 (RQ G L b Sf below args s (some (.int rf)) True) 6 G L b S_2 141 [] [.int x_1] := by
          exact x_ireturn (pc := 141) C dX5_meetingBy_141 (of_sp h).1 (of_sp h).2
        refine x_if_eq (pc := 133) C 140 dX5_meetingBy_133 rfl (fun c_3 => ?_) (fun c_3 => ?_)
        · refine x_iconst (pc := 140) C (v := (1 : Int32)) dX5_meetingBy_140 rfl ?_
          refine x_sub [] rfl ?_
          rw [show x_1 = (1 : Int32) from (ex_1.trans (if_pos c_3))] at kd_1
          exact kd_1
        · refine x_iconst (pc := 136) C (v := (2 : Int32)) dX5_meetingBy_136 rfl ?_
          refine x_goto (pc := 137) C 141 dX5_meetingBy_137 rfl ?_
          refine x_sub [] rfl ?_
          rw [show x_1 = (2 : Int32) from (ex_1.trans (if_neg c_3))] at kd_1
          exact kd_1
      refine x_icmp_ne (pc := 38) C 70 dX5_meetingBy_38 rfl (fun c_4 => ?_) (fun c_4 => ?_)
      · replace h := of_ifn c_4 h
        refine x_iload_n (pc := 70) C 3 dX5_meetingBy_70 rfl ?_
        refine x_iconst (pc := 71) C (v := (2 : Int32)) dX5_meetingBy_71 rfl ?_
        refine x_icmp_ne (pc := 72) C 109 dX5_meetingBy_72 rfl (fun c_5 => ?_) (fun c_5 => ?_)
        · replace h := of_ifn c_5 h
          refine x_iload_n (pc := 109) C 3 dX5_meetingBy_109 rfl ?_
          refine x_iconst (pc := 110) C (v := (3 : Int32)) dX5_meetingBy_110 rfl ?_
          refine x_icmp_ne (pc := 111) C 131 dX5_meetingBy_111 rfl (fun c_6 => ?_) (fun c_6 => ?_)
          · replace h := of_ifn c_6 h
            exact x_sub [0] rfl (kJ_1 _ _ h)
          · replace h := of_ifp c_6 h
            refine x_aload_n (pc := 114) C 1 dX5_meetingBy_114 rfl ?_
            refine x_geti (pc := 115) C (k := 9) hO.1 rfl rfl wd_73 dX5_meetingBy_115 ⟨Nat.le_of_ble_eq_true rfl, rfl⟩ ?_
            refine x_iconst (pc := 118) C (v := (1 : Int32)) dX5_meetingBy_118 rfl ?_
            refine x_iadd (pc := 119) C dX5_meetingBy_119 ?_
            refine x_iload_n (pc := 120) C 4 dX5_meetingBy_120 rfl ?_
            obtain ⟨x_2, ex_2, h⟩ := of_lt h
            have kd_2 : X p l e (rmz 2 49) s m args below meth c 0 0 (RQ G L b Sf below args s (some (.int rf)) True) 6 G L b S_1 129 [] [.int x_2] := by
              refine x_istore (pc := 129) C [(4, .int x_2)] dX5_meetingBy_129 (Nat.le_of_ble_eq_true rfl) rfl rfl ?_
              exact x_sub [0] rfl (kJ_1 _ _ h)
            refine x_icmp_le (pc := 121) C 128 dX5_meetingBy_121 rfl (fun c_7 => ?_) (fun c_7 => ?_)
            · refine x_iconst (pc := 128) C (v := (0 : Int32)) dX5_meetingBy_128 rfl ?_
              refine x_sub [] rfl ?_
              rw [show x_2 = (0 : Int32) from (ex_2.trans (if_neg c_7))] at kd_2
              exact kd_2
            · refine x_iconst (pc := 124) C (v := (1 : Int32)) dX5_meetingBy_124 rfl ?_
              refine x_goto (pc := 125) C 129 dX5_meetingBy_125 rfl ?_
              refine x_sub [] rfl ?_
              rw [show x_2 = (1 : Int32) from (ex_2.trans (if_pos c_7))] at kd_2
              exact kd_2
        · replace h := of_ifp c_5 h
          refine x_aload_n (pc := 75) C 1 dX5_meetingBy_75 rfl ?_
          refine x_getr (pc := 76) C (k := 11) (o + 29) hO.1 rfl rfl wd_77 dX5_meetingBy_76 (Nat.le_of_ble_eq_true rfl) rfl ?_
          refine x_aload_n (pc := 79) C 1 dX5_meetingBy_79 rfl ?_
          refine x_getr (pc := 80) C (k := 10) (o + 17) hO.1 rfl rfl wd_75 dX5_meetingBy_80 (Nat.le_of_ble_eq_true rfl) rfl ?_
          obtain ⟨S_3, hc_4, h⟩ := of_bd h
          refine x_callV_ (pc := 83) C (o := (o + 29)) [.ref (b + (o + 17))] [] (c_X4_copyFrom (b := b) (o + 29) (o + 17) hO.2.2.2.2.2.2.2.2.2.1 hO.2.2.2.2.2.2.2.2.1 S_1 _ hc_4) cw_X5_68 vi_X4_copyFrom ⟨rfl, rfl, Nat.le_of_ble_eq_true rfl, Nat.le_of_ble_eq_true rfl⟩ ⟨Nat.le_refl _, Nat.le_refl _⟩ hO.2.2.2.2.2.2.2.2.2.1.1 ⟨rfl, rfl, rfl⟩ rfl ⟨rfl, Nat.le_of_ble_eq_true rfl⟩ dX5_meetingBy_83 (fun hx_4 => ?_)
          refine x_aload_n (pc := 86) C 1 dX5_meetingBy_86 rfl ?_
          refine x_getr (pc := 87) C (k := 11) (o + 29) hO.1 rfl rfl wd_77 dX5_meetingBy_87 (Nat.le_of_ble_eq_true rfl) rfl ?_
          refine x_aload_n (pc := 90) C 1 dX5_meetingBy_90 rfl ?_
          refine x_getr (pc := 91) C (k := 13) (o + 42) hO.1 rfl rfl wd_79 dX5_meetingBy_91 (Nat.le_of_ble_eq_true rfl) rfl ?_
          obtain ⟨S_4, hc_5, h⟩ := of_bd h
          refine x_callV_ (pc := 94) C (o := (o + 29)) [.ref (b + (o + 42))] [] (c_X4_join (b := b) (o + 29) (o + 42) 10 hO.2.2.2.2.2.2.2.2.2.1 hO.2.2.2.2.2.2.2.2.2.2.2 S_3 _ hc_5) cw_X5_129 vi_X4_join ⟨rfl, rfl, Nat.le_of_ble_eq_true rfl, Nat.le_of_ble_eq_true rfl⟩ ⟨Nat.le_refl _, Nat.le_refl _⟩ hO.2.2.2.2.2.2.2.2.2.1.1 ⟨rfl, rfl, rfl⟩ rfl ⟨rfl, Nat.le_of_ble_eq_true rfl⟩ dX5_meetingBy_94 (fun hx_5 => ?_)
          refine x_aload_n (pc := 97) C 1 dX5_meetingBy_97 rfl ?_
          refine x_getr (pc := 98) C (k := 11) (o + 29) hO.1 rfl rfl wd_77 dX5_meetingBy_98 (Nat.le_of_ble_eq_true rfl) rfl ?_
          obtain ⟨r_3, hc_6, h⟩ := of_bd h
          refine x_callV1 (pc := 101) C (o := (o + 29)) [] [] (c_X4_hasPair (b := b) (o + 29) hO.2.2.2.2.2.2.2.2.2.1 S_4 _ hc_6) cw_X5_132 vi_X4_hasPair ⟨rfl, rfl, Nat.le_of_ble_eq_true rfl, Nat.le_of_ble_eq_true rfl⟩ ⟨Nat.le_refl _, Nat.le_refl _⟩ hO.2.2.2.2.2.2.2.2.2.1.1 ⟨rfl, rfl, rfl⟩ rfl ⟨rfl, Nat.le_of_ble_eq_true rfl⟩ dX5_meetingBy_101 (fun hx_6 => ?_)
          refine x_istore (pc := 104) C [(4, .int r_3), (0, .ref (b + o)), (1, .ref (b + o1)), (2, .int p2), (3, .int p3)] dX5_meetingBy_104 (Nat.le_of_ble_eq_true rfl) rfl rfl ?_
          refine x_goto (pc := 106) C 131 dX5_meetingBy_106 rfl ?_
          exact x_sub [0] rfl (kJ_1 _ _ h)
      · replace h := of_ifp c_4 h
        refine x_aload_n (pc := 41) C 2 dX5_meetingBy_41 rfl ?_
        obtain ⟨r_4, hc_7, h⟩ := of_bd h
        refine x_callV1 (pc := 42) C (o := o1) [] [] (c_X2_size (b := b) o1 h1 S_1 _ hc_7) cw_X5_124 vi_X2_size ⟨rfl, rfl, Nat.le_of_ble_eq_true rfl, Nat.le_of_ble_eq_true rfl⟩ ⟨Nat.le_refl _, Nat.le_refl _⟩ h1.1 ⟨rfl, rfl, rfl⟩ rfl ⟨rfl, Nat.le_of_ble_eq_true rfl⟩ dX5_meetingBy_42 (fun hx_7 => ?_)
        refine x_istore (pc := 45) C [(5, .int r_4), (4, .int (0 : Int32)), (0, .ref (b + o)), (1, .ref (b + o1)), (2, .int p2), (3, .int p3)] dX5_meetingBy_45 (Nat.le_of_ble_eq_true rfl) rfl rfl ?_
        refine x_iload (pc := 47) C 0 dX5_meetingBy_47 rfl ?_
        refine x_iconst (pc := 49) C (v := (2 : Int32)) dX5_meetingBy_49 rfl ?_
        obtain ⟨x_3, ex_3, h⟩ := of_lt h
        have kd_3 : X p l e (rmz 2 49) s m args below meth c 0 0 (RQ G L b Sf below args s (some (.int rf)) True) 6 G L b S_1 65 [] [.int x_3] := by
          refine x_istore (pc := 65) C [(4, .int x_3)] dX5_meetingBy_65 (Nat.le_of_ble_eq_true rfl) rfl rfl ?_
          refine x_goto (pc := 67) C 131 dX5_meetingBy_67 rfl ?_
          exact x_sub [0] rfl (kJ_1 _ _ h)
        refine x_icmp_lt (pc := 50) C 60 dX5_meetingBy_50 rfl (fun c_8 => ?_) (fun c_8 => ?_)
        · refine x_iconst (pc := 60) C (v := (1 : Int32)) dX5_meetingBy_60 rfl ?_
          refine x_goto (pc := 61) C 65 dX5_meetingBy_61 rfl ?_
          refine x_sub [] rfl ?_
          rw [show x_3 = (1 : Int32) from (ex_3.trans (if_pos c_8))] at kd_3
          exact kd_3
        · refine x_iload (pc := 53) C 0 dX5_meetingBy_53 rfl ?_
          refine x_bipush (pc := 55) C (v := (6 : Int32)) dX5_meetingBy_55 rfl ?_
          refine x_icmp_le (pc := 57) C 64 dX5_meetingBy_57 rfl (fun c_9 => ?_) (fun c_9 => ?_)
          · refine x_iconst (pc := 64) C (v := (0 : Int32)) dX5_meetingBy_64 rfl ?_
            refine x_sub [] rfl ?_
            rw [show x_3 = (0 : Int32) from ((ex_3.trans (if_neg c_8)).trans (if_neg c_9))] at kd_3
            exact kd_3
          · refine x_iconst (pc := 60) C (v := (1 : Int32)) dX5_meetingBy_60 rfl ?_
            refine x_goto (pc := 61) C 65 dX5_meetingBy_61 rfl ?_
            refine x_sub [] rfl ?_
            rw [show x_3 = (1 : Int32) from ((ex_3.trans (if_neg c_8)).trans (if_pos c_9))] at kd_3
            exact kd_3
    · replace h := of_ifn c_2 h
      refine x_iconst (pc := 31) C (v := (2 : Int32)) dX5_meetingBy_31 rfl ?_
      exact x_ireturn (pc := 32) C dX5_meetingBy_32 (of_sp h).1 (of_sp h).2
  · replace h := of_ifp c_1 h
    refine x_iconst (pc := 15) C (v := (0 : Int32)) dX5_meetingBy_15 rfl ?_
    exact x_ireturn (pc := 16) C dX5_meetingBy_16 (of_sp h).1 (of_sp h).2
set_option maxRecDepth 100000 in
set_option maxHeartbeats 4000000 in
theorem c_X5_takeQuestion {l : Launch} {G : zz_G} {L : Ly} {b : Nat} (o : Nat) (o1 : Nat) (hO : isW L o) (h1 : isQ L o1) (S : Sg) (rf : Int32) (Sf : Sg) (h : f_X5_takeQuestion o o1 S = some (rf, Sf)) : Met l yX5_takeQuestion (Cond.code yX5_takeQuestion cX5_takeQuestion 3 (some .int) :: zz_all) (rmz 3 74) (PC G L b S [.ref (b + o), .ref (b + o1)]) (QC G L b Sf (some (.int rf)) True) 0 0 (fun q => b ≤ q) := by
  refine x_met [.ref (b + o), .ref (b + o1)] (by decide +kernel) (Nat.le_of_ble_eq_true rfl) fun p e s m args below meth c C => ?_
  unfold f_X5_takeQuestion at h
  refine x_aload_n (pc := 0) C 0 dX5_takeQuestion_0 rfl ?_
  refine x_aload_n (pc := 1) C 1 dX5_takeQuestion_1 rfl ?_
  refine x_aload_n (pc := 2) C 0 dX5_takeQuestion_2 rfl ?_
  refine x_geti (pc := 3) C (k := 5) hO.1 rfl rfl wd_66 dX5_takeQuestion_3 ⟨Nat.le_of_ble_eq_true rfl, rfl⟩ ?_
  refine x_aload_n (pc := 6) C 0 dX5_takeQuestion_6 rfl ?_
  refine x_geti (pc := 7) C (k := 6) hO.1 rfl rfl wd_68 dX5_takeQuestion_7 ⟨Nat.le_of_ble_eq_true rfl, rfl⟩ ?_
  obtain ⟨⟨r_1, S_1⟩, hc_1, h⟩ := of_bd h
  replace h := of_u2 h
  refine x_callV1 (pc := 10) C (o := o) [.ref (b + o1), .int (S.1 o 5), .int (S.1 o 6)] [] (c_X5_meetingBy (b := b) o o1 (S.1 o 5) (S.1 o 6) hO h1 S _ _ hc_1) cw_X5_106 vi_X5_meetingBy ⟨rfl, rfl, Nat.le_of_ble_eq_true rfl, Nat.le_of_ble_eq_true rfl⟩ ⟨Nat.le_refl _, Nat.le_refl _⟩ hO.1 ⟨rfl, rfl, rfl⟩ rfl ⟨rfl, Nat.le_of_ble_eq_true rfl⟩ dX5_takeQuestion_10 (fun hx_1 => ?_)
  refine x_istore_n (pc := 13) C 2 [(2, .int r_1), (0, .ref (b + o)), (1, .ref (b + o1))] dX5_takeQuestion_13 rfl (Nat.le_of_ble_eq_true rfl) rfl rfl ?_
  refine x_iload_n (pc := 14) C 0 dX5_takeQuestion_14 rfl ?_
  refine x_iconst (pc := 15) C (v := (1 : Int32)) dX5_takeQuestion_15 rfl ?_
  refine x_icmp_ne (pc := 16) C 24 dX5_takeQuestion_16 rfl (fun c_1 => ?_) (fun c_1 => ?_)
  · replace h := of_ifn c_1 h
    refine x_iload_n (pc := 24) C 0 dX5_takeQuestion_24 rfl ?_
    exact x_ireturn (pc := 25) C dX5_takeQuestion_25 (of_sp h).1 (of_sp h).2
  · replace h := of_ifp c_1 h
    refine x_aload_n (pc := 19) C 1 dX5_takeQuestion_19 rfl ?_
    refine x_aload_n (pc := 20) C 2 dX5_takeQuestion_20 rfl ?_
    obtain ⟨S_2, hc_2, h⟩ := of_bd h
    refine x_callV_ (pc := 21) C (o := o) [.ref (b + o1)] [] (c_X5_join (b := b) o o1 hO h1 S_1 _ hc_2) cw_X5_110 vi_X5_join ⟨rfl, rfl, Nat.le_of_ble_eq_true rfl, Nat.le_of_ble_eq_true rfl⟩ ⟨Nat.le_refl _, Nat.le_refl _⟩ hO.1 ⟨rfl, rfl, rfl⟩ rfl ⟨rfl, Nat.le_of_ble_eq_true rfl⟩ dX5_takeQuestion_21 (fun hx_2 => ?_)
    refine x_iload_n (pc := 24) C 0 dX5_takeQuestion_24 rfl ?_
    exact x_ireturn (pc := 25) C dX5_takeQuestion_25 (of_sp h).1 (of_sp h).2
set_option maxRecDepth 100000 in
set_option maxHeartbeats 4000000 in
theorem c_X6_ask {l : Launch} {G : zz_G} {L : Ly} {b : Nat} (p1 : Int32) (p2 : Int32) (p3 : Int32) (hO : isGu L) (S : Sg) (rf : Int32) (Sf : Sg) (h : f_X6_ask p1 p2 p3 S = some (rf, Sf)) : Met l yX6_ask (Cond.code yX6_ask cX6_ask 5 (some .int) :: zz_all) (rmz 4 96) (PC G L b S [.ref (b + 0), .int p1, .int p2, .int p3]) (QC G L b Sf (some (.int rf)) True) 0 0 (fun q => b ≤ q) := by
  refine x_met [.ref (b + 0), .int p1, .int p2, .int p3] (by decide +kernel) (Nat.le_of_ble_eq_true rfl) fun p e s m args below meth c C => ?_
  unfold f_X6_ask at h
  refine x_iload_n (pc := 0) C 1 dX6_ask_0 rfl ?_
  refine x_iload_n (pc := 1) C 2 dX6_ask_1 rfl ?_
  refine x_iload_n (pc := 2) C 3 dX6_ask_2 rfl ?_
  refine x_callS1 (pc := 3) C [.int p1, .int p2, .int p3] [] (c_X2_misfitOf (b := b) p1 p2 p3 S) cw_X6_146 vs_X2_misfitOf ⟨rfl, rfl, Nat.le_of_ble_eq_true rfl, Nat.le_of_ble_eq_true rfl⟩ ⟨Nat.le_refl _, Nat.le_refl _⟩ rfl ⟨rfl, Nat.le_of_ble_eq_true rfl⟩ dX6_ask_3 (fun hx_1 => ?_)
  obtain ⟨v4_1, ev4_1, h⟩ := of_lt h
  refine x_istore (pc := 6) C [(4, .int v4_1), (0, .ref (b + 0)), (1, .int p1), (2, .int p2), (3, .int p3)] dX6_ask_6 (Nat.le_of_ble_eq_true rfl) ev4_1 rfl ?_
  refine x_iload (pc := 8) C 0 dX6_ask_8 rfl ?_
  refine x_if_eq (pc := 10) C 23 dX6_ask_10 rfl (fun c_1 => ?_) (fun c_1 => ?_)
  · replace h := of_ifp c_1 h
    refine x_aload_n (pc := 23) C 1 dX6_ask_23 rfl ?_
    refine x_getr (pc := 24) C (k := 4) 130 hO.1 rfl rfl wd_153 dX6_ask_24 (Nat.le_of_ble_eq_true rfl) rfl ?_
    refine x_iload_n (pc := 27) C 2 dX6_ask_27 rfl ?_
    refine x_iload_n (pc := 28) C 3 dX6_ask_28 rfl ?_
    refine x_iload_n (pc := 29) C 4 dX6_ask_29 rfl ?_
    obtain ⟨S_1, hc_1, h⟩ := of_bd h
    refine x_callV_ (pc := 30) C (o := 130) [.int p1, .int p2, .int p3] [] (c_X2_make (b := b) 130 p1 p2 p3 hO.2.2.2.2.1 S _ hc_1) cw_X6_150 vi_X2_make ⟨rfl, rfl, Nat.le_of_ble_eq_true rfl, Nat.le_of_ble_eq_true rfl⟩ ⟨Nat.le_refl _, Nat.le_refl _⟩ hO.2.2.2.2.1.1 ⟨rfl, rfl, rfl⟩ rfl ⟨rfl, Nat.le_of_ble_eq_true rfl⟩ dX6_ask_30 (fun hx_2 => ?_)
    refine x_aload_n (pc := 33) C 1 dX6_ask_33 rfl ?_
    refine x_getr (pc := 34) C (k := 0) 1 hO.1 rfl rfl wd_149 dX6_ask_34 (Nat.le_of_ble_eq_true rfl) rfl ?_
    refine x_aload_n (pc := 37) C 1 dX6_ask_37 rfl ?_
    refine x_getr (pc := 38) C (k := 4) 130 hO.1 rfl rfl wd_153 dX6_ask_38 (Nat.le_of_ble_eq_true rfl) rfl ?_
    obtain ⟨⟨r_1, S_2⟩, hc_2, h⟩ := of_bd h
    replace h := of_u2 h
    refine x_callV1 (pc := 41) C (o := 1) [.ref (b + 130)] [] (c_X5_takeQuestion (b := b) 1 130 hO.2.1 hO.2.2.2.2.1 S_1 _ _ hc_2) cw_X6_154 vi_X5_takeQuestion ⟨rfl, rfl, Nat.le_of_ble_eq_true rfl, Nat.le_of_ble_eq_true rfl⟩ ⟨Nat.le_refl _, Nat.le_refl _⟩ hO.2.1.1 ⟨rfl, rfl, rfl⟩ rfl ⟨rfl, Nat.le_of_ble_eq_true rfl⟩ dX6_ask_41 (fun hx_3 => ?_)
    refine x_iconst (pc := 44) C (v := (2 : Int32)) dX6_ask_44 rfl ?_
    refine x_icmp_ne (pc := 45) C 58 dX6_ask_45 rfl (fun c_2 => ?_) (fun c_2 => ?_)
    · replace h := of_ifn c_2 h
      refine x_aload_n (pc := 58) C 1 dX6_ask_58 rfl ?_
      refine x_getr (pc := 59) C (k := 0) 1 hO.1 rfl rfl wd_149 dX6_ask_59 (Nat.le_of_ble_eq_true rfl) rfl ?_
      refine x_aload_n (pc := 62) C 1 dX6_ask_62 rfl ?_
      refine x_getr (pc := 63) C (k := 4) 130 hO.1 rfl rfl wd_153 dX6_ask_63 (Nat.le_of_ble_eq_true rfl) rfl ?_
      obtain ⟨r_2, hc_3, h⟩ := of_bd h
      refine x_callV1 (pc := 66) C (o := 1) [.ref (b + 130)] [] (c_X5_trueAnswer (b := b) 1 130 hO.2.1 hO.2.2.2.2.1 S_2 _ hc_3) cw_X6_158 vi_X5_trueAnswer ⟨rfl, rfl, Nat.le_of_ble_eq_true rfl, Nat.le_of_ble_eq_true rfl⟩ ⟨Nat.le_refl _, Nat.le_refl _⟩ hO.2.1.1 ⟨rfl, rfl, rfl⟩ rfl ⟨rfl, Nat.le_of_ble_eq_true rfl⟩ dX6_ask_66 (fun hx_4 => ?_)
      exact x_ireturn (pc := 69) C dX6_ask_69 (of_sp h).1 (of_sp h).2
    · replace h := of_ifp c_2 h
      refine x_ldc (pc := 48) C wd_292 dX6_ask_48 ?_
      refine x_aload_n (pc := 50) C 1 dX6_ask_50 rfl ?_
      refine x_bipush (pc := 51) C (v := (-5 : Int32)) dX6_ask_51 rfl ?_
      obtain ⟨⟨r_3, S_3⟩, hc_4, h⟩ := of_bd h
      replace h := of_u2 h
      refine x_callV1 (pc := 53) C (o := 0) [.int (-5 : Int32)] [.int (1000000000 : Int32)] (c_X6_refuse (b := b) (-5 : Int32) hO S_2 _ _ hc_4) cw_X6_73 vi_X6_refuse ⟨rfl, rfl, Nat.le_of_ble_eq_true rfl, Nat.le_of_ble_eq_true rfl⟩ ⟨Nat.le_refl _, Nat.le_refl _⟩ hO.1 ⟨rfl, rfl, rfl⟩ rfl ⟨rfl, Nat.le_of_ble_eq_true rfl⟩ dX6_ask_53 (fun hx_5 => ?_)
      refine x_isub (pc := 56) C dX6_ask_56 ?_
      exact x_ireturn (pc := 57) C dX6_ask_57 (of_sp h).1 (of_sp h).2
  · replace h := of_ifn c_1 h
    refine x_ldc (pc := 13) C wd_292 dX6_ask_13 ?_
    refine x_aload_n (pc := 15) C 1 dX6_ask_15 rfl ?_
    refine x_iload (pc := 16) C 0 dX6_ask_16 rfl ?_
    obtain ⟨⟨r_4, S_4⟩, hc_5, h⟩ := of_bd h
    replace h := of_u2 h
    refine x_callV1 (pc := 18) C (o := 0) [.int v4_1] [.int (1000000000 : Int32)] (c_X6_refuse (b := b) v4_1 hO S _ _ hc_5) cw_X6_73 vi_X6_refuse ⟨rfl, rfl, Nat.le_of_ble_eq_true rfl, Nat.le_of_ble_eq_true rfl⟩ ⟨Nat.le_refl _, Nat.le_refl _⟩ hO.1 ⟨rfl, rfl, rfl⟩ rfl ⟨rfl, Nat.le_of_ble_eq_true rfl⟩ dX6_ask_18 (fun hx_6 => ?_)
    refine x_isub (pc := 21) C dX6_ask_21 ?_
    exact x_ireturn (pc := 22) C dX6_ask_22 (of_sp h).1 (of_sp h).2
set_option maxRecDepth 100000 in
set_option maxHeartbeats 4000000 in
theorem c_X5_set {l : Launch} {G : zz_G} {L : Ly} {b : Nat} (o : Nat) (p1 : Int32) (p2 : Int32) (hO : isW L o) (S : Sg) (Sf : Sg) (h : f_X5_set o p1 p2 S = some Sf) : Met l yX5_set (Cond.code yX5_set cX5_set 3 none :: zz_all) (rmz 1 21) (PC G L b S [.ref (b + o), .int p1, .int p2]) (QC G L b Sf none True) 0 0 (fun q => b ≤ q) := by
  refine x_met [.ref (b + o), .int p1, .int p2] (by decide +kernel) (Nat.le_of_ble_eq_true rfl) fun p e s m args below meth c C => ?_
  unfold f_X5_set at h
  refine x_iload_n (pc := 0) C 1 dX5_set_0 rfl ?_
  refine x_bipush (pc := 1) C (v := (10 : Int32)) dX5_set_1 rfl ?_
  refine x_callSN1 (pc := 3) C [.int p1, .int (10 : Int32)] [] (c_X6_isWithin (b := b) p1 (10 : Int32) S) cn_X5_72 vs_X6_isWithin ⟨rfl, rfl, Nat.le_of_ble_eq_true rfl, Nat.le_of_ble_eq_true rfl⟩ ⟨Nat.le_refl _, Nat.le_refl _⟩ rfl ⟨rfl, Nat.le_of_ble_eq_true rfl⟩ dX5_set_3 (fun hx_1 => ?_)
  refine x_if_eq (pc := 6) C 31 dX5_set_6 rfl (fun c_1 => ?_) (fun c_1 => ?_)
  · replace h := of_ifp c_1 h
    exact x_vreturn (pc := 31) C dX5_set_31 (of_s1 h)
  · replace h := of_ifn c_1 h
    refine x_aload_n (pc := 9) C 0 dX5_set_9 rfl ?_
    refine x_getr (pc := 10) C (k := 1) (o + 2) hO.1 rfl rfl wd_60 dX5_set_10 (Nat.le_of_ble_eq_true rfl) rfl ?_
    refine x_iload_n (pc := 13) C 1 dX5_set_13 rfl ?_
    refine x_iload_n (pc := 14) C 2 dX5_set_14 rfl ?_
    obtain ⟨g_1, h⟩ := of_gd h
    obtain ⟨S_1, eS_1, h⟩ := of_lt h
    refine x_iastore (pc := 15) C hO.2.2.1 g_1 eS_1 dX5_set_15 ?_
    refine x_aload_n (pc := 16) C 0 dX5_set_16 rfl ?_
    refine x_getr (pc := 17) C (k := 2) (o + 3) hO.1 rfl rfl wd_61 dX5_set_17 (Nat.le_of_ble_eq_true rfl) rfl ?_
    refine x_iload_n (pc := 20) C 1 dX5_set_20 rfl ?_
    refine x_iconst (pc := 21) C (v := (0 : Int32)) dX5_set_21 rfl ?_
    obtain ⟨S_2, eS_2, h⟩ := of_lt h
    refine x_iastore (pc := 22) C hO.2.2.2.1 g_1 eS_2 dX5_set_22 ?_
    refine x_aload_n (pc := 23) C 0 dX5_set_23 rfl ?_
    refine x_getr (pc := 24) C (k := 3) (o + 4) hO.1 rfl rfl wd_62 dX5_set_24 (Nat.le_of_ble_eq_true rfl) rfl ?_
    refine x_iload_n (pc := 27) C 1 dX5_set_27 rfl ?_
    refine x_bipush (pc := 28) C (v := (99 : Int32)) dX5_set_28 rfl ?_
    obtain ⟨S_3, eS_3, h⟩ := of_lt h
    refine x_iastore (pc := 30) C hO.2.2.2.2.1 g_1 eS_3 dX5_set_30 ?_
    exact x_vreturn (pc := 31) C dX5_set_31 (of_s1 h)
set_option maxRecDepth 100000 in
set_option maxHeartbeats 4000000 in
theorem c_X5_takeChange {l : Launch} {G : zz_G} {L : Ly} {b : Nat} (o : Nat) (p1 : Int32) (p2 : Int32) (hO : isW L o) (S : Sg) (rf : Int32) (Sf : Sg) (h : f_X5_takeChange o p1 p2 S = some (rf, Sf)) : Met l yX5_takeChange (Cond.code yX5_takeChange cX5_takeChange 3 (some .boolean) :: zz_all) (rmz 2 43) (PC G L b S [.ref (b + o), .int p1, .int p2]) (QC G L b Sf (some (.int rf)) (rf = 0 ∨ rf = 1)) 0 0 (fun q => b ≤ q) := by
  refine x_met [.ref (b + o), .int p1, .int p2] (by decide +kernel) (Nat.le_of_ble_eq_true rfl) fun p e s m args below meth c C => ?_
  unfold f_X5_takeChange at h
  refine x_iload_n (pc := 0) C 1 dX5_takeChange_0 rfl ?_
  refine x_bipush (pc := 1) C (v := (8 : Int32)) dX5_takeChange_1 rfl ?_
  refine x_callSN1 (pc := 3) C [.int p1, .int (8 : Int32)] [] (c_X6_isWithin (b := b) p1 (8 : Int32) S) cn_X5_72 vs_X6_isWithin ⟨rfl, rfl, Nat.le_of_ble_eq_true rfl, Nat.le_of_ble_eq_true rfl⟩ ⟨Nat.le_refl _, Nat.le_refl _⟩ rfl ⟨rfl, Nat.le_of_ble_eq_true rfl⟩ dX5_takeChange_3 (fun hx_1 => ?_)
  refine x_if_eq (pc := 6) C 21 dX5_takeChange_6 rfl (fun c_1 => ?_) (fun c_1 => ?_)
  · replace h := of_ifp c_1 h
    refine x_iconst (pc := 21) C (v := (0 : Int32)) dX5_takeChange_21 rfl ?_
    exact x_zreturn (pc := 22) C (by decide) dX5_takeChange_22 (of_sp h).1 (of_sp h).2
  · replace h := of_ifn c_1 h
    refine x_aload_n (pc := 9) C 0 dX5_takeChange_9 rfl ?_
    refine x_geti (pc := 10) C (k := 4) hO.1 rfl rfl wd_63 dX5_takeChange_10 ⟨Nat.le_of_ble_eq_true rfl, rfl⟩ ?_
    refine x_bipush (pc := 13) C (v := (10 : Int32)) dX5_takeChange_13 rfl ?_
    refine x_callSN1 (pc := 15) C [.int (S.1 o 4), .int (10 : Int32)] [] (c_X6_isWithin (b := b) (S.1 o 4) (10 : Int32) S) cn_X5_72 vs_X6_isWithin ⟨rfl, rfl, Nat.le_of_ble_eq_true rfl, Nat.le_of_ble_eq_true rfl⟩ ⟨Nat.le_refl _, Nat.le_refl _⟩ rfl ⟨rfl, Nat.le_of_ble_eq_true rfl⟩ dX5_takeChange_15 (fun hx_2 => ?_)
    refine x_if_ne (pc := 18) C 23 dX5_takeChange_18 rfl (fun c_2 => ?_) (fun c_2 => ?_)
    · replace h := of_ifn c_2 h
      refine x_aload_n (pc := 23) C 0 dX5_takeChange_23 rfl ?_
      refine x_getr (pc := 24) C (k := 0) (o + 1) hO.1 rfl rfl wd_59 dX5_takeChange_24 (Nat.le_of_ble_eq_true rfl) rfl ?_
      refine x_iload_n (pc := 27) C 1 dX5_takeChange_27 rfl ?_
      refine x_aload_n (pc := 28) C 0 dX5_takeChange_28 rfl ?_
      refine x_geti (pc := 29) C (k := 4) hO.1 rfl rfl wd_63 dX5_takeChange_29 ⟨Nat.le_of_ble_eq_true rfl, rfl⟩ ?_
      obtain ⟨g_1, h⟩ := of_gd h
      obtain ⟨S_1, eS_1, h⟩ := of_lt h
      refine x_iastore (pc := 32) C hO.2.1 g_1 eS_1 dX5_takeChange_32 ?_
      refine x_aload_n (pc := 33) C 0 dX5_takeChange_33 rfl ?_
      refine x_aload_n (pc := 34) C 0 dX5_takeChange_34 rfl ?_
      refine x_geti (pc := 35) C (k := 4) hO.1 rfl rfl wd_63 dX5_takeChange_35 ⟨Nat.le_of_ble_eq_true rfl, rfl⟩ ?_
      refine x_iload_n (pc := 38) C 2 dX5_takeChange_38 rfl ?_
      obtain ⟨S_2, hc_1, h⟩ := of_bd h
      refine x_callV_ (pc := 39) C (o := o) [.int (S_1.1 o 4), .int p2] [] (c_X5_set (b := b) o (S_1.1 o 4) p2 hO S_1 _ hc_1) cw_X5_102 vi_X5_set ⟨rfl, rfl, Nat.le_of_ble_eq_true rfl, Nat.le_of_ble_eq_true rfl⟩ ⟨Nat.le_refl _, Nat.le_refl _⟩ hO.1 ⟨rfl, rfl, rfl⟩ rfl ⟨rfl, Nat.le_of_ble_eq_true rfl⟩ dX5_takeChange_39 (fun hx_3 => ?_)
      refine x_aload_n (pc := 42) C 0 dX5_takeChange_42 rfl ?_
      refine x_dup (pc := 43) C dX5_takeChange_43 rfl ?_
      refine x_geti (pc := 44) C (k := 4) hO.1 rfl rfl wd_63 dX5_takeChange_44 ⟨Nat.le_of_ble_eq_true rfl, rfl⟩ ?_
      refine x_iconst (pc := 47) C (v := (1 : Int32)) dX5_takeChange_47 rfl ?_
      refine x_iadd (pc := 48) C dX5_takeChange_48 ?_
      obtain ⟨S_3, eS_3, h⟩ := of_lt h
      refine x_puti (pc := 49) C (k := 4) hO.1 rfl rfl wd_63 dX5_takeChange_49 ⟨Nat.le_of_ble_eq_true rfl, rfl⟩ eS_3 ?_
      refine x_iconst (pc := 52) C (v := (1 : Int32)) dX5_takeChange_52 rfl ?_
      exact x_zreturn (pc := 53) C (by decide) dX5_takeChange_53 (of_sp h).1 (of_sp h).2
    · replace h := of_ifp c_2 h
      refine x_iconst (pc := 21) C (v := (0 : Int32)) dX5_takeChange_21 rfl ?_
      exact x_zreturn (pc := 22) C (by decide) dX5_takeChange_22 (of_sp h).1 (of_sp h).2
set_option maxRecDepth 100000 in
set_option maxHeartbeats 4000000 in
theorem c_X5_variableOf {l : Launch} {G : zz_G} {L : Ly} {b : Nat} (o : Nat) (p1 : Int32) (hO : isW L o) (S : Sg) (rf : Int32) (h : f_X5_variableOf o p1 S = some rf) : Met l yX5_variableOf (Cond.code yX5_variableOf cX5_variableOf 2 (some .int) :: zz_all) (rmz 1 21) (PC G L b S [.ref (b + o), .int p1]) (QC G L b S (some (.int rf)) True) 0 0 (fun q => b ≤ q) := by
  refine x_met [.ref (b + o), .int p1] (by decide +kernel) (Nat.le_of_ble_eq_true rfl) fun p e s m args below meth c C => ?_
  unfold f_X5_variableOf at h
  refine x_iload_n (pc := 0) C 1 dX5_variableOf_0 rfl ?_
  refine x_bipush (pc := 1) C (v := (8 : Int32)) dX5_variableOf_1 rfl ?_
  refine x_callSN1 (pc := 3) C [.int p1, .int (8 : Int32)] [] (c_X6_isWithin (b := b) p1 (8 : Int32) S) cn_X5_72 vs_X6_isWithin ⟨rfl, rfl, Nat.le_of_ble_eq_true rfl, Nat.le_of_ble_eq_true rfl⟩ ⟨Nat.le_refl _, Nat.le_refl _⟩ rfl ⟨rfl, Nat.le_of_ble_eq_true rfl⟩ dX5_variableOf_3 (fun hx_1 => ?_)
  refine x_if_eq (pc := 6) C 18 dX5_variableOf_6 rfl (fun c_1 => ?_) (fun c_1 => ?_)
  · replace h := of_ifp c_1 h
    refine x_bipush (pc := 18) C (v := (-9 : Int32)) dX5_variableOf_18 rfl ?_
    exact x_ireturn (pc := 20) C dX5_variableOf_20 (of_s1 h) rfl
  · replace h := of_ifn c_1 h
    refine x_aload_n (pc := 9) C 0 dX5_variableOf_9 rfl ?_
    refine x_getr (pc := 10) C (k := 0) (o + 1) hO.1 rfl rfl wd_59 dX5_variableOf_10 (Nat.le_of_ble_eq_true rfl) rfl ?_
    refine x_iload_n (pc := 13) C 1 dX5_variableOf_13 rfl ?_
    obtain ⟨g_1, h⟩ := of_gd h
    refine x_iaload (pc := 14) C hO.2.1 g_1 dX5_variableOf_14 ?_
    refine x_goto (pc := 15) C 20 dX5_variableOf_15 rfl ?_
    exact x_ireturn (pc := 20) C dX5_variableOf_20 (of_s1 h) rfl
set_option maxRecDepth 100000 in
set_option maxHeartbeats 4000000 in
theorem c_X6_misfit {l : Launch} {G : zz_G} {L : Ly} {b : Nat} (p0 : Int32) (p1 : Int32) (p2 : Int32) (S : Sg) : Met l yX6_misfit (Cond.code yX6_misfit cX6_misfit 3 (some .int) :: zz_all) (rmz 0 0) (PC G L b S [.int p0, .int p1, .int p2]) (QC G L b S (some (.int (f_X6_misfit p0 p1 p2))) True) 0 0 (fun q => b ≤ q) := by
  refine x_met [.int p0, .int p1, .int p2] (by decide +kernel) (Nat.le_of_ble_eq_true rfl) fun p e s m args below meth c C => ?_
  generalize h : f_X6_misfit p0 p1 p2 = rf
  unfold f_X6_misfit at h
  refine x_iload_n (pc := 0) C 0 dX6_misfit_0 rfl ?_
  refine x_iload_n (pc := 1) C 1 dX6_misfit_1 rfl ?_
  obtain ⟨x_1, ex_1, h⟩ := of_lt h
  have kd_1 : X p l e (rmz 0 0) s m args below meth c 0 0 (RQ G L b S below args s (some (.int rf)) True) 3 G L b S 21 [] [.int x_1] := by
    exact x_ireturn (pc := 21) C dX6_misfit_21 h rfl
  refine x_icmp_ge (pc := 2) C 10 dX6_misfit_2 rfl (fun c_1 => ?_) (fun c_1 => ?_)
  · refine x_iload_n (pc := 10) C 0 dX6_misfit_10 rfl ?_
    refine x_iload_n (pc := 11) C 2 dX6_misfit_11 rfl ?_
    refine x_icmp_le (pc := 12) C 20 dX6_misfit_12 rfl (fun c_2 => ?_) (fun c_2 => ?_)
    · refine x_iconst (pc := 20) C (v := (0 : Int32)) dX6_misfit_20 rfl ?_
      refine x_sub [] rfl ?_
      rw [show x_1 = (0 : Int32) from ((ex_1.trans (if_neg c_1)).trans (if_neg c_2))] at kd_1
      exact kd_1
    · refine x_bipush (pc := 15) C (v := (-6 : Int32)) dX6_misfit_15 rfl ?_
      refine x_goto (pc := 17) C 21 dX6_misfit_17 rfl ?_
      refine x_sub [] rfl ?_
      rw [show x_1 = (-6 : Int32) from ((ex_1.trans (if_neg c_1)).trans (if_pos c_2))] at kd_1
      exact kd_1
  · refine x_bipush (pc := 5) C (v := (-4 : Int32)) dX6_misfit_5 rfl ?_
    refine x_goto (pc := 7) C 21 dX6_misfit_7 rfl ?_
    refine x_sub [] rfl ?_
    rw [show x_1 = (-4 : Int32) from (ex_1.trans (if_pos c_1))] at kd_1
    exact kd_1
set_option maxRecDepth 100000 in
set_option maxHeartbeats 4000000 in
theorem c_X6_misfitOfValue {l : Launch} {G : zz_G} {L : Ly} {b : Nat} (p0 : Int32) (p1 : Int32) (S : Sg) : Met l yX6_misfitOfValue (Cond.code yX6_misfitOfValue cX6_misfitOfValue 2 (some .int) :: zz_all) (rmz 1 22) (PC G L b S [.int p0, .int p1]) (QC G L b S (some (.int (f_X6_misfitOfValue p0 p1))) True) 0 0 (fun q => b ≤ q) := by
  refine x_met [.int p0, .int p1] (by decide +kernel) (Nat.le_of_ble_eq_true rfl) fun p e s m args below meth c C => ?_
  generalize h : f_X6_misfitOfValue p0 p1 = rf
  unfold f_X6_misfitOfValue at h
  refine x_iload_n (pc := 0) C 0 dX6_misfitOfValue_0 rfl ?_
  refine x_bipush (pc := 1) C (v := (8 : Int32)) dX6_misfitOfValue_1 rfl ?_
  refine x_callS1 (pc := 3) C [.int p0, .int (8 : Int32)] [] (c_X6_isWithin (b := b) p0 (8 : Int32) S) cw_X6_69 vs_X6_isWithin ⟨rfl, rfl, Nat.le_of_ble_eq_true rfl, Nat.le_of_ble_eq_true rfl⟩ ⟨Nat.le_refl _, Nat.le_refl _⟩ rfl ⟨rfl, Nat.le_of_ble_eq_true rfl⟩ dX6_misfitOfValue_3 (fun hx_1 => ?_)
  refine x_if_ne (pc := 6) C 11 dX6_misfitOfValue_6 rfl (fun c_1 => ?_) (fun c_1 => ?_)
  · replace h := of_ifn c_1 h
    refine x_iload_n (pc := 11) C 1 dX6_misfitOfValue_11 rfl ?_
    refine x_iconst (pc := 12) C (v := (0 : Int32)) dX6_misfitOfValue_12 rfl ?_
    refine x_bipush (pc := 13) C (v := (99 : Int32)) dX6_misfitOfValue_13 rfl ?_
    refine x_callS1 (pc := 15) C [.int p1, .int (0 : Int32), .int (99 : Int32)] [] (c_X6_misfit (b := b) p1 (0 : Int32) (99 : Int32) S) cw_X6_125 vs_X6_misfit ⟨rfl, rfl, Nat.le_of_ble_eq_true rfl, Nat.le_of_ble_eq_true rfl⟩ ⟨Nat.le_refl _, Nat.le_refl _⟩ rfl ⟨rfl, Nat.le_of_ble_eq_true rfl⟩ dX6_misfitOfValue_15 (fun hx_2 => ?_)
    exact x_ireturn (pc := 18) C dX6_misfitOfValue_18 h rfl
  · replace h := of_ifp c_1 h
    refine x_iconst (pc := 9) C (v := (-1 : Int32)) dX6_misfitOfValue_9 rfl ?_
    exact x_ireturn (pc := 10) C dX6_misfitOfValue_10 h rfl
set_option maxRecDepth 100000 in
set_option maxHeartbeats 4000000 in
theorem c_X6_changes {l : Launch} {G : zz_G} {L : Ly} {b : Nat} (p1 : Int32) (p2 : Int32) (hO : isGu L) (S : Sg) (rf : Int32) (Sf : Sg) (h : f_X6_changes p1 p2 S = some (rf, Sf)) : Met l yX6_changes (Cond.code yX6_changes cX6_changes 4 (some .int) :: zz_all) (rmz 3 65) (PC G L b S [.ref (b + 0), .int p1, .int p2]) (QC G L b Sf (some (.int rf)) True) 0 0 (fun q => b ≤ q) := by
  refine x_met [.ref (b + 0), .int p1, .int p2] (by decide +kernel) (Nat.le_of_ble_eq_true rfl) fun p e s m args below meth c C => ?_
  unfold f_X6_changes at h
  refine x_iload_n (pc := 0) C 1 dX6_changes_0 rfl ?_
  refine x_iload_n (pc := 1) C 2 dX6_changes_1 rfl ?_
  refine x_callS1 (pc := 2) C [.int p1, .int p2] [] (c_X6_misfitOfValue (b := b) p1 p2 S) cw_X6_116 vs_X6_misfitOfValue ⟨rfl, rfl, Nat.le_of_ble_eq_true rfl, Nat.le_of_ble_eq_true rfl⟩ ⟨Nat.le_refl _, Nat.le_refl _⟩ rfl ⟨rfl, Nat.le_of_ble_eq_true rfl⟩ dX6_changes_2 (fun hx_1 => ?_)
  obtain ⟨v3_1, ev3_1, h⟩ := of_lt h
  refine x_istore_n (pc := 5) C 3 [(3, .int v3_1), (0, .ref (b + 0)), (1, .int p1), (2, .int p2)] dX6_changes_5 rfl (Nat.le_of_ble_eq_true rfl) ev3_1 rfl ?_
  refine x_iload_n (pc := 6) C 0 dX6_changes_6 rfl ?_
  refine x_if_eq (pc := 7) C 16 dX6_changes_7 rfl (fun c_1 => ?_) (fun c_1 => ?_)
  · replace h := of_ifp c_1 h
    refine x_aload_n (pc := 16) C 1 dX6_changes_16 rfl ?_
    refine x_getr (pc := 17) C (k := 0) 1 hO.1 rfl rfl wd_149 dX6_changes_17 (Nat.le_of_ble_eq_true rfl) rfl ?_
    refine x_iload_n (pc := 20) C 2 dX6_changes_20 rfl ?_
    refine x_iload_n (pc := 21) C 3 dX6_changes_21 rfl ?_
    obtain ⟨⟨r_1, S_1⟩, hc_1, h⟩ := of_bd h
    replace h := of_u2 h
    refine x_callV1 (pc := 22) C (o := 1) [.int p1, .int p2] [] (c_X5_takeChange (b := b) 1 p1 p2 hO.2.1 S _ _ hc_1) cw_X6_122 vi_X5_takeChange ⟨rfl, rfl, Nat.le_of_ble_eq_true rfl, Nat.le_of_ble_eq_true rfl⟩ ⟨Nat.le_refl _, Nat.le_refl _⟩ hO.2.1.1 ⟨rfl, rfl, rfl⟩ rfl ⟨rfl, Nat.le_of_ble_eq_true rfl⟩ dX6_changes_22 (fun hx_2 => ?_)
    refine x_if_eq (pc := 25) C 39 dX6_changes_25 rfl (fun c_2 => ?_) (fun c_2 => ?_)
    · replace h := of_ifp c_2 h
      refine x_aload_n (pc := 39) C 1 dX6_changes_39 rfl ?_
      refine x_bipush (pc := 40) C (v := (-6 : Int32)) dX6_changes_40 rfl ?_
      obtain ⟨⟨r_2, S_2⟩, hc_2, h⟩ := of_bd h
      replace h := of_u2 h
      refine x_callV1 (pc := 42) C (o := 0) [.int (-6 : Int32)] [] (c_X6_refuse (b := b) (-6 : Int32) hO S_1 _ _ hc_2) cw_X6_73 vi_X6_refuse ⟨rfl, rfl, Nat.le_of_ble_eq_true rfl, Nat.le_of_ble_eq_true rfl⟩ ⟨Nat.le_refl _, Nat.le_refl _⟩ hO.1 ⟨rfl, rfl, rfl⟩ rfl ⟨rfl, Nat.le_of_ble_eq_true rfl⟩ dX6_changes_42 (fun hx_3 => ?_)
      exact x_ireturn (pc := 45) C dX6_changes_45 (of_sp h).1 (of_sp h).2
    · replace h := of_ifn c_2 h
      refine x_aload_n (pc := 28) C 1 dX6_changes_28 rfl ?_
      refine x_getr (pc := 29) C (k := 0) 1 hO.1 rfl rfl wd_149 dX6_changes_29 (Nat.le_of_ble_eq_true rfl) rfl ?_
      refine x_iload_n (pc := 32) C 2 dX6_changes_32 rfl ?_
      obtain ⟨r_3, hc_3, h⟩ := of_bd h
      refine x_callV1 (pc := 33) C (o := 1) [.int p1] [] (c_X5_variableOf (b := b) 1 p1 hO.2.1 S_1 _ hc_3) cw_X6_77 vi_X5_variableOf ⟨rfl, rfl, Nat.le_of_ble_eq_true rfl, Nat.le_of_ble_eq_true rfl⟩ ⟨Nat.le_refl _, Nat.le_refl _⟩ hO.2.1.1 ⟨rfl, rfl, rfl⟩ rfl ⟨rfl, Nat.le_of_ble_eq_true rfl⟩ dX6_changes_33 (fun hx_4 => ?_)
      refine x_goto (pc := 36) C 45 dX6_changes_36 rfl ?_
      exact x_ireturn (pc := 45) C dX6_changes_45 (of_sp h).1 (of_sp h).2
  · replace h := of_ifn c_1 h
    refine x_aload_n (pc := 10) C 1 dX6_changes_10 rfl ?_
    refine x_iload_n (pc := 11) C 0 dX6_changes_11 rfl ?_
    obtain ⟨⟨r_4, S_3⟩, hc_4, h⟩ := of_bd h
    replace h := of_u2 h
    refine x_callV1 (pc := 12) C (o := 0) [.int v3_1] [] (c_X6_refuse (b := b) v3_1 hO S _ _ hc_4) cw_X6_73 vi_X6_refuse ⟨rfl, rfl, Nat.le_of_ble_eq_true rfl, Nat.le_of_ble_eq_true rfl⟩ ⟨Nat.le_refl _, Nat.le_refl _⟩ hO.1 ⟨rfl, rfl, rfl⟩ rfl ⟨rfl, Nat.le_of_ble_eq_true rfl⟩ dX6_changes_12 (fun hx_5 => ?_)
    exact x_ireturn (pc := 15) C dX6_changes_15 (of_sp h).1 (of_sp h).2
set_option maxRecDepth 100000 in
set_option maxHeartbeats 4000000 in
theorem c_X5_takeLimit {l : Launch} {G : zz_G} {L : Ly} {b : Nat} (o : Nat) (p1 : Int32) (hO : isW L o) (S : Sg) (rf : Int32) (Sf : Sg) (h : f_X5_takeLimit o p1 S = some (rf, Sf)) : Met l yX5_takeLimit (Cond.code yX5_takeLimit cX5_takeLimit 2 (some .boolean) :: zz_all) (rmz 1 21) (PC G L b S [.ref (b + o), .int p1]) (QC G L b Sf (some (.int rf)) (rf = 0 ∨ rf = 1)) 0 0 (fun q => b ≤ q) := by
  refine x_met [.ref (b + o), .int p1] (by decide +kernel) (Nat.le_of_ble_eq_true rfl) fun p e s m args below meth c C => ?_
  unfold f_X5_takeLimit at h
  refine x_iload_n (pc := 0) C 1 dX5_takeLimit_0 rfl ?_
  refine x_bipush (pc := 1) C (v := (11 : Int32)) dX5_takeLimit_1 rfl ?_
  refine x_callSN1 (pc := 3) C [.int p1, .int (11 : Int32)] [] (c_X6_isWithin (b := b) p1 (11 : Int32) S) cn_X5_72 vs_X6_isWithin ⟨rfl, rfl, Nat.le_of_ble_eq_true rfl, Nat.le_of_ble_eq_true rfl⟩ ⟨Nat.le_refl _, Nat.le_refl _⟩ rfl ⟨rfl, Nat.le_of_ble_eq_true rfl⟩ dX5_takeLimit_3 (fun hx_1 => ?_)
  refine x_if_ne (pc := 6) C 11 dX5_takeLimit_6 rfl (fun c_1 => ?_) (fun c_1 => ?_)
  · replace h := of_ifn c_1 h
    refine x_aload_n (pc := 11) C 0 dX5_takeLimit_11 rfl ?_
    refine x_iload_n (pc := 12) C 1 dX5_takeLimit_12 rfl ?_
    obtain ⟨S_1, eS_1, h⟩ := of_lt h
    refine x_puti (pc := 13) C (k := 6) hO.1 rfl rfl wd_68 dX5_takeLimit_13 ⟨Nat.le_of_ble_eq_true rfl, rfl⟩ eS_1 ?_
    refine x_iconst (pc := 16) C (v := (1 : Int32)) dX5_takeLimit_16 rfl ?_
    exact x_zreturn (pc := 17) C (by decide) dX5_takeLimit_17 (of_sp h).1 (of_sp h).2
  · replace h := of_ifp c_1 h
    refine x_iconst (pc := 9) C (v := (0 : Int32)) dX5_takeLimit_9 rfl ?_
    exact x_zreturn (pc := 10) C (by decide) dX5_takeLimit_10 (of_sp h).1 (of_sp h).2
end
section
set_option maxRecDepth 100000 in
set_option maxHeartbeats 4000000 in
theorem c_X6_limit {l : Launch} {G : zz_G} {L : Ly} {b : Nat} (p1 : Int32) (hO : isGu L) (S : Sg) (rf : Int32) (Sf : Sg) (h : f_X6_limit p1 S = some (rf, Sf)) : Met l yX6_limit (Cond.code yX6_limit cX6_limit 4 (some .int) :: zz_all) (rmz 2 43) (PC G L b S [.ref (b + 0), .int p1]) (QC G L b Sf (some (.int rf)) True) 0 0 (fun q => b ≤ q) := by
  refine x_met [.ref (b + 0), .int p1] (by decide +kernel) (Nat.le_of_ble_eq_true rfl) fun p e s m args below meth c C => ?_
  unfold f_X6_limit at h
  refine x_iload_n (pc := 0) C 1 dX6_limit_0 rfl ?_
  refine x_iconst (pc := 1) C (v := (0 : Int32)) dX6_limit_1 rfl ?_
  refine x_bipush (pc := 2) C (v := (10 : Int32)) dX6_limit_2 rfl ?_
  refine x_callS1 (pc := 4) C [.int p1, .int (0 : Int32), .int (10 : Int32)] [] (c_X6_misfit (b := b) p1 (0 : Int32) (10 : Int32) S) cw_X6_125 vs_X6_misfit ⟨rfl, rfl, Nat.le_of_ble_eq_true rfl, Nat.le_of_ble_eq_true rfl⟩ ⟨Nat.le_refl _, Nat.le_refl _⟩ rfl ⟨rfl, Nat.le_of_ble_eq_true rfl⟩ dX6_limit_4 (fun hx_1 => ?_)
  obtain ⟨v2_1, ev2_1, h⟩ := of_lt h
  refine x_istore_n (pc := 7) C 2 [(2, .int v2_1), (0, .ref (b + 0)), (1, .int p1)] dX6_limit_7 rfl (Nat.le_of_ble_eq_true rfl) ev2_1 rfl ?_
  refine x_iload_n (pc := 8) C 0 dX6_limit_8 rfl ?_
  refine x_if_eq (pc := 9) C 18 dX6_limit_9 rfl (fun c_1 => ?_) (fun c_1 => ?_)
  · replace h := of_ifp c_1 h
    refine x_aload_n (pc := 18) C 1 dX6_limit_18 rfl ?_
    refine x_getr (pc := 19) C (k := 0) 1 hO.1 rfl rfl wd_149 dX6_limit_19 (Nat.le_of_ble_eq_true rfl) rfl ?_
    refine x_geti (pc := 22) C (k := 6) hO.2.1.1 rfl rfl wd_69 dX6_limit_22 ⟨Nat.le_of_ble_eq_true rfl, rfl⟩ ?_
    obtain ⟨v3_1, ev3_1, h⟩ := of_lt h
    refine x_istore_n (pc := 25) C 3 [(3, .int v3_1), (2, .int v2_1), (0, .ref (b + 0)), (1, .int p1)] dX6_limit_25 rfl (Nat.le_of_ble_eq_true rfl) ev3_1 rfl ?_
    refine x_aload_n (pc := 26) C 2 dX6_limit_26 rfl ?_
    refine x_getr (pc := 27) C (k := 0) 1 hO.1 rfl rfl wd_149 dX6_limit_27 (Nat.le_of_ble_eq_true rfl) rfl ?_
    refine x_iload_n (pc := 30) C 3 dX6_limit_30 rfl ?_
    obtain ⟨⟨r_1, S_1⟩, hc_1, h⟩ := of_bd h
    replace h := of_u2 h
    refine x_callV1 (pc := 31) C (o := 1) [.int p1] [] (c_X5_takeLimit (b := b) 1 p1 hO.2.1 S _ _ hc_1) cw_X6_143 vi_X5_takeLimit ⟨rfl, rfl, Nat.le_of_ble_eq_true rfl, Nat.le_of_ble_eq_true rfl⟩ ⟨Nat.le_refl _, Nat.le_refl _⟩ hO.2.1.1 ⟨rfl, rfl, rfl⟩ rfl ⟨rfl, Nat.le_of_ble_eq_true rfl⟩ dX6_limit_31 (fun hx_2 => ?_)
    refine x_pop (pc := 34) C dX6_limit_34 rfl ?_
    refine x_iload_n (pc := 35) C 0 dX6_limit_35 rfl ?_
    exact x_ireturn (pc := 36) C dX6_limit_36 (of_sp h).1 (of_sp h).2
  · replace h := of_ifn c_1 h
    refine x_aload_n (pc := 12) C 1 dX6_limit_12 rfl ?_
    refine x_iload_n (pc := 13) C 0 dX6_limit_13 rfl ?_
    obtain ⟨⟨r_2, S_2⟩, hc_2, h⟩ := of_bd h
    replace h := of_u2 h
    refine x_callV1 (pc := 14) C (o := 0) [.int v2_1] [] (c_X6_refuse (b := b) v2_1 hO S _ _ hc_2) cw_X6_73 vi_X6_refuse ⟨rfl, rfl, Nat.le_of_ble_eq_true rfl, Nat.le_of_ble_eq_true rfl⟩ ⟨Nat.le_refl _, Nat.le_refl _⟩ hO.1 ⟨rfl, rfl, rfl⟩ rfl ⟨rfl, Nat.le_of_ble_eq_true rfl⟩ dX6_limit_14 (fun hx_3 => ?_)
    exact x_ireturn (pc := 17) C dX6_limit_17 (of_sp h).1 (of_sp h).2
set_option maxRecDepth 100000 in
set_option maxHeartbeats 4000000 in
theorem c_X5_takeRule {l : Launch} {G : zz_G} {L : Ly} {b : Nat} (o : Nat) (p1 : Int32) (hO : isW L o) (S : Sg) (rf : Int32) (Sf : Sg) (h : f_X5_takeRule o p1 S = some (rf, Sf)) : Met l yX5_takeRule (Cond.code yX5_takeRule cX5_takeRule 2 (some .boolean) :: zz_all) (rmz 1 21) (PC G L b S [.ref (b + o), .int p1]) (QC G L b Sf (some (.int rf)) (rf = 0 ∨ rf = 1)) 0 0 (fun q => b ≤ q) := by
  refine x_met [.ref (b + o), .int p1] (by decide +kernel) (Nat.le_of_ble_eq_true rfl) fun p e s m args below meth c C => ?_
  unfold f_X5_takeRule at h
  refine x_iload_n (pc := 0) C 1 dX5_takeRule_0 rfl ?_
  refine x_iconst (pc := 1) C (v := (4 : Int32)) dX5_takeRule_1 rfl ?_
  refine x_callSN1 (pc := 2) C [.int p1, .int (4 : Int32)] [] (c_X6_isWithin (b := b) p1 (4 : Int32) S) cn_X5_72 vs_X6_isWithin ⟨rfl, rfl, Nat.le_of_ble_eq_true rfl, Nat.le_of_ble_eq_true rfl⟩ ⟨Nat.le_refl _, Nat.le_refl _⟩ rfl ⟨rfl, Nat.le_of_ble_eq_true rfl⟩ dX5_takeRule_2 (fun hx_1 => ?_)
  refine x_if_ne (pc := 5) C 10 dX5_takeRule_5 rfl (fun c_1 => ?_) (fun c_1 => ?_)
  · replace h := of_ifn c_1 h
    refine x_aload_n (pc := 10) C 0 dX5_takeRule_10 rfl ?_
    refine x_iload_n (pc := 11) C 1 dX5_takeRule_11 rfl ?_
    obtain ⟨S_1, eS_1, h⟩ := of_lt h
    refine x_puti (pc := 12) C (k := 5) hO.1 rfl rfl wd_66 dX5_takeRule_12 ⟨Nat.le_of_ble_eq_true rfl, rfl⟩ eS_1 ?_
    refine x_iconst (pc := 15) C (v := (1 : Int32)) dX5_takeRule_15 rfl ?_
    exact x_zreturn (pc := 16) C (by decide) dX5_takeRule_16 (of_sp h).1 (of_sp h).2
  · replace h := of_ifp c_1 h
    refine x_iconst (pc := 8) C (v := (0 : Int32)) dX5_takeRule_8 rfl ?_
    exact x_zreturn (pc := 9) C (by decide) dX5_takeRule_9 (of_sp h).1 (of_sp h).2
set_option maxRecDepth 100000 in
set_option maxHeartbeats 4000000 in
theorem c_X6_rule {l : Launch} {G : zz_G} {L : Ly} {b : Nat} (p1 : Int32) (hO : isGu L) (S : Sg) (rf : Int32) (Sf : Sg) (h : f_X6_rule p1 S = some (rf, Sf)) : Met l yX6_rule (Cond.code yX6_rule cX6_rule 3 (some .int) :: zz_all) (rmz 2 43) (PC G L b S [.ref (b + 0), .int p1]) (QC G L b Sf (some (.int rf)) True) 0 0 (fun q => b ≤ q) := by
  refine x_met [.ref (b + 0), .int p1] (by decide +kernel) (Nat.le_of_ble_eq_true rfl) fun p e s m args below meth c C => ?_
  unfold f_X6_rule at h
  refine x_aload_n (pc := 0) C 0 dX6_rule_0 rfl ?_
  refine x_getr (pc := 1) C (k := 0) 1 hO.1 rfl rfl wd_149 dX6_rule_1 (Nat.le_of_ble_eq_true rfl) rfl ?_
  refine x_geti (pc := 4) C (k := 5) hO.2.1.1 rfl rfl wd_67 dX6_rule_4 ⟨Nat.le_of_ble_eq_true rfl, rfl⟩ ?_
  obtain ⟨v2_1, ev2_1, h⟩ := of_lt h
  refine x_istore_n (pc := 7) C 2 [(2, .int v2_1), (0, .ref (b + 0)), (1, .int p1)] dX6_rule_7 rfl (Nat.le_of_ble_eq_true rfl) ev2_1 rfl ?_
  refine x_aload_n (pc := 8) C 1 dX6_rule_8 rfl ?_
  refine x_getr (pc := 9) C (k := 0) 1 hO.1 rfl rfl wd_149 dX6_rule_9 (Nat.le_of_ble_eq_true rfl) rfl ?_
  refine x_iload_n (pc := 12) C 2 dX6_rule_12 rfl ?_
  obtain ⟨⟨r_1, S_1⟩, hc_1, h⟩ := of_bd h
  replace h := of_u2 h
  refine x_callV1 (pc := 13) C (o := 1) [.int p1] [] (c_X5_takeRule (b := b) 1 p1 hO.2.1 S _ _ hc_1) cw_X6_137 vi_X5_takeRule ⟨rfl, rfl, Nat.le_of_ble_eq_true rfl, Nat.le_of_ble_eq_true rfl⟩ ⟨Nat.le_refl _, Nat.le_refl _⟩ hO.2.1.1 ⟨rfl, rfl, rfl⟩ rfl ⟨rfl, Nat.le_of_ble_eq_true rfl⟩ dX6_rule_13 (fun hx_1 => ?_)
  refine x_if_eq (pc := 16) C 23 dX6_rule_16 rfl (fun c_1 => ?_) (fun c_1 => ?_)
  · replace h := of_ifp c_1 h
    refine x_aload_n (pc := 23) C 1 dX6_rule_23 rfl ?_
    refine x_bipush (pc := 24) C (v := (-2 : Int32)) dX6_rule_24 rfl ?_
    obtain ⟨⟨r_2, S_2⟩, hc_2, h⟩ := of_bd h
    replace h := of_u2 h
    refine x_callV1 (pc := 26) C (o := 0) [.int (-2 : Int32)] [] (c_X6_refuse (b := b) (-2 : Int32) hO S_1 _ _ hc_2) cw_X6_73 vi_X6_refuse ⟨rfl, rfl, Nat.le_of_ble_eq_true rfl, Nat.le_of_ble_eq_true rfl⟩ ⟨Nat.le_refl _, Nat.le_refl _⟩ hO.1 ⟨rfl, rfl, rfl⟩ rfl ⟨rfl, Nat.le_of_ble_eq_true rfl⟩ dX6_rule_26 (fun hx_2 => ?_)
    exact x_ireturn (pc := 29) C dX6_rule_29 (of_sp h).1 (of_sp h).2
  · replace h := of_ifn c_1 h
    refine x_iload_n (pc := 19) C 0 dX6_rule_19 rfl ?_
    refine x_goto (pc := 20) C 29 dX6_rule_20 rfl ?_
    exact x_ireturn (pc := 29) C dX6_rule_29 (of_sp h).1 (of_sp h).2
set_option maxRecDepth 100000 in
set_option maxHeartbeats 4000000 in
theorem c_X5_takeTold {l : Launch} {G : zz_G} {L : Ly} {b : Nat} (o : Nat) (p1 : Int32) (p2 : Int32) (hO : isW L o) (S : Sg) (rf : Int32) (Sf : Sg) (h : f_X5_takeTold o p1 p2 S = some (rf, Sf)) : Met l yX5_takeTold (Cond.code yX5_takeTold cX5_takeTold 4 (some .boolean) :: zz_all) (rmz 3 65) (PC G L b S [.ref (b + o), .int p1, .int p2]) (QC G L b Sf (some (.int rf)) (rf = 0 ∨ rf = 1)) 0 0 (fun q => b ≤ q) := by
  refine x_met [.ref (b + o), .int p1, .int p2] (by decide +kernel) (Nat.le_of_ble_eq_true rfl) fun p e s m args below meth c C => ?_
  unfold f_X5_takeTold at h
  refine x_aload_n (pc := 0) C 0 dX5_takeTold_0 rfl ?_
  refine x_iload_n (pc := 1) C 1 dX5_takeTold_1 rfl ?_
  obtain ⟨r_1, hc_1, h⟩ := of_bd h
  refine x_callV1 (pc := 2) C (o := o) [.int p1] [] (c_X5_variableOf (b := b) o p1 hO S _ hc_1) cw_X5_99 vi_X5_variableOf ⟨rfl, rfl, Nat.le_of_ble_eq_true rfl, Nat.le_of_ble_eq_true rfl⟩ ⟨Nat.le_refl _, Nat.le_refl _⟩ hO.1 ⟨rfl, rfl, rfl⟩ rfl ⟨rfl, Nat.le_of_ble_eq_true rfl⟩ dX5_takeTold_2 (fun hx_1 => ?_)
  refine x_istore_n (pc := 5) C 3 [(3, .int r_1), (0, .ref (b + o)), (1, .int p1), (2, .int p2)] dX5_takeTold_5 rfl (Nat.le_of_ble_eq_true rfl) rfl rfl ?_
  refine x_aload_n (pc := 6) C 1 dX5_takeTold_6 rfl ?_
  refine x_iload_n (pc := 7) C 0 dX5_takeTold_7 rfl ?_
  refine x_callV1 (pc := 8) C (o := o) [.int r_1] [] (c_X5_has (b := b) o r_1 hO S) cw_X5_76 vi_X5_has ⟨rfl, rfl, Nat.le_of_ble_eq_true rfl, Nat.le_of_ble_eq_true rfl⟩ ⟨Nat.le_refl _, Nat.le_refl _⟩ hO.1 ⟨rfl, rfl, rfl⟩ rfl ⟨rfl, Nat.le_of_ble_eq_true rfl⟩ dX5_takeTold_8 (fun hx_2 => ?_)
  refine x_if_eq (pc := 11) C 22 dX5_takeTold_11 rfl (fun c_1 => ?_) (fun c_1 => ?_)
  · replace h := of_ifp c_1 h
    refine x_iconst (pc := 22) C (v := (0 : Int32)) dX5_takeTold_22 rfl ?_
    exact x_zreturn (pc := 23) C (by decide) dX5_takeTold_23 (of_sp h).1 (of_sp h).2
  · replace h := of_ifn c_1 h
    refine x_aload_n (pc := 14) C 1 dX5_takeTold_14 rfl ?_
    refine x_iload_n (pc := 15) C 0 dX5_takeTold_15 rfl ?_
    obtain ⟨r_2, hc_2, h⟩ := of_bd h
    refine x_callV1 (pc := 16) C (o := o) [.int r_1] [] (c_X5_isFree (b := b) o r_1 hO S _ hc_2) cw_X5_84 vi_X5_isFree ⟨rfl, rfl, Nat.le_of_ble_eq_true rfl, Nat.le_of_ble_eq_true rfl⟩ ⟨Nat.le_refl _, Nat.le_refl _⟩ hO.1 ⟨rfl, rfl, rfl⟩ rfl ⟨rfl, Nat.le_of_ble_eq_true rfl⟩ dX5_takeTold_16 (fun hx_3 => ?_)
    refine x_if_ne (pc := 19) C 24 dX5_takeTold_19 rfl (fun c_2 => ?_) (fun c_2 => ?_)
    · replace h := of_ifn c_2 h
      refine x_aload_n (pc := 24) C 1 dX5_takeTold_24 rfl ?_
      refine x_iload_n (pc := 25) C 0 dX5_takeTold_25 rfl ?_
      refine x_iload_n (pc := 26) C 3 dX5_takeTold_26 rfl ?_
      obtain ⟨S_1, hc_3, h⟩ := of_bd h
      refine x_callV_ (pc := 27) C (o := o) [.int r_1, .int p2] [] (c_X5_set (b := b) o r_1 p2 hO S _ hc_3) cw_X5_102 vi_X5_set ⟨rfl, rfl, Nat.le_of_ble_eq_true rfl, Nat.le_of_ble_eq_true rfl⟩ ⟨Nat.le_refl _, Nat.le_refl _⟩ hO.1 ⟨rfl, rfl, rfl⟩ rfl ⟨rfl, Nat.le_of_ble_eq_true rfl⟩ dX5_takeTold_27 (fun hx_4 => ?_)
      refine x_iconst (pc := 30) C (v := (1 : Int32)) dX5_takeTold_30 rfl ?_
      exact x_zreturn (pc := 31) C (by decide) dX5_takeTold_31 (of_sp h).1 (of_sp h).2
    · replace h := of_ifp c_2 h
      refine x_iconst (pc := 22) C (v := (0 : Int32)) dX5_takeTold_22 rfl ?_
      exact x_zreturn (pc := 23) C (by decide) dX5_takeTold_23 (of_sp h).1 (of_sp h).2
set_option maxRecDepth 100000 in
set_option maxHeartbeats 4000000 in
theorem c_X6_tells {l : Launch} {G : zz_G} {L : Ly} {b : Nat} (p1 : Int32) (p2 : Int32) (hO : isGu L) (S : Sg) (rf : Int32) (Sf : Sg) (h : f_X6_tells p1 p2 S = some (rf, Sf)) : Met l yX6_tells (Cond.code yX6_tells cX6_tells 5 (some .int) :: zz_all) (rmz 4 88) (PC G L b S [.ref (b + 0), .int p1, .int p2]) (QC G L b Sf (some (.int rf)) True) 0 0 (fun q => b ≤ q) := by
  refine x_met [.ref (b + 0), .int p1, .int p2] (by decide +kernel) (Nat.le_of_ble_eq_true rfl) fun p e s m args below meth c C => ?_
  unfold f_X6_tells at h
  refine x_iload_n (pc := 0) C 1 dX6_tells_0 rfl ?_
  refine x_iload_n (pc := 1) C 2 dX6_tells_1 rfl ?_
  refine x_callS1 (pc := 2) C [.int p1, .int p2] [] (c_X6_misfitOfValue (b := b) p1 p2 S) cw_X6_116 vs_X6_misfitOfValue ⟨rfl, rfl, Nat.le_of_ble_eq_true rfl, Nat.le_of_ble_eq_true rfl⟩ ⟨Nat.le_refl _, Nat.le_refl _⟩ rfl ⟨rfl, Nat.le_of_ble_eq_true rfl⟩ dX6_tells_2 (fun hx_1 => ?_)
  obtain ⟨v3_1, ev3_1, h⟩ := of_lt h
  refine x_istore_n (pc := 5) C 3 [(3, .int v3_1), (0, .ref (b + 0)), (1, .int p1), (2, .int p2)] dX6_tells_5 rfl (Nat.le_of_ble_eq_true rfl) ev3_1 rfl ?_
  refine x_iload_n (pc := 6) C 0 dX6_tells_6 rfl ?_
  refine x_if_eq (pc := 7) C 16 dX6_tells_7 rfl (fun c_1 => ?_) (fun c_1 => ?_)
  · replace h := of_ifp c_1 h
    refine x_aload_n (pc := 16) C 1 dX6_tells_16 rfl ?_
    refine x_getr (pc := 17) C (k := 0) 1 hO.1 rfl rfl wd_149 dX6_tells_17 (Nat.le_of_ble_eq_true rfl) rfl ?_
    refine x_aload_n (pc := 20) C 1 dX6_tells_20 rfl ?_
    refine x_getr (pc := 21) C (k := 0) 1 hO.1 rfl rfl wd_149 dX6_tells_21 (Nat.le_of_ble_eq_true rfl) rfl ?_
    refine x_iload_n (pc := 24) C 2 dX6_tells_24 rfl ?_
    obtain ⟨r_1, hc_1, h⟩ := of_bd h
    refine x_callV1 (pc := 25) C (o := 1) [.int p1] [.ref (b + 1)] (c_X5_variableOf (b := b) 1 p1 hO.2.1 S _ hc_1) cw_X6_77 vi_X5_variableOf ⟨rfl, rfl, Nat.le_of_ble_eq_true rfl, Nat.le_of_ble_eq_true rfl⟩ ⟨Nat.le_refl _, Nat.le_refl _⟩ hO.2.1.1 ⟨rfl, rfl, rfl⟩ rfl ⟨rfl, Nat.le_of_ble_eq_true rfl⟩ dX6_tells_25 (fun hx_2 => ?_)
    obtain ⟨r_2, hc_2, h⟩ := of_bd h
    refine x_callV1 (pc := 28) C (o := 1) [.int r_1] [] (c_X5_valueOf (b := b) 1 r_1 hO.2.1 S _ hc_2) cw_X6_80 vi_X5_valueOf ⟨rfl, rfl, Nat.le_of_ble_eq_true rfl, Nat.le_of_ble_eq_true rfl⟩ ⟨Nat.le_refl _, Nat.le_refl _⟩ hO.2.1.1 ⟨rfl, rfl, rfl⟩ rfl ⟨rfl, Nat.le_of_ble_eq_true rfl⟩ dX6_tells_28 (fun hx_3 => ?_)
    refine x_istore (pc := 31) C [(4, .int r_2), (3, .int v3_1), (0, .ref (b + 0)), (1, .int p1), (2, .int p2)] dX6_tells_31 (Nat.le_of_ble_eq_true rfl) rfl rfl ?_
    refine x_aload_n (pc := 33) C 2 dX6_tells_33 rfl ?_
    refine x_getr (pc := 34) C (k := 0) 1 hO.1 rfl rfl wd_149 dX6_tells_34 (Nat.le_of_ble_eq_true rfl) rfl ?_
    refine x_iload_n (pc := 37) C 3 dX6_tells_37 rfl ?_
    refine x_iload_n (pc := 38) C 4 dX6_tells_38 rfl ?_
    obtain ⟨⟨r_3, S_1⟩, hc_3, h⟩ := of_bd h
    replace h := of_u2 h
    refine x_callV1 (pc := 39) C (o := 1) [.int p1, .int p2] [] (c_X5_takeTold (b := b) 1 p1 p2 hO.2.1 S _ _ hc_3) cw_X6_119 vi_X5_takeTold ⟨rfl, rfl, Nat.le_of_ble_eq_true rfl, Nat.le_of_ble_eq_true rfl⟩ ⟨Nat.le_refl _, Nat.le_refl _⟩ hO.2.1.1 ⟨rfl, rfl, rfl⟩ rfl ⟨rfl, Nat.le_of_ble_eq_true rfl⟩ dX6_tells_39 (fun hx_4 => ?_)
    refine x_if_eq (pc := 42) C 50 dX6_tells_42 rfl (fun c_2 => ?_) (fun c_2 => ?_)
    · replace h := of_ifp c_2 h
      refine x_aload_n (pc := 50) C 2 dX6_tells_50 rfl ?_
      refine x_bipush (pc := 51) C (v := (-3 : Int32)) dX6_tells_51 rfl ?_
      obtain ⟨⟨r_4, S_2⟩, hc_4, h⟩ := of_bd h
      replace h := of_u2 h
      refine x_callV1 (pc := 53) C (o := 0) [.int (-3 : Int32)] [] (c_X6_refuse (b := b) (-3 : Int32) hO S_1 _ _ hc_4) cw_X6_73 vi_X6_refuse ⟨rfl, rfl, Nat.le_of_ble_eq_true rfl, Nat.le_of_ble_eq_true rfl⟩ ⟨Nat.le_refl _, Nat.le_refl _⟩ hO.1 ⟨rfl, rfl, rfl⟩ rfl ⟨rfl, Nat.le_of_ble_eq_true rfl⟩ dX6_tells_53 (fun hx_5 => ?_)
      exact x_ireturn (pc := 56) C dX6_tells_56 (of_sp h).1 (of_sp h).2
    · replace h := of_ifn c_2 h
      refine x_iload (pc := 45) C 0 dX6_tells_45 rfl ?_
      refine x_goto (pc := 47) C 56 dX6_tells_47 rfl ?_
      exact x_ireturn (pc := 56) C dX6_tells_56 (of_sp h).1 (of_sp h).2
  · replace h := of_ifn c_1 h
    refine x_aload_n (pc := 10) C 1 dX6_tells_10 rfl ?_
    refine x_iload_n (pc := 11) C 0 dX6_tells_11 rfl ?_
    obtain ⟨⟨r_5, S_3⟩, hc_5, h⟩ := of_bd h
    replace h := of_u2 h
    refine x_callV1 (pc := 12) C (o := 0) [.int v3_1] [] (c_X6_refuse (b := b) v3_1 hO S _ _ hc_5) cw_X6_73 vi_X6_refuse ⟨rfl, rfl, Nat.le_of_ble_eq_true rfl, Nat.le_of_ble_eq_true rfl⟩ ⟨Nat.le_refl _, Nat.le_refl _⟩ hO.1 ⟨rfl, rfl, rfl⟩ rfl ⟨rfl, Nat.le_of_ble_eq_true rfl⟩ dX6_tells_12 (fun hx_6 => ?_)
    exact x_ireturn (pc := 15) C dX6_tells_15 (of_sp h).1 (of_sp h).2
set_option maxRecDepth 100000 in
set_option maxHeartbeats 4000000 in
theorem l_L_guard_2 {p : Program} {l : Launch} {e : Env} {s : State} {m : MethodId} {args : Array Value} {below : List Frame} {meth : Method} {c : Code} {G : zz_G} {L : Ly} {b : Nat} {Q : State → Prop} (C : CX p G s m args meth c cL_guard yL_guard 7 none) (bs : Nat) (Ls : Nat) (xs : Nat → Int32) (hO : isGu L) (hX : SX bs Ls xs b s) (v2 : Int32) : ∀ (n : Nat) (v3 : Int32) (S : Sg) {z}, L_L_guard_2 bs Ls xs v2 n v3 S = some z → (∀ (S_o : Sg), z = S_o → X p l e (rmz 8 186) s m args below meth c 0 0 Q 7 G L b S_o 61 [(0, .ref (b + 0)), (1, .ref bs), (2, .int v2)] []) → X p l e (rmz 8 186) s m args below meth c 0 0 Q 7 G L b S 2 [(0, .ref (b + 0)), (1, .ref bs), (2, .int v2), (3, .int v3)] [] := by
  intro n
  induction n with
  | zero =>
    intro v3 S z h
    exact of_none h
  | succ n ih =>
    intro v3 S z h hx
    rw [L_L_guard_2] at h
    refine x_iload_n (pc := 2) C 3 dL_guard_2 rfl ?_
    refine x_bipush (pc := 3) C (v := (8 : Int32)) dL_guard_3 rfl ?_
    refine x_icmp_ge (pc := 5) C 61 dL_guard_5 rfl (fun c_1 => ?_) (fun c_1 => ?_)
    · replace h := of_ifn c_1 h
      exact x_sub [0, 1, 2] rfl (hx _ (of_s1 h).symm)
    · replace h := of_ifp c_1 h
      refine x_aload_n (pc := 8) C 0 dL_guard_8 rfl ?_
      refine x_iload_n (pc := 9) C 3 dL_guard_9 rfl ?_
      refine x_aload_n (pc := 10) C 1 dL_guard_10 rfl ?_
      refine x_iload_n (pc := 11) C 3 dL_guard_11 rfl ?_
      obtain ⟨r_1, hc_1, h⟩ := of_bd h
      refine x_callSX1 (pc := 12) C hX [.ref bs, .int v3] [.int v3, .ref (b + 0)] (c_L_cell (b := b) bs Ls xs v3 S _ hc_1) cw_L_18 vs_L_cell ⟨rfl, rfl, Nat.le_of_ble_eq_true rfl, Nat.le_of_ble_eq_true rfl⟩ ⟨Nat.le_refl _, Nat.le_refl _⟩ rfl ⟨rfl, Nat.le_of_ble_eq_true rfl⟩ dL_guard_12 (fun hx_1 => ?_)
      refine x_iconst (pc := 15) C (v := (3 : Int32)) dL_guard_15 rfl ?_
      obtain ⟨r_2, hc_2, h⟩ := of_bd h
      refine x_callS1 (pc := 16) C [.int r_1, .int (3 : Int32)] [.int v3, .ref (b + 0)] (c_L_pick (b := b) r_1 (3 : Int32) S _ hc_2) cw_L_24 vs_L_pick ⟨rfl, rfl, Nat.le_of_ble_eq_true rfl, Nat.le_of_ble_eq_true rfl⟩ ⟨Nat.le_refl _, Nat.le_refl _⟩ rfl ⟨rfl, Nat.le_of_ble_eq_true rfl⟩ dL_guard_16 (fun hx_2 => ?_)
      refine x_if_ne (pc := 19) C 39 dL_guard_19 rfl (fun c_2 => ?_) (fun c_2 => ?_)
      · replace h := of_ifn c_2 h
        refine x_aload_n (pc := 39) C 1 dL_guard_39 rfl ?_
        refine x_iload_n (pc := 40) C 3 dL_guard_40 rfl ?_
        obtain ⟨r_3, hc_3, h⟩ := of_bd h
        refine x_callSX1 (pc := 41) C hX [.ref bs, .int v3] [.int v3, .ref (b + 0)] (c_L_cell (b := b) bs Ls xs v3 S _ hc_3) cw_L_18 vs_L_cell ⟨rfl, rfl, Nat.le_of_ble_eq_true rfl, Nat.le_of_ble_eq_true rfl⟩ ⟨Nat.le_refl _, Nat.le_refl _⟩ rfl ⟨rfl, Nat.le_of_ble_eq_true rfl⟩ dL_guard_41 (fun hx_3 => ?_)
        refine x_iconst (pc := 44) C (v := (3 : Int32)) dL_guard_44 rfl ?_
        refine x_ishr (pc := 45) C dL_guard_45 ?_
        refine x_bipush (pc := 46) C (v := (100 : Int32)) dL_guard_46 rfl ?_
        obtain ⟨r_4, hc_4, h⟩ := of_bd h
        refine x_callS1 (pc := 48) C [.int (isr r_3 (3 : Int32)), .int (100 : Int32)] [.int v3, .ref (b + 0)] (c_L_pick (b := b) (isr r_3 (3 : Int32)) (100 : Int32) S _ hc_4) cw_L_24 vs_L_pick ⟨rfl, rfl, Nat.le_of_ble_eq_true rfl, Nat.le_of_ble_eq_true rfl⟩ ⟨Nat.le_refl _, Nat.le_refl _⟩ rfl ⟨rfl, Nat.le_of_ble_eq_true rfl⟩ dL_guard_48 (fun hx_4 => ?_)
        obtain ⟨⟨r_5, S_1⟩, hc_5, h⟩ := of_bd h
        replace h := of_u2 h
        refine x_callV1 (pc := 51) C (o := 0) [.int v3, .int r_4] [] (c_X6_tells (b := b) v3 r_4 hO S _ _ hc_5) cw_L_28 vi_X6_tells ⟨rfl, rfl, Nat.le_of_ble_eq_true rfl, Nat.le_of_ble_eq_true rfl⟩ ⟨Nat.le_refl _, Nat.le_refl _⟩ hO.1 ⟨rfl, rfl, rfl⟩ rfl ⟨rfl, Nat.le_of_ble_eq_true rfl⟩ dL_guard_51 (fun hx_5 => ?_)
        refine x_pop (pc := 54) C dL_guard_54 rfl ?_
        obtain ⟨v3_1, ev3_1, h⟩ := of_lt h
        refine x_iinc (pc := 55) C (w := (1 : Int32)) 3 [(3, .int v3_1), (0, .ref (b + 0)), (1, .ref bs), (2, .int v2)] dL_guard_55 rfl rfl (Nat.le_of_ble_eq_true rfl) ev3_1 rfl ?_
        refine x_goto (pc := 58) C 2 dL_guard_58 rfl ?_
        exact x_sub [1, 2, 3, 0] rfl (ih _ _ h hx)
      · replace h := of_ifp c_2 h
        refine x_aload_n (pc := 22) C 1 dL_guard_22 rfl ?_
        refine x_iload_n (pc := 23) C 3 dL_guard_23 rfl ?_
        obtain ⟨r_6, hc_6, h⟩ := of_bd h
        refine x_callSX1 (pc := 24) C hX [.ref bs, .int v3] [.int v3, .ref (b + 0)] (c_L_cell (b := b) bs Ls xs v3 S _ hc_6) cw_L_18 vs_L_cell ⟨rfl, rfl, Nat.le_of_ble_eq_true rfl, Nat.le_of_ble_eq_true rfl⟩ ⟨Nat.le_refl _, Nat.le_refl _⟩ rfl ⟨rfl, Nat.le_of_ble_eq_true rfl⟩ dL_guard_24 (fun hx_6 => ?_)
        refine x_iconst (pc := 27) C (v := (3 : Int32)) dL_guard_27 rfl ?_
        refine x_ishr (pc := 28) C dL_guard_28 ?_
        refine x_iconst (pc := 29) C (v := (4 : Int32)) dL_guard_29 rfl ?_
        obtain ⟨r_7, hc_7, h⟩ := of_bd h
        refine x_callS1 (pc := 30) C [.int (isr r_6 (3 : Int32)), .int (4 : Int32)] [.int v3, .ref (b + 0)] (c_L_pick (b := b) (isr r_6 (3 : Int32)) (4 : Int32) S _ hc_7) cw_L_24 vs_L_pick ⟨rfl, rfl, Nat.le_of_ble_eq_true rfl, Nat.le_of_ble_eq_true rfl⟩ ⟨Nat.le_refl _, Nat.le_refl _⟩ rfl ⟨rfl, Nat.le_of_ble_eq_true rfl⟩ dL_guard_30 (fun hx_7 => ?_)
        refine x_bipush (pc := 33) C (v := (33 : Int32)) dL_guard_33 rfl ?_
        refine x_imul (pc := 35) C dL_guard_35 ?_
        refine x_goto (pc := 36) C 51 dL_guard_36 rfl ?_
        obtain ⟨⟨r_8, S_2⟩, hc_8, h⟩ := of_bd h
        replace h := of_u2 h
        refine x_callV1 (pc := 51) C (o := 0) [.int v3, .int (r_7 * (33 : Int32))] [] (c_X6_tells (b := b) v3 (r_7 * (33 : Int32)) hO S _ _ hc_8) cw_L_28 vi_X6_tells ⟨rfl, rfl, Nat.le_of_ble_eq_true rfl, Nat.le_of_ble_eq_true rfl⟩ ⟨Nat.le_refl _, Nat.le_refl _⟩ hO.1 ⟨rfl, rfl, rfl⟩ rfl ⟨rfl, Nat.le_of_ble_eq_true rfl⟩ dL_guard_51 (fun hx_8 => ?_)
        refine x_pop (pc := 54) C dL_guard_54 rfl ?_
        obtain ⟨v3_2, ev3_2, h⟩ := of_lt h
        refine x_iinc (pc := 55) C (w := (1 : Int32)) 3 [(3, .int v3_2), (0, .ref (b + 0)), (1, .ref bs), (2, .int v2)] dL_guard_55 rfl rfl (Nat.le_of_ble_eq_true rfl) ev3_2 rfl ?_
        refine x_goto (pc := 58) C 2 dL_guard_58 rfl ?_
        exact x_sub [1, 2, 3, 0] rfl (ih _ _ h hx)
set_option maxRecDepth 100000 in
set_option maxHeartbeats 4000000 in
theorem l_L_guard_96 {p : Program} {l : Launch} {e : Env} {s : State} {m : MethodId} {args : Array Value} {below : List Frame} {meth : Method} {c : Code} {G : zz_G} {L : Ly} {b : Nat} {Q : State → Prop} (C : CX p G s m args meth c cL_guard yL_guard 7 none) (bs : Nat) (Ls : Nat) (xs : Nat → Int32) (hO : isGu L) (hX : SX bs Ls xs b s) (v2 : Int32) : ∀ (n : Nat) (v3 : Int32) (S : Sg) {z}, L_L_guard_96 bs Ls xs v2 n v3 S = some z → (∀ (S_o : Sg), z = S_o → X p l e (rmz 8 186) s m args below meth c 0 0 Q 7 G L b S_o 321 [] []) → X p l e (rmz 8 186) s m args below meth c 0 0 Q 7 G L b S 96 [(0, .ref (b + 0)), (1, .ref bs), (2, .int v2), (3, .int v3)] [] := by
  intro n
  induction n with
  | zero =>
    intro v3 S z h
    exact of_none h
  | succ n ih =>
    intro v3 S z h hx
    rw [L_L_guard_96] at h
    refine x_iload_n (pc := 96) C 3 dL_guard_96 rfl ?_
    refine x_iload_n (pc := 97) C 2 dL_guard_97 rfl ?_
    refine x_icmp_ge (pc := 98) C 321 dL_guard_98 rfl (fun c_1 => ?_) (fun c_1 => ?_)
    · replace h := of_ifn c_1 h
      exact x_sub [] rfl (hx _ (of_s1 h).symm)
    · replace h := of_ifp c_1 h
      refine x_aload_n (pc := 101) C 1 dL_guard_101 rfl ?_
      refine x_bipush (pc := 102) C (v := (10 : Int32)) dL_guard_102 rfl ?_
      refine x_iload_n (pc := 104) C 3 dL_guard_104 rfl ?_
      refine x_iadd (pc := 105) C dL_guard_105 ?_
      obtain ⟨r_1, hc_1, h⟩ := of_bd h
      refine x_callSX1 (pc := 106) C hX [.ref bs, .int ((10 : Int32) + v3)] [] (c_L_cell (b := b) bs Ls xs ((10 : Int32) + v3) S _ hc_1) cw_L_18 vs_L_cell ⟨rfl, rfl, Nat.le_of_ble_eq_true rfl, Nat.le_of_ble_eq_true rfl⟩ ⟨Nat.le_refl _, Nat.le_refl _⟩ rfl ⟨rfl, Nat.le_of_ble_eq_true rfl⟩ dL_guard_106 (fun hx_1 => ?_)
      refine x_istore (pc := 109) C [(4, .int r_1), (0, .ref (b + 0)), (1, .ref bs), (2, .int v2), (3, .int v3)] dL_guard_109 (Nat.le_of_ble_eq_true rfl) rfl rfl ?_
      refine x_iload (pc := 111) C 0 dL_guard_111 rfl ?_
      refine x_bipush (pc := 113) C (v := (12 : Int32)) dL_guard_113 rfl ?_
      obtain ⟨r_2, hc_2, h⟩ := of_bd h
      refine x_callS1 (pc := 115) C [.int r_1, .int (12 : Int32)] [] (c_L_pick (b := b) r_1 (12 : Int32) S _ hc_2) cw_L_24 vs_L_pick ⟨rfl, rfl, Nat.le_of_ble_eq_true rfl, Nat.le_of_ble_eq_true rfl⟩ ⟨Nat.le_refl _, Nat.le_refl _⟩ rfl ⟨rfl, Nat.le_of_ble_eq_true rfl⟩ dL_guard_115 (fun hx_2 => ?_)
      refine x_istore (pc := 118) C [(5, .int r_2), (4, .int r_1), (0, .ref (b + 0)), (1, .ref bs), (2, .int v2), (3, .int v3)] dL_guard_118 (Nat.le_of_ble_eq_true rfl) rfl rfl ?_
      refine x_iconst (pc := 120) C (v := (1 : Int32)) dL_guard_120 rfl ?_
      refine x_iload (pc := 121) C 1 dL_guard_121 rfl ?_
      refine x_iconst (pc := 123) C (v := (4 : Int32)) dL_guard_123 rfl ?_
      refine x_ishr (pc := 124) C dL_guard_124 ?_
      refine x_sipush (pc := 125) C (v := (255 : Int32)) dL_guard_125 rfl ?_
      obtain ⟨r_3, hc_3, h⟩ := of_bd h
      refine x_callS1 (pc := 128) C [.int (isr r_1 (4 : Int32)), .int (255 : Int32)] [.int (1 : Int32)] (c_L_pick (b := b) (isr r_1 (4 : Int32)) (255 : Int32) S _ hc_3) cw_L_24 vs_L_pick ⟨rfl, rfl, Nat.le_of_ble_eq_true rfl, Nat.le_of_ble_eq_true rfl⟩ ⟨Nat.le_refl _, Nat.le_refl _⟩ rfl ⟨rfl, Nat.le_of_ble_eq_true rfl⟩ dL_guard_128 (fun hx_3 => ?_)
      refine x_iadd (pc := 131) C dL_guard_131 ?_
      obtain ⟨v6_1, ev6_1, h⟩ := of_lt h
      refine x_istore (pc := 132) C [(6, .int v6_1), (5, .int r_2), (4, .int r_1), (0, .ref (b + 0)), (1, .ref bs), (2, .int v2), (3, .int v3)] dL_guard_132 (Nat.le_of_ble_eq_true rfl) ev6_1 rfl ?_
      refine x_iload (pc := 134) C 1 dL_guard_134 rfl ?_
      refine x_bipush (pc := 136) C (v := (6 : Int32)) dL_guard_136 rfl ?_
      refine x_icmp_ge (pc := 138) C 153 dL_guard_138 rfl (fun c_2 => ?_) (fun c_2 => ?_)
      · replace h := of_ifn c_2 h
        refine x_iload (pc := 153) C 1 dL_guard_153 rfl ?_
        refine x_bipush (pc := 155) C (v := (6 : Int32)) dL_guard_155 rfl ?_
        refine x_icmp_ne (pc := 157) C 185 dL_guard_157 rfl (fun c_3 => ?_) (fun c_3 => ?_)
        · replace h := of_ifn c_3 h
          refine x_iload (pc := 185) C 1 dL_guard_185 rfl ?_
          refine x_bipush (pc := 187) C (v := (7 : Int32)) dL_guard_187 rfl ?_
          refine x_icmp_ne (pc := 189) C 214 dL_guard_189 rfl (fun c_4 => ?_) (fun c_4 => ?_)
          · replace h := of_ifn c_4 h
            refine x_iload (pc := 214) C 1 dL_guard_214 rfl ?_
            refine x_bipush (pc := 216) C (v := (8 : Int32)) dL_guard_216 rfl ?_
            refine x_icmp_ne (pc := 218) C 248 dL_guard_218 rfl (fun c_5 => ?_) (fun c_5 => ?_)
            · replace h := of_ifn c_5 h
              refine x_iload (pc := 248) C 1 dL_guard_248 rfl ?_
              refine x_bipush (pc := 250) C (v := (11 : Int32)) dL_guard_250 rfl ?_
              refine x_icmp_ge (pc := 252) C 291 dL_guard_252 rfl (fun c_6 => ?_) (fun c_6 => ?_)
              · replace h := of_ifn c_6 h
                refine x_aload_n (pc := 291) C 3 dL_guard_291 rfl ?_
                refine x_iload (pc := 292) C 2 dL_guard_292 rfl ?_
                refine x_iconst (pc := 294) C (v := (4 : Int32)) dL_guard_294 rfl ?_
                refine x_ishr (pc := 295) C dL_guard_295 ?_
                refine x_bipush (pc := 296) C (v := (8 : Int32)) dL_guard_296 rfl ?_
                obtain ⟨r_4, hc_4, h⟩ := of_bd h
                refine x_callS1 (pc := 298) C [.int (isr r_1 (4 : Int32)), .int (8 : Int32)] [.ref (b + 0)] (c_L_pick (b := b) (isr r_1 (4 : Int32)) (8 : Int32) S _ hc_4) cw_L_24 vs_L_pick ⟨rfl, rfl, Nat.le_of_ble_eq_true rfl, Nat.le_of_ble_eq_true rfl⟩ ⟨Nat.le_refl _, Nat.le_refl _⟩ rfl ⟨rfl, Nat.le_of_ble_eq_true rfl⟩ dL_guard_298 (fun hx_4 => ?_)
                refine x_iload (pc := 301) C 2 dL_guard_301 rfl ?_
                refine x_bipush (pc := 303) C (v := (7 : Int32)) dL_guard_303 rfl ?_
                refine x_ishr (pc := 305) C dL_guard_305 ?_
                refine x_bipush (pc := 306) C (v := (100 : Int32)) dL_guard_306 rfl ?_
                obtain ⟨r_5, hc_5, h⟩ := of_bd h
                refine x_callS1 (pc := 308) C [.int (isr r_1 (7 : Int32)), .int (100 : Int32)] [.int r_4, .ref (b + 0)] (c_L_pick (b := b) (isr r_1 (7 : Int32)) (100 : Int32) S _ hc_5) cw_L_24 vs_L_pick ⟨rfl, rfl, Nat.le_of_ble_eq_true rfl, Nat.le_of_ble_eq_true rfl⟩ ⟨Nat.le_refl _, Nat.le_refl _⟩ rfl ⟨rfl, Nat.le_of_ble_eq_true rfl⟩ dL_guard_308 (fun hx_5 => ?_)
                obtain ⟨⟨r_6, S_1⟩, hc_6, h⟩ := of_bd h
                replace h := of_u2 h
                refine x_callV1 (pc := 311) C (o := 0) [.int r_4, .int r_5] [] (c_X6_tells (b := b) r_4 r_5 hO S _ _ hc_6) cw_L_28 vi_X6_tells ⟨rfl, rfl, Nat.le_of_ble_eq_true rfl, Nat.le_of_ble_eq_true rfl⟩ ⟨Nat.le_refl _, Nat.le_refl _⟩ hO.1 ⟨rfl, rfl, rfl⟩ rfl ⟨rfl, Nat.le_of_ble_eq_true rfl⟩ dL_guard_311 (fun hx_6 => ?_)
                refine x_pop (pc := 314) C dL_guard_314 rfl ?_
                obtain ⟨v3_1, ev3_1, h⟩ := of_lt h
                refine x_iinc (pc := 315) C (w := (1 : Int32)) 6 [(3, .int v3_1), (6, .int v6_1), (5, .int r_2), (4, .int r_1), (0, .ref (b + 0)), (1, .ref bs), (2, .int v2)] dL_guard_315 rfl rfl (Nat.le_of_ble_eq_true rfl) ev3_1 rfl ?_
                refine x_goto (pc := 318) C 96 dL_guard_318 rfl ?_
                exact x_sub [4, 5, 6, 0] rfl (ih _ _ h hx)
              · replace h := of_ifp c_6 h
                refine x_aload_n (pc := 255) C 3 dL_guard_255 rfl ?_
                refine x_iload (pc := 256) C 2 dL_guard_256 rfl ?_
                refine x_iconst (pc := 258) C (v := (4 : Int32)) dL_guard_258 rfl ?_
                refine x_ishr (pc := 259) C dL_guard_259 ?_
                refine x_bipush (pc := 260) C (v := (10 : Int32)) dL_guard_260 rfl ?_
                obtain ⟨r_7, hc_7, h⟩ := of_bd h
                refine x_callS1 (pc := 262) C [.int (isr r_1 (4 : Int32)), .int (10 : Int32)] [.ref (b + 0)] (c_L_pick (b := b) (isr r_1 (4 : Int32)) (10 : Int32) S _ hc_7) cw_L_24 vs_L_pick ⟨rfl, rfl, Nat.le_of_ble_eq_true rfl, Nat.le_of_ble_eq_true rfl⟩ ⟨Nat.le_refl _, Nat.le_refl _⟩ rfl ⟨rfl, Nat.le_of_ble_eq_true rfl⟩ dL_guard_262 (fun hx_7 => ?_)
                refine x_iload (pc := 265) C 2 dL_guard_265 rfl ?_
                refine x_bipush (pc := 267) C (v := (8 : Int32)) dL_guard_267 rfl ?_
                refine x_ishr (pc := 269) C dL_guard_269 ?_
                refine x_bipush (pc := 270) C (v := (12 : Int32)) dL_guard_270 rfl ?_
                obtain ⟨r_8, hc_8, h⟩ := of_bd h
                refine x_callS1 (pc := 272) C [.int (isr r_1 (8 : Int32)), .int (12 : Int32)] [.int r_7, .ref (b + 0)] (c_L_pick (b := b) (isr r_1 (8 : Int32)) (12 : Int32) S _ hc_8) cw_L_24 vs_L_pick ⟨rfl, rfl, Nat.le_of_ble_eq_true rfl, Nat.le_of_ble_eq_true rfl⟩ ⟨Nat.le_refl _, Nat.le_refl _⟩ rfl ⟨rfl, Nat.le_of_ble_eq_true rfl⟩ dL_guard_272 (fun hx_8 => ?_)
                refine x_iload (pc := 275) C 2 dL_guard_275 rfl ?_
                refine x_bipush (pc := 277) C (v := (12 : Int32)) dL_guard_277 rfl ?_
                refine x_ishr (pc := 279) C dL_guard_279 ?_
                refine x_bipush (pc := 280) C (v := (12 : Int32)) dL_guard_280 rfl ?_
                obtain ⟨r_9, hc_9, h⟩ := of_bd h
                refine x_callS1 (pc := 282) C [.int (isr r_1 (12 : Int32)), .int (12 : Int32)] [.int r_8, .int r_7, .ref (b + 0)] (c_L_pick (b := b) (isr r_1 (12 : Int32)) (12 : Int32) S _ hc_9) cw_L_24 vs_L_pick ⟨rfl, rfl, Nat.le_of_ble_eq_true rfl, Nat.le_of_ble_eq_true rfl⟩ ⟨Nat.le_refl _, Nat.le_refl _⟩ rfl ⟨rfl, Nat.le_of_ble_eq_true rfl⟩ dL_guard_282 (fun hx_9 => ?_)
                obtain ⟨S_2, hc_10, h⟩ := of_bd h
                refine x_callS_ (pc := 285) C [.ref (b + 0), .int r_7, .int r_8, .int r_9] [] (c_L_bound (b := b) r_7 r_8 r_9 hO S _ hc_10) cw_L_44 vs_L_bound ⟨rfl, rfl, Nat.le_of_ble_eq_true rfl, Nat.le_of_ble_eq_true rfl⟩ ⟨Nat.le_refl _, Nat.le_refl _⟩ rfl ⟨rfl, Nat.le_of_ble_eq_true rfl⟩ dL_guard_285 (fun hx_10 => ?_)
                refine x_goto (pc := 288) C 315 dL_guard_288 rfl ?_
                obtain ⟨v3_2, ev3_2, h⟩ := of_lt h
                refine x_iinc (pc := 315) C (w := (1 : Int32)) 6 [(3, .int v3_2), (6, .int v6_1), (5, .int r_2), (4, .int r_1), (0, .ref (b + 0)), (1, .ref bs), (2, .int v2)] dL_guard_315 rfl rfl (Nat.le_of_ble_eq_true rfl) ev3_2 rfl ?_
                refine x_goto (pc := 318) C 96 dL_guard_318 rfl ?_
                exact x_sub [4, 5, 6, 0] rfl (ih _ _ h hx)
            · replace h := of_ifp c_5 h
              refine x_aload_n (pc := 221) C 3 dL_guard_221 rfl ?_
              refine x_iload (pc := 222) C 2 dL_guard_222 rfl ?_
              refine x_iconst (pc := 224) C (v := (4 : Int32)) dL_guard_224 rfl ?_
              refine x_ishr (pc := 225) C dL_guard_225 ?_
              refine x_bipush (pc := 226) C (v := (8 : Int32)) dL_guard_226 rfl ?_
              obtain ⟨r_10, hc_11, h⟩ := of_bd h
              refine x_callS1 (pc := 228) C [.int (isr r_1 (4 : Int32)), .int (8 : Int32)] [.ref (b + 0)] (c_L_pick (b := b) (isr r_1 (4 : Int32)) (8 : Int32) S _ hc_11) cw_L_24 vs_L_pick ⟨rfl, rfl, Nat.le_of_ble_eq_true rfl, Nat.le_of_ble_eq_true rfl⟩ ⟨Nat.le_refl _, Nat.le_refl _⟩ rfl ⟨rfl, Nat.le_of_ble_eq_true rfl⟩ dL_guard_228 (fun hx_11 => ?_)
              refine x_iload (pc := 231) C 2 dL_guard_231 rfl ?_
              refine x_bipush (pc := 233) C (v := (7 : Int32)) dL_guard_233 rfl ?_
              refine x_ishr (pc := 235) C dL_guard_235 ?_
              refine x_bipush (pc := 236) C (v := (100 : Int32)) dL_guard_236 rfl ?_
              obtain ⟨r_11, hc_12, h⟩ := of_bd h
              refine x_callS1 (pc := 238) C [.int (isr r_1 (7 : Int32)), .int (100 : Int32)] [.int r_10, .ref (b + 0)] (c_L_pick (b := b) (isr r_1 (7 : Int32)) (100 : Int32) S _ hc_12) cw_L_24 vs_L_pick ⟨rfl, rfl, Nat.le_of_ble_eq_true rfl, Nat.le_of_ble_eq_true rfl⟩ ⟨Nat.le_refl _, Nat.le_refl _⟩ rfl ⟨rfl, Nat.le_of_ble_eq_true rfl⟩ dL_guard_238 (fun hx_12 => ?_)
              obtain ⟨⟨r_12, S_3⟩, hc_13, h⟩ := of_bd h
              replace h := of_u2 h
              refine x_callV1 (pc := 241) C (o := 0) [.int r_10, .int r_11] [] (c_X6_changes (b := b) r_10 r_11 hO S _ _ hc_13) cw_L_41 vi_X6_changes ⟨rfl, rfl, Nat.le_of_ble_eq_true rfl, Nat.le_of_ble_eq_true rfl⟩ ⟨Nat.le_refl _, Nat.le_refl _⟩ hO.1 ⟨rfl, rfl, rfl⟩ rfl ⟨rfl, Nat.le_of_ble_eq_true rfl⟩ dL_guard_241 (fun hx_13 => ?_)
              refine x_pop (pc := 244) C dL_guard_244 rfl ?_
              refine x_goto (pc := 245) C 315 dL_guard_245 rfl ?_
              obtain ⟨v3_3, ev3_3, h⟩ := of_lt h
              refine x_iinc (pc := 315) C (w := (1 : Int32)) 6 [(3, .int v3_3), (6, .int v6_1), (5, .int r_2), (4, .int r_1), (0, .ref (b + 0)), (1, .ref bs), (2, .int v2)] dL_guard_315 rfl rfl (Nat.le_of_ble_eq_true rfl) ev3_3 rfl ?_
              refine x_goto (pc := 318) C 96 dL_guard_318 rfl ?_
              exact x_sub [4, 5, 6, 0] rfl (ih _ _ h hx)
          · replace h := of_ifp c_4 h
            refine x_aload_n (pc := 192) C 3 dL_guard_192 rfl ?_
            refine x_iconst (pc := 193) C (v := (2 : Int32)) dL_guard_193 rfl ?_
            refine x_iload (pc := 194) C 0 dL_guard_194 rfl ?_
            refine x_iconst (pc := 196) C (v := (1 : Int32)) dL_guard_196 rfl ?_
            refine x_iload (pc := 197) C 2 dL_guard_197 rfl ?_
            refine x_bipush (pc := 199) C (v := (12 : Int32)) dL_guard_199 rfl ?_
            refine x_ishr (pc := 201) C dL_guard_201 ?_
            refine x_iconst (pc := 202) C (v := (3 : Int32)) dL_guard_202 rfl ?_
            obtain ⟨r_13, hc_14, h⟩ := of_bd h
            refine x_callS1 (pc := 203) C [.int (isr r_1 (12 : Int32)), .int (3 : Int32)] [.int (1 : Int32), .int v6_1, .int (2 : Int32), .ref (b + 0)] (c_L_pick (b := b) (isr r_1 (12 : Int32)) (3 : Int32) S _ hc_14) cw_L_24 vs_L_pick ⟨rfl, rfl, Nat.le_of_ble_eq_true rfl, Nat.le_of_ble_eq_true rfl⟩ ⟨Nat.le_refl _, Nat.le_refl _⟩ rfl ⟨rfl, Nat.le_of_ble_eq_true rfl⟩ dL_guard_203 (fun hx_14 => ?_)
            refine x_iadd (pc := 206) C dL_guard_206 ?_
            obtain ⟨⟨r_14, S_4⟩, hc_15, h⟩ := of_bd h
            replace h := of_u2 h
            refine x_callV1 (pc := 207) C (o := 0) [.int (2 : Int32), .int v6_1, .int ((1 : Int32) + r_13)] [] (c_X6_ask (b := b) (2 : Int32) v6_1 ((1 : Int32) + r_13) hO S _ _ hc_15) cw_L_37 vi_X6_ask ⟨rfl, rfl, Nat.le_of_ble_eq_true rfl, Nat.le_of_ble_eq_true rfl⟩ ⟨Nat.le_refl _, Nat.le_refl _⟩ hO.1 ⟨rfl, rfl, rfl⟩ rfl ⟨rfl, Nat.le_of_ble_eq_true rfl⟩ dL_guard_207 (fun hx_15 => ?_)
            refine x_pop (pc := 210) C dL_guard_210 rfl ?_
            refine x_goto (pc := 211) C 315 dL_guard_211 rfl ?_
            obtain ⟨v3_4, ev3_4, h⟩ := of_lt h
            refine x_iinc (pc := 315) C (w := (1 : Int32)) 6 [(3, .int v3_4), (6, .int v6_1), (5, .int r_2), (4, .int r_1), (0, .ref (b + 0)), (1, .ref bs), (2, .int v2)] dL_guard_315 rfl rfl (Nat.le_of_ble_eq_true rfl) ev3_4 rfl ?_
            refine x_goto (pc := 318) C 96 dL_guard_318 rfl ?_
            exact x_sub [4, 5, 6, 0] rfl (ih _ _ h hx)
        · replace h := of_ifp c_3 h
          refine x_aload_n (pc := 160) C 3 dL_guard_160 rfl ?_
          refine x_iconst (pc := 161) C (v := (1 : Int32)) dL_guard_161 rfl ?_
          refine x_iload (pc := 162) C 0 dL_guard_162 rfl ?_
          refine x_iload (pc := 164) C 2 dL_guard_164 rfl ?_
          refine x_bipush (pc := 166) C (v := (12 : Int32)) dL_guard_166 rfl ?_
          refine x_ishr (pc := 168) C dL_guard_168 ?_
          refine x_sipush (pc := 169) C (v := (255 : Int32)) dL_guard_169 rfl ?_
          refine x_iand (pc := 172) C dL_guard_172 ?_
          refine x_iload (pc := 173) C 0 dL_guard_173 rfl ?_
          refine x_iconst (pc := 175) C (v := (-1 : Int32)) dL_guard_175 rfl ?_
          refine x_ixor (pc := 176) C dL_guard_176 ?_
          refine x_iand (pc := 177) C dL_guard_177 ?_
          obtain ⟨⟨r_15, S_5⟩, hc_16, h⟩ := of_bd h
          replace h := of_u2 h
          refine x_callV1 (pc := 178) C (o := 0) [.int (1 : Int32), .int v6_1, .int (((isr r_1 (12 : Int32)) &&& (255 : Int32)) &&& (v6_1 ^^^ (-1 : Int32)))] [] (c_X6_ask (b := b) (1 : Int32) v6_1 (((isr r_1 (12 : Int32)) &&& (255 : Int32)) &&& (v6_1 ^^^ (-1 : Int32))) hO S _ _ hc_16) cw_L_37 vi_X6_ask ⟨rfl, rfl, Nat.le_of_ble_eq_true rfl, Nat.le_of_ble_eq_true rfl⟩ ⟨Nat.le_refl _, Nat.le_refl _⟩ hO.1 ⟨rfl, rfl, rfl⟩ rfl ⟨rfl, Nat.le_of_ble_eq_true rfl⟩ dL_guard_178 (fun hx_16 => ?_)
          refine x_pop (pc := 181) C dL_guard_181 rfl ?_
          refine x_goto (pc := 182) C 315 dL_guard_182 rfl ?_
          obtain ⟨v3_5, ev3_5, h⟩ := of_lt h
          refine x_iinc (pc := 315) C (w := (1 : Int32)) 6 [(3, .int v3_5), (6, .int v6_1), (5, .int r_2), (4, .int r_1), (0, .ref (b + 0)), (1, .ref bs), (2, .int v2)] dL_guard_315 rfl rfl (Nat.le_of_ble_eq_true rfl) ev3_5 rfl ?_
          refine x_goto (pc := 318) C 96 dL_guard_318 rfl ?_
          exact x_sub [4, 5, 6, 0] rfl (ih _ _ h hx)
      · replace h := of_ifp c_2 h
        refine x_aload_n (pc := 141) C 3 dL_guard_141 rfl ?_
        refine x_iconst (pc := 142) C (v := (0 : Int32)) dL_guard_142 rfl ?_
        refine x_iload (pc := 143) C 0 dL_guard_143 rfl ?_
        refine x_iconst (pc := 145) C (v := (0 : Int32)) dL_guard_145 rfl ?_
        obtain ⟨⟨r_16, S_6⟩, hc_17, h⟩ := of_bd h
        replace h := of_u2 h
        refine x_callV1 (pc := 146) C (o := 0) [.int (0 : Int32), .int v6_1, .int (0 : Int32)] [] (c_X6_ask (b := b) (0 : Int32) v6_1 (0 : Int32) hO S _ _ hc_17) cw_L_37 vi_X6_ask ⟨rfl, rfl, Nat.le_of_ble_eq_true rfl, Nat.le_of_ble_eq_true rfl⟩ ⟨Nat.le_refl _, Nat.le_refl _⟩ hO.1 ⟨rfl, rfl, rfl⟩ rfl ⟨rfl, Nat.le_of_ble_eq_true rfl⟩ dL_guard_146 (fun hx_17 => ?_)
        refine x_pop (pc := 149) C dL_guard_149 rfl ?_
        refine x_goto (pc := 150) C 315 dL_guard_150 rfl ?_
        obtain ⟨v3_6, ev3_6, h⟩ := of_lt h
        refine x_iinc (pc := 315) C (w := (1 : Int32)) 6 [(3, .int v3_6), (6, .int v6_1), (5, .int r_2), (4, .int r_1), (0, .ref (b + 0)), (1, .ref bs), (2, .int v2)] dL_guard_315 rfl rfl (Nat.le_of_ble_eq_true rfl) ev3_6 rfl ?_
        refine x_goto (pc := 318) C 96 dL_guard_318 rfl ?_
        exact x_sub [4, 5, 6, 0] rfl (ih _ _ h hx)
set_option maxRecDepth 100000 in
set_option maxHeartbeats 4000000 in
theorem c_L_guard {l : Launch} {G : zz_G} {L : Ly} {b : Nat} (bs : Nat) (Ls : Nat) (xs : Nat → Int32) (p2 : Int32) (hO : isGu L) (S : Sg) (Sf : Sg) (h : f_L_guard bs Ls xs p2 S = some Sf) : Met l yL_guard (Cond.code yL_guard cL_guard 7 none :: zz_all) (rmz 8 186) (PS G L b S bs Ls xs [.ref (b + 0), .ref bs, .int p2]) (QC G L b Sf none True) 0 0 (fun q => b ≤ q) := by
  refine x_metS [.ref (b + 0), .ref bs, .int p2] (by decide +kernel) (Nat.le_of_ble_eq_true rfl) fun p e s m args below meth c C hX => ?_
  unfold f_L_guard at h
  refine x_iconst (pc := 0) C (v := (0 : Int32)) dL_guard_0 rfl ?_
  refine x_istore_n (pc := 1) C 3 [(3, .int (0 : Int32)), (0, .ref (b + 0)), (1, .ref bs), (2, .int p2)] dL_guard_1 rfl (Nat.le_of_ble_eq_true rfl) rfl rfl ?_
  refine x_sub [1, 2, 3, 0] rfl ?_
  obtain ⟨z_hz_2, hz_2, h⟩ := of_bd h
  refine l_L_guard_2 C bs Ls xs hO hX p2 400 _ _ hz_2 (fun S_1 ez => ?_)
  subst z_hz_2
  refine x_aload_n (pc := 61) C 0 dL_guard_61 rfl ?_
  refine x_iconst (pc := 62) C (v := (2 : Int32)) dL_guard_62 rfl ?_
  refine x_aload_n (pc := 63) C 1 dL_guard_63 rfl ?_
  refine x_bipush (pc := 64) C (v := (8 : Int32)) dL_guard_64 rfl ?_
  obtain ⟨r_1, hc_1, h⟩ := of_bd h
  refine x_callSX1 (pc := 66) C hX [.ref bs, .int (8 : Int32)] [.int (2 : Int32), .ref (b + 0)] (c_L_cell (b := b) bs Ls xs (8 : Int32) S_1 _ hc_1) cw_L_18 vs_L_cell ⟨rfl, rfl, Nat.le_of_ble_eq_true rfl, Nat.le_of_ble_eq_true rfl⟩ ⟨Nat.le_refl _, Nat.le_refl _⟩ rfl ⟨rfl, Nat.le_of_ble_eq_true rfl⟩ dL_guard_66 (fun hx_1 => ?_)
  refine x_bipush (pc := 69) C (v := (9 : Int32)) dL_guard_69 rfl ?_
  obtain ⟨r_2, hc_2, h⟩ := of_bd h
  refine x_callS1 (pc := 71) C [.int r_1, .int (9 : Int32)] [.int (2 : Int32), .ref (b + 0)] (c_L_pick (b := b) r_1 (9 : Int32) S_1 _ hc_2) cw_L_24 vs_L_pick ⟨rfl, rfl, Nat.le_of_ble_eq_true rfl, Nat.le_of_ble_eq_true rfl⟩ ⟨Nat.le_refl _, Nat.le_refl _⟩ rfl ⟨rfl, Nat.le_of_ble_eq_true rfl⟩ dL_guard_71 (fun hx_2 => ?_)
  refine x_iadd (pc := 74) C dL_guard_74 ?_
  obtain ⟨⟨r_3, S_2⟩, hc_3, h⟩ := of_bd h
  replace h := of_u2 h
  refine x_callV1 (pc := 75) C (o := 0) [.int ((2 : Int32) + r_2)] [] (c_X6_limit (b := b) ((2 : Int32) + r_2) hO S_1 _ _ hc_3) cw_L_31 vi_X6_limit ⟨rfl, rfl, Nat.le_of_ble_eq_true rfl, Nat.le_of_ble_eq_true rfl⟩ ⟨Nat.le_refl _, Nat.le_refl _⟩ hO.1 ⟨rfl, rfl, rfl⟩ rfl ⟨rfl, Nat.le_of_ble_eq_true rfl⟩ dL_guard_75 (fun hx_3 => ?_)
  refine x_pop (pc := 78) C dL_guard_78 rfl ?_
  refine x_aload_n (pc := 79) C 0 dL_guard_79 rfl ?_
  refine x_aload_n (pc := 80) C 1 dL_guard_80 rfl ?_
  refine x_bipush (pc := 81) C (v := (9 : Int32)) dL_guard_81 rfl ?_
  obtain ⟨r_4, hc_4, h⟩ := of_bd h
  refine x_callSX1 (pc := 83) C hX [.ref bs, .int (9 : Int32)] [.ref (b + 0)] (c_L_cell (b := b) bs Ls xs (9 : Int32) S_2 _ hc_4) cw_L_18 vs_L_cell ⟨rfl, rfl, Nat.le_of_ble_eq_true rfl, Nat.le_of_ble_eq_true rfl⟩ ⟨Nat.le_refl _, Nat.le_refl _⟩ rfl ⟨rfl, Nat.le_of_ble_eq_true rfl⟩ dL_guard_83 (fun hx_4 => ?_)
  refine x_iconst (pc := 86) C (v := (4 : Int32)) dL_guard_86 rfl ?_
  obtain ⟨r_5, hc_5, h⟩ := of_bd h
  refine x_callS1 (pc := 87) C [.int r_4, .int (4 : Int32)] [.ref (b + 0)] (c_L_pick (b := b) r_4 (4 : Int32) S_2 _ hc_5) cw_L_24 vs_L_pick ⟨rfl, rfl, Nat.le_of_ble_eq_true rfl, Nat.le_of_ble_eq_true rfl⟩ ⟨Nat.le_refl _, Nat.le_refl _⟩ rfl ⟨rfl, Nat.le_of_ble_eq_true rfl⟩ dL_guard_87 (fun hx_5 => ?_)
  obtain ⟨⟨r_6, S_3⟩, hc_6, h⟩ := of_bd h
  replace h := of_u2 h
  refine x_callV1 (pc := 90) C (o := 0) [.int r_5] [] (c_X6_rule (b := b) r_5 hO S_2 _ _ hc_6) cw_L_34 vi_X6_rule ⟨rfl, rfl, Nat.le_of_ble_eq_true rfl, Nat.le_of_ble_eq_true rfl⟩ ⟨Nat.le_refl _, Nat.le_refl _⟩ hO.1 ⟨rfl, rfl, rfl⟩ rfl ⟨rfl, Nat.le_of_ble_eq_true rfl⟩ dL_guard_90 (fun hx_6 => ?_)
  refine x_pop (pc := 93) C dL_guard_93 rfl ?_
  refine x_iconst (pc := 94) C (v := (0 : Int32)) dL_guard_94 rfl ?_
  refine x_istore_n (pc := 95) C 3 [(3, .int (0 : Int32)), (0, .ref (b + 0)), (1, .ref bs), (2, .int p2)] dL_guard_95 rfl (Nat.le_of_ble_eq_true rfl) rfl rfl ?_
  refine x_sub [1, 2, 3, 0] rfl ?_
  obtain ⟨z_hz_1, hz_1, h⟩ := of_bd h
  refine l_L_guard_96 C bs Ls xs hO hX p2 400 _ _ hz_1 (fun S_4 ez => ?_)
  subst z_hz_1
  exact x_vreturn (pc := 321) C dL_guard_321 (of_s1 h)
set_option maxRecDepth 100000 in
set_option maxHeartbeats 4000000 in
theorem c_X6_answer {l : Launch} {G : zz_G} {L : Ly} {b : Nat} (p1 : Int32) (hO : isGu L) (S : Sg) (rf : Int64) (Sf : Sg) (h : f_X6_answer p1 S = some (rf, Sf)) : Met l yX6_answer (Cond.code yX6_answer cX6_answer 2 (some .long) :: zz_all) (rmz 2 43) (PC G L b S [.ref (b + 0), .int p1]) (QC G L b Sf (some (.long rf)) True) 0 0 (fun q => b ≤ q) := by
  refine x_met [.ref (b + 0), .int p1] (by decide +kernel) (Nat.le_of_ble_eq_true rfl) fun p e s m args below meth c C => ?_
  unfold f_X6_answer at h
  refine x_iload_n (pc := 0) C 1 dX6_answer_0 rfl ?_
  refine x_aload_n (pc := 1) C 0 dX6_answer_1 rfl ?_
  refine x_getr (pc := 2) C (k := 0) 1 hO.1 rfl rfl wd_149 dX6_answer_2 (Nat.le_of_ble_eq_true rfl) rfl ?_
  refine x_geti (pc := 5) C (k := 9) hO.2.1.1 rfl rfl wd_74 dX6_answer_5 ⟨Nat.le_of_ble_eq_true rfl, rfl⟩ ?_
  refine x_callS1 (pc := 8) C [.int p1, .int (S.1 1 9)] [] (c_X6_isWithin (b := b) p1 (S.1 1 9) S) cw_X6_69 vs_X6_isWithin ⟨rfl, rfl, Nat.le_of_ble_eq_true rfl, Nat.le_of_ble_eq_true rfl⟩ ⟨Nat.le_refl _, Nat.le_refl _⟩ rfl ⟨rfl, Nat.le_of_ble_eq_true rfl⟩ dX6_answer_8 (fun hx_1 => ?_)
  refine x_if_ne (pc := 11) C 25 dX6_answer_11 rfl (fun c_1 => ?_) (fun c_1 => ?_)
  · replace h := of_ifn c_1 h
    refine x_aload_n (pc := 25) C 0 dX6_answer_25 rfl ?_
    refine x_getr (pc := 26) C (k := 0) 1 hO.1 rfl rfl wd_149 dX6_answer_26 (Nat.le_of_ble_eq_true rfl) rfl ?_
    refine x_iload_n (pc := 29) C 1 dX6_answer_29 rfl ?_
    obtain ⟨r_1, hc_1, h⟩ := of_bd h
    refine x_callV1 (pc := 30) C (o := 1) [.int p1] [] (c_X5_answerOf (b := b) 1 p1 hO.2.1 S _ hc_1) cw_X6_184 vi_X5_answerOf ⟨rfl, rfl, Nat.le_of_ble_eq_true rfl, Nat.le_of_ble_eq_true rfl⟩ ⟨Nat.le_refl _, Nat.le_refl _⟩ hO.2.1.1 ⟨rfl, rfl, rfl⟩ rfl ⟨rfl, Nat.le_of_ble_eq_true rfl⟩ dX6_answer_30 (fun hx_2 => ?_)
    refine x_i2l (pc := 33) C dX6_answer_33 ?_
    exact x_lreturn (pc := 34) C dX6_answer_34 (of_sp h).1 (of_sp h).2
  · replace h := of_ifp c_1 h
    refine x_ldc2 (pc := 14) C wd_379 dX6_answer_14 ?_
    refine x_aload_n (pc := 17) C 0 dX6_answer_17 rfl ?_
    refine x_iconst (pc := 18) C (v := (-1 : Int32)) dX6_answer_18 rfl ?_
    obtain ⟨⟨r_2, S_1⟩, hc_2, h⟩ := of_bd h
    replace h := of_u2 h
    refine x_callV1 (pc := 19) C (o := 0) [.int (-1 : Int32)] [.long (4000000000000000000 : Int64)] (c_X6_refuse (b := b) (-1 : Int32) hO S _ _ hc_2) cw_X6_73 vi_X6_refuse ⟨rfl, rfl, Nat.le_of_ble_eq_true rfl, Nat.le_of_ble_eq_true rfl⟩ ⟨Nat.le_refl _, Nat.le_refl _⟩ hO.1 ⟨rfl, rfl, rfl⟩ rfl ⟨rfl, Nat.le_of_ble_eq_true rfl⟩ dX6_answer_19 (fun hx_3 => ?_)
    refine x_i2l (pc := 22) C dX6_answer_22 ?_
    refine x_lsub (pc := 23) C dX6_answer_23 ?_
    exact x_lreturn (pc := 24) C dX6_answer_24 (of_sp h).1 (of_sp h).2
set_option maxRecDepth 100000 in
set_option maxHeartbeats 4000000 in
theorem c_X5_fixedBitsWith {l : Launch} {G : zz_G} {L : Ly} {b : Nat} (o : Nat) (o1 : Nat) (hO : isW L o) (h1 : isQ L o1) (S : Sg) (rf : Int32) (Sf : Sg) (h : f_X5_fixedBitsWith o o1 S = some (rf, Sf)) : Met l yX5_fixedBitsWith (Cond.code yX5_fixedBitsWith cX5_fixedBitsWith 2 (some .int) :: zz_all) (rmz 2 48) (PC G L b S [.ref (b + o), .ref (b + o1)]) (QC G L b Sf (some (.int rf)) True) 0 0 (fun q => b ≤ q) := by
  refine x_met [.ref (b + o), .ref (b + o1)] (by decide +kernel) (Nat.le_of_ble_eq_true rfl) fun p e s m args below meth c C => ?_
  unfold f_X5_fixedBitsWith at h
  refine x_aload_n (pc := 0) C 0 dX5_fixedBitsWith_0 rfl ?_
  refine x_aload_n (pc := 1) C 1 dX5_fixedBitsWith_1 rfl ?_
  obtain ⟨S_1, hc_1, h⟩ := of_bd h
  refine x_callV_ (pc := 2) C (o := o) [.ref (b + o1)] [] (c_X5_findRest (b := b) o o1 hO h1 S _ hc_1) cw_X5_114 vi_X5_findRest ⟨rfl, rfl, Nat.le_of_ble_eq_true rfl, Nat.le_of_ble_eq_true rfl⟩ ⟨Nat.le_refl _, Nat.le_refl _⟩ hO.1 ⟨rfl, rfl, rfl⟩ rfl ⟨rfl, Nat.le_of_ble_eq_true rfl⟩ dX5_fixedBitsWith_2 (fun hx_1 => ?_)
  refine x_aload_n (pc := 5) C 0 dX5_fixedBitsWith_5 rfl ?_
  refine x_getr (pc := 6) C (k := 10) (o + 17) hO.1 rfl rfl wd_75 dX5_fixedBitsWith_6 (Nat.le_of_ble_eq_true rfl) rfl ?_
  refine x_aload_n (pc := 9) C 0 dX5_fixedBitsWith_9 rfl ?_
  refine x_getr (pc := 10) C (k := 13) (o + 42) hO.1 rfl rfl wd_79 dX5_fixedBitsWith_10 (Nat.le_of_ble_eq_true rfl) rfl ?_
  obtain ⟨r_1, hc_2, h⟩ := of_bd h
  refine x_callV1 (pc := 13) C (o := (o + 17)) [.ref (b + (o + 42))] [] (c_X4_fixedBitsWith (b := b) (o + 17) (o + 42) 10 hO.2.2.2.2.2.2.2.2.1 hO.2.2.2.2.2.2.2.2.2.2.2 S_1 _ hc_2) cw_X5_121 vi_X4_fixedBitsWith ⟨rfl, rfl, Nat.le_of_ble_eq_true rfl, Nat.le_of_ble_eq_true rfl⟩ ⟨Nat.le_refl _, Nat.le_refl _⟩ hO.2.2.2.2.2.2.2.2.1.1 ⟨rfl, rfl, rfl⟩ rfl ⟨rfl, Nat.le_of_ble_eq_true rfl⟩ dX5_fixedBitsWith_13 (fun hx_2 => ?_)
  exact x_ireturn (pc := 16) C dX5_fixedBitsWith_16 (of_sp h).1 (of_sp h).2
set_option maxRecDepth 100000 in
set_option maxHeartbeats 4000000 in
theorem l_X6_attack_43 {p : Program} {l : Launch} {e : Env} {s : State} {m : MethodId} {args : Array Value} {below : List Frame} {meth : Method} {c : Code} {G : zz_G} {L : Ly} {b : Nat} {Q : State → Prop} (C : CX p G s m args meth c cX6_attack yX6_attack 6 (some .int)) (hO : isGu L) (v1 : Int32) (v2 : Int32) : ∀ (n : Nat) (v3 : Int32) (v4 : Int32) (v5 : Int32) (S : Sg) {z}, L_X6_attack_43 v1 v2 n v3 v4 v5 S = some z → (∀ (v3_o : Int32) (v4_o : Int32) (S_o : Sg), z = (v3_o, v4_o, S_o) → X p l e (rmz 3 69) s m args below meth c 0 0 Q 6 G L b S_o 91 [(2, .int v2), (3, .int v3_o), (4, .int v4_o)] []) → X p l e (rmz 3 69) s m args below meth c 0 0 Q 6 G L b S 43 [(0, .ref (b + 0)), (1, .int v1), (2, .int v2), (3, .int v3), (4, .int v4), (5, .int v5)] [] := by
  intro n
  induction n with
  | zero =>
    intro v3 v4 v5 S z h
    exact of_none h
  | succ n ih =>
    intro v3 v4 v5 S z h hx
    rw [L_X6_attack_43] at h
    refine x_iload (pc := 43) C 5 dX6_attack_43 rfl ?_
    refine x_iconst (pc := 45) C (v := (1 : Int32)) dX6_attack_45 rfl ?_
    refine x_icmp_lt (pc := 46) C 91 dX6_attack_46 rfl (fun c_1 => ?_) (fun c_1 => ?_)
    · replace h := of_ifp c_1 h
      exact x_sub [2, 3, 4] rfl (hx _ _ _ (of_s1 h).symm)
    · replace h := of_ifn c_1 h
      refine x_aload_n (pc := 49) C 0 dX6_attack_49 rfl ?_
      refine x_getr (pc := 50) C (k := 4) 130 hO.1 rfl rfl wd_153 dX6_attack_50 (Nat.le_of_ble_eq_true rfl) rfl ?_
      refine x_iconst (pc := 53) C (v := (0 : Int32)) dX6_attack_53 rfl ?_
      refine x_iload (pc := 54) C 5 dX6_attack_54 rfl ?_
      refine x_iconst (pc := 56) C (v := (0 : Int32)) dX6_attack_56 rfl ?_
      obtain ⟨S_1, hc_1, h⟩ := of_bd h
      refine x_callV_ (pc := 57) C (o := 130) [.int (0 : Int32), .int v5, .int (0 : Int32)] [] (c_X2_make (b := b) 130 (0 : Int32) v5 (0 : Int32) hO.2.2.2.2.1 S _ hc_1) cw_X6_150 vi_X2_make ⟨rfl, rfl, Nat.le_of_ble_eq_true rfl, Nat.le_of_ble_eq_true rfl⟩ ⟨Nat.le_refl _, Nat.le_refl _⟩ hO.2.2.2.2.1.1 ⟨rfl, rfl, rfl⟩ rfl ⟨rfl, Nat.le_of_ble_eq_true rfl⟩ dX6_attack_57 (fun hx_1 => ?_)
      refine x_aload_n (pc := 60) C 0 dX6_attack_60 rfl ?_
      refine x_getr (pc := 61) C (k := 0) 1 hO.1 rfl rfl wd_149 dX6_attack_61 (Nat.le_of_ble_eq_true rfl) rfl ?_
      refine x_aload_n (pc := 64) C 0 dX6_attack_64 rfl ?_
      refine x_getr (pc := 65) C (k := 4) 130 hO.1 rfl rfl wd_153 dX6_attack_65 (Nat.le_of_ble_eq_true rfl) rfl ?_
      obtain ⟨⟨r_1, S_2⟩, hc_2, h⟩ := of_bd h
      replace h := of_u2 h
      refine x_callV1 (pc := 68) C (o := 1) [.ref (b + 130)] [] (c_X5_fixedBitsWith (b := b) 1 130 hO.2.1 hO.2.2.2.2.1 S_1 _ _ hc_2) cw_X6_200 vi_X5_fixedBitsWith ⟨rfl, rfl, Nat.le_of_ble_eq_true rfl, Nat.le_of_ble_eq_true rfl⟩ ⟨Nat.le_refl _, Nat.le_refl _⟩ hO.2.1.1 ⟨rfl, rfl, rfl⟩ rfl ⟨rfl, Nat.le_of_ble_eq_true rfl⟩ dX6_attack_68 (fun hx_2 => ?_)
      refine x_iload_n (pc := 71) C 1 dX6_attack_71 rfl ?_
      refine x_ishr (pc := 72) C dX6_attack_72 ?_
      refine x_iconst (pc := 73) C (v := (1 : Int32)) dX6_attack_73 rfl ?_
      refine x_iand (pc := 74) C dX6_attack_74 ?_
      refine x_iconst (pc := 75) C (v := (1 : Int32)) dX6_attack_75 rfl ?_
      obtain ⟨v3_1, ev3_1, h⟩ := of_lt h
      obtain ⟨v4_1, ev4_1, h⟩ := of_lt h
      have kd_1 : X p l e (rmz 3 69) s m args below meth c 0 0 Q 6 G L b S_2 85 [(0, .ref (b + 0)), (1, .int v1), (2, .int v2), (3, .int v3_1), (4, .int v4_1), (5, .int v5)] [] := by
        obtain ⟨v5_1, ev5_1, h⟩ := of_lt h
        refine x_iinc (pc := 85) C (w := (-1 : Int32)) 5 [(5, .int v5_1), (0, .ref (b + 0)), (1, .int v1), (2, .int v2), (3, .int v3_1), (4, .int v4_1)] dX6_attack_85 rfl rfl (Nat.le_of_ble_eq_true rfl) ev5_1 rfl ?_
        refine x_goto (pc := 88) C 43 dX6_attack_88 rfl ?_
        exact x_sub [1, 2, 3, 4, 5, 0] rfl (ih _ _ _ _ h hx)
      refine x_icmp_ne (pc := 76) C 85 dX6_attack_76 rfl (fun c_2 => ?_) (fun c_2 => ?_)
      · refine x_sub [0, 1, 2, 3, 4, 5] rfl ?_
        rw [show v3_1 = v3 from (ev3_1.trans (if_neg c_2))] at kd_1
        rw [show v4_1 = v4 from (ev4_1.trans (if_neg c_2))] at kd_1
        exact kd_1
      · refine x_iload (pc := 79) C 5 dX6_attack_79 rfl ?_
        refine x_istore_n (pc := 81) C 3 [(3, .int v5), (0, .ref (b + 0)), (1, .int v1), (2, .int v2), (4, .int v4), (5, .int v5)] dX6_attack_81 rfl (Nat.le_of_ble_eq_true rfl) rfl rfl ?_
        refine x_iinc (pc := 82) C (w := (1 : Int32)) 4 [(4, .int (v4 + (1 : Int32))), (3, .int v5), (0, .ref (b + 0)), (1, .int v1), (2, .int v2), (5, .int v5)] dX6_attack_82 rfl rfl (Nat.le_of_ble_eq_true rfl) rfl rfl ?_
        refine x_sub [2, 3, 4, 1, 0, 5] rfl ?_
        rw [show v3_1 = v5 from (ev3_1.trans (if_pos c_2))] at kd_1
        rw [show v4_1 = (v4 + (1 : Int32)) from (ev4_1.trans (if_pos c_2))] at kd_1
        exact kd_1
set_option maxRecDepth 100000 in
set_option maxHeartbeats 4000000 in
theorem c_X6_attack {l : Launch} {G : zz_G} {L : Ly} {b : Nat} (p1 : Int32) (p2 : Int32) (hO : isGu L) (S : Sg) (rf : Int32) (Sf : Sg) (h : f_X6_attack p1 p2 S = some (rf, Sf)) : Met l yX6_attack (Cond.code yX6_attack cX6_attack 6 (some .int) :: zz_all) (rmz 3 69) (PC G L b S [.ref (b + 0), .int p1, .int p2]) (QC G L b Sf (some (.int rf)) True) 0 0 (fun q => b ≤ q) := by
  refine x_met [.ref (b + 0), .int p1, .int p2] (by decide +kernel) (Nat.le_of_ble_eq_true rfl) fun p e s m args below meth c C => ?_
  unfold f_X6_attack at h
  refine x_aload_n (pc := 0) C 0 dX6_attack_0 rfl ?_
  refine x_getr (pc := 1) C (k := 0) 1 hO.1 rfl rfl wd_149 dX6_attack_1 (Nat.le_of_ble_eq_true rfl) rfl ?_
  refine x_iload_n (pc := 4) C 1 dX6_attack_4 rfl ?_
  refine x_callV1 (pc := 5) C (o := 1) [.int p1] [] (c_X5_has (b := b) 1 p1 hO.2.1 S) cw_X6_91 vi_X5_has ⟨rfl, rfl, Nat.le_of_ble_eq_true rfl, Nat.le_of_ble_eq_true rfl⟩ ⟨Nat.le_refl _, Nat.le_refl _⟩ hO.2.1.1 ⟨rfl, rfl, rfl⟩ rfl ⟨rfl, Nat.le_of_ble_eq_true rfl⟩ dX6_attack_5 (fun hx_1 => ?_)
  refine x_if_ne (pc := 8) C 17 dX6_attack_8 rfl (fun c_1 => ?_) (fun c_1 => ?_)
  · replace h := of_ifn c_1 h
    refine x_iload_n (pc := 17) C 2 dX6_attack_17 rfl ?_
    refine x_iconst (pc := 18) C (v := (2 : Int32)) dX6_attack_18 rfl ?_
    refine x_callS1 (pc := 19) C [.int p2, .int (2 : Int32)] [] (c_X6_isWithin (b := b) p2 (2 : Int32) S) cw_X6_69 vs_X6_isWithin ⟨rfl, rfl, Nat.le_of_ble_eq_true rfl, Nat.le_of_ble_eq_true rfl⟩ ⟨Nat.le_refl _, Nat.le_refl _⟩ rfl ⟨rfl, Nat.le_of_ble_eq_true rfl⟩ dX6_attack_19 (fun hx_2 => ?_)
    refine x_if_ne (pc := 22) C 32 dX6_attack_22 rfl (fun c_2 => ?_) (fun c_2 => ?_)
    · replace h := of_ifn c_2 h
      refine x_bipush (pc := 32) C (v := (-9 : Int32)) dX6_attack_32 rfl ?_
      refine x_istore_n (pc := 34) C 3 [(3, .int (-9 : Int32)), (0, .ref (b + 0)), (1, .int p1), (2, .int p2)] dX6_attack_34 rfl (Nat.le_of_ble_eq_true rfl) rfl rfl ?_
      refine x_iconst (pc := 35) C (v := (0 : Int32)) dX6_attack_35 rfl ?_
      refine x_istore (pc := 36) C [(4, .int (0 : Int32)), (3, .int (-9 : Int32)), (0, .ref (b + 0)), (1, .int p1), (2, .int p2)] dX6_attack_36 (Nat.le_of_ble_eq_true rfl) rfl rfl ?_
      refine x_sipush (pc := 38) C (v := (255 : Int32)) dX6_attack_38 rfl ?_
      refine x_istore (pc := 41) C [(5, .int (255 : Int32)), (4, .int (0 : Int32)), (3, .int (-9 : Int32)), (0, .ref (b + 0)), (1, .int p1), (2, .int p2)] dX6_attack_41 (Nat.le_of_ble_eq_true rfl) rfl rfl ?_
      refine x_sub [3, 4, 5, 2, 1, 0] rfl ?_
      obtain ⟨z_hz_1, hz_1, h⟩ := of_bd h
      refine l_X6_attack_43 C hO p1 p2 400 _ _ _ _ hz_1 (fun v3_1 v4_1 S_1 ez => ?_)
      subst z_hz_1
      replace h := of_u3 h
      refine x_iload_n (pc := 91) C 0 dX6_attack_91 rfl ?_
      obtain ⟨x_1, ex_1, h⟩ := of_lt h
      have kd_1 : X p l e (rmz 3 69) s m args below meth c 0 0 (RQ G L b Sf below args s (some (.int rf)) True) 6 G L b S_1 101 [] [.int x_1] := by
        exact x_ireturn (pc := 101) C dX6_attack_101 (of_sp h).1 (of_sp h).2
      refine x_if_ne (pc := 92) C 99 dX6_attack_92 rfl (fun c_3 => ?_) (fun c_3 => ?_)
      · refine x_iload (pc := 99) C 2 dX6_attack_99 rfl ?_
        refine x_sub [] rfl ?_
        rw [show x_1 = v4_1 from (ex_1.trans (if_neg c_3))] at kd_1
        exact kd_1
      · refine x_iload_n (pc := 95) C 1 dX6_attack_95 rfl ?_
        refine x_goto (pc := 96) C 101 dX6_attack_96 rfl ?_
        refine x_sub [] rfl ?_
        rw [show x_1 = v3_1 from (ex_1.trans (if_pos c_3))] at kd_1
        exact kd_1
    · replace h := of_ifp c_2 h
      refine x_aload_n (pc := 25) C 0 dX6_attack_25 rfl ?_
      refine x_bipush (pc := 26) C (v := (-2 : Int32)) dX6_attack_26 rfl ?_
      obtain ⟨⟨r_1, S_2⟩, hc_1, h⟩ := of_bd h
      replace h := of_u2 h
      refine x_callV1 (pc := 28) C (o := 0) [.int (-2 : Int32)] [] (c_X6_refuse (b := b) (-2 : Int32) hO S _ _ hc_1) cw_X6_73 vi_X6_refuse ⟨rfl, rfl, Nat.le_of_ble_eq_true rfl, Nat.le_of_ble_eq_true rfl⟩ ⟨Nat.le_refl _, Nat.le_refl _⟩ hO.1 ⟨rfl, rfl, rfl⟩ rfl ⟨rfl, Nat.le_of_ble_eq_true rfl⟩ dX6_attack_28 (fun hx_3 => ?_)
      exact x_ireturn (pc := 31) C dX6_attack_31 (of_sp h).1 (of_sp h).2
  · replace h := of_ifp c_1 h
    refine x_aload_n (pc := 11) C 0 dX6_attack_11 rfl ?_
    refine x_iconst (pc := 12) C (v := (-1 : Int32)) dX6_attack_12 rfl ?_
    obtain ⟨⟨r_2, S_3⟩, hc_2, h⟩ := of_bd h
    replace h := of_u2 h
    refine x_callV1 (pc := 13) C (o := 0) [.int (-1 : Int32)] [] (c_X6_refuse (b := b) (-1 : Int32) hO S _ _ hc_2) cw_X6_73 vi_X6_refuse ⟨rfl, rfl, Nat.le_of_ble_eq_true rfl, Nat.le_of_ble_eq_true rfl⟩ ⟨Nat.le_refl _, Nat.le_refl _⟩ hO.1 ⟨rfl, rfl, rfl⟩ rfl ⟨rfl, Nat.le_of_ble_eq_true rfl⟩ dX6_attack_13 (fun hx_4 => ?_)
    exact x_ireturn (pc := 16) C dX6_attack_16 (of_sp h).1 (of_sp h).2
set_option maxRecDepth 100000 in
set_option maxHeartbeats 4000000 in
theorem l_X5_usedBits_4 {p : Program} {l : Launch} {e : Env} {s : State} {m : MethodId} {args : Array Value} {below : List Frame} {meth : Method} {c : Code} {G : zz_G} {L : Ly} {b : Nat} {Q : State → Prop} (C : CX p G s m args meth c cX5_usedBits yX5_usedBits 3 (some .int)) (o : Nat) (hO : isW L o) (S : Sg) : ∀ (n : Nat) (v1 : Int32) (v2 : Int32) {z}, L_X5_usedBits_4 o S n v1 v2 = some z → (∀ (v1_o : Int32), z = v1_o → X p l e (rmz 3 65) s m args below meth c 0 0 Q 3 G L b S 30 [(1, .int v1_o)] []) → X p l e (rmz 3 65) s m args below meth c 0 0 Q 3 G L b S 4 [(0, .ref (b + o)), (1, .int v1), (2, .int v2)] [] := by
  intro n
  induction n with
  | zero =>
    intro v1 v2 z h
    exact of_none h
  | succ n ih =>
    intro v1 v2 z h hx
    rw [L_X5_usedBits_4] at h
    refine x_iload_n (pc := 4) C 2 dX5_usedBits_4 rfl ?_
    refine x_bipush (pc := 5) C (v := (10 : Int32)) dX5_usedBits_5 rfl ?_
    refine x_icmp_ge (pc := 7) C 30 dX5_usedBits_7 rfl (fun c_1 => ?_) (fun c_1 => ?_)
    · replace h := of_ifn c_1 h
      exact x_sub [1] rfl (hx _ (of_s1 h).symm)
    · replace h := of_ifp c_1 h
      refine x_aload_n (pc := 10) C 0 dX5_usedBits_10 rfl ?_
      refine x_iload_n (pc := 11) C 2 dX5_usedBits_11 rfl ?_
      obtain ⟨r_1, hc_1, h⟩ := of_bd h
      refine x_callV1 (pc := 12) C (o := o) [.int v2] [] (c_X5_isFree (b := b) o v2 hO S _ hc_1) cw_X5_84 vi_X5_isFree ⟨rfl, rfl, Nat.le_of_ble_eq_true rfl, Nat.le_of_ble_eq_true rfl⟩ ⟨Nat.le_refl _, Nat.le_refl _⟩ hO.1 ⟨rfl, rfl, rfl⟩ rfl ⟨rfl, Nat.le_of_ble_eq_true rfl⟩ dX5_usedBits_12 (fun hx_1 => ?_)
      obtain ⟨v1_1, ev1_1, h⟩ := of_lt h
      have kd_1 : X p l e (rmz 3 65) s m args below meth c 0 0 Q 3 G L b S 24 [(0, .ref (b + o)), (1, .int v1_1), (2, .int v2)] [] := by
        obtain ⟨v2_1, ev2_1, h⟩ := of_lt h
        refine x_iinc (pc := 24) C (w := (1 : Int32)) 2 [(2, .int v2_1), (0, .ref (b + o)), (1, .int v1_1)] dX5_usedBits_24 rfl rfl (Nat.le_of_ble_eq_true rfl) ev2_1 rfl ?_
        refine x_goto (pc := 27) C 4 dX5_usedBits_27 rfl ?_
        exact x_sub [1, 2, 0] rfl (ih _ _ h hx)
      refine x_if_ne (pc := 15) C 24 dX5_usedBits_15 rfl (fun c_2 => ?_) (fun c_2 => ?_)
      · refine x_sub [0, 1, 2] rfl ?_
        rw [show v1_1 = v1 from (ev1_1.trans (if_neg c_2))] at kd_1
        exact kd_1
      · refine x_iload_n (pc := 18) C 1 dX5_usedBits_18 rfl ?_
        refine x_iconst (pc := 19) C (v := (1 : Int32)) dX5_usedBits_19 rfl ?_
        refine x_iload_n (pc := 20) C 2 dX5_usedBits_20 rfl ?_
        refine x_ishl (pc := 21) C dX5_usedBits_21 ?_
        refine x_ior (pc := 22) C dX5_usedBits_22 ?_
        refine x_istore_n (pc := 23) C 1 [(1, .int (v1 ||| (isl (1 : Int32) v2))), (0, .ref (b + o)), (2, .int v2)] dX5_usedBits_23 rfl (Nat.le_of_ble_eq_true rfl) rfl rfl ?_
        refine x_sub [1, 0, 2] rfl ?_
        rw [show v1_1 = (v1 ||| (isl (1 : Int32) v2)) from (ev1_1.trans (if_pos c_2))] at kd_1
        exact kd_1
set_option maxRecDepth 100000 in
set_option maxHeartbeats 4000000 in
theorem c_X5_usedBits {l : Launch} {G : zz_G} {L : Ly} {b : Nat} (o : Nat) (hO : isW L o) (S : Sg) (rf : Int32) (h : f_X5_usedBits o S = some rf) : Met l yX5_usedBits (Cond.code yX5_usedBits cX5_usedBits 3 (some .int) :: zz_all) (rmz 3 65) (PC G L b S [.ref (b + o)]) (QC G L b S (some (.int rf)) True) 0 0 (fun q => b ≤ q) := by
  refine x_met [.ref (b + o)] (by decide +kernel) (Nat.le_of_ble_eq_true rfl) fun p e s m args below meth c C => ?_
  unfold f_X5_usedBits at h
  refine x_iconst (pc := 0) C (v := (0 : Int32)) dX5_usedBits_0 rfl ?_
  refine x_istore_n (pc := 1) C 1 [(1, .int (0 : Int32)), (0, .ref (b + o))] dX5_usedBits_1 rfl (Nat.le_of_ble_eq_true rfl) rfl rfl ?_
  refine x_iconst (pc := 2) C (v := (0 : Int32)) dX5_usedBits_2 rfl ?_
  refine x_istore_n (pc := 3) C 2 [(2, .int (0 : Int32)), (1, .int (0 : Int32)), (0, .ref (b + o))] dX5_usedBits_3 rfl (Nat.le_of_ble_eq_true rfl) rfl rfl ?_
  refine x_sub [2, 1, 0] rfl ?_
  obtain ⟨z_hz_1, hz_1, h⟩ := of_bd h
  refine l_X5_usedBits_4 C o hO S 400 _ _ hz_1 (fun v1_1 ez => ?_)
  subst z_hz_1
  refine x_iload_n (pc := 30) C 0 dX5_usedBits_30 rfl ?_
  exact x_ireturn (pc := 31) C dX5_usedBits_31 (of_s1 h) rfl
set_option maxRecDepth 100000 in
set_option maxHeartbeats 4000000 in
theorem l_X5_valuesOfPeople_4 {p : Program} {l : Launch} {e : Env} {s : State} {m : MethodId} {args : Array Value} {below : List Frame} {meth : Method} {c : Code} {G : zz_G} {L : Ly} {b : Nat} {Q : State → Prop} (C : CX p G s m args meth c cX5_valuesOfPeople yX5_valuesOfPeople 3 (some .int)) (o : Nat) (hO : isW L o) (S : Sg) : ∀ (n : Nat) (v1 : Int32) (v2 : Int32) {z}, L_X5_valuesOfPeople_4 o S n v1 v2 = some z → (∀ (v1_o : Int32), z = v1_o → X p l e (rmz 3 63) s m args below meth c 0 0 Q 3 G L b S 29 [(1, .int v1_o)] []) → X p l e (rmz 3 63) s m args below meth c 0 0 Q 3 G L b S 4 [(0, .ref (b + o)), (1, .int v1), (2, .int v2)] [] := by
  intro n
  induction n with
  | zero =>
    intro v1 v2 z h
    exact of_none h
  | succ n ih =>
    intro v1 v2 z h hx
    rw [L_X5_valuesOfPeople_4] at h
    refine x_iload_n (pc := 4) C 2 dX5_valuesOfPeople_4 rfl ?_
    refine x_bipush (pc := 5) C (v := (8 : Int32)) dX5_valuesOfPeople_5 rfl ?_
    refine x_icmp_ge (pc := 7) C 29 dX5_valuesOfPeople_7 rfl (fun c_1 => ?_) (fun c_1 => ?_)
    · replace h := of_ifn c_1 h
      exact x_sub [1] rfl (hx _ (of_s1 h).symm)
    · replace h := of_ifp c_1 h
      refine x_iload_n (pc := 10) C 1 dX5_valuesOfPeople_10 rfl ?_
      refine x_aload_n (pc := 11) C 0 dX5_valuesOfPeople_11 rfl ?_
      refine x_aload_n (pc := 12) C 0 dX5_valuesOfPeople_12 rfl ?_
      refine x_getr (pc := 13) C (k := 0) (o + 1) hO.1 rfl rfl wd_59 dX5_valuesOfPeople_13 (Nat.le_of_ble_eq_true rfl) rfl ?_
      refine x_iload_n (pc := 16) C 2 dX5_valuesOfPeople_16 rfl ?_
      obtain ⟨g_1, h⟩ := of_gd h
      refine x_iaload (pc := 17) C hO.2.1 g_1 dX5_valuesOfPeople_17 ?_
      obtain ⟨r_1, hc_1, h⟩ := of_bd h
      refine x_callV1 (pc := 18) C (o := o) [.int (S.1 (o + 1) (ix v2))] [.int v1] (c_X5_valueOf (b := b) o (S.1 (o + 1) (ix v2)) hO S _ hc_1) cw_X5_87 vi_X5_valueOf ⟨rfl, rfl, Nat.le_of_ble_eq_true rfl, Nat.le_of_ble_eq_true rfl⟩ ⟨Nat.le_refl _, Nat.le_refl _⟩ hO.1 ⟨rfl, rfl, rfl⟩ rfl ⟨rfl, Nat.le_of_ble_eq_true rfl⟩ dX5_valuesOfPeople_18 (fun hx_1 => ?_)
      refine x_iadd (pc := 21) C dX5_valuesOfPeople_21 ?_
      obtain ⟨v1_1, ev1_1, h⟩ := of_lt h
      refine x_istore_n (pc := 22) C 1 [(1, .int v1_1), (0, .ref (b + o)), (2, .int v2)] dX5_valuesOfPeople_22 rfl (Nat.le_of_ble_eq_true rfl) ev1_1 rfl ?_
      obtain ⟨v2_1, ev2_1, h⟩ := of_lt h
      refine x_iinc (pc := 23) C (w := (1 : Int32)) 2 [(2, .int v2_1), (1, .int v1_1), (0, .ref (b + o))] dX5_valuesOfPeople_23 rfl rfl (Nat.le_of_ble_eq_true rfl) ev2_1 rfl ?_
      refine x_goto (pc := 26) C 4 dX5_valuesOfPeople_26 rfl ?_
      exact x_sub [2, 1, 0] rfl (ih _ _ h hx)
set_option maxRecDepth 100000 in
set_option maxHeartbeats 4000000 in
theorem c_X5_valuesOfPeople {l : Launch} {G : zz_G} {L : Ly} {b : Nat} (o : Nat) (hO : isW L o) (S : Sg) (rf : Int32) (h : f_X5_valuesOfPeople o S = some rf) : Met l yX5_valuesOfPeople (Cond.code yX5_valuesOfPeople cX5_valuesOfPeople 3 (some .int) :: zz_all) (rmz 3 63) (PC G L b S [.ref (b + o)]) (QC G L b S (some (.int rf)) True) 0 0 (fun q => b ≤ q) := by
  refine x_met [.ref (b + o)] (by decide +kernel) (Nat.le_of_ble_eq_true rfl) fun p e s m args below meth c C => ?_
  unfold f_X5_valuesOfPeople at h
  refine x_iconst (pc := 0) C (v := (0 : Int32)) dX5_valuesOfPeople_0 rfl ?_
  refine x_istore_n (pc := 1) C 1 [(1, .int (0 : Int32)), (0, .ref (b + o))] dX5_valuesOfPeople_1 rfl (Nat.le_of_ble_eq_true rfl) rfl rfl ?_
  refine x_iconst (pc := 2) C (v := (0 : Int32)) dX5_valuesOfPeople_2 rfl ?_
  refine x_istore_n (pc := 3) C 2 [(2, .int (0 : Int32)), (1, .int (0 : Int32)), (0, .ref (b + o))] dX5_valuesOfPeople_3 rfl (Nat.le_of_ble_eq_true rfl) rfl rfl ?_
  refine x_sub [2, 1, 0] rfl ?_
  obtain ⟨z_hz_1, hz_1, h⟩ := of_bd h
  refine l_X5_valuesOfPeople_4 C o hO S 400 _ _ hz_1 (fun v1_1 ez => ?_)
  subst z_hz_1
  refine x_iload_n (pc := 29) C 0 dX5_valuesOfPeople_29 rfl ?_
  exact x_ireturn (pc := 30) C dX5_valuesOfPeople_30 (of_s1 h) rfl
set_option maxRecDepth 100000 in
set_option maxHeartbeats 4000000 in
theorem c_X6_count {l : Launch} {G : zz_G} {L : Ly} {b : Nat} (p1 : Int32) (hO : isGu L) (S : Sg) (rf : Int32) (h : f_X6_count p1 S = some rf) : Met l yX6_count (Cond.code yX6_count cX6_count 2 (some .int) :: zz_all) (rmz 4 87) (PC G L b S [.ref (b + 0), .int p1]) (QC G L b S (some (.int rf)) True) 0 0 (fun q => b ≤ q) := by
  refine x_met [.ref (b + 0), .int p1] (by decide +kernel) (Nat.le_of_ble_eq_true rfl) fun p e s m args below meth c C => ?_
  unfold f_X6_count at h
  refine x_iload_n (pc := 0) C 1 dX6_count_0 rfl ?_
  by_cases c_1 : p1 = (0 : Int32)
  · replace h := of_ifp c_1 h
    refine x_tabIn (pc := 1) C 48 dX6_count_1 c_1 (by decide) (by decide) rfl rfl ?_
    refine x_aload_n (pc := 48) C 0 dX6_count_48 rfl ?_
    refine x_getr (pc := 49) C (k := 0) 1 hO.1 rfl rfl wd_149 dX6_count_49 (Nat.le_of_ble_eq_true rfl) rfl ?_
    refine x_geti (pc := 52) C (k := 9) hO.2.1.1 rfl rfl wd_74 dX6_count_52 ⟨Nat.le_of_ble_eq_true rfl, rfl⟩ ?_
    exact x_ireturn (pc := 55) C dX6_count_55 (of_s1 h) rfl
  replace h := of_ifn c_1 h
  by_cases c_2 : p1 = (1 : Int32)
  · replace h := of_ifp c_2 h
    refine x_tabIn (pc := 1) C 56 dX6_count_1 c_2 (by decide) (by decide) rfl rfl ?_
    refine x_aload_n (pc := 56) C 0 dX6_count_56 rfl ?_
    refine x_getr (pc := 57) C (k := 0) 1 hO.1 rfl rfl wd_149 dX6_count_57 (Nat.le_of_ble_eq_true rfl) rfl ?_
    refine x_geti (pc := 60) C (k := 4) hO.2.1.1 rfl rfl wd_65 dX6_count_60 ⟨Nat.le_of_ble_eq_true rfl, rfl⟩ ?_
    exact x_ireturn (pc := 63) C dX6_count_63 (of_s1 h) rfl
  replace h := of_ifn c_2 h
  by_cases c_3 : p1 = (2 : Int32)
  · replace h := of_ifp c_3 h
    refine x_tabIn (pc := 1) C 64 dX6_count_1 c_3 (by decide) (by decide) rfl rfl ?_
    refine x_aload_n (pc := 64) C 0 dX6_count_64 rfl ?_
    refine x_getr (pc := 65) C (k := 0) 1 hO.1 rfl rfl wd_149 dX6_count_65 (Nat.le_of_ble_eq_true rfl) rfl ?_
    refine x_geti (pc := 68) C (k := 5) hO.2.1.1 rfl rfl wd_67 dX6_count_68 ⟨Nat.le_of_ble_eq_true rfl, rfl⟩ ?_
    exact x_ireturn (pc := 71) C dX6_count_71 (of_s1 h) rfl
  replace h := of_ifn c_3 h
  by_cases c_4 : p1 = (3 : Int32)
  · replace h := of_ifp c_4 h
    refine x_tabIn (pc := 1) C 72 dX6_count_1 c_4 (by decide) (by decide) rfl rfl ?_
    refine x_aload_n (pc := 72) C 0 dX6_count_72 rfl ?_
    refine x_getr (pc := 73) C (k := 0) 1 hO.1 rfl rfl wd_149 dX6_count_73 (Nat.le_of_ble_eq_true rfl) rfl ?_
    refine x_geti (pc := 76) C (k := 6) hO.2.1.1 rfl rfl wd_69 dX6_count_76 ⟨Nat.le_of_ble_eq_true rfl, rfl⟩ ?_
    exact x_ireturn (pc := 79) C dX6_count_79 (of_s1 h) rfl
  replace h := of_ifn c_4 h
  by_cases c_5 : p1 = (4 : Int32)
  · replace h := of_ifp c_5 h
    refine x_tabIn (pc := 1) C 80 dX6_count_1 c_5 (by decide) (by decide) rfl rfl ?_
    refine x_aload_n (pc := 80) C 0 dX6_count_80 rfl ?_
    refine x_getr (pc := 81) C (k := 0) 1 hO.1 rfl rfl wd_149 dX6_count_81 (Nat.le_of_ble_eq_true rfl) rfl ?_
    obtain ⟨r_1, hc_1, h⟩ := of_bd h
    refine x_callV1 (pc := 84) C (o := 1) [] [] (c_X5_usedBits (b := b) 1 hO.2.1 S _ hc_1) cw_X6_278 vi_X5_usedBits ⟨rfl, rfl, Nat.le_of_ble_eq_true rfl, Nat.le_of_ble_eq_true rfl⟩ ⟨Nat.le_refl _, Nat.le_refl _⟩ hO.2.1.1 ⟨rfl, rfl, rfl⟩ rfl ⟨rfl, Nat.le_of_ble_eq_true rfl⟩ dX6_count_84 (fun hx_1 => ?_)
    exact x_ireturn (pc := 87) C dX6_count_87 (of_s1 h) rfl
  replace h := of_ifn c_5 h
  by_cases c_6 : p1 = (5 : Int32)
  · replace h := of_ifp c_6 h
    refine x_tabIn (pc := 1) C 88 dX6_count_1 c_6 (by decide) (by decide) rfl rfl ?_
    refine x_aload_n (pc := 88) C 0 dX6_count_88 rfl ?_
    refine x_getr (pc := 89) C (k := 0) 1 hO.1 rfl rfl wd_149 dX6_count_89 (Nat.le_of_ble_eq_true rfl) rfl ?_
    obtain ⟨r_2, hc_2, h⟩ := of_bd h
    refine x_callV1 (pc := 92) C (o := 1) [] [] (c_X5_valuesOfPeople (b := b) 1 hO.2.1 S _ hc_2) cw_X6_281 vi_X5_valuesOfPeople ⟨rfl, rfl, Nat.le_of_ble_eq_true rfl, Nat.le_of_ble_eq_true rfl⟩ ⟨Nat.le_refl _, Nat.le_refl _⟩ hO.2.1.1 ⟨rfl, rfl, rfl⟩ rfl ⟨rfl, Nat.le_of_ble_eq_true rfl⟩ dX6_count_92 (fun hx_2 => ?_)
    exact x_ireturn (pc := 95) C dX6_count_95 (of_s1 h) rfl
  replace h := of_ifn c_6 h
  by_cases c_7 : p1 = (6 : Int32)
  · replace h := of_ifp c_7 h
    refine x_tabIn (pc := 1) C 96 dX6_count_1 c_7 (by decide) (by decide) rfl rfl ?_
    refine x_aload_n (pc := 96) C 0 dX6_count_96 rfl ?_
    refine x_getr (pc := 97) C (k := 7) 137 hO.1 rfl rfl wd_156 dX6_count_97 (Nat.le_of_ble_eq_true rfl) rfl ?_
    refine x_geti (pc := 100) C (k := 0) hO.2.2.2.2.2.2.2.1.1 rfl rfl wd_142 dX6_count_100 ⟨Nat.le_of_ble_eq_true rfl, rfl⟩ ?_
    exact x_ireturn (pc := 103) C dX6_count_103 (of_s1 h) rfl
  replace h := of_ifn c_7 h
  by_cases c_8 : p1 = (7 : Int32)
  · replace h := of_ifp c_8 h
    refine x_tabIn (pc := 1) C 104 dX6_count_1 c_8 (by decide) (by decide) rfl rfl ?_
    refine x_aload_n (pc := 104) C 0 dX6_count_104 rfl ?_
    refine x_getr (pc := 105) C (k := 6) 135 hO.1 rfl rfl wd_155 dX6_count_105 (Nat.le_of_ble_eq_true rfl) rfl ?_
    refine x_geti (pc := 108) C (k := 0) hO.2.2.2.2.2.2.1.1 rfl rfl wd_142 dX6_count_108 ⟨Nat.le_of_ble_eq_true rfl, rfl⟩ ?_
    exact x_ireturn (pc := 111) C dX6_count_111 (of_s1 h) rfl
  replace h := of_ifn c_8 h
  refine x_tabOut (pc := 1) C 112 dX6_count_1 (by have := lv_neT c_1 (show ((0 : Int32)).toInt = 0 from rfl); have := lv_neT c_2 (show ((1 : Int32)).toInt = 1 from rfl); have := lv_neT c_3 (show ((2 : Int32)).toInt = 2 from rfl); have := lv_neT c_4 (show ((3 : Int32)).toInt = 3 from rfl); have := lv_neT c_5 (show ((4 : Int32)).toInt = 4 from rfl); have := lv_neT c_6 (show ((5 : Int32)).toInt = 5 from rfl); have := lv_neT c_7 (show ((6 : Int32)).toInt = 6 from rfl); have := lv_neT c_8 (show ((7 : Int32)).toInt = 7 from rfl); omega) rfl ?_
  refine x_iload_n (pc := 112) C 1 dX6_count_112 rfl ?_
  refine x_bipush (pc := 113) C (v := (11 : Int32)) dX6_count_113 rfl ?_
  refine x_isub (pc := 115) C dX6_count_115 ?_
  refine x_bipush (pc := 116) C (v := (6 : Int32)) dX6_count_116 rfl ?_
  refine x_callS1 (pc := 118) C [.int (p1 - (11 : Int32)), .int (6 : Int32)] [] (c_X6_isWithin (b := b) (p1 - (11 : Int32)) (6 : Int32) S) cw_X6_69 vs_X6_isWithin ⟨rfl, rfl, Nat.le_of_ble_eq_true rfl, Nat.le_of_ble_eq_true rfl⟩ ⟨Nat.le_refl _, Nat.le_refl _⟩ rfl ⟨rfl, Nat.le_of_ble_eq_true rfl⟩ dX6_count_118 (fun hx_3 => ?_)
  refine x_if_eq (pc := 121) C 136 dX6_count_121 rfl (fun c_9 => ?_) (fun c_9 => ?_)
  · replace h := of_ifp c_9 h
    refine x_bipush (pc := 136) C (v := (-9 : Int32)) dX6_count_136 rfl ?_
    exact x_ireturn (pc := 138) C dX6_count_138 (of_s1 h) rfl
  · replace h := of_ifn c_9 h
    refine x_aload_n (pc := 124) C 0 dX6_count_124 rfl ?_
    refine x_getr (pc := 125) C (k := 8) 139 hO.1 rfl rfl wd_157 dX6_count_125 (Nat.le_of_ble_eq_true rfl) rfl ?_
    refine x_iload_n (pc := 128) C 1 dX6_count_128 rfl ?_
    refine x_bipush (pc := 129) C (v := (11 : Int32)) dX6_count_129 rfl ?_
    refine x_isub (pc := 131) C dX6_count_131 ?_
    obtain ⟨g_1, h⟩ := of_gd h
    refine x_iaload (pc := 132) C hO.2.2.2.2.2.2.2.2 g_1 dX6_count_132 ?_
    refine x_goto (pc := 133) C 138 dX6_count_133 rfl ?_
    exact x_ireturn (pc := 138) C dX6_count_138 (of_s1 h) rfl
set_option maxRecDepth 100000 in
set_option maxHeartbeats 4000000 in
theorem l_X5_copyFrom_77 {p : Program} {l : Launch} {e : Env} {s : State} {m : MethodId} {args : Array Value} {below : List Frame} {meth : Method} {c : Code} {G : zz_G} {L : Ly} {b : Nat} {Q : State → Prop} (C : CX p G s m args meth c cX5_copyFrom yX5_copyFrom 3 none) (o : Nat) (o1 : Nat) (hO : isW L o) (h1 : isW L o1) : ∀ (n : Nat) (v2 : Int32) (S : Sg) {z}, L_X5_copyFrom_77 o o1 n v2 S = some z → (∀ (S_o : Sg), z = S_o → X p l e (rmz 2 48) s m args below meth c 0 0 Q 3 G L b S_o 108 [(0, .ref (b + o)), (1, .ref (b + o1))] []) → X p l e (rmz 2 48) s m args below meth c 0 0 Q 3 G L b S 77 [(0, .ref (b + o)), (1, .ref (b + o1)), (2, .int v2)] [] := by
  intro n
  induction n with
  | zero =>
    intro v2 S z h
    exact of_none h
  | succ n ih =>
    intro v2 S z h hx
    rw [L_X5_copyFrom_77] at h
    refine x_iload_n (pc := 77) C 2 dX5_copyFrom_77 rfl ?_
    refine x_bipush (pc := 78) C (v := (10 : Int32)) dX5_copyFrom_78 rfl ?_
    refine x_icmp_ge (pc := 80) C 108 dX5_copyFrom_80 rfl (fun c_1 => ?_) (fun c_1 => ?_)
    · replace h := of_ifn c_1 h
      exact x_sub [0, 1] rfl (hx _ (of_s1 h).symm)
    · replace h := of_ifp c_1 h
      refine x_aload_n (pc := 83) C 1 dX5_copyFrom_83 rfl ?_
      refine x_getr (pc := 84) C (k := 7) (o1 + 5) h1.1 rfl rfl wd_70 dX5_copyFrom_84 (Nat.le_of_ble_eq_true rfl) rfl ?_
      refine x_iload_n (pc := 87) C 2 dX5_copyFrom_87 rfl ?_
      obtain ⟨g_1, h⟩ := of_gd h
      refine x_aaloadI (pc := 88) C h1.2.2.2.2.2.1 g_1 dX5_copyFrom_88 ?_
      refine x_iconst (pc := 89) C (v := (0 : Int32)) dX5_copyFrom_89 rfl ?_
      refine x_aload_n (pc := 90) C 0 dX5_copyFrom_90 rfl ?_
      refine x_getr (pc := 91) C (k := 7) (o + 5) hO.1 rfl rfl wd_70 dX5_copyFrom_91 (Nat.le_of_ble_eq_true rfl) rfl ?_
      refine x_iload_n (pc := 94) C 2 dX5_copyFrom_94 rfl ?_
      refine x_aaloadI (pc := 95) C hO.2.2.2.2.2.1 g_1 dX5_copyFrom_95 ?_
      refine x_iconst (pc := 96) C (v := (0 : Int32)) dX5_copyFrom_96 rfl ?_
      refine x_bipush (pc := 97) C (v := (10 : Int32)) dX5_copyFrom_97 rfl ?_
      obtain ⟨S_1, eS_1, h⟩ := of_lt h
      refine x_acpI (pc := 99) C sysw_X5 (h1.2.2.2.2.2.2.1 _ (inb_lt (i := v2) g_1)) (hO.2.2.2.2.2.2.1 _ (inb_lt (i := v2) g_1)) (by decide) eS_1 ⟨Nat.le_of_ble_eq_true rfl, Nat.le_of_ble_eq_true rfl⟩ (Nat.le_of_ble_eq_true rfl) dX5_copyFrom_99 ?_
      obtain ⟨v2_1, ev2_1, h⟩ := of_lt h
      refine x_iinc (pc := 102) C (w := (1 : Int32)) 2 [(2, .int v2_1), (0, .ref (b + o)), (1, .ref (b + o1))] dX5_copyFrom_102 rfl rfl (Nat.le_of_ble_eq_true rfl) ev2_1 rfl ?_
      refine x_goto (pc := 105) C 77 dX5_copyFrom_105 rfl ?_
      exact x_sub [1, 2, 0] rfl (ih _ _ h hx)
set_option maxRecDepth 100000 in
set_option maxHeartbeats 4000000 in
theorem c_X5_copyFrom {l : Launch} {G : zz_G} {L : Ly} {b : Nat} (o : Nat) (o1 : Nat) (hO : isW L o) (h1 : isW L o1) (S : Sg) (Sf : Sg) (h : f_X5_copyFrom o o1 S = some Sf) : Met l yX5_copyFrom (Cond.code yX5_copyFrom cX5_copyFrom 3 none :: zz_all) (rmz 2 48) (PC G L b S [.ref (b + o), .ref (b + o1)]) (QC G L b Sf none True) 0 0 (fun q => b ≤ q) := by
  refine x_met [.ref (b + o), .ref (b + o1)] (by decide +kernel) (Nat.le_of_ble_eq_true rfl) fun p e s m args below meth c C => ?_
  unfold f_X5_copyFrom at h
  refine x_aload_n (pc := 0) C 1 dX5_copyFrom_0 rfl ?_
  refine x_getr (pc := 1) C (k := 0) (o1 + 1) h1.1 rfl rfl wd_59 dX5_copyFrom_1 (Nat.le_of_ble_eq_true rfl) rfl ?_
  refine x_iconst (pc := 4) C (v := (0 : Int32)) dX5_copyFrom_4 rfl ?_
  refine x_aload_n (pc := 5) C 0 dX5_copyFrom_5 rfl ?_
  refine x_getr (pc := 6) C (k := 0) (o + 1) hO.1 rfl rfl wd_59 dX5_copyFrom_6 (Nat.le_of_ble_eq_true rfl) rfl ?_
  refine x_iconst (pc := 9) C (v := (0 : Int32)) dX5_copyFrom_9 rfl ?_
  refine x_bipush (pc := 10) C (v := (8 : Int32)) dX5_copyFrom_10 rfl ?_
  obtain ⟨S_1, eS_1, h⟩ := of_lt h
  refine x_acpI (pc := 12) C sysw_X5 h1.2.1 hO.2.1 (by decide) eS_1 ⟨Nat.le_of_ble_eq_true rfl, Nat.le_of_ble_eq_true rfl⟩ (Nat.le_of_ble_eq_true rfl) dX5_copyFrom_12 ?_
  refine x_aload_n (pc := 15) C 1 dX5_copyFrom_15 rfl ?_
  refine x_getr (pc := 16) C (k := 1) (o1 + 2) h1.1 rfl rfl wd_60 dX5_copyFrom_16 (Nat.le_of_ble_eq_true rfl) rfl ?_
  refine x_iconst (pc := 19) C (v := (0 : Int32)) dX5_copyFrom_19 rfl ?_
  refine x_aload_n (pc := 20) C 0 dX5_copyFrom_20 rfl ?_
  refine x_getr (pc := 21) C (k := 1) (o + 2) hO.1 rfl rfl wd_60 dX5_copyFrom_21 (Nat.le_of_ble_eq_true rfl) rfl ?_
  refine x_iconst (pc := 24) C (v := (0 : Int32)) dX5_copyFrom_24 rfl ?_
  refine x_bipush (pc := 25) C (v := (10 : Int32)) dX5_copyFrom_25 rfl ?_
  obtain ⟨S_2, eS_2, h⟩ := of_lt h
  refine x_acpI (pc := 27) C sysw_X5 h1.2.2.1 hO.2.2.1 (by decide) eS_2 ⟨Nat.le_of_ble_eq_true rfl, Nat.le_of_ble_eq_true rfl⟩ (Nat.le_of_ble_eq_true rfl) dX5_copyFrom_27 ?_
  refine x_aload_n (pc := 30) C 1 dX5_copyFrom_30 rfl ?_
  refine x_getr (pc := 31) C (k := 2) (o1 + 3) h1.1 rfl rfl wd_61 dX5_copyFrom_31 (Nat.le_of_ble_eq_true rfl) rfl ?_
  refine x_iconst (pc := 34) C (v := (0 : Int32)) dX5_copyFrom_34 rfl ?_
  refine x_aload_n (pc := 35) C 0 dX5_copyFrom_35 rfl ?_
  refine x_getr (pc := 36) C (k := 2) (o + 3) hO.1 rfl rfl wd_61 dX5_copyFrom_36 (Nat.le_of_ble_eq_true rfl) rfl ?_
  refine x_iconst (pc := 39) C (v := (0 : Int32)) dX5_copyFrom_39 rfl ?_
  refine x_bipush (pc := 40) C (v := (10 : Int32)) dX5_copyFrom_40 rfl ?_
  obtain ⟨S_3, eS_3, h⟩ := of_lt h
  refine x_acpI (pc := 42) C sysw_X5 h1.2.2.2.1 hO.2.2.2.1 (by decide) eS_3 ⟨Nat.le_of_ble_eq_true rfl, Nat.le_of_ble_eq_true rfl⟩ (Nat.le_of_ble_eq_true rfl) dX5_copyFrom_42 ?_
  refine x_aload_n (pc := 45) C 1 dX5_copyFrom_45 rfl ?_
  refine x_getr (pc := 46) C (k := 3) (o1 + 4) h1.1 rfl rfl wd_62 dX5_copyFrom_46 (Nat.le_of_ble_eq_true rfl) rfl ?_
  refine x_iconst (pc := 49) C (v := (0 : Int32)) dX5_copyFrom_49 rfl ?_
  refine x_aload_n (pc := 50) C 0 dX5_copyFrom_50 rfl ?_
  refine x_getr (pc := 51) C (k := 3) (o + 4) hO.1 rfl rfl wd_62 dX5_copyFrom_51 (Nat.le_of_ble_eq_true rfl) rfl ?_
  refine x_iconst (pc := 54) C (v := (0 : Int32)) dX5_copyFrom_54 rfl ?_
  refine x_bipush (pc := 55) C (v := (10 : Int32)) dX5_copyFrom_55 rfl ?_
  obtain ⟨S_4, eS_4, h⟩ := of_lt h
  refine x_acpI (pc := 57) C sysw_X5 h1.2.2.2.2.1 hO.2.2.2.2.1 (by decide) eS_4 ⟨Nat.le_of_ble_eq_true rfl, Nat.le_of_ble_eq_true rfl⟩ (Nat.le_of_ble_eq_true rfl) dX5_copyFrom_57 ?_
  refine x_aload_n (pc := 60) C 1 dX5_copyFrom_60 rfl ?_
  refine x_getr (pc := 61) C (k := 8) (o1 + 16) h1.1 rfl rfl wd_71 dX5_copyFrom_61 (Nat.le_of_ble_eq_true rfl) rfl ?_
  refine x_iconst (pc := 64) C (v := (0 : Int32)) dX5_copyFrom_64 rfl ?_
  refine x_aload_n (pc := 65) C 0 dX5_copyFrom_65 rfl ?_
  refine x_getr (pc := 66) C (k := 8) (o + 16) hO.1 rfl rfl wd_71 dX5_copyFrom_66 (Nat.le_of_ble_eq_true rfl) rfl ?_
  refine x_iconst (pc := 69) C (v := (0 : Int32)) dX5_copyFrom_69 rfl ?_
  refine x_bipush (pc := 70) C (v := (10 : Int32)) dX5_copyFrom_70 rfl ?_
  obtain ⟨S_5, eS_5, h⟩ := of_lt h
  refine x_acpI (pc := 72) C sysw_X5 h1.2.2.2.2.2.2.2.1 hO.2.2.2.2.2.2.2.1 (by decide) eS_5 ⟨Nat.le_of_ble_eq_true rfl, Nat.le_of_ble_eq_true rfl⟩ (Nat.le_of_ble_eq_true rfl) dX5_copyFrom_72 ?_
  refine x_iconst (pc := 75) C (v := (0 : Int32)) dX5_copyFrom_75 rfl ?_
  refine x_istore_n (pc := 76) C 2 [(2, .int (0 : Int32)), (0, .ref (b + o)), (1, .ref (b + o1))] dX5_copyFrom_76 rfl (Nat.le_of_ble_eq_true rfl) rfl rfl ?_
  refine x_sub [1, 2, 0] rfl ?_
  obtain ⟨z_hz_1, hz_1, h⟩ := of_bd h
  refine l_X5_copyFrom_77 C o o1 hO h1 400 _ _ hz_1 (fun S_6 ez => ?_)
  subst z_hz_1
  refine x_aload_n (pc := 108) C 0 dX5_copyFrom_108 rfl ?_
  refine x_aload_n (pc := 109) C 1 dX5_copyFrom_109 rfl ?_
  refine x_geti (pc := 110) C (k := 4) h1.1 rfl rfl wd_63 dX5_copyFrom_110 ⟨Nat.le_of_ble_eq_true rfl, rfl⟩ ?_
  obtain ⟨S_7, eS_7, h⟩ := of_lt h
  refine x_puti (pc := 113) C (k := 4) hO.1 rfl rfl wd_63 dX5_copyFrom_113 ⟨Nat.le_of_ble_eq_true rfl, rfl⟩ eS_7 ?_
  refine x_aload_n (pc := 116) C 0 dX5_copyFrom_116 rfl ?_
  refine x_aload_n (pc := 117) C 1 dX5_copyFrom_117 rfl ?_
  refine x_geti (pc := 118) C (k := 5) h1.1 rfl rfl wd_66 dX5_copyFrom_118 ⟨Nat.le_of_ble_eq_true rfl, rfl⟩ ?_
  obtain ⟨S_8, eS_8, h⟩ := of_lt h
  refine x_puti (pc := 121) C (k := 5) hO.1 rfl rfl wd_66 dX5_copyFrom_121 ⟨Nat.le_of_ble_eq_true rfl, rfl⟩ eS_8 ?_
  refine x_aload_n (pc := 124) C 0 dX5_copyFrom_124 rfl ?_
  refine x_aload_n (pc := 125) C 1 dX5_copyFrom_125 rfl ?_
  refine x_geti (pc := 126) C (k := 6) h1.1 rfl rfl wd_68 dX5_copyFrom_126 ⟨Nat.le_of_ble_eq_true rfl, rfl⟩ ?_
  obtain ⟨S_9, eS_9, h⟩ := of_lt h
  refine x_puti (pc := 129) C (k := 6) hO.1 rfl rfl wd_68 dX5_copyFrom_129 ⟨Nat.le_of_ble_eq_true rfl, rfl⟩ eS_9 ?_
  refine x_aload_n (pc := 132) C 0 dX5_copyFrom_132 rfl ?_
  refine x_aload_n (pc := 133) C 1 dX5_copyFrom_133 rfl ?_
  refine x_geti (pc := 134) C (k := 9) h1.1 rfl rfl wd_73 dX5_copyFrom_134 ⟨Nat.le_of_ble_eq_true rfl, rfl⟩ ?_
  obtain ⟨S_10, eS_10, h⟩ := of_lt h
  refine x_puti (pc := 137) C (k := 9) hO.1 rfl rfl wd_73 dX5_copyFrom_137 ⟨Nat.le_of_ble_eq_true rfl, rfl⟩ eS_10 ?_
  refine x_aload_n (pc := 140) C 0 dX5_copyFrom_140 rfl ?_
  refine x_getr (pc := 141) C (k := 10) (o + 17) hO.1 rfl rfl wd_75 dX5_copyFrom_141 (Nat.le_of_ble_eq_true rfl) rfl ?_
  refine x_aload_n (pc := 144) C 1 dX5_copyFrom_144 rfl ?_
  refine x_getr (pc := 145) C (k := 10) (o1 + 17) h1.1 rfl rfl wd_75 dX5_copyFrom_145 (Nat.le_of_ble_eq_true rfl) rfl ?_
  obtain ⟨S_11, hc_1, h⟩ := of_bd h
  refine x_callV_ (pc := 148) C (o := (o + 17)) [.ref (b + (o1 + 17))] [] (c_X4_copyFrom (b := b) (o + 17) (o1 + 17) hO.2.2.2.2.2.2.2.2.1 h1.2.2.2.2.2.2.2.2.1 S_10 _ hc_1) cw_X5_68 vi_X4_copyFrom ⟨rfl, rfl, Nat.le_of_ble_eq_true rfl, Nat.le_of_ble_eq_true rfl⟩ ⟨Nat.le_refl _, Nat.le_refl _⟩ hO.2.2.2.2.2.2.2.2.1.1 ⟨rfl, rfl, rfl⟩ rfl ⟨rfl, Nat.le_of_ble_eq_true rfl⟩ dX5_copyFrom_148 (fun hx_1 => ?_)
  exact x_vreturn (pc := 151) C dX5_copyFrom_151 (of_s1 h)
set_option maxRecDepth 100000 in
set_option maxHeartbeats 4000000 in
theorem c_X6_image {l : Launch} {G : zz_G} {L : Ly} {b : Nat} (hO : isGu L) (S : Sg) (rf : Int32) (Sf : Sg) (h : f_X6_image S = some (rf, Sf)) : Met l yX6_image (Cond.code yX6_image cX6_image 1 (some .int) :: zz_all) (rmz 3 70) (PC G L b S [.ref (b + 0)]) (QC G L b Sf (some (.int rf)) True) 0 0 (fun q => b ≤ q) := by
  refine x_met [.ref (b + 0)] (by decide +kernel) (Nat.le_of_ble_eq_true rfl) fun p e s m args below meth c C => ?_
  unfold f_X6_image at h
  refine x_aload_n (pc := 0) C 0 dX6_image_0 rfl ?_
  refine x_getr (pc := 1) C (k := 2) 87 hO.1 rfl rfl wd_151 dX6_image_1 (Nat.le_of_ble_eq_true rfl) rfl ?_
  refine x_aload_n (pc := 4) C 0 dX6_image_4 rfl ?_
  refine x_getr (pc := 5) C (k := 0) 1 hO.1 rfl rfl wd_149 dX6_image_5 (Nat.le_of_ble_eq_true rfl) rfl ?_
  obtain ⟨S_1, hc_1, h⟩ := of_bd h
  refine x_callV_ (pc := 8) C (o := 87) [.ref (b + 1)] [] (c_X5_copyFrom (b := b) 87 1 hO.2.2.2.1 hO.2.1 S _ hc_1) cw_X6_56 vi_X5_copyFrom ⟨rfl, rfl, Nat.le_of_ble_eq_true rfl, Nat.le_of_ble_eq_true rfl⟩ ⟨Nat.le_refl _, Nat.le_refl _⟩ hO.2.2.2.1.1 ⟨rfl, rfl, rfl⟩ rfl ⟨rfl, Nat.le_of_ble_eq_true rfl⟩ dX6_image_8 (fun hx_1 => ?_)
  refine x_aload_n (pc := 11) C 0 dX6_image_11 rfl ?_
  refine x_iconst (pc := 12) C (v := (1 : Int32)) dX6_image_12 rfl ?_
  obtain ⟨S_2, eS_2, h⟩ := of_lt h
  refine x_putz (pc := 13) C (k := 3) hO.1 rfl rfl wd_152 dX6_image_13 ⟨Nat.le_of_ble_eq_true rfl, rfl⟩ (isb_of (by decide)) eS_2 ?_
  refine x_aload_n (pc := 16) C 0 dX6_image_16 rfl ?_
  refine x_getr (pc := 17) C (k := 0) 1 hO.1 rfl rfl wd_149 dX6_image_17 (Nat.le_of_ble_eq_true rfl) rfl ?_
  refine x_geti (pc := 20) C (k := 9) hO.2.1.1 rfl rfl wd_74 dX6_image_20 ⟨Nat.le_of_ble_eq_true rfl, rfl⟩ ?_
  exact x_ireturn (pc := 23) C dX6_image_23 (of_sp h).1 (of_sp h).2
set_option maxRecDepth 100000 in
set_option maxHeartbeats 4000000 in
theorem c_X6_on {l : Launch} {G : zz_G} {L : Ly} {b : Nat} (hO : isGu L) (S : Sg) (rf : Int32) (Sf : Sg) (h : f_X6_on S = some (rf, Sf)) : Met l yX6_on (Cond.code yX6_on cX6_on 1 (some .int) :: zz_all) (rmz 3 70) (PC G L b S [.ref (b + 0)]) (QC G L b Sf (some (.int rf)) True) 0 0 (fun q => b ≤ q) := by
  refine x_met [.ref (b + 0)] (by decide +kernel) (Nat.le_of_ble_eq_true rfl) fun p e s m args below meth c C => ?_
  unfold f_X6_on at h
  refine x_aload_n (pc := 0) C 0 dX6_on_0 rfl ?_
  refine x_geti (pc := 1) C (k := 3) hO.1 rfl rfl wd_152 dX6_on_1 ⟨Nat.le_of_ble_eq_true rfl, rfl⟩ ?_
  refine x_if_ne (pc := 4) C 14 dX6_on_4 rfl (fun c_1 => ?_) (fun c_1 => ?_)
  · replace h := of_ifn c_1 h
    refine x_aload_n (pc := 14) C 0 dX6_on_14 rfl ?_
    refine x_getr (pc := 15) C (k := 0) 1 hO.1 rfl rfl wd_149 dX6_on_15 (Nat.le_of_ble_eq_true rfl) rfl ?_
    refine x_aload_n (pc := 18) C 0 dX6_on_18 rfl ?_
    refine x_getr (pc := 19) C (k := 2) 87 hO.1 rfl rfl wd_151 dX6_on_19 (Nat.le_of_ble_eq_true rfl) rfl ?_
    obtain ⟨S_1, hc_1, h⟩ := of_bd h
    refine x_callV_ (pc := 22) C (o := 1) [.ref (b + 87)] [] (c_X5_copyFrom (b := b) 1 87 hO.2.1 hO.2.2.2.1 S _ hc_1) cw_X6_56 vi_X5_copyFrom ⟨rfl, rfl, Nat.le_of_ble_eq_true rfl, Nat.le_of_ble_eq_true rfl⟩ ⟨Nat.le_refl _, Nat.le_refl _⟩ hO.2.1.1 ⟨rfl, rfl, rfl⟩ rfl ⟨rfl, Nat.le_of_ble_eq_true rfl⟩ dX6_on_22 (fun hx_1 => ?_)
    refine x_aload_n (pc := 25) C 0 dX6_on_25 rfl ?_
    refine x_getr (pc := 26) C (k := 0) 1 hO.1 rfl rfl wd_149 dX6_on_26 (Nat.le_of_ble_eq_true rfl) rfl ?_
    refine x_geti (pc := 29) C (k := 9) hO.2.1.1 rfl rfl wd_74 dX6_on_29 ⟨Nat.le_of_ble_eq_true rfl, rfl⟩ ?_
    exact x_ireturn (pc := 32) C dX6_on_32 (of_sp h).1 (of_sp h).2
  · replace h := of_ifp c_1 h
    refine x_aload_n (pc := 7) C 0 dX6_on_7 rfl ?_
    refine x_bipush (pc := 8) C (v := (-3 : Int32)) dX6_on_8 rfl ?_
    obtain ⟨⟨r_1, S_2⟩, hc_2, h⟩ := of_bd h
    replace h := of_u2 h
    refine x_callV1 (pc := 10) C (o := 0) [.int (-3 : Int32)] [] (c_X6_refuse (b := b) (-3 : Int32) hO S _ _ hc_2) cw_X6_73 vi_X6_refuse ⟨rfl, rfl, Nat.le_of_ble_eq_true rfl, Nat.le_of_ble_eq_true rfl⟩ ⟨Nat.le_refl _, Nat.le_refl _⟩ hO.1 ⟨rfl, rfl, rfl⟩ rfl ⟨rfl, Nat.le_of_ble_eq_true rfl⟩ dX6_on_10 (fun hx_2 => ?_)
    exact x_ireturn (pc := 13) C dX6_on_13 (of_sp h).1 (of_sp h).2
set_option maxRecDepth 100000 in
set_option maxHeartbeats 4000000 in
theorem c_X6_person {l : Launch} {G : zz_G} {L : Ly} {b : Nat} (p1 : Int32) (p2 : Int32) (hO : isGu L) (S : Sg) (rf : Int32) (Sf : Sg) (h : f_X6_person p1 p2 S = some (rf, Sf)) : Met l yX6_person (Cond.code yX6_person cX6_person 4 (some .int) :: zz_all) (rmz 3 65) (PC G L b S [.ref (b + 0), .int p1, .int p2]) (QC G L b Sf (some (.int rf)) True) 0 0 (fun q => b ≤ q) := by
  refine x_met [.ref (b + 0), .int p1, .int p2] (by decide +kernel) (Nat.le_of_ble_eq_true rfl) fun p e s m args below meth c C => ?_
  unfold f_X6_person at h
  refine x_iload_n (pc := 0) C 1 dX6_person_0 rfl ?_
  refine x_bipush (pc := 1) C (v := (8 : Int32)) dX6_person_1 rfl ?_
  refine x_callS1 (pc := 3) C [.int p1, .int (8 : Int32)] [] (c_X6_isWithin (b := b) p1 (8 : Int32) S) cw_X6_69 vs_X6_isWithin ⟨rfl, rfl, Nat.le_of_ble_eq_true rfl, Nat.le_of_ble_eq_true rfl⟩ ⟨Nat.le_refl _, Nat.le_refl _⟩ rfl ⟨rfl, Nat.le_of_ble_eq_true rfl⟩ dX6_person_3 (fun hx_1 => ?_)
  refine x_if_ne (pc := 6) C 15 dX6_person_6 rfl (fun c_1 => ?_) (fun c_1 => ?_)
  · replace h := of_ifn c_1 h
    refine x_iload_n (pc := 15) C 2 dX6_person_15 rfl ?_
    refine x_iconst (pc := 16) C (v := (3 : Int32)) dX6_person_16 rfl ?_
    refine x_callS1 (pc := 17) C [.int p2, .int (3 : Int32)] [] (c_X6_isWithin (b := b) p2 (3 : Int32) S) cw_X6_69 vs_X6_isWithin ⟨rfl, rfl, Nat.le_of_ble_eq_true rfl, Nat.le_of_ble_eq_true rfl⟩ ⟨Nat.le_refl _, Nat.le_refl _⟩ rfl ⟨rfl, Nat.le_of_ble_eq_true rfl⟩ dX6_person_17 (fun hx_2 => ?_)
    refine x_if_ne (pc := 20) C 30 dX6_person_20 rfl (fun c_2 => ?_) (fun c_2 => ?_)
    · replace h := of_ifn c_2 h
      refine x_aload_n (pc := 30) C 0 dX6_person_30 rfl ?_
      refine x_getr (pc := 31) C (k := 0) 1 hO.1 rfl rfl wd_149 dX6_person_31 (Nat.le_of_ble_eq_true rfl) rfl ?_
      refine x_iload_n (pc := 34) C 1 dX6_person_34 rfl ?_
      obtain ⟨r_1, hc_1, h⟩ := of_bd h
      refine x_callV1 (pc := 35) C (o := 1) [.int p1] [] (c_X5_variableOf (b := b) 1 p1 hO.2.1 S _ hc_1) cw_X6_77 vi_X5_variableOf ⟨rfl, rfl, Nat.le_of_ble_eq_true rfl, Nat.le_of_ble_eq_true rfl⟩ ⟨Nat.le_refl _, Nat.le_refl _⟩ hO.2.1.1 ⟨rfl, rfl, rfl⟩ rfl ⟨rfl, Nat.le_of_ble_eq_true rfl⟩ dX6_person_35 (fun hx_3 => ?_)
      refine x_istore_n (pc := 38) C 3 [(3, .int r_1), (0, .ref (b + 0)), (1, .int p1), (2, .int p2)] dX6_person_38 rfl (Nat.le_of_ble_eq_true rfl) rfl rfl ?_
      refine x_iload_n (pc := 39) C 3 dX6_person_39 rfl ?_
      refine x_if_ne (pc := 40) C 54 dX6_person_40 rfl (fun c_3 => ?_) (fun c_3 => ?_)
      · replace h := of_ifn c_3 h
        refine x_iload_n (pc := 54) C 3 dX6_person_54 rfl ?_
        refine x_iconst (pc := 55) C (v := (1 : Int32)) dX6_person_55 rfl ?_
        refine x_icmp_ne (pc := 56) C 63 dX6_person_56 rfl (fun c_4 => ?_) (fun c_4 => ?_)
        · replace h := of_ifn c_4 h
          refine x_aload_n (pc := 63) C 1 dX6_person_63 rfl ?_
          refine x_getr (pc := 64) C (k := 0) 1 hO.1 rfl rfl wd_149 dX6_person_64 (Nat.le_of_ble_eq_true rfl) rfl ?_
          refine x_iload_n (pc := 67) C 0 dX6_person_67 rfl ?_
          obtain ⟨r_2, hc_2, h⟩ := of_bd h
          refine x_callV1 (pc := 68) C (o := 1) [.int r_1] [] (c_X5_isFree (b := b) 1 r_1 hO.2.1 S _ hc_2) cw_X6_83 vi_X5_isFree ⟨rfl, rfl, Nat.le_of_ble_eq_true rfl, Nat.le_of_ble_eq_true rfl⟩ ⟨Nat.le_refl _, Nat.le_refl _⟩ hO.2.1.1 ⟨rfl, rfl, rfl⟩ rfl ⟨rfl, Nat.le_of_ble_eq_true rfl⟩ dX6_person_68 (fun hx_4 => ?_)
          refine x_callS1 (pc := 71) C [.int r_2] [] (c_X6_asNumber (b := b) r_2 S) cw_X6_87 vs_X6_asNumber ⟨rfl, rfl, Nat.le_of_ble_eq_true rfl, Nat.le_of_ble_eq_true rfl⟩ ⟨Nat.le_refl _, Nat.le_refl _⟩ rfl ⟨rfl, Nat.le_of_ble_eq_true rfl⟩ dX6_person_71 (fun hx_5 => ?_)
          exact x_ireturn (pc := 74) C dX6_person_74 (of_sp h).1 (of_sp h).2
        · replace h := of_ifp c_4 h
          refine x_iload_n (pc := 59) C 0 dX6_person_59 rfl ?_
          refine x_goto (pc := 60) C 74 dX6_person_60 rfl ?_
          exact x_ireturn (pc := 74) C dX6_person_74 (of_sp h).1 (of_sp h).2
      · replace h := of_ifp c_3 h
        refine x_aload_n (pc := 43) C 1 dX6_person_43 rfl ?_
        refine x_getr (pc := 44) C (k := 0) 1 hO.1 rfl rfl wd_149 dX6_person_44 (Nat.le_of_ble_eq_true rfl) rfl ?_
        refine x_iload_n (pc := 47) C 0 dX6_person_47 rfl ?_
        obtain ⟨r_3, hc_3, h⟩ := of_bd h
        refine x_callV1 (pc := 48) C (o := 1) [.int r_1] [] (c_X5_valueOf (b := b) 1 r_1 hO.2.1 S _ hc_3) cw_X6_80 vi_X5_valueOf ⟨rfl, rfl, Nat.le_of_ble_eq_true rfl, Nat.le_of_ble_eq_true rfl⟩ ⟨Nat.le_refl _, Nat.le_refl _⟩ hO.2.1.1 ⟨rfl, rfl, rfl⟩ rfl ⟨rfl, Nat.le_of_ble_eq_true rfl⟩ dX6_person_48 (fun hx_6 => ?_)
        refine x_goto (pc := 51) C 74 dX6_person_51 rfl ?_
        exact x_ireturn (pc := 74) C dX6_person_74 (of_sp h).1 (of_sp h).2
    · replace h := of_ifp c_2 h
      refine x_aload_n (pc := 23) C 0 dX6_person_23 rfl ?_
      refine x_bipush (pc := 24) C (v := (-2 : Int32)) dX6_person_24 rfl ?_
      obtain ⟨⟨r_4, S_1⟩, hc_4, h⟩ := of_bd h
      replace h := of_u2 h
      refine x_callV1 (pc := 26) C (o := 0) [.int (-2 : Int32)] [] (c_X6_refuse (b := b) (-2 : Int32) hO S _ _ hc_4) cw_X6_73 vi_X6_refuse ⟨rfl, rfl, Nat.le_of_ble_eq_true rfl, Nat.le_of_ble_eq_true rfl⟩ ⟨Nat.le_refl _, Nat.le_refl _⟩ hO.1 ⟨rfl, rfl, rfl⟩ rfl ⟨rfl, Nat.le_of_ble_eq_true rfl⟩ dX6_person_26 (fun hx_7 => ?_)
      exact x_ireturn (pc := 29) C dX6_person_29 (of_sp h).1 (of_sp h).2
  · replace h := of_ifp c_1 h
    refine x_aload_n (pc := 9) C 0 dX6_person_9 rfl ?_
    refine x_iconst (pc := 10) C (v := (-1 : Int32)) dX6_person_10 rfl ?_
    obtain ⟨⟨r_5, S_2⟩, hc_5, h⟩ := of_bd h
    replace h := of_u2 h
    refine x_callV1 (pc := 11) C (o := 0) [.int (-1 : Int32)] [] (c_X6_refuse (b := b) (-1 : Int32) hO S _ _ hc_5) cw_X6_73 vi_X6_refuse ⟨rfl, rfl, Nat.le_of_ble_eq_true rfl, Nat.le_of_ble_eq_true rfl⟩ ⟨Nat.le_refl _, Nat.le_refl _⟩ hO.1 ⟨rfl, rfl, rfl⟩ rfl ⟨rfl, Nat.le_of_ble_eq_true rfl⟩ dX6_person_11 (fun hx_8 => ?_)
    exact x_ireturn (pc := 14) C dX6_person_14 (of_sp h).1 (of_sp h).2
set_option maxRecDepth 100000 in
set_option maxHeartbeats 4000000 in
theorem c_X6_pivots {l : Launch} {G : zz_G} {L : Ly} {b : Nat} (hO : isGu L) (S : Sg) : Met l yX6_pivots (Cond.code yX6_pivots cX6_pivots 1 (some .int) :: zz_all) (rmz 0 0) (PC G L b S [.ref (b + 0)]) (QC G L b S (some (.int (f_X6_pivots S))) True) 0 0 (fun q => b ≤ q) := by
  refine x_met [.ref (b + 0)] (by decide +kernel) (Nat.le_of_ble_eq_true rfl) fun p e s m args below meth c C => ?_
  generalize h : f_X6_pivots S = rf
  unfold f_X6_pivots at h
  refine x_aload_n (pc := 0) C 0 dX6_pivots_0 rfl ?_
  refine x_getr (pc := 1) C (k := 0) 1 hO.1 rfl rfl wd_149 dX6_pivots_1 (Nat.le_of_ble_eq_true rfl) rfl ?_
  refine x_getr (pc := 4) C (k := 10) (1 + 17) hO.2.1.1 rfl rfl wd_76 dX6_pivots_4 (Nat.le_of_ble_eq_true rfl) rfl ?_
  refine x_geti (pc := 7) C (k := 2) hO.2.1.2.2.2.2.2.2.2.2.1.1 rfl rfl wd_49 dX6_pivots_7 ⟨Nat.le_of_ble_eq_true rfl, rfl⟩ ?_
  exact x_ireturn (pc := 10) C dX6_pivots_10 h rfl
set_option maxRecDepth 100000 in
set_option maxHeartbeats 4000000 in
theorem l_X4_pivotOf_4 {p : Program} {l : Launch} {e : Env} {s : State} {m : MethodId} {args : Array Value} {below : List Frame} {meth : Method} {c : Code} {G : zz_G} {L : Ly} {b : Nat} (C : CX p G s m args meth c cX4_pivotOf yX4_pivotOf 4 (some .int)) (o : Nat) (hO : isSp L o) (v1 : Int32) (S : Sg) (rf : Int32) : ∀ (n : Nat) (v2 : Int32) (v3 : Int32) {z}, L_X4_pivotOf_4 o v1 S n v2 v3 = some z → (∀ q, z = .inl q → q = rf) → (z = .inr () → X p l e (rmz 0 0) s m args below meth c 0 0 (RQ G L b S below args s (some (.int rf)) True) 4 G L b S 38 [] []) → X p l e (rmz 0 0) s m args below meth c 0 0 (RQ G L b S below args s (some (.int rf)) True) 4 G L b S 4 [(0, .ref (b + o)), (1, .int v1), (2, .int v2), (3, .int v3)] [] := by
  intro n
  induction n with
  | zero =>
    intro v2 v3 z h
    exact of_none h
  | succ n ih =>
    intro v2 v3 z h hr hx
    rw [L_X4_pivotOf_4] at h
    refine x_iload_n (pc := 4) C 3 dX4_pivotOf_4 rfl ?_
    refine x_bipush (pc := 5) C (v := (10 : Int32)) dX4_pivotOf_5 rfl ?_
    refine x_icmp_ge (pc := 7) C 38 dX4_pivotOf_7 rfl (fun c_1 => ?_) (fun c_1 => ?_)
    · replace h := of_ifn c_1 h
      exact x_sub [] rfl (hx (of_s1 h).symm)
    · replace h := of_ifp c_1 h
      refine x_aload_n (pc := 10) C 0 dX4_pivotOf_10 rfl ?_
      refine x_geti (pc := 11) C (k := 2) hO.1 rfl rfl wd_48 dX4_pivotOf_11 ⟨Nat.le_of_ble_eq_true rfl, rfl⟩ ?_
      refine x_iload_n (pc := 14) C 3 dX4_pivotOf_14 rfl ?_
      refine x_ishr (pc := 15) C dX4_pivotOf_15 ?_
      refine x_iconst (pc := 16) C (v := (1 : Int32)) dX4_pivotOf_16 rfl ?_
      refine x_iand (pc := 17) C dX4_pivotOf_17 ?_
      refine x_iconst (pc := 18) C (v := (1 : Int32)) dX4_pivotOf_18 rfl ?_
      refine x_icmp_ne (pc := 19) C 32 dX4_pivotOf_19 rfl (fun c_2 => ?_) (fun c_2 => ?_)
      · replace h := of_ifn c_2 h
        obtain ⟨v3_1, ev3_1, h⟩ := of_lt h
        refine x_iinc (pc := 32) C (w := (1 : Int32)) 3 [(3, .int v3_1), (0, .ref (b + o)), (1, .int v1), (2, .int v2)] dX4_pivotOf_32 rfl rfl (Nat.le_of_ble_eq_true rfl) ev3_1 rfl ?_
        refine x_goto (pc := 35) C 4 dX4_pivotOf_35 rfl ?_
        exact x_sub [1, 2, 3, 0] rfl (ih _ _ h hr hx)
      · replace h := of_ifp c_2 h
        refine x_iload_n (pc := 22) C 2 dX4_pivotOf_22 rfl ?_
        refine x_iload_n (pc := 23) C 1 dX4_pivotOf_23 rfl ?_
        refine x_icmp_ne (pc := 24) C 29 dX4_pivotOf_24 rfl (fun c_3 => ?_) (fun c_3 => ?_)
        · replace h := of_ifn c_3 h
          obtain ⟨v2_1, ev2_1, h⟩ := of_lt h
          refine x_iinc (pc := 29) C (w := (1 : Int32)) 2 [(2, .int v2_1), (0, .ref (b + o)), (1, .int v1), (3, .int v3)] dX4_pivotOf_29 rfl rfl (Nat.le_of_ble_eq_true rfl) ev2_1 rfl ?_
          obtain ⟨v3_2, ev3_2, h⟩ := of_lt h
          refine x_iinc (pc := 32) C (w := (1 : Int32)) 3 [(3, .int v3_2), (2, .int v2_1), (0, .ref (b + o)), (1, .int v1)] dX4_pivotOf_32 rfl rfl (Nat.le_of_ble_eq_true rfl) ev3_2 rfl ?_
          refine x_goto (pc := 35) C 4 dX4_pivotOf_35 rfl ?_
          exact x_sub [2, 3, 1, 0] rfl (ih _ _ h hr hx)
        · replace h := of_ifp c_3 h
          refine x_iload_n (pc := 27) C 3 dX4_pivotOf_27 rfl ?_
          have hq := hr _ (of_s1 h).symm
          exact x_ireturn (pc := 28) C dX4_pivotOf_28 hq rfl
set_option maxRecDepth 100000 in
set_option maxHeartbeats 4000000 in
theorem c_X4_pivotOf {l : Launch} {G : zz_G} {L : Ly} {b : Nat} (o : Nat) (p1 : Int32) (hO : isSp L o) (S : Sg) (rf : Int32) (h : f_X4_pivotOf o p1 S = some rf) : Met l yX4_pivotOf (Cond.code yX4_pivotOf cX4_pivotOf 4 (some .int) :: zz_all) (rmz 0 0) (PC G L b S [.ref (b + o), .int p1]) (QC G L b S (some (.int rf)) True) 0 0 (fun q => b ≤ q) := by
  refine x_met [.ref (b + o), .int p1] (by decide +kernel) (Nat.le_of_ble_eq_true rfl) fun p e s m args below meth c C => ?_
  unfold f_X4_pivotOf at h
  refine x_iconst (pc := 0) C (v := (0 : Int32)) dX4_pivotOf_0 rfl ?_
  refine x_istore_n (pc := 1) C 2 [(2, .int (0 : Int32)), (0, .ref (b + o)), (1, .int p1)] dX4_pivotOf_1 rfl (Nat.le_of_ble_eq_true rfl) rfl rfl ?_
  refine x_iconst (pc := 2) C (v := (0 : Int32)) dX4_pivotOf_2 rfl ?_
  refine x_istore_n (pc := 3) C 3 [(3, .int (0 : Int32)), (2, .int (0 : Int32)), (0, .ref (b + o)), (1, .int p1)] dX4_pivotOf_3 rfl (Nat.le_of_ble_eq_true rfl) rfl rfl ?_
  refine x_sub [2, 3, 1, 0] rfl ?_
  obtain ⟨z_hz_1, hz_1, hl, hrr⟩ := of_bs h
  refine l_X4_pivotOf_4 C o hO p1 S rf 400 _ _ hz_1 (fun q ez => of_s1 (hl _ ez)) (fun ez => ?_)
  replace h := hrr _ ez
  clear hl hrr
  refine x_bipush (pc := 38) C (v := (-9 : Int32)) dX4_pivotOf_38 rfl ?_
  exact x_ireturn (pc := 40) C dX4_pivotOf_40 (of_s1 h) rfl
set_option maxRecDepth 100000 in
set_option maxHeartbeats 4000000 in
theorem l_X6_greatestDivisor_9 {p : Program} {l : Launch} {e : Env} {s : State} {m : MethodId} {args : Array Value} {below : List Frame} {meth : Method} {c : Code} {G : zz_G} {L : Ly} {b : Nat} {Q : State → Prop} (C : CX p G s m args meth c cX6_greatestDivisor yX6_greatestDivisor 11 (some .long)) (S : Sg) : ∀ (n : Nat) (v4 : Int64) (v6 : Int64) (v8 : Int32) {z}, L_X6_greatestDivisor_9 n v4 v6 v8 = some z → (∀ (v4_o : Int64), z = v4_o → X p l e (rmz 0 0) s m args below meth c 0 0 Q 11 G L b S 45 [(4, .long v4_o)] []) → X p l e (rmz 0 0) s m args below meth c 0 0 Q 11 G L b S 9 [(4, .long v4), (6, .long v6), (8, .int v8)] [] := by
  intro n
  induction n with
  | zero =>
    intro v4 v6 v8 z h
    exact of_none h
  | succ n ih =>
    intro v4 v6 v8 z h hx
    rw [L_X6_greatestDivisor_9] at h
    refine x_iload (pc := 9) C 2 dX6_greatestDivisor_9 rfl ?_
    refine x_sipush (pc := 11) C (v := (200 : Int32)) dX6_greatestDivisor_11 rfl ?_
    refine x_icmp_ge (pc := 14) C 45 dX6_greatestDivisor_14 rfl (fun c_1 => ?_) (fun c_1 => ?_)
    · replace h := of_ifn c_1 h
      exact x_sub [0] rfl (hx _ (of_s1 h).symm)
    · replace h := of_ifp c_1 h
      refine x_lload (pc := 17) C 1 dX6_greatestDivisor_17 rfl ?_
      refine x_lconst (pc := 19) C (v := (0 : Int64)) dX6_greatestDivisor_19 rfl ?_
      refine x_lcmp_eq (pc := 20) C 45 dX6_greatestDivisor_20 dX6_greatestDivisor_21 rfl (fun c_2 => ?_) (fun c_2 => ?_)
      · replace h := of_ifp c_2 h
        exact x_sub [0] rfl (hx _ (of_s1 h).symm)
      · replace h := of_ifn c_2 h
        refine x_lload (pc := 24) C 0 dX6_greatestDivisor_24 rfl ?_
        refine x_lload (pc := 26) C 1 dX6_greatestDivisor_26 rfl ?_
        obtain ⟨g_1, h⟩ := of_gd h
        refine x_lrem (pc := 28) C dX6_greatestDivisor_28 g_1 ?_
        obtain ⟨v9_1, ev9_1, h⟩ := of_lt h
        refine x_lstore (pc := 29) C [(9, .long v9_1), (4, .long v4), (6, .long v6), (8, .int v8)] dX6_greatestDivisor_29 (Nat.le_of_ble_eq_true rfl) ev9_1 rfl ?_
        refine x_lload (pc := 31) C 2 dX6_greatestDivisor_31 rfl ?_
        refine x_lstore (pc := 33) C [(4, .long v6), (9, .long v9_1), (6, .long v6), (8, .int v8)] dX6_greatestDivisor_33 (Nat.le_of_ble_eq_true rfl) rfl rfl ?_
        refine x_lload (pc := 35) C 1 dX6_greatestDivisor_35 rfl ?_
        refine x_lstore (pc := 37) C [(6, .long v9_1), (4, .long v6), (9, .long v9_1), (8, .int v8)] dX6_greatestDivisor_37 (Nat.le_of_ble_eq_true rfl) rfl rfl ?_
        obtain ⟨v8_1, ev8_1, h⟩ := of_lt h
        refine x_iinc (pc := 39) C (w := (1 : Int32)) 3 [(8, .int v8_1), (6, .long v9_1), (4, .long v6), (9, .long v9_1)] dX6_greatestDivisor_39 rfl rfl (Nat.le_of_ble_eq_true rfl) ev8_1 rfl ?_
        refine x_goto (pc := 42) C 9 dX6_greatestDivisor_42 rfl ?_
        exact x_sub [2, 1, 0] rfl (ih _ _ _ h hx)
set_option maxRecDepth 100000 in
set_option maxHeartbeats 4000000 in
theorem c_X6_greatestDivisor {l : Launch} {G : zz_G} {L : Ly} {b : Nat} (p0 : Int64) (p1 : Int64) (S : Sg) (rf : Int64) (h : f_X6_greatestDivisor p0 p1 = some rf) : Met l yX6_greatestDivisor (Cond.code yX6_greatestDivisor cX6_greatestDivisor 11 (some .long) :: zz_all) (rmz 0 0) (PC G L b S [.long p0, .long p1]) (QC G L b S (some (.long rf)) True) 0 0 (fun q => b ≤ q) := by
  refine x_met [.long p0, .long p1] (by decide +kernel) (Nat.le_of_ble_eq_true rfl) fun p e s m args below meth c C => ?_
  unfold f_X6_greatestDivisor at h
  refine x_lload_n (pc := 0) C 0 dX6_greatestDivisor_0 rfl ?_
  refine x_lstore (pc := 1) C [(4, .long p0), (0, .long p0), (2, .long p1)] dX6_greatestDivisor_1 (Nat.le_of_ble_eq_true rfl) rfl rfl ?_
  refine x_lload_n (pc := 3) C 2 dX6_greatestDivisor_3 rfl ?_
  refine x_lstore (pc := 4) C [(6, .long p1), (4, .long p0), (0, .long p0), (2, .long p1)] dX6_greatestDivisor_4 (Nat.le_of_ble_eq_true rfl) rfl rfl ?_
  refine x_iconst (pc := 6) C (v := (0 : Int32)) dX6_greatestDivisor_6 rfl ?_
  refine x_istore (pc := 7) C [(8, .int (0 : Int32)), (6, .long p1), (4, .long p0), (0, .long p0), (2, .long p1)] dX6_greatestDivisor_7 (Nat.le_of_ble_eq_true rfl) rfl rfl ?_
  refine x_sub [2, 1, 0] rfl ?_
  obtain ⟨z_hz_1, hz_1, h⟩ := of_bd h
  refine l_X6_greatestDivisor_9 C S 400 _ _ _ hz_1 (fun v4_1 ez => ?_)
  subst z_hz_1
  refine x_lload (pc := 45) C 0 dX6_greatestDivisor_45 rfl ?_
  exact x_lreturn (pc := 47) C dX6_greatestDivisor_47 (of_s1 h) rfl
set_option maxRecDepth 100000 in
set_option maxHeartbeats 4000000 in
theorem c_X6_partInLeastTerms {l : Launch} {G : zz_G} {L : Ly} {b : Nat} (p0 : Int64) (p1 : Int64) (p2 : Int32) (S : Sg) (rf : Int64) (h : f_X6_partInLeastTerms p0 p1 p2 = some rf) : Met l yX6_partInLeastTerms (Cond.code yX6_partInLeastTerms cX6_partInLeastTerms 9 (some .long) :: zz_all) (rmz 1 30) (PC G L b S [.long p0, .long p1, .int p2]) (QC G L b S (some (.long rf)) True) 0 0 (fun q => b ≤ q) := by
  refine x_met [.long p0, .long p1, .int p2] (by decide +kernel) (Nat.le_of_ble_eq_true rfl) fun p e s m args below meth c C => ?_
  unfold f_X6_partInLeastTerms at h
  refine x_lload_n (pc := 0) C 0 dX6_partInLeastTerms_0 rfl ?_
  refine x_callS1 (pc := 1) C [.long p0] [] (c_J9_abs_067f4 (b := b) p0 S) cw_X6_287 vs_J9_abs_067f4 ⟨rfl, rfl, Nat.le_of_ble_eq_true rfl, Nat.le_of_ble_eq_true rfl⟩ ⟨Nat.le_refl _, Nat.le_refl _⟩ rfl ⟨rfl, Nat.le_of_ble_eq_true rfl⟩ dX6_partInLeastTerms_1 (fun hx_1 => ?_)
  refine x_lload_n (pc := 4) C 1 dX6_partInLeastTerms_4 rfl ?_
  refine x_callS1 (pc := 5) C [.long p1] [.long (f_J9_abs_067f4 p0)] (c_J9_abs_067f4 (b := b) p1 S) cw_X6_287 vs_J9_abs_067f4 ⟨rfl, rfl, Nat.le_of_ble_eq_true rfl, Nat.le_of_ble_eq_true rfl⟩ ⟨Nat.le_refl _, Nat.le_refl _⟩ rfl ⟨rfl, Nat.le_of_ble_eq_true rfl⟩ dX6_partInLeastTerms_5 (fun hx_2 => ?_)
  obtain ⟨r_1, hc_1, h⟩ := of_bd h
  refine x_callS1 (pc := 8) C [.long (f_J9_abs_067f4 p0), .long (f_J9_abs_067f4 p1)] [] (c_X6_greatestDivisor (b := b) (f_J9_abs_067f4 p0) (f_J9_abs_067f4 p1) S _ hc_1) cw_X6_291 vs_X6_greatestDivisor ⟨rfl, rfl, Nat.le_of_ble_eq_true rfl, Nat.le_of_ble_eq_true rfl⟩ ⟨Nat.le_refl _, Nat.le_refl _⟩ rfl ⟨rfl, Nat.le_of_ble_eq_true rfl⟩ dX6_partInLeastTerms_8 (fun hx_3 => ?_)
  refine x_lstore (pc := 11) C [(5, .long r_1), (0, .long p0), (2, .long p1), (4, .int p2)] dX6_partInLeastTerms_11 (Nat.le_of_ble_eq_true rfl) rfl rfl ?_
  refine x_lload_n (pc := 13) C 1 dX6_partInLeastTerms_13 rfl ?_
  refine x_lconst (pc := 14) C (v := (0 : Int64)) dX6_partInLeastTerms_14 rfl ?_
  obtain ⟨J_1, eJ_1, h⟩ := of_lt h
  have kJ_1 : ∀ (_ : Unit), J_1 () = some rf → X p l e (rmz 1 30) s m args below meth c 0 0 (RQ G L b S below args s (some (.long rf)) True) 9 G L b S 32 [(4, .int p2)] [] := by
    intro _ h
    replace h := of_J1 eJ_1 h
    refine x_iload (pc := 32) C 0 dX6_partInLeastTerms_32 rfl ?_
    obtain ⟨x_1, ex_1, h⟩ := of_lt h
    have kd_1 : X p l e (rmz 1 30) s m args below meth c 0 0 (RQ G L b S below args s (some (.long rf)) True) 9 G L b S 42 [] [.long x_1] := by
      exact x_lreturn (pc := 42) C dX6_partInLeastTerms_42 (of_s1 h) rfl
    refine x_if_ne (pc := 34) C 41 dX6_partInLeastTerms_34 rfl (fun c_1 => ?_) (fun c_1 => ?_)
    · refine x_lconst (pc := 41) C (v := (1 : Int64)) dX6_partInLeastTerms_41 rfl ?_
      refine x_sub [] rfl ?_
      rw [show x_1 = (1 : Int64) from (ex_1.trans (if_neg c_1))] at kd_1
      exact kd_1
    · refine x_lconst (pc := 37) C (v := (0 : Int64)) dX6_partInLeastTerms_37 rfl ?_
      refine x_goto (pc := 38) C 42 dX6_partInLeastTerms_38 rfl ?_
      refine x_sub [] rfl ?_
      rw [show x_1 = (0 : Int64) from (ex_1.trans (if_pos c_1))] at kd_1
      exact kd_1
  refine x_lcmp_eq (pc := 15) C 32 dX6_partInLeastTerms_15 dX6_partInLeastTerms_16 rfl (fun c_2 => ?_) (fun c_2 => ?_)
  · replace h := of_ifp c_2 h
    exact x_sub [3] rfl (kJ_1 () h)
  · replace h := of_ifn c_2 h
    refine x_lload_n (pc := 19) C 2 dX6_partInLeastTerms_19 rfl ?_
    refine x_lconst (pc := 20) C (v := (0 : Int64)) dX6_partInLeastTerms_20 rfl ?_
    refine x_lcmp_eq (pc := 21) C 32 dX6_partInLeastTerms_21 dX6_partInLeastTerms_22 rfl (fun c_3 => ?_) (fun c_3 => ?_)
    · replace h := of_ifp c_3 h
      exact x_sub [3] rfl (kJ_1 () h)
    · replace h := of_ifn c_3 h
      refine x_lload (pc := 25) C 0 dX6_partInLeastTerms_25 rfl ?_
      refine x_lconst (pc := 27) C (v := (0 : Int64)) dX6_partInLeastTerms_27 rfl ?_
      refine x_lcmp_ne (pc := 28) C 43 dX6_partInLeastTerms_28 dX6_partInLeastTerms_29 rfl (fun c_4 => ?_) (fun c_4 => ?_)
      · replace h := of_ifn c_4 h
        refine x_lload_n (pc := 43) C 2 dX6_partInLeastTerms_43 rfl ?_
        refine x_lconst (pc := 44) C (v := (0 : Int64)) dX6_partInLeastTerms_44 rfl ?_
        obtain ⟨x_2, ex_2, h⟩ := of_lt h
        have kd_2 : X p l e (rmz 1 30) s m args below meth c 0 0 (RQ G L b S below args s (some (.long rf)) True) 9 G L b S 57 [(0, .long p0), (2, .long p1), (4, .int p2)] [.long x_2] := by
          refine x_lstore (pc := 57) C [(7, .long x_2), (0, .long p0), (2, .long p1), (4, .int p2)] dX6_partInLeastTerms_57 (Nat.le_of_ble_eq_true rfl) rfl rfl ?_
          refine x_iload (pc := 59) C 3 dX6_partInLeastTerms_59 rfl ?_
          obtain ⟨x_3, ex_3, h⟩ := of_lt h
          have kd_3 : X p l e (rmz 1 30) s m args below meth c 0 0 (RQ G L b S below args s (some (.long rf)) True) 9 G L b S 69 [(7, .long x_2)] [.long x_3] := by
            refine x_lload (pc := 69) C 0 dX6_partInLeastTerms_69 rfl ?_
            obtain ⟨g_1, h⟩ := of_gd h
            refine x_ldiv (pc := 71) C dX6_partInLeastTerms_71 g_1 ?_
            exact x_lreturn (pc := 72) C dX6_partInLeastTerms_72 (of_s1 h) rfl
          refine x_if_ne (pc := 61) C 68 dX6_partInLeastTerms_61 rfl (fun c_5 => ?_) (fun c_5 => ?_)
          · refine x_lload_n (pc := 68) C 2 dX6_partInLeastTerms_68 rfl ?_
            refine x_sub [0] rfl ?_
            rw [show x_3 = p1 from (ex_3.trans (if_neg c_5))] at kd_3
            exact kd_3
          · refine x_lload_n (pc := 64) C 1 dX6_partInLeastTerms_64 rfl ?_
            refine x_goto (pc := 65) C 69 dX6_partInLeastTerms_65 rfl ?_
            refine x_sub [0] rfl ?_
            rw [show x_3 = p0 from (ex_3.trans (if_pos c_5))] at kd_3
            exact kd_3
        refine x_lcmp_ge (pc := 45) C 55 dX6_partInLeastTerms_45 dX6_partInLeastTerms_46 rfl (fun c_6 => ?_) (fun c_6 => ?_)
        · refine x_lload (pc := 55) C 0 dX6_partInLeastTerms_55 rfl ?_
          refine x_sub [1, 2, 3] rfl ?_
          rw [show x_2 = r_1 from (ex_2.trans (if_neg c_6))] at kd_2
          exact kd_2
        · refine x_lload (pc := 49) C 0 dX6_partInLeastTerms_49 rfl ?_
          refine x_lneg (pc := 51) C dX6_partInLeastTerms_51 ?_
          refine x_goto (pc := 52) C 57 dX6_partInLeastTerms_52 rfl ?_
          refine x_sub [1, 2, 3] rfl ?_
          rw [show x_2 = (-r_1) from (ex_2.trans (if_pos c_6))] at kd_2
          exact kd_2
      · replace h := of_ifp c_4 h
        exact x_sub [3] rfl (kJ_1 () h)
set_option maxRecDepth 100000 in
set_option maxHeartbeats 4000000 in
theorem c_X4_reducedPart {l : Launch} {G : zz_G} {L : Ly} {b : Nat} (o : Nat) (p1 : Int32) (p2 : Int32) (p3 : Int32) (hO : isSp L o) (S : Sg) (rf : Int64) (h : f_X4_reducedPart o p1 p2 p3 S = some rf) : Met l yX4_reducedPart (Cond.code yX4_reducedPart cX4_reducedPart 5 (some .long) :: zz_all) (rmz 2 58) (PC G L b S [.ref (b + o), .int p1, .int p2, .int p3]) (QC G L b S (some (.long rf)) True) 0 0 (fun q => b ≤ q) := by
  refine x_met [.ref (b + o), .int p1, .int p2, .int p3] (by decide +kernel) (Nat.le_of_ble_eq_true rfl) fun p e s m args below meth c C => ?_
  unfold f_X4_reducedPart at h
  refine x_aload_n (pc := 0) C 0 dX4_reducedPart_0 rfl ?_
  refine x_iload_n (pc := 1) C 1 dX4_reducedPart_1 rfl ?_
  obtain ⟨r_1, hc_1, h⟩ := of_bd h
  refine x_callV1 (pc := 2) C (o := o) [.int p1] [] (c_X4_pivotOf (b := b) o p1 hO S _ hc_1) cw_X4_42 vi_X4_pivotOf ⟨rfl, rfl, Nat.le_of_ble_eq_true rfl, Nat.le_of_ble_eq_true rfl⟩ ⟨Nat.le_refl _, Nat.le_refl _⟩ hO.1 ⟨rfl, rfl, rfl⟩ rfl ⟨rfl, Nat.le_of_ble_eq_true rfl⟩ dX4_reducedPart_2 (fun hx_1 => ?_)
  refine x_istore (pc := 5) C [(4, .int r_1), (0, .ref (b + o)), (1, .int p1), (2, .int p2), (3, .int p3)] dX4_reducedPart_5 (Nat.le_of_ble_eq_true rfl) rfl rfl ?_
  refine x_iload (pc := 7) C 0 dX4_reducedPart_7 rfl ?_
  refine x_bipush (pc := 9) C (v := (10 : Int32)) dX4_reducedPart_9 rfl ?_
  refine x_callSN1 (pc := 11) C [.int r_1, .int (10 : Int32)] [] (c_X6_isWithin (b := b) r_1 (10 : Int32) S) cn_X4_34 vs_X6_isWithin ⟨rfl, rfl, Nat.le_of_ble_eq_true rfl, Nat.le_of_ble_eq_true rfl⟩ ⟨Nat.le_refl _, Nat.le_refl _⟩ rfl ⟨rfl, Nat.le_of_ble_eq_true rfl⟩ dX4_reducedPart_11 (fun hx_2 => ?_)
  refine x_if_eq (pc := 14) C 26 dX4_reducedPart_14 rfl (fun c_1 => ?_) (fun c_1 => ?_)
  · replace h := of_ifp c_1 h
    refine x_lconst (pc := 26) C (v := (0 : Int64)) dX4_reducedPart_26 rfl ?_
    exact x_lreturn (pc := 27) C dX4_reducedPart_27 (of_s1 h) rfl
  · replace h := of_ifn c_1 h
    refine x_iload_n (pc := 17) C 3 dX4_reducedPart_17 rfl ?_
    refine x_bipush (pc := 18) C (v := (10 : Int32)) dX4_reducedPart_18 rfl ?_
    refine x_callSN1 (pc := 20) C [.int p2, .int (10 : Int32)] [] (c_X6_isWithin (b := b) p2 (10 : Int32) S) cn_X4_34 vs_X6_isWithin ⟨rfl, rfl, Nat.le_of_ble_eq_true rfl, Nat.le_of_ble_eq_true rfl⟩ ⟨Nat.le_refl _, Nat.le_refl _⟩ rfl ⟨rfl, Nat.le_of_ble_eq_true rfl⟩ dX4_reducedPart_20 (fun hx_3 => ?_)
    refine x_if_ne (pc := 23) C 28 dX4_reducedPart_23 rfl (fun c_2 => ?_) (fun c_2 => ?_)
    · replace h := of_ifn c_2 h
      refine x_aload_n (pc := 28) C 1 dX4_reducedPart_28 rfl ?_
      refine x_geti (pc := 29) C (k := 2) hO.1 rfl rfl wd_48 dX4_reducedPart_29 ⟨Nat.le_of_ble_eq_true rfl, rfl⟩ ?_
      refine x_iload_n (pc := 32) C 3 dX4_reducedPart_32 rfl ?_
      refine x_ishr (pc := 33) C dX4_reducedPart_33 ?_
      refine x_iconst (pc := 34) C (v := (1 : Int32)) dX4_reducedPart_34 rfl ?_
      refine x_iand (pc := 35) C dX4_reducedPart_35 ?_
      refine x_iconst (pc := 36) C (v := (1 : Int32)) dX4_reducedPart_36 rfl ?_
      refine x_icmp_ne (pc := 37) C 61 dX4_reducedPart_37 rfl (fun c_3 => ?_) (fun c_3 => ?_)
      · replace h := of_ifn c_3 h
        refine x_aload_n (pc := 61) C 1 dX4_reducedPart_61 rfl ?_
        refine x_getr (pc := 62) C (k := 0) (o + 1) hO.1 rfl rfl wd_46 dX4_reducedPart_62 (Nat.le_of_ble_eq_true rfl) rfl ?_
        refine x_iload (pc := 65) C 0 dX4_reducedPart_65 rfl ?_
        obtain ⟨g_1, h⟩ := of_gd h
        refine x_aaloadJ (pc := 67) C hO.2.1 g_1 dX4_reducedPart_67 ?_
        refine x_iload_n (pc := 68) C 3 dX4_reducedPart_68 rfl ?_
        obtain ⟨g_2, h⟩ := of_gd h
        refine x_laload (pc := 69) C (hO.2.2 _ (inb_lt (i := r_1) g_1)) g_2 dX4_reducedPart_69 ?_
        refine x_lneg (pc := 70) C dX4_reducedPart_70 ?_
        refine x_aload_n (pc := 71) C 1 dX4_reducedPart_71 rfl ?_
        refine x_getj (pc := 72) C (k := 1) hO.1 rfl rfl wd_47 dX4_reducedPart_72 ⟨Nat.le_of_ble_eq_true rfl, rfl⟩ ?_
        refine x_iload_n (pc := 75) C 4 dX4_reducedPart_75 rfl ?_
        obtain ⟨r_2, hc_2, h⟩ := of_bd h
        refine x_callSN1 (pc := 76) C [.long (-(S.2 ((o + 2) + ix r_1) (ix p2))), .long (S.2 o 1), .int p3] [] (c_X6_partInLeastTerms (b := b) (-(S.2 ((o + 2) + ix r_1) (ix p2))) (S.2 o 1) p3 S _ hc_2) cn_X4_50 vs_X6_partInLeastTerms ⟨rfl, rfl, Nat.le_of_ble_eq_true rfl, Nat.le_of_ble_eq_true rfl⟩ ⟨Nat.le_refl _, Nat.le_refl _⟩ rfl ⟨rfl, Nat.le_of_ble_eq_true rfl⟩ dX4_reducedPart_76 (fun hx_4 => ?_)
        exact x_lreturn (pc := 79) C dX4_reducedPart_79 (of_s1 h) rfl
      · replace h := of_ifp c_3 h
        refine x_iload_n (pc := 40) C 3 dX4_reducedPart_40 rfl ?_
        refine x_iload (pc := 41) C 0 dX4_reducedPart_41 rfl ?_
        obtain ⟨x_1, ex_1, h⟩ := of_lt h
        have kd_1 : X p l e (rmz 2 58) s m args below meth c 0 0 (RQ G L b S below args s (some (.long rf)) True) 5 G L b S 51 [(3, .int p3)] [.int x_1] := by
          refine x_callSN1 (pc := 51) C [.int x_1] [] (c_X6_asNumber (b := b) x_1 S) cn_X4_46 vs_X6_asNumber ⟨rfl, rfl, Nat.le_of_ble_eq_true rfl, Nat.le_of_ble_eq_true rfl⟩ ⟨Nat.le_refl _, Nat.le_refl _⟩ rfl ⟨rfl, Nat.le_of_ble_eq_true rfl⟩ dX4_reducedPart_51 (fun hx_5 => ?_)
          refine x_i2l (pc := 54) C dX4_reducedPart_54 ?_
          refine x_lconst (pc := 55) C (v := (1 : Int64)) dX4_reducedPart_55 rfl ?_
          refine x_iload_n (pc := 56) C 0 dX4_reducedPart_56 rfl ?_
          obtain ⟨r_3, hc_3, h⟩ := of_bd h
          refine x_callSN1 (pc := 57) C [.long (f_X6_asNumber x_1).toInt64, .long (1 : Int64), .int p3] [] (c_X6_partInLeastTerms (b := b) ((f_X6_asNumber x_1).toInt64) (1 : Int64) p3 S _ hc_3) cn_X4_50 vs_X6_partInLeastTerms ⟨rfl, rfl, Nat.le_of_ble_eq_true rfl, Nat.le_of_ble_eq_true rfl⟩ ⟨Nat.le_refl _, Nat.le_refl _⟩ rfl ⟨rfl, Nat.le_of_ble_eq_true rfl⟩ dX4_reducedPart_57 (fun hx_6 => ?_)
          exact x_lreturn (pc := 60) C dX4_reducedPart_60 (of_s1 h) rfl
        refine x_icmp_ne (pc := 43) C 50 dX4_reducedPart_43 rfl (fun c_4 => ?_) (fun c_4 => ?_)
        · refine x_iconst (pc := 50) C (v := (0 : Int32)) dX4_reducedPart_50 rfl ?_
          refine x_sub [4] rfl ?_
          rw [show x_1 = (0 : Int32) from (ex_1.trans (if_neg c_4))] at kd_1
          exact kd_1
        · refine x_iconst (pc := 46) C (v := (1 : Int32)) dX4_reducedPart_46 rfl ?_
          refine x_goto (pc := 47) C 51 dX4_reducedPart_47 rfl ?_
          refine x_sub [4] rfl ?_
          rw [show x_1 = (1 : Int32) from (ex_1.trans (if_pos c_4))] at kd_1
          exact kd_1
    · replace h := of_ifp c_2 h
      refine x_lconst (pc := 26) C (v := (0 : Int64)) dX4_reducedPart_26 rfl ?_
      exact x_lreturn (pc := 27) C dX4_reducedPart_27 (of_s1 h) rfl
end
section
set_option maxRecDepth 100000 in
set_option maxHeartbeats 4000000 in
theorem c_X6_reduced {l : Launch} {G : zz_G} {L : Ly} {b : Nat} (p1 : Int32) (p2 : Int32) (p3 : Int32) (hO : isGu L) (S : Sg) (rf : Int64) (Sf : Sg) (h : f_X6_reduced p1 p2 p3 S = some (rf, Sf)) : Met l yX6_reduced (Cond.code yX6_reduced cX6_reduced 4 (some .long) :: zz_all) (rmz 3 82) (PC G L b S [.ref (b + 0), .int p1, .int p2, .int p3]) (QC G L b Sf (some (.long rf)) True) 0 0 (fun q => b ≤ q) := by
  refine x_met [.ref (b + 0), .int p1, .int p2, .int p3] (by decide +kernel) (Nat.le_of_ble_eq_true rfl) fun p e s m args below meth c C => ?_
  unfold f_X6_reduced at h
  refine x_iload_n (pc := 0) C 1 dX6_reduced_0 rfl ?_
  refine x_aload_n (pc := 1) C 0 dX6_reduced_1 rfl ?_
  refine x_getr (pc := 2) C (k := 0) 1 hO.1 rfl rfl wd_149 dX6_reduced_2 (Nat.le_of_ble_eq_true rfl) rfl ?_
  refine x_geti (pc := 5) C (k := 9) hO.2.1.1 rfl rfl wd_74 dX6_reduced_5 ⟨Nat.le_of_ble_eq_true rfl, rfl⟩ ?_
  refine x_callS1 (pc := 8) C [.int p1, .int (S.1 1 9)] [] (c_X6_isWithin (b := b) p1 (S.1 1 9) S) cw_X6_69 vs_X6_isWithin ⟨rfl, rfl, Nat.le_of_ble_eq_true rfl, Nat.le_of_ble_eq_true rfl⟩ ⟨Nat.le_refl _, Nat.le_refl _⟩ rfl ⟨rfl, Nat.le_of_ble_eq_true rfl⟩ dX6_reduced_8 (fun hx_1 => ?_)
  refine x_if_eq (pc := 11) C 25 dX6_reduced_11 rfl (fun c_1 => ?_) (fun c_1 => ?_)
  · replace h := of_ifp c_1 h
    refine x_ldc2 (pc := 25) C wd_379 dX6_reduced_25 ?_
    refine x_aload_n (pc := 28) C 0 dX6_reduced_28 rfl ?_
    refine x_iconst (pc := 29) C (v := (-1 : Int32)) dX6_reduced_29 rfl ?_
    obtain ⟨⟨r_1, S_1⟩, hc_1, h⟩ := of_bd h
    replace h := of_u2 h
    refine x_callV1 (pc := 30) C (o := 0) [.int (-1 : Int32)] [.long (4000000000000000000 : Int64)] (c_X6_refuse (b := b) (-1 : Int32) hO S _ _ hc_1) cw_X6_73 vi_X6_refuse ⟨rfl, rfl, Nat.le_of_ble_eq_true rfl, Nat.le_of_ble_eq_true rfl⟩ ⟨Nat.le_refl _, Nat.le_refl _⟩ hO.1 ⟨rfl, rfl, rfl⟩ rfl ⟨rfl, Nat.le_of_ble_eq_true rfl⟩ dX6_reduced_30 (fun hx_2 => ?_)
    refine x_i2l (pc := 33) C dX6_reduced_33 ?_
    refine x_lsub (pc := 34) C dX6_reduced_34 ?_
    exact x_lreturn (pc := 35) C dX6_reduced_35 (of_sp h).1 (of_sp h).2
  · replace h := of_ifn c_1 h
    refine x_aload_n (pc := 14) C 0 dX6_reduced_14 rfl ?_
    refine x_getr (pc := 15) C (k := 0) 1 hO.1 rfl rfl wd_149 dX6_reduced_15 (Nat.le_of_ble_eq_true rfl) rfl ?_
    refine x_iload_n (pc := 18) C 2 dX6_reduced_18 rfl ?_
    refine x_callV1 (pc := 19) C (o := 1) [.int p2] [] (c_X5_has (b := b) 1 p2 hO.2.1 S) cw_X6_91 vi_X5_has ⟨rfl, rfl, Nat.le_of_ble_eq_true rfl, Nat.le_of_ble_eq_true rfl⟩ ⟨Nat.le_refl _, Nat.le_refl _⟩ hO.2.1.1 ⟨rfl, rfl, rfl⟩ rfl ⟨rfl, Nat.le_of_ble_eq_true rfl⟩ dX6_reduced_19 (fun hx_3 => ?_)
    refine x_if_ne (pc := 22) C 36 dX6_reduced_22 rfl (fun c_2 => ?_) (fun c_2 => ?_)
    · replace h := of_ifn c_2 h
      refine x_iload_n (pc := 36) C 3 dX6_reduced_36 rfl ?_
      refine x_iconst (pc := 37) C (v := (2 : Int32)) dX6_reduced_37 rfl ?_
      refine x_callS1 (pc := 38) C [.int p3, .int (2 : Int32)] [] (c_X6_isWithin (b := b) p3 (2 : Int32) S) cw_X6_69 vs_X6_isWithin ⟨rfl, rfl, Nat.le_of_ble_eq_true rfl, Nat.le_of_ble_eq_true rfl⟩ ⟨Nat.le_refl _, Nat.le_refl _⟩ rfl ⟨rfl, Nat.le_of_ble_eq_true rfl⟩ dX6_reduced_38 (fun hx_4 => ?_)
      refine x_if_ne (pc := 41) C 56 dX6_reduced_41 rfl (fun c_3 => ?_) (fun c_3 => ?_)
      · replace h := of_ifn c_3 h
        refine x_aload_n (pc := 56) C 0 dX6_reduced_56 rfl ?_
        refine x_getr (pc := 57) C (k := 0) 1 hO.1 rfl rfl wd_149 dX6_reduced_57 (Nat.le_of_ble_eq_true rfl) rfl ?_
        refine x_getr (pc := 60) C (k := 10) (1 + 17) hO.2.1.1 rfl rfl wd_76 dX6_reduced_60 (Nat.le_of_ble_eq_true rfl) rfl ?_
        refine x_iload_n (pc := 63) C 1 dX6_reduced_63 rfl ?_
        refine x_iload_n (pc := 64) C 2 dX6_reduced_64 rfl ?_
        refine x_iload_n (pc := 65) C 3 dX6_reduced_65 rfl ?_
        obtain ⟨r_2, hc_2, h⟩ := of_bd h
        refine x_callV1 (pc := 66) C (o := (1 + 17)) [.int p1, .int p2, .int p3] [] (c_X4_reducedPart (b := b) (1 + 17) p1 p2 p3 hO.2.1.2.2.2.2.2.2.2.2.1 S _ hc_2) cw_X6_191 vi_X4_reducedPart ⟨rfl, rfl, Nat.le_of_ble_eq_true rfl, Nat.le_of_ble_eq_true rfl⟩ ⟨Nat.le_refl _, Nat.le_refl _⟩ hO.2.1.2.2.2.2.2.2.2.2.1.1 ⟨rfl, rfl, rfl⟩ rfl ⟨rfl, Nat.le_of_ble_eq_true rfl⟩ dX6_reduced_66 (fun hx_5 => ?_)
        exact x_lreturn (pc := 69) C dX6_reduced_69 (of_sp h).1 (of_sp h).2
      · replace h := of_ifp c_3 h
        refine x_ldc2 (pc := 44) C wd_379 dX6_reduced_44 ?_
        refine x_aload_n (pc := 47) C 0 dX6_reduced_47 rfl ?_
        refine x_bipush (pc := 48) C (v := (-2 : Int32)) dX6_reduced_48 rfl ?_
        obtain ⟨⟨r_3, S_2⟩, hc_3, h⟩ := of_bd h
        replace h := of_u2 h
        refine x_callV1 (pc := 50) C (o := 0) [.int (-2 : Int32)] [.long (4000000000000000000 : Int64)] (c_X6_refuse (b := b) (-2 : Int32) hO S _ _ hc_3) cw_X6_73 vi_X6_refuse ⟨rfl, rfl, Nat.le_of_ble_eq_true rfl, Nat.le_of_ble_eq_true rfl⟩ ⟨Nat.le_refl _, Nat.le_refl _⟩ hO.1 ⟨rfl, rfl, rfl⟩ rfl ⟨rfl, Nat.le_of_ble_eq_true rfl⟩ dX6_reduced_50 (fun hx_6 => ?_)
        refine x_i2l (pc := 53) C dX6_reduced_53 ?_
        refine x_lsub (pc := 54) C dX6_reduced_54 ?_
        exact x_lreturn (pc := 55) C dX6_reduced_55 (of_sp h).1 (of_sp h).2
    · replace h := of_ifp c_2 h
      refine x_ldc2 (pc := 25) C wd_379 dX6_reduced_25 ?_
      refine x_aload_n (pc := 28) C 0 dX6_reduced_28 rfl ?_
      refine x_iconst (pc := 29) C (v := (-1 : Int32)) dX6_reduced_29 rfl ?_
      obtain ⟨⟨r_4, S_3⟩, hc_4, h⟩ := of_bd h
      replace h := of_u2 h
      refine x_callV1 (pc := 30) C (o := 0) [.int (-1 : Int32)] [.long (4000000000000000000 : Int64)] (c_X6_refuse (b := b) (-1 : Int32) hO S _ _ hc_4) cw_X6_73 vi_X6_refuse ⟨rfl, rfl, Nat.le_of_ble_eq_true rfl, Nat.le_of_ble_eq_true rfl⟩ ⟨Nat.le_refl _, Nat.le_refl _⟩ hO.1 ⟨rfl, rfl, rfl⟩ rfl ⟨rfl, Nat.le_of_ble_eq_true rfl⟩ dX6_reduced_30 (fun hx_7 => ?_)
      refine x_i2l (pc := 33) C dX6_reduced_33 ?_
      refine x_lsub (pc := 34) C dX6_reduced_34 ?_
      exact x_lreturn (pc := 35) C dX6_reduced_35 (of_sp h).1 (of_sp h).2
set_option maxRecDepth 100000 in
set_option maxHeartbeats 4000000 in
theorem c_X6_meetingOfSum {l : Launch} {G : zz_G} {L : Ly} {b : Nat} (o1 : Nat) (p2 : Int32) (hO : isGu L) (h1 : isW L o1) (S : Sg) (rf : Int32) (Sf : Sg) (h : f_X6_meetingOfSum o1 p2 S = some (rf, Sf)) : Met l yX6_meetingOfSum (Cond.code yX6_meetingOfSum cX6_meetingOfSum 3 (some .int) :: zz_all) (rmz 3 74) (PC G L b S [.ref (b + 0), .ref (b + o1), .int p2]) (QC G L b Sf (some (.int rf)) True) 0 0 (fun q => b ≤ q) := by
  refine x_met [.ref (b + 0), .ref (b + o1), .int p2] (by decide +kernel) (Nat.le_of_ble_eq_true rfl) fun p e s m args below meth c C => ?_
  unfold f_X6_meetingOfSum at h
  refine x_aload_n (pc := 0) C 0 dX6_meetingOfSum_0 rfl ?_
  refine x_getr (pc := 1) C (k := 4) 130 hO.1 rfl rfl wd_153 dX6_meetingOfSum_1 (Nat.le_of_ble_eq_true rfl) rfl ?_
  refine x_iconst (pc := 4) C (v := (0 : Int32)) dX6_meetingOfSum_4 rfl ?_
  refine x_iload_n (pc := 5) C 2 dX6_meetingOfSum_5 rfl ?_
  refine x_iconst (pc := 6) C (v := (0 : Int32)) dX6_meetingOfSum_6 rfl ?_
  obtain ⟨S_1, hc_1, h⟩ := of_bd h
  refine x_callV_ (pc := 7) C (o := 130) [.int (0 : Int32), .int p2, .int (0 : Int32)] [] (c_X2_make (b := b) 130 (0 : Int32) p2 (0 : Int32) hO.2.2.2.2.1 S _ hc_1) cw_X6_150 vi_X2_make ⟨rfl, rfl, Nat.le_of_ble_eq_true rfl, Nat.le_of_ble_eq_true rfl⟩ ⟨Nat.le_refl _, Nat.le_refl _⟩ hO.2.2.2.2.1.1 ⟨rfl, rfl, rfl⟩ rfl ⟨rfl, Nat.le_of_ble_eq_true rfl⟩ dX6_meetingOfSum_7 (fun hx_1 => ?_)
  refine x_aload_n (pc := 10) C 1 dX6_meetingOfSum_10 rfl ?_
  refine x_aload_n (pc := 11) C 0 dX6_meetingOfSum_11 rfl ?_
  refine x_getr (pc := 12) C (k := 4) 130 hO.1 rfl rfl wd_153 dX6_meetingOfSum_12 (Nat.le_of_ble_eq_true rfl) rfl ?_
  refine x_aload_n (pc := 15) C 1 dX6_meetingOfSum_15 rfl ?_
  refine x_geti (pc := 16) C (k := 5) h1.1 rfl rfl wd_67 dX6_meetingOfSum_16 ⟨Nat.le_of_ble_eq_true rfl, rfl⟩ ?_
  refine x_aload_n (pc := 19) C 1 dX6_meetingOfSum_19 rfl ?_
  refine x_geti (pc := 20) C (k := 6) h1.1 rfl rfl wd_69 dX6_meetingOfSum_20 ⟨Nat.le_of_ble_eq_true rfl, rfl⟩ ?_
  obtain ⟨⟨r_1, S_2⟩, hc_2, h⟩ := of_bd h
  replace h := of_u2 h
  refine x_callV1 (pc := 23) C (o := o1) [.ref (b + 130), .int (S_1.1 o1 5), .int (S_1.1 o1 6)] [] (c_X5_meetingBy (b := b) o1 130 (S_1.1 o1 5) (S_1.1 o1 6) h1 hO.2.2.2.2.1 S_1 _ _ hc_2) cw_X6_161 vi_X5_meetingBy ⟨rfl, rfl, Nat.le_of_ble_eq_true rfl, Nat.le_of_ble_eq_true rfl⟩ ⟨Nat.le_refl _, Nat.le_refl _⟩ h1.1 ⟨rfl, rfl, rfl⟩ rfl ⟨rfl, Nat.le_of_ble_eq_true rfl⟩ dX6_meetingOfSum_23 (fun hx_2 => ?_)
  exact x_ireturn (pc := 26) C dX6_meetingOfSum_26 (of_sp h).1 (of_sp h).2
set_option maxRecDepth 100000 in
set_option maxHeartbeats 4000000 in
theorem l_X6_howMany_4 {p : Program} {l : Launch} {e : Env} {s : State} {m : MethodId} {args : Array Value} {below : List Frame} {meth : Method} {c : Code} {G : zz_G} {L : Ly} {b : Nat} {Q : State → Prop} (C : CX p G s m args meth c cX6_howMany yX6_howMany 4 (some .int)) (hO : isGu L) (v1 : Int32) : ∀ (n : Nat) (v2 : Int32) (v3 : Int32) (S : Sg) {z}, L_X6_howMany_4 v1 n v2 v3 S = some z → (∀ (v2_o : Int32) (S_o : Sg), z = (v2_o, S_o) → X p l e (rmz 4 96) s m args below meth c 0 0 Q 4 G L b S_o 33 [(2, .int v2_o)] []) → X p l e (rmz 4 96) s m args below meth c 0 0 Q 4 G L b S 4 [(0, .ref (b + 0)), (1, .int v1), (2, .int v2), (3, .int v3)] [] := by
  intro n
  induction n with
  | zero =>
    intro v2 v3 S z h
    exact of_none h
  | succ n ih =>
    intro v2 v3 S z h hx
    rw [L_X6_howMany_4] at h
    refine x_iload_n (pc := 4) C 3 dX6_howMany_4 rfl ?_
    refine x_sipush (pc := 5) C (v := (255 : Int32)) dX6_howMany_5 rfl ?_
    refine x_icmp_gt (pc := 8) C 33 dX6_howMany_8 rfl (fun c_1 => ?_) (fun c_1 => ?_)
    · replace h := of_ifp c_1 h
      exact x_sub [2] rfl (hx _ _ (of_s1 h).symm)
    · replace h := of_ifn c_1 h
      refine x_aload_n (pc := 11) C 0 dX6_howMany_11 rfl ?_
      refine x_aload_n (pc := 12) C 0 dX6_howMany_12 rfl ?_
      refine x_getr (pc := 13) C (k := 0) 1 hO.1 rfl rfl wd_149 dX6_howMany_13 (Nat.le_of_ble_eq_true rfl) rfl ?_
      refine x_iload_n (pc := 16) C 3 dX6_howMany_16 rfl ?_
      obtain ⟨⟨r_1, S_1⟩, hc_1, h⟩ := of_bd h
      replace h := of_u2 h
      refine x_callV1 (pc := 17) C (o := 0) [.ref (b + 1), .int v3] [] (c_X6_meetingOfSum (b := b) 1 v3 hO hO.2.1 S _ _ hc_1) cw_X6_172 vi_X6_meetingOfSum ⟨rfl, rfl, Nat.le_of_ble_eq_true rfl, Nat.le_of_ble_eq_true rfl⟩ ⟨Nat.le_refl _, Nat.le_refl _⟩ hO.1 ⟨rfl, rfl, rfl⟩ rfl ⟨rfl, Nat.le_of_ble_eq_true rfl⟩ dX6_howMany_17 (fun hx_1 => ?_)
      refine x_iload_n (pc := 20) C 1 dX6_howMany_20 rfl ?_
      obtain ⟨v2_1, ev2_1, h⟩ := of_lt h
      have kd_1 : X p l e (rmz 4 96) s m args below meth c 0 0 Q 4 G L b S_1 27 [(0, .ref (b + 0)), (1, .int v1), (2, .int v2_1), (3, .int v3)] [] := by
        obtain ⟨v3_1, ev3_1, h⟩ := of_lt h
        refine x_iinc (pc := 27) C (w := (1 : Int32)) 3 [(3, .int v3_1), (0, .ref (b + 0)), (1, .int v1), (2, .int v2_1)] dX6_howMany_27 rfl rfl (Nat.le_of_ble_eq_true rfl) ev3_1 rfl ?_
        refine x_goto (pc := 30) C 4 dX6_howMany_30 rfl ?_
        exact x_sub [1, 2, 3, 0] rfl (ih _ _ _ h hx)
      refine x_icmp_ne (pc := 21) C 27 dX6_howMany_21 rfl (fun c_2 => ?_) (fun c_2 => ?_)
      · refine x_sub [0, 1, 2, 3] rfl ?_
        rw [show v2_1 = v2 from (ev2_1.trans (if_neg c_2))] at kd_1
        exact kd_1
      · refine x_iinc (pc := 24) C (w := (1 : Int32)) 2 [(2, .int (v2 + (1 : Int32))), (0, .ref (b + 0)), (1, .int v1), (3, .int v3)] dX6_howMany_24 rfl rfl (Nat.le_of_ble_eq_true rfl) rfl rfl ?_
        refine x_sub [1, 2, 0, 3] rfl ?_
        rw [show v2_1 = (v2 + (1 : Int32)) from (ev2_1.trans (if_pos c_2))] at kd_1
        exact kd_1
set_option maxRecDepth 100000 in
set_option maxHeartbeats 4000000 in
theorem c_X6_howMany {l : Launch} {G : zz_G} {L : Ly} {b : Nat} (p1 : Int32) (hO : isGu L) (S : Sg) (rf : Int32) (Sf : Sg) (h : f_X6_howMany p1 S = some (rf, Sf)) : Met l yX6_howMany (Cond.code yX6_howMany cX6_howMany 4 (some .int) :: zz_all) (rmz 4 96) (PC G L b S [.ref (b + 0), .int p1]) (QC G L b Sf (some (.int rf)) True) 0 0 (fun q => b ≤ q) := by
  refine x_met [.ref (b + 0), .int p1] (by decide +kernel) (Nat.le_of_ble_eq_true rfl) fun p e s m args below meth c C => ?_
  unfold f_X6_howMany at h
  refine x_iconst (pc := 0) C (v := (0 : Int32)) dX6_howMany_0 rfl ?_
  refine x_istore_n (pc := 1) C 2 [(2, .int (0 : Int32)), (0, .ref (b + 0)), (1, .int p1)] dX6_howMany_1 rfl (Nat.le_of_ble_eq_true rfl) rfl rfl ?_
  refine x_iconst (pc := 2) C (v := (1 : Int32)) dX6_howMany_2 rfl ?_
  refine x_istore_n (pc := 3) C 3 [(3, .int (1 : Int32)), (2, .int (0 : Int32)), (0, .ref (b + 0)), (1, .int p1)] dX6_howMany_3 rfl (Nat.le_of_ble_eq_true rfl) rfl rfl ?_
  refine x_sub [2, 3, 1, 0] rfl ?_
  obtain ⟨z_hz_1, hz_1, h⟩ := of_bd h
  refine l_X6_howMany_4 C hO p1 400 _ _ _ hz_1 (fun v2_1 S_1 ez => ?_)
  subst z_hz_1
  replace h := of_u2 h
  refine x_iload_n (pc := 33) C 0 dX6_howMany_33 rfl ?_
  exact x_ireturn (pc := 34) C dX6_howMany_34 (of_sp h).1 (of_sp h).2
set_option maxRecDepth 100000 in
set_option maxHeartbeats 4000000 in
theorem l_X6_leastJoining_2 {p : Program} {l : Launch} {e : Env} {s : State} {m : MethodId} {args : Array Value} {below : List Frame} {meth : Method} {c : Code} {G : zz_G} {L : Ly} {b : Nat} (C : CX p G s m args meth c cX6_leastJoining yX6_leastJoining 2 (some .int)) (hO : isGu L) (rf : Int32) (Sf : Sg) : ∀ (n : Nat) (v1 : Int32) (S : Sg) {z}, L_X6_leastJoining_2 n v1 S = some z → (∀ q, z = .inl q → q.1 = rf ∧ q.2 = Sf) → (∀ (S_o : Sg), z = .inr S_o → X p l e (rmz 4 96) s m args below meth c 0 0 (RQ G L b Sf below args s (some (.int rf)) True) 2 G L b S_o 30 [] []) → X p l e (rmz 4 96) s m args below meth c 0 0 (RQ G L b Sf below args s (some (.int rf)) True) 2 G L b S 2 [(0, .ref (b + 0)), (1, .int v1)] [] := by
  intro n
  induction n with
  | zero =>
    intro v1 S z h
    exact of_none h
  | succ n ih =>
    intro v1 S z h hr hx
    rw [L_X6_leastJoining_2] at h
    refine x_iload_n (pc := 2) C 1 dX6_leastJoining_2 rfl ?_
    refine x_sipush (pc := 3) C (v := (255 : Int32)) dX6_leastJoining_3 rfl ?_
    refine x_icmp_gt (pc := 6) C 30 dX6_leastJoining_6 rfl (fun c_1 => ?_) (fun c_1 => ?_)
    · replace h := of_ifp c_1 h
      exact x_sub [] rfl (hx _ (of_s1 h).symm)
    · replace h := of_ifn c_1 h
      refine x_aload_n (pc := 9) C 0 dX6_leastJoining_9 rfl ?_
      refine x_aload_n (pc := 10) C 0 dX6_leastJoining_10 rfl ?_
      refine x_getr (pc := 11) C (k := 0) 1 hO.1 rfl rfl wd_149 dX6_leastJoining_11 (Nat.le_of_ble_eq_true rfl) rfl ?_
      refine x_iload_n (pc := 14) C 1 dX6_leastJoining_14 rfl ?_
      obtain ⟨⟨r_1, S_1⟩, hc_1, h⟩ := of_bd h
      replace h := of_u2 h
      refine x_callV1 (pc := 15) C (o := 0) [.ref (b + 1), .int v1] [] (c_X6_meetingOfSum (b := b) 1 v1 hO hO.2.1 S _ _ hc_1) cw_X6_172 vi_X6_meetingOfSum ⟨rfl, rfl, Nat.le_of_ble_eq_true rfl, Nat.le_of_ble_eq_true rfl⟩ ⟨Nat.le_refl _, Nat.le_refl _⟩ hO.1 ⟨rfl, rfl, rfl⟩ rfl ⟨rfl, Nat.le_of_ble_eq_true rfl⟩ dX6_leastJoining_15 (fun hx_1 => ?_)
      refine x_iconst (pc := 18) C (v := (1 : Int32)) dX6_leastJoining_18 rfl ?_
      refine x_icmp_ne (pc := 19) C 24 dX6_leastJoining_19 rfl (fun c_2 => ?_) (fun c_2 => ?_)
      · replace h := of_ifn c_2 h
        obtain ⟨v1_1, ev1_1, h⟩ := of_lt h
        refine x_iinc (pc := 24) C (w := (1 : Int32)) 1 [(1, .int v1_1), (0, .ref (b + 0))] dX6_leastJoining_24 rfl rfl (Nat.le_of_ble_eq_true rfl) ev1_1 rfl ?_
        refine x_goto (pc := 27) C 2 dX6_leastJoining_27 rfl ?_
        exact x_sub [1, 0] rfl (ih _ _ h hr hx)
      · replace h := of_ifp c_2 h
        refine x_iload_n (pc := 22) C 1 dX6_leastJoining_22 rfl ?_
        have hq := hr _ (of_s1 h).symm
        exact x_ireturn (pc := 23) C dX6_leastJoining_23 hq.1 hq.2
set_option maxRecDepth 100000 in
set_option maxHeartbeats 4000000 in
theorem c_X6_leastJoining {l : Launch} {G : zz_G} {L : Ly} {b : Nat} (hO : isGu L) (S : Sg) (rf : Int32) (Sf : Sg) (h : f_X6_leastJoining S = some (rf, Sf)) : Met l yX6_leastJoining (Cond.code yX6_leastJoining cX6_leastJoining 2 (some .int) :: zz_all) (rmz 4 96) (PC G L b S [.ref (b + 0)]) (QC G L b Sf (some (.int rf)) True) 0 0 (fun q => b ≤ q) := by
  refine x_met [.ref (b + 0)] (by decide +kernel) (Nat.le_of_ble_eq_true rfl) fun p e s m args below meth c C => ?_
  unfold f_X6_leastJoining at h
  refine x_iconst (pc := 0) C (v := (1 : Int32)) dX6_leastJoining_0 rfl ?_
  refine x_istore_n (pc := 1) C 1 [(1, .int (1 : Int32)), (0, .ref (b + 0))] dX6_leastJoining_1 rfl (Nat.le_of_ble_eq_true rfl) rfl rfl ?_
  refine x_sub [1, 0] rfl ?_
  obtain ⟨z_hz_1, hz_1, hl, hrr⟩ := of_bs h
  refine l_X6_leastJoining_2 C hO rf Sf 400 _ _ hz_1 (fun q ez => of_sp (x := q.1) (u := q.2) (hl _ ez)) (fun S_1 ez => ?_)
  replace h := hrr _ ez
  clear hl hrr
  refine x_bipush (pc := 30) C (v := (-9 : Int32)) dX6_leastJoining_30 rfl ?_
  exact x_ireturn (pc := 32) C dX6_leastJoining_32 (of_sp h).1 (of_sp h).2
set_option maxRecDepth 100000 in
set_option maxHeartbeats 4000000 in
theorem c_X6_sums {l : Launch} {G : zz_G} {L : Ly} {b : Nat} (p1 : Int32) (hO : isGu L) (S : Sg) (rf : Int32) (Sf : Sg) (h : f_X6_sums p1 S = some (rf, Sf)) : Met l yX6_sums (Cond.code yX6_sums cX6_sums 2 (some .int) :: zz_all) (rmz 5 119) (PC G L b S [.ref (b + 0), .int p1]) (QC G L b Sf (some (.int rf)) True) 0 0 (fun q => b ≤ q) := by
  refine x_met [.ref (b + 0), .int p1] (by decide +kernel) (Nat.le_of_ble_eq_true rfl) fun p e s m args below meth c C => ?_
  unfold f_X6_sums at h
  refine x_iload_n (pc := 0) C 1 dX6_sums_0 rfl ?_
  by_cases c_1 : p1 = (0 : Int32)
  · replace h := of_ifp c_1 h
    refine x_tabIn (pc := 1) C 32 dX6_sums_1 c_1 (by decide) (by decide) rfl rfl ?_
    refine x_aload_n (pc := 32) C 0 dX6_sums_32 rfl ?_
    obtain ⟨⟨r_1, S_1⟩, hc_1, h⟩ := of_bd h
    replace h := of_u2 h
    refine x_callV1 (pc := 33) C (o := 0) [] [] (c_X6_leastJoining (b := b) hO S _ _ hc_1) cw_X6_165 vi_X6_leastJoining ⟨rfl, rfl, Nat.le_of_ble_eq_true rfl, Nat.le_of_ble_eq_true rfl⟩ ⟨Nat.le_refl _, Nat.le_refl _⟩ hO.1 ⟨rfl, rfl, rfl⟩ rfl ⟨rfl, Nat.le_of_ble_eq_true rfl⟩ dX6_sums_33 (fun hx_1 => ?_)
    exact x_ireturn (pc := 36) C dX6_sums_36 (of_sp h).1 (of_sp h).2
  replace h := of_ifn c_1 h
  by_cases c_2 : p1 = (1 : Int32)
  · replace h := of_ifp c_2 h
    refine x_tabIn (pc := 1) C 37 dX6_sums_1 c_2 (by decide) (by decide) rfl rfl ?_
    refine x_aload_n (pc := 37) C 0 dX6_sums_37 rfl ?_
    refine x_iconst (pc := 38) C (v := (1 : Int32)) dX6_sums_38 rfl ?_
    obtain ⟨⟨r_2, S_2⟩, hc_2, h⟩ := of_bd h
    replace h := of_u2 h
    refine x_callV1 (pc := 39) C (o := 0) [.int (1 : Int32)] [] (c_X6_howMany (b := b) (1 : Int32) hO S _ _ hc_2) cw_X6_169 vi_X6_howMany ⟨rfl, rfl, Nat.le_of_ble_eq_true rfl, Nat.le_of_ble_eq_true rfl⟩ ⟨Nat.le_refl _, Nat.le_refl _⟩ hO.1 ⟨rfl, rfl, rfl⟩ rfl ⟨rfl, Nat.le_of_ble_eq_true rfl⟩ dX6_sums_39 (fun hx_2 => ?_)
    exact x_ireturn (pc := 42) C dX6_sums_42 (of_sp h).1 (of_sp h).2
  replace h := of_ifn c_2 h
  by_cases c_3 : p1 = (2 : Int32)
  · replace h := of_ifp c_3 h
    refine x_tabIn (pc := 1) C 43 dX6_sums_1 c_3 (by decide) (by decide) rfl rfl ?_
    refine x_aload_n (pc := 43) C 0 dX6_sums_43 rfl ?_
    refine x_iconst (pc := 44) C (v := (2 : Int32)) dX6_sums_44 rfl ?_
    obtain ⟨⟨r_3, S_3⟩, hc_3, h⟩ := of_bd h
    replace h := of_u2 h
    refine x_callV1 (pc := 45) C (o := 0) [.int (2 : Int32)] [] (c_X6_howMany (b := b) (2 : Int32) hO S _ _ hc_3) cw_X6_169 vi_X6_howMany ⟨rfl, rfl, Nat.le_of_ble_eq_true rfl, Nat.le_of_ble_eq_true rfl⟩ ⟨Nat.le_refl _, Nat.le_refl _⟩ hO.1 ⟨rfl, rfl, rfl⟩ rfl ⟨rfl, Nat.le_of_ble_eq_true rfl⟩ dX6_sums_45 (fun hx_3 => ?_)
    exact x_ireturn (pc := 48) C dX6_sums_48 (of_sp h).1 (of_sp h).2
  replace h := of_ifn c_3 h
  by_cases c_4 : p1 = (3 : Int32)
  · replace h := of_ifp c_4 h
    refine x_tabIn (pc := 1) C 49 dX6_sums_1 c_4 (by decide) (by decide) rfl rfl ?_
    refine x_aload_n (pc := 49) C 0 dX6_sums_49 rfl ?_
    refine x_iconst (pc := 50) C (v := (0 : Int32)) dX6_sums_50 rfl ?_
    obtain ⟨⟨r_4, S_4⟩, hc_4, h⟩ := of_bd h
    replace h := of_u2 h
    refine x_callV1 (pc := 51) C (o := 0) [.int (0 : Int32)] [] (c_X6_howMany (b := b) (0 : Int32) hO S _ _ hc_4) cw_X6_169 vi_X6_howMany ⟨rfl, rfl, Nat.le_of_ble_eq_true rfl, Nat.le_of_ble_eq_true rfl⟩ ⟨Nat.le_refl _, Nat.le_refl _⟩ hO.1 ⟨rfl, rfl, rfl⟩ rfl ⟨rfl, Nat.le_of_ble_eq_true rfl⟩ dX6_sums_51 (fun hx_4 => ?_)
    exact x_ireturn (pc := 54) C dX6_sums_54 (of_sp h).1 (of_sp h).2
  replace h := of_ifn c_4 h
  refine x_tabOut (pc := 1) C 55 dX6_sums_1 (by have := lv_neT c_1 (show ((0 : Int32)).toInt = 0 from rfl); have := lv_neT c_2 (show ((1 : Int32)).toInt = 1 from rfl); have := lv_neT c_3 (show ((2 : Int32)).toInt = 2 from rfl); have := lv_neT c_4 (show ((3 : Int32)).toInt = 3 from rfl); omega) rfl ?_
  refine x_aload_n (pc := 55) C 0 dX6_sums_55 rfl ?_
  refine x_bipush (pc := 56) C (v := (-2 : Int32)) dX6_sums_56 rfl ?_
  obtain ⟨⟨r_5, S_5⟩, hc_5, h⟩ := of_bd h
  replace h := of_u2 h
  refine x_callV1 (pc := 58) C (o := 0) [.int (-2 : Int32)] [] (c_X6_refuse (b := b) (-2 : Int32) hO S _ _ hc_5) cw_X6_73 vi_X6_refuse ⟨rfl, rfl, Nat.le_of_ble_eq_true rfl, Nat.le_of_ble_eq_true rfl⟩ ⟨Nat.le_refl _, Nat.le_refl _⟩ hO.1 ⟨rfl, rfl, rfl⟩ rfl ⟨rfl, Nat.le_of_ble_eq_true rfl⟩ dX6_sums_58 (fun hx_5 => ?_)
  exact x_ireturn (pc := 61) C dX6_sums_61 (of_sp h).1 (of_sp h).2
set_option maxRecDepth 100000 in
set_option maxHeartbeats 4000000 in
theorem c_X6_would {l : Launch} {G : zz_G} {L : Ly} {b : Nat} (p1 : Int32) (p2 : Int32) (p3 : Int32) (hO : isGu L) (S : Sg) (rf : Int32) (Sf : Sg) (h : f_X6_would p1 p2 p3 S = some (rf, Sf)) : Met l yX6_would (Cond.code yX6_would cX6_would 5 (some .int) :: zz_all) (rmz 3 74) (PC G L b S [.ref (b + 0), .int p1, .int p2, .int p3]) (QC G L b Sf (some (.int rf)) True) 0 0 (fun q => b ≤ q) := by
  refine x_met [.ref (b + 0), .int p1, .int p2, .int p3] (by decide +kernel) (Nat.le_of_ble_eq_true rfl) fun p e s m args below meth c C => ?_
  unfold f_X6_would at h
  refine x_iload_n (pc := 0) C 1 dX6_would_0 rfl ?_
  refine x_iload_n (pc := 1) C 2 dX6_would_1 rfl ?_
  refine x_iload_n (pc := 2) C 3 dX6_would_2 rfl ?_
  refine x_callS1 (pc := 3) C [.int p1, .int p2, .int p3] [] (c_X2_misfitOf (b := b) p1 p2 p3 S) cw_X6_146 vs_X2_misfitOf ⟨rfl, rfl, Nat.le_of_ble_eq_true rfl, Nat.le_of_ble_eq_true rfl⟩ ⟨Nat.le_refl _, Nat.le_refl _⟩ rfl ⟨rfl, Nat.le_of_ble_eq_true rfl⟩ dX6_would_3 (fun hx_1 => ?_)
  obtain ⟨v4_1, ev4_1, h⟩ := of_lt h
  refine x_istore (pc := 6) C [(4, .int v4_1), (0, .ref (b + 0)), (1, .int p1), (2, .int p2), (3, .int p3)] dX6_would_6 (Nat.le_of_ble_eq_true rfl) ev4_1 rfl ?_
  refine x_iload (pc := 8) C 0 dX6_would_8 rfl ?_
  refine x_if_eq (pc := 10) C 20 dX6_would_10 rfl (fun c_1 => ?_) (fun c_1 => ?_)
  · replace h := of_ifp c_1 h
    refine x_aload_n (pc := 20) C 1 dX6_would_20 rfl ?_
    refine x_getr (pc := 21) C (k := 4) 130 hO.1 rfl rfl wd_153 dX6_would_21 (Nat.le_of_ble_eq_true rfl) rfl ?_
    refine x_iload_n (pc := 24) C 2 dX6_would_24 rfl ?_
    refine x_iload_n (pc := 25) C 3 dX6_would_25 rfl ?_
    refine x_iload_n (pc := 26) C 4 dX6_would_26 rfl ?_
    obtain ⟨S_1, hc_1, h⟩ := of_bd h
    refine x_callV_ (pc := 27) C (o := 130) [.int p1, .int p2, .int p3] [] (c_X2_make (b := b) 130 p1 p2 p3 hO.2.2.2.2.1 S _ hc_1) cw_X6_150 vi_X2_make ⟨rfl, rfl, Nat.le_of_ble_eq_true rfl, Nat.le_of_ble_eq_true rfl⟩ ⟨Nat.le_refl _, Nat.le_refl _⟩ hO.2.2.2.2.1.1 ⟨rfl, rfl, rfl⟩ rfl ⟨rfl, Nat.le_of_ble_eq_true rfl⟩ dX6_would_27 (fun hx_2 => ?_)
    refine x_aload_n (pc := 30) C 1 dX6_would_30 rfl ?_
    refine x_getr (pc := 31) C (k := 0) 1 hO.1 rfl rfl wd_149 dX6_would_31 (Nat.le_of_ble_eq_true rfl) rfl ?_
    refine x_aload_n (pc := 34) C 1 dX6_would_34 rfl ?_
    refine x_getr (pc := 35) C (k := 4) 130 hO.1 rfl rfl wd_153 dX6_would_35 (Nat.le_of_ble_eq_true rfl) rfl ?_
    refine x_aload_n (pc := 38) C 1 dX6_would_38 rfl ?_
    refine x_getr (pc := 39) C (k := 0) 1 hO.1 rfl rfl wd_149 dX6_would_39 (Nat.le_of_ble_eq_true rfl) rfl ?_
    refine x_geti (pc := 42) C (k := 5) hO.2.1.1 rfl rfl wd_67 dX6_would_42 ⟨Nat.le_of_ble_eq_true rfl, rfl⟩ ?_
    refine x_aload_n (pc := 45) C 1 dX6_would_45 rfl ?_
    refine x_getr (pc := 46) C (k := 0) 1 hO.1 rfl rfl wd_149 dX6_would_46 (Nat.le_of_ble_eq_true rfl) rfl ?_
    refine x_geti (pc := 49) C (k := 6) hO.2.1.1 rfl rfl wd_69 dX6_would_49 ⟨Nat.le_of_ble_eq_true rfl, rfl⟩ ?_
    obtain ⟨⟨r_1, S_2⟩, hc_2, h⟩ := of_bd h
    replace h := of_u2 h
    refine x_callV1 (pc := 52) C (o := 1) [.ref (b + 130), .int (S_1.1 1 5), .int (S_1.1 1 6)] [] (c_X5_meetingBy (b := b) 1 130 (S_1.1 1 5) (S_1.1 1 6) hO.2.1 hO.2.2.2.2.1 S_1 _ _ hc_2) cw_X6_161 vi_X5_meetingBy ⟨rfl, rfl, Nat.le_of_ble_eq_true rfl, Nat.le_of_ble_eq_true rfl⟩ ⟨Nat.le_refl _, Nat.le_refl _⟩ hO.2.1.1 ⟨rfl, rfl, rfl⟩ rfl ⟨rfl, Nat.le_of_ble_eq_true rfl⟩ dX6_would_52 (fun hx_3 => ?_)
    exact x_ireturn (pc := 55) C dX6_would_55 (of_sp h).1 (of_sp h).2
  · replace h := of_ifn c_1 h
    refine x_aload_n (pc := 13) C 1 dX6_would_13 rfl ?_
    refine x_iload (pc := 14) C 0 dX6_would_14 rfl ?_
    obtain ⟨⟨r_2, S_3⟩, hc_3, h⟩ := of_bd h
    replace h := of_u2 h
    refine x_callV1 (pc := 16) C (o := 0) [.int v4_1] [] (c_X6_refuse (b := b) v4_1 hO S _ _ hc_3) cw_X6_73 vi_X6_refuse ⟨rfl, rfl, Nat.le_of_ble_eq_true rfl, Nat.le_of_ble_eq_true rfl⟩ ⟨Nat.le_refl _, Nat.le_refl _⟩ hO.1 ⟨rfl, rfl, rfl⟩ rfl ⟨rfl, Nat.le_of_ble_eq_true rfl⟩ dX6_would_16 (fun hx_4 => ?_)
    exact x_ireturn (pc := 19) C dX6_would_19 (of_sp h).1 (of_sp h).2
set_option maxRecDepth 100000 in
set_option maxHeartbeats 4000000 in
theorem l_L_law_39 {p : Program} {l : Launch} {e : Env} {s : State} {m : MethodId} {args : Array Value} {below : List Frame} {meth : Method} {c : Code} {G : zz_G} {L : Ly} {b : Nat} {Q : State → Prop} {cells slots : Nat} {mn md : String} {ret : Option FieldType} (C : CX p G s m args meth c cL_law ⟨RL, mn, md⟩ 16 ret) (bs : Nat) (Ls : Nat) (xs : Nat → Int32) (rf : Int32) (hX : SX bs Ls xs b s) (hO : isGu L) (hR : cells ≤ room_1.cells ∧ slots ≤ room_1.slots) (hE : ∀ (pc : Nat) (S : Sg), decode cL_law pc = .ok (.ireturn, 1) → X p l e room_1 s m args below meth c cells slots Q 16 G L b S pc [] [.int rf]) (v2 : Int32) (v3 : Int32) (v4 : Int32) (Sf : Sg) : ∀ (n : Nat) (v5 : Int32) (S : Sg) {z}, L_L_law_39 bs Ls xs v2 v3 v4 n v5 S = some z → (∀ q, z = .inl q → q.1 = rf ∧ q.2 = Sf) → (∀ (S_o : Sg), z = .inr S_o → X p l e room_1 s m args below meth c cells slots Q 16 G L b S_o 76 [(0, .ref bs), (1, .ref (b + 0)), (2, .int v2), (3, .int v3), (4, .int v4)] []) → X p l e room_1 s m args below meth c cells slots Q 16 G L b S 39 [(0, .ref bs), (1, .ref (b + 0)), (2, .int v2), (3, .int v3), (4, .int v4), (5, .int v5)] [] := by
  intro n
  induction n with
  | zero =>
    intro v5 S z h
    exact of_none h
  | succ n ih =>
    intro v5 S z h hr hx
    rw [L_L_law_39] at h
    refine x_iload (pc := 39) C 5 dL_law_39 rfl ?_
    refine x_iconst (pc := 41) C (v := (4 : Int32)) dL_law_41 rfl ?_
    refine x_icmp_ge (pc := 42) C 76 dL_law_42 rfl (fun c_1 => ?_) (fun c_1 => ?_)
    · replace h := of_ifn c_1 h
      exact x_sub [0, 1, 2, 3, 4] rfl (hx _ (of_s1 h).symm)
    · replace h := of_ifp c_1 h
      refine x_aload_n (pc := 45) C 1 dL_law_45 rfl ?_
      refine x_iload (pc := 46) C 5 dL_law_46 rfl ?_
      obtain ⟨⟨r_1, S_1⟩, hc_1, h⟩ := of_bd h
      replace h := of_u2 h
      refine x_callV1 (pc := 48) C (o := 0) [.int v5] [] (c_X6_rule (b := b) v5 hO S _ _ hc_1) cw_L_34 vi_X6_rule ⟨rfl, rfl, Nat.le_of_ble_eq_true rfl, Nat.le_of_ble_eq_true rfl⟩ hR hO.1 ⟨rfl, rfl, rfl⟩ rfl ⟨rfl, Nat.le_of_ble_eq_true rfl⟩ dL_law_48 (fun hx_1 => ?_)
      refine x_if_lt (pc := 51) C 68 dL_law_51 rfl (fun c_2 => ?_) (fun c_2 => ?_)
      · replace h := of_ifp c_2 h
        refine x_iconst (pc := 68) C (v := (0 : Int32)) dL_law_68 rfl ?_
        have hq := hr _ (of_s1 h).symm
        exact x_lawret (pc := 69) hE dL_law_69 hq.1
      · replace h := of_ifn c_2 h
        refine x_aload_n (pc := 54) C 1 dL_law_54 rfl ?_
        refine x_iconst (pc := 55) C (v := (0 : Int32)) dL_law_55 rfl ?_
        refine x_iconst (pc := 56) C (v := (1 : Int32)) dL_law_56 rfl ?_
        refine x_iload (pc := 57) C 4 dL_law_57 rfl ?_
        refine x_ishl (pc := 59) C dL_law_59 ?_
        refine x_iconst (pc := 60) C (v := (0 : Int32)) dL_law_60 rfl ?_
        obtain ⟨⟨r_2, S_2⟩, hc_2, h⟩ := of_bd h
        replace h := of_u2 h
        refine x_callV1 (pc := 61) C (o := 0) [.int (0 : Int32), .int (isl (1 : Int32) v4), .int (0 : Int32)] [] (c_X6_would (b := b) (0 : Int32) (isl (1 : Int32) v4) (0 : Int32) hO S_1 _ _ hc_2) cw_L_72 vi_X6_would ⟨rfl, rfl, Nat.le_of_ble_eq_true rfl, Nat.le_of_ble_eq_true rfl⟩ hR hO.1 ⟨rfl, rfl, rfl⟩ rfl ⟨rfl, Nat.le_of_ble_eq_true rfl⟩ dL_law_61 (fun hx_2 => ?_)
        refine x_iconst (pc := 64) C (v := (2 : Int32)) dL_law_64 rfl ?_
        refine x_icmp_eq (pc := 65) C 70 dL_law_65 rfl (fun c_3 => ?_) (fun c_3 => ?_)
        · replace h := of_ifp c_3 h
          obtain ⟨v5_1, ev5_1, h⟩ := of_lt h
          refine x_iinc (pc := 70) C (w := (1 : Int32)) 5 [(5, .int v5_1), (0, .ref bs), (1, .ref (b + 0)), (2, .int v2), (3, .int v3), (4, .int v4)] dL_law_70 rfl rfl (Nat.le_of_ble_eq_true rfl) ev5_1 rfl ?_
          refine x_goto (pc := 73) C 39 dL_law_73 rfl ?_
          exact x_sub [1, 2, 3, 4, 5, 0] rfl (ih _ _ h hr hx)
        · replace h := of_ifn c_3 h
          refine x_iconst (pc := 68) C (v := (0 : Int32)) dL_law_68 rfl ?_
          have hq := hr _ (of_s1 h).symm
          exact x_lawret (pc := 69) hE dL_law_69 hq.1
set_option maxRecDepth 100000 in
set_option maxHeartbeats 4000000 in
theorem l_L_law_29 {p : Program} {l : Launch} {e : Env} {s : State} {m : MethodId} {args : Array Value} {below : List Frame} {meth : Method} {c : Code} {G : zz_G} {L : Ly} {b : Nat} {Q : State → Prop} {cells slots : Nat} {mn md : String} {ret : Option FieldType} (C : CX p G s m args meth c cL_law ⟨RL, mn, md⟩ 16 ret) (bs : Nat) (Ls : Nat) (xs : Nat → Int32) (rf : Int32) (hX : SX bs Ls xs b s) (hO : isGu L) (hR : cells ≤ room_1.cells ∧ slots ≤ room_1.slots) (hE : ∀ (pc : Nat) (S : Sg), decode cL_law pc = .ok (.ireturn, 1) → X p l e room_1 s m args below meth c cells slots Q 16 G L b S pc [] [.int rf]) (v2 : Int32) (v3 : Int32) (Sf : Sg) : ∀ (n : Nat) (v4 : Int32) (S : Sg) {z}, L_L_law_29 bs Ls xs v2 v3 n v4 S = some z → (∀ q, z = .inl q → q.1 = rf ∧ q.2 = Sf) → (∀ (S_o : Sg), z = .inr S_o → X p l e room_1 s m args below meth c cells slots Q 16 G L b S_o 186 [(0, .ref bs), (1, .ref (b + 0)), (2, .int v2), (3, .int v3)] []) → X p l e room_1 s m args below meth c cells slots Q 16 G L b S 29 [(0, .ref bs), (1, .ref (b + 0)), (2, .int v2), (3, .int v3), (4, .int v4)] [] := by
  intro n
  induction n with
  | zero =>
    intro v4 S z h
    exact of_none h
  | succ n ih =>
    intro v4 S z h hr hx
    rw [L_L_law_29] at h
    refine x_iload (pc := 29) C 4 dL_law_29 rfl ?_
    refine x_bipush (pc := 31) C (v := (8 : Int32)) dL_law_31 rfl ?_
    refine x_icmp_ge (pc := 33) C 186 dL_law_33 rfl (fun c_1 => ?_) (fun c_1 => ?_)
    · replace h := of_ifn c_1 h
      exact x_sub [0, 1, 2, 3] rfl (hx _ (of_s1 h).symm)
    · replace h := of_ifp c_1 h
      refine x_iconst (pc := 36) C (v := (0 : Int32)) dL_law_36 rfl ?_
      refine x_istore (pc := 37) C [(5, .int (0 : Int32)), (0, .ref bs), (1, .ref (b + 0)), (2, .int v2), (3, .int v3), (4, .int v4)] dL_law_37 (Nat.le_of_ble_eq_true rfl) rfl rfl ?_
      refine x_sub [1, 2, 3, 4, 5, 0] rfl ?_
      obtain ⟨z_hz_1, hz_1, hl, hrr⟩ := of_bs h
      refine l_L_law_39 C bs Ls xs rf hX hO hR hE v2 v3 v4 Sf 400 _ _ hz_1 (fun q ez => hr _ (of_s1 (hl _ ez)).symm) (fun S_1 ez => ?_)
      replace h := hrr _ ez
      clear hl hrr
      refine x_aload_n (pc := 76) C 1 dL_law_76 rfl ?_
      refine x_iload (pc := 77) C 4 dL_law_77 rfl ?_
      refine x_iconst (pc := 79) C (v := (1 : Int32)) dL_law_79 rfl ?_
      obtain ⟨⟨r_1, S_2⟩, hc_1, h⟩ := of_bd h
      replace h := of_u2 h
      refine x_callV1 (pc := 80) C (o := 0) [.int v4, .int (1 : Int32)] [] (c_X6_person (b := b) v4 (1 : Int32) hO S_1 _ _ hc_1) cw_L_75 vi_X6_person ⟨rfl, rfl, Nat.le_of_ble_eq_true rfl, Nat.le_of_ble_eq_true rfl⟩ hR hO.1 ⟨rfl, rfl, rfl⟩ rfl ⟨rfl, Nat.le_of_ble_eq_true rfl⟩ dL_law_80 (fun hx_1 => ?_)
      refine x_istore (pc := 83) C [(5, .int r_1), (0, .ref bs), (1, .ref (b + 0)), (2, .int v2), (3, .int v3), (4, .int v4)] dL_law_83 (Nat.le_of_ble_eq_true rfl) rfl rfl ?_
      refine x_aload_n (pc := 85) C 2 dL_law_85 rfl ?_
      refine x_iload (pc := 86) C 5 dL_law_86 rfl ?_
      refine x_iconst (pc := 88) C (v := (0 : Int32)) dL_law_88 rfl ?_
      obtain ⟨⟨r_2, S_3⟩, hc_2, h⟩ := of_bd h
      replace h := of_u2 h
      refine x_callV1 (pc := 89) C (o := 0) [.int v4, .int (0 : Int32)] [] (c_X6_person (b := b) v4 (0 : Int32) hO S_2 _ _ hc_2) cw_L_75 vi_X6_person ⟨rfl, rfl, Nat.le_of_ble_eq_true rfl, Nat.le_of_ble_eq_true rfl⟩ hR hO.1 ⟨rfl, rfl, rfl⟩ rfl ⟨rfl, Nat.le_of_ble_eq_true rfl⟩ dL_law_89 (fun hx_2 => ?_)
      refine x_istore (pc := 92) C [(6, .int r_2), (5, .int r_1), (0, .ref bs), (1, .ref (b + 0)), (2, .int v2), (3, .int v3), (4, .int v4)] dL_law_92 (Nat.le_of_ble_eq_true rfl) rfl rfl ?_
      refine x_aload_n (pc := 94) C 3 dL_law_94 rfl ?_
      refine x_iconst (pc := 95) C (v := (0 : Int32)) dL_law_95 rfl ?_
      refine x_iconst (pc := 96) C (v := (1 : Int32)) dL_law_96 rfl ?_
      refine x_iload (pc := 97) C 6 dL_law_97 rfl ?_
      refine x_ishl (pc := 99) C dL_law_99 ?_
      refine x_iconst (pc := 100) C (v := (0 : Int32)) dL_law_100 rfl ?_
      obtain ⟨⟨r_3, S_4⟩, hc_3, h⟩ := of_bd h
      replace h := of_u2 h
      refine x_callV1 (pc := 101) C (o := 0) [.int (0 : Int32), .int (isl (1 : Int32) v4), .int (0 : Int32)] [] (c_X6_ask (b := b) (0 : Int32) (isl (1 : Int32) v4) (0 : Int32) hO S_3 _ _ hc_3) cw_L_37 vi_X6_ask ⟨rfl, rfl, Nat.le_of_ble_eq_true rfl, Nat.le_of_ble_eq_true rfl⟩ hR hO.1 ⟨rfl, rfl, rfl⟩ rfl ⟨rfl, Nat.le_of_ble_eq_true rfl⟩ dL_law_101 (fun hx_3 => ?_)
      refine x_ldc (pc := 104) C wd_507 dL_law_104 ?_
      refine x_icmp_ne (pc := 106) C 178 dL_law_106 rfl (fun c_2 => ?_) (fun c_2 => ?_)
      · replace h := of_ifn c_2 h
        refine x_iconst (pc := 178) C (v := (0 : Int32)) dL_law_178 rfl ?_
        have hq := hr _ (of_s1 h).symm
        exact x_lawret (pc := 179) hE dL_law_179 hq.1
      · replace h := of_ifp c_2 h
        refine x_aload_n (pc := 109) C 3 dL_law_109 rfl ?_
        obtain ⟨⟨r_4, S_5⟩, hc_4, h⟩ := of_bd h
        replace h := of_u2 h
        refine x_callV1 (pc := 110) C (o := 0) [] [] (c_X6_on (b := b) hO S_4 _ _ hc_4) cw_L_79 vi_X6_on ⟨rfl, rfl, Nat.le_of_ble_eq_true rfl, Nat.le_of_ble_eq_true rfl⟩ hR hO.1 ⟨rfl, rfl, rfl⟩ rfl ⟨rfl, Nat.le_of_ble_eq_true rfl⟩ dL_law_110 (fun hx_4 => ?_)
        refine x_iload_n (pc := 113) C 4 dL_law_113 rfl ?_
        refine x_icmp_ne (pc := 114) C 178 dL_law_114 rfl (fun c_3 => ?_) (fun c_3 => ?_)
        · replace h := of_ifn c_3 h
          refine x_iconst (pc := 178) C (v := (0 : Int32)) dL_law_178 rfl ?_
          have hq := hr _ (of_s1 h).symm
          exact x_lawret (pc := 179) hE dL_law_179 hq.1
        · replace h := of_ifp c_3 h
          refine x_aload_n (pc := 117) C 3 dL_law_117 rfl ?_
          refine x_iload (pc := 118) C 1 dL_law_118 rfl ?_
          refine x_iconst (pc := 120) C (v := (0 : Int32)) dL_law_120 rfl ?_
          obtain ⟨⟨r_5, S_6⟩, hc_5, h⟩ := of_bd h
          replace h := of_u2 h
          refine x_callV1 (pc := 121) C (o := 0) [.int r_1, .int (0 : Int32)] [] (c_X6_variable (b := b) r_1 (0 : Int32) hO S_5 _ _ hc_5) cw_L_48 vi_X6_variable ⟨rfl, rfl, Nat.le_of_ble_eq_true rfl, Nat.le_of_ble_eq_true rfl⟩ hR hO.1 ⟨rfl, rfl, rfl⟩ rfl ⟨rfl, Nat.le_of_ble_eq_true rfl⟩ dL_law_121 (fun hx_5 => ?_)
          refine x_iload (pc := 124) C 0 dL_law_124 rfl ?_
          refine x_icmp_ne (pc := 126) C 178 dL_law_126 rfl (fun c_4 => ?_) (fun c_4 => ?_)
          · replace h := of_ifn c_4 h
            refine x_iconst (pc := 178) C (v := (0 : Int32)) dL_law_178 rfl ?_
            have hq := hr _ (of_s1 h).symm
            exact x_lawret (pc := 179) hE dL_law_179 hq.1
          · replace h := of_ifp c_4 h
            refine x_aload_n (pc := 129) C 3 dL_law_129 rfl ?_
            refine x_iload (pc := 130) C 1 dL_law_130 rfl ?_
            refine x_iconst (pc := 132) C (v := (3 : Int32)) dL_law_132 rfl ?_
            obtain ⟨⟨r_6, S_7⟩, hc_6, h⟩ := of_bd h
            replace h := of_u2 h
            refine x_callV1 (pc := 133) C (o := 0) [.int r_1, .int (3 : Int32)] [] (c_X6_variable (b := b) r_1 (3 : Int32) hO S_6 _ _ hc_6) cw_L_48 vi_X6_variable ⟨rfl, rfl, Nat.le_of_ble_eq_true rfl, Nat.le_of_ble_eq_true rfl⟩ hR hO.1 ⟨rfl, rfl, rfl⟩ rfl ⟨rfl, Nat.le_of_ble_eq_true rfl⟩ dL_law_133 (fun hx_6 => ?_)
            refine x_iload (pc := 136) C 0 dL_law_136 rfl ?_
            refine x_icmp_gt (pc := 138) C 178 dL_law_138 rfl (fun c_5 => ?_) (fun c_5 => ?_)
            · replace h := of_ifp c_5 h
              refine x_iconst (pc := 178) C (v := (0 : Int32)) dL_law_178 rfl ?_
              have hq := hr _ (of_s1 h).symm
              exact x_lawret (pc := 179) hE dL_law_179 hq.1
            · replace h := of_ifn c_5 h
              refine x_aload_n (pc := 141) C 3 dL_law_141 rfl ?_
              refine x_iload (pc := 142) C 1 dL_law_142 rfl ?_
              refine x_iconst (pc := 144) C (v := (4 : Int32)) dL_law_144 rfl ?_
              obtain ⟨⟨r_7, S_8⟩, hc_7, h⟩ := of_bd h
              replace h := of_u2 h
              refine x_callV1 (pc := 145) C (o := 0) [.int r_1, .int (4 : Int32)] [] (c_X6_variable (b := b) r_1 (4 : Int32) hO S_7 _ _ hc_7) cw_L_48 vi_X6_variable ⟨rfl, rfl, Nat.le_of_ble_eq_true rfl, Nat.le_of_ble_eq_true rfl⟩ hR hO.1 ⟨rfl, rfl, rfl⟩ rfl ⟨rfl, Nat.le_of_ble_eq_true rfl⟩ dL_law_145 (fun hx_7 => ?_)
              refine x_iload (pc := 148) C 0 dL_law_148 rfl ?_
              refine x_icmp_lt (pc := 150) C 178 dL_law_150 rfl (fun c_6 => ?_) (fun c_6 => ?_)
              · replace h := of_ifp c_6 h
                refine x_iconst (pc := 178) C (v := (0 : Int32)) dL_law_178 rfl ?_
                have hq := hr _ (of_s1 h).symm
                exact x_lawret (pc := 179) hE dL_law_179 hq.1
              · replace h := of_ifn c_6 h
                refine x_aload_n (pc := 153) C 3 dL_law_153 rfl ?_
                refine x_iload (pc := 154) C 1 dL_law_154 rfl ?_
                refine x_iconst (pc := 156) C (v := (1 : Int32)) dL_law_156 rfl ?_
                obtain ⟨⟨r_8, S_9⟩, hc_8, h⟩ := of_bd h
                replace h := of_u2 h
                refine x_callV1 (pc := 157) C (o := 0) [.int r_1, .int (1 : Int32)] [] (c_X6_attack (b := b) r_1 (1 : Int32) hO S_8 _ _ hc_8) cw_L_82 vi_X6_attack ⟨rfl, rfl, Nat.le_of_ble_eq_true rfl, Nat.le_of_ble_eq_true rfl⟩ hR hO.1 ⟨rfl, rfl, rfl⟩ rfl ⟨rfl, Nat.le_of_ble_eq_true rfl⟩ dL_law_157 (fun hx_8 => ?_)
                refine x_iconst (pc := 160) C (v := (1 : Int32)) dL_law_160 rfl ?_
                refine x_icmp_lt (pc := 161) C 178 dL_law_161 rfl (fun c_7 => ?_) (fun c_7 => ?_)
                · replace h := of_ifp c_7 h
                  refine x_iconst (pc := 178) C (v := (0 : Int32)) dL_law_178 rfl ?_
                  have hq := hr _ (of_s1 h).symm
                  exact x_lawret (pc := 179) hE dL_law_179 hq.1
                · replace h := of_ifn c_7 h
                  refine x_aload_n (pc := 164) C 3 dL_law_164 rfl ?_
                  refine x_iload (pc := 165) C 1 dL_law_165 rfl ?_
                  refine x_iconst (pc := 167) C (v := (0 : Int32)) dL_law_167 rfl ?_
                  obtain ⟨⟨r_9, S_10⟩, hc_9, h⟩ := of_bd h
                  replace h := of_u2 h
                  refine x_callV1 (pc := 168) C (o := 0) [.int r_1, .int (0 : Int32)] [] (c_X6_attack (b := b) r_1 (0 : Int32) hO S_9 _ _ hc_9) cw_L_82 vi_X6_attack ⟨rfl, rfl, Nat.le_of_ble_eq_true rfl, Nat.le_of_ble_eq_true rfl⟩ hR hO.1 ⟨rfl, rfl, rfl⟩ rfl ⟨rfl, Nat.le_of_ble_eq_true rfl⟩ dL_law_168 (fun hx_9 => ?_)
                  refine x_iconst (pc := 171) C (v := (1 : Int32)) dL_law_171 rfl ?_
                  refine x_iload (pc := 172) C 6 dL_law_172 rfl ?_
                  refine x_ishl (pc := 174) C dL_law_174 ?_
                  refine x_icmp_le (pc := 175) C 180 dL_law_175 rfl (fun c_8 => ?_) (fun c_8 => ?_)
                  · replace h := of_ifn c_8 h
                    obtain ⟨v4_1, ev4_1, h⟩ := of_lt h
                    refine x_iinc (pc := 180) C (w := (1 : Int32)) 6 [(4, .int v4_1), (6, .int r_2), (5, .int r_1), (0, .ref bs), (1, .ref (b + 0)), (2, .int v2), (3, .int v3)] dL_law_180 rfl rfl (Nat.le_of_ble_eq_true rfl) ev4_1 rfl ?_
                    refine x_goto (pc := 183) C 29 dL_law_183 rfl ?_
                    exact x_sub [3, 4, 5, 6, 0] rfl (ih _ _ h hr hx)
                  · replace h := of_ifp c_8 h
                    refine x_iconst (pc := 178) C (v := (0 : Int32)) dL_law_178 rfl ?_
                    have hq := hr _ (of_s1 h).symm
                    exact x_lawret (pc := 179) hE dL_law_179 hq.1
set_option maxRecDepth 100000 in
set_option maxHeartbeats 4000000 in
theorem l_L_law_249 {p : Program} {l : Launch} {e : Env} {s : State} {m : MethodId} {args : Array Value} {below : List Frame} {meth : Method} {c : Code} {G : zz_G} {L : Ly} {b : Nat} {Q : State → Prop} {cells slots : Nat} {mn md : String} {ret : Option FieldType} (C : CX p G s m args meth c cL_law ⟨RL, mn, md⟩ 16 ret) (bs : Nat) (Ls : Nat) (xs : Nat → Int32) (rf : Int32) (hX : SX bs Ls xs b s) (hO : isGu L) (hR : cells ≤ room_1.cells ∧ slots ≤ room_1.slots) (hE : ∀ (pc : Nat) (S : Sg), decode cL_law pc = .ok (.ireturn, 1) → X p l e room_1 s m args below meth c cells slots Q 16 G L b S pc [] [.int rf]) (v2 : Int32) (v3 : Int32) (v4 : Int32) (v5 : Int32) (Sf : Sg) : ∀ (n : Nat) (v6 : Int32) (v7 : Int32) (v8 : Int32) (S : Sg) {z}, L_L_law_249 bs Ls xs v2 v3 v4 v5 n v6 v7 v8 S = some z → (∀ q, z = .inl q → q.1 = rf ∧ q.2 = Sf) → (∀ (v6_o : Int32) (S_o : Sg), z = .inr (v6_o, S_o) → X p l e room_1 s m args below meth c cells slots Q 16 G L b S_o 369 [(0, .ref bs), (1, .ref (b + 0)), (2, .int v2), (3, .int v3), (4, .int v4), (5, .int v5), (6, .int v6_o)] []) → X p l e room_1 s m args below meth c cells slots Q 16 G L b S 249 [(0, .ref bs), (1, .ref (b + 0)), (2, .int v2), (3, .int v3), (4, .int v4), (5, .int v5), (6, .int v6), (7, .int v7), (8, .int v8)] [] := by
  intro n
  induction n with
  | zero =>
    intro v6 v7 v8 S z h
    exact of_none h
  | succ n ih =>
    intro v6 v7 v8 S z h hr hx
    rw [L_L_law_249] at h
    refine x_iload (pc := 249) C 8 dL_law_249 rfl ?_
    refine x_iload_n (pc := 251) C 3 dL_law_251 rfl ?_
    refine x_icmp_ge (pc := 252) C 369 dL_law_252 rfl (fun c_1 => ?_) (fun c_1 => ?_)
    · replace h := of_ifn c_1 h
      exact x_sub [0, 1, 2, 3, 4, 5, 6] rfl (hx _ _ (of_s1 h).symm)
    · replace h := of_ifp c_1 h
      refine x_aload_n (pc := 255) C 1 dL_law_255 rfl ?_
      refine x_iload (pc := 256) C 5 dL_law_256 rfl ?_
      refine x_iload (pc := 258) C 8 dL_law_258 rfl ?_
      refine x_iconst (pc := 260) C (v := (0 : Int32)) dL_law_260 rfl ?_
      obtain ⟨⟨r_1, S_1⟩, hc_1, h⟩ := of_bd h
      replace h := of_u2 h
      refine x_callV1 (pc := 261) C (o := 0) [.int v5, .int v8, .int (0 : Int32)] [] (c_X6_reduced (b := b) v5 v8 (0 : Int32) hO S _ _ hc_1) cw_L_96 vi_X6_reduced ⟨rfl, rfl, Nat.le_of_ble_eq_true rfl, Nat.le_of_ble_eq_true rfl⟩ hR hO.1 ⟨rfl, rfl, rfl⟩ rfl ⟨rfl, Nat.le_of_ble_eq_true rfl⟩ dL_law_261 (fun hx_1 => ?_)
      refine x_lstore (pc := 264) C [(9, .long r_1), (0, .ref bs), (1, .ref (b + 0)), (2, .int v2), (3, .int v3), (4, .int v4), (5, .int v5), (6, .int v6), (7, .int v7), (8, .int v8)] dL_law_264 (Nat.le_of_ble_eq_true rfl) rfl rfl ?_
      refine x_lload (pc := 266) C 0 dL_law_266 rfl ?_
      refine x_lconst (pc := 268) C (v := (0 : Int64)) dL_law_268 rfl ?_
      refine x_lcmp_ne (pc := 269) C 276 dL_law_269 dL_law_270 rfl (fun c_2 => ?_) (fun c_2 => ?_)
      · replace h := of_ifn c_2 h
        refine x_iload (pc := 276) C 8 dL_law_276 rfl ?_
        obtain ⟨J_1, eJ_1, h⟩ := of_lt h
        have kJ_1 : ∀ (S_2 : Sg), J_1 S_2 = some z → X p l e room_1 s m args below meth c cells slots Q 16 G L b S_2 313 [(0, .ref bs), (1, .ref (b + 0)), (2, .int v2), (3, .int v3), (4, .int v4), (5, .int v5), (6, .int v6), (7, .int v7), (8, .int v8)] [] := by
          intro S_2 h
          replace h := of_J1 eJ_1 h
          refine x_iload (pc := 313) C 7 dL_law_313 rfl ?_
          obtain ⟨J_2, eJ_2, h⟩ := of_lt h
          have kJ_2 : ∀ (_ : Unit), J_2 () = some z → X p l e room_1 s m args below meth c cells slots Q 16 G L b S_2 329 [(0, .ref bs), (1, .ref (b + 0)), (2, .int v2), (3, .int v3), (4, .int v4), (5, .int v5), (6, .int v6), (7, .int v7), (8, .int v8)] [] := by
            intro _ h
            replace h := of_J1 eJ_2 h
            refine x_aload_n (pc := 329) C 1 dL_law_329 rfl ?_
            refine x_iload (pc := 330) C 5 dL_law_330 rfl ?_
            refine x_iload (pc := 332) C 8 dL_law_332 rfl ?_
            refine x_iconst (pc := 334) C (v := (1 : Int32)) dL_law_334 rfl ?_
            obtain ⟨⟨r_2, S_3⟩, hc_2, h⟩ := of_bd h
            replace h := of_u2 h
            refine x_callV1 (pc := 335) C (o := 0) [.int v5, .int v8, .int (1 : Int32)] [] (c_X6_reduced (b := b) v5 v8 (1 : Int32) hO S_2 _ _ hc_2) cw_L_96 vi_X6_reduced ⟨rfl, rfl, Nat.le_of_ble_eq_true rfl, Nat.le_of_ble_eq_true rfl⟩ hR hO.1 ⟨rfl, rfl, rfl⟩ rfl ⟨rfl, Nat.le_of_ble_eq_true rfl⟩ dL_law_335 (fun hx_2 => ?_)
            refine x_lconst (pc := 338) C (v := (1 : Int64)) dL_law_338 rfl ?_
            refine x_lcmp_ge (pc := 339) C 345 dL_law_339 dL_law_340 rfl (fun c_3 => ?_) (fun c_3 => ?_)
            · replace h := of_ifn c_3 h
              refine x_iload (pc := 345) C 6 dL_law_345 rfl ?_
              refine x_iload (pc := 347) C 7 dL_law_347 rfl ?_
              obtain ⟨x_1, ex_1, h⟩ := of_lt h
              have kd_1 : X p l e room_1 s m args below meth c cells slots Q 16 G L b S_3 357 [(0, .ref bs), (1, .ref (b + 0)), (2, .int v2), (3, .int v3), (4, .int v4), (5, .int v5), (8, .int v8)] [.int x_1, .int v6] := by
                refine x_iadd (pc := 357) C dL_law_357 ?_
                obtain ⟨v6_1, ev6_1, h⟩ := of_lt h
                refine x_istore (pc := 358) C [(6, .int v6_1), (0, .ref bs), (1, .ref (b + 0)), (2, .int v2), (3, .int v3), (4, .int v4), (5, .int v5), (8, .int v8)] dL_law_358 (Nat.le_of_ble_eq_true rfl) ev6_1 rfl ?_
                refine x_iconst (pc := 360) C (v := (0 : Int32)) dL_law_360 rfl ?_
                refine x_istore (pc := 361) C [(7, .int (0 : Int32)), (6, .int v6_1), (0, .ref bs), (1, .ref (b + 0)), (2, .int v2), (3, .int v3), (4, .int v4), (5, .int v5), (8, .int v8)] dL_law_361 (Nat.le_of_ble_eq_true rfl) rfl rfl ?_
                obtain ⟨v8_1, ev8_1, h⟩ := of_lt h
                refine x_iinc (pc := 363) C (w := (1 : Int32)) 8 [(8, .int v8_1), (7, .int (0 : Int32)), (6, .int v6_1), (0, .ref bs), (1, .ref (b + 0)), (2, .int v2), (3, .int v3), (4, .int v4), (5, .int v5)] dL_law_363 rfl rfl (Nat.le_of_ble_eq_true rfl) ev8_1 rfl ?_
                refine x_goto (pc := 366) C 249 dL_law_366 rfl ?_
                exact x_sub [3, 4, 5, 6, 7, 8, 2, 1, 0] rfl (ih _ _ _ _ h hr hx)
              refine x_if_eq (pc := 349) C 356 dL_law_349 rfl (fun c_4 => ?_) (fun c_4 => ?_)
              · refine x_iconst (pc := 356) C (v := (1 : Int32)) dL_law_356 rfl ?_
                refine x_sub [0, 1, 2, 3, 4, 5, 8] rfl ?_
                rw [show x_1 = (1 : Int32) from (ex_1.trans (if_pos c_4))] at kd_1
                exact kd_1
              · refine x_iconst (pc := 352) C (v := (0 : Int32)) dL_law_352 rfl ?_
                refine x_goto (pc := 353) C 357 dL_law_353 rfl ?_
                refine x_sub [0, 1, 2, 3, 4, 5, 8] rfl ?_
                rw [show x_1 = (0 : Int32) from (ex_1.trans (if_neg c_4))] at kd_1
                exact kd_1
            · replace h := of_ifp c_3 h
              refine x_iconst (pc := 343) C (v := (0 : Int32)) dL_law_343 rfl ?_
              have hq := hr _ (of_s1 h).symm
              exact x_lawret (pc := 344) hE dL_law_344 hq.1
          refine x_if_ne (pc := 315) C 329 dL_law_315 rfl (fun c_5 => ?_) (fun c_5 => ?_)
          · replace h := of_ifn c_5 h
            exact x_sub [0, 1, 2, 3, 4, 5, 6, 7, 8] rfl (kJ_2 () h)
          · replace h := of_ifp c_5 h
            refine x_iload (pc := 318) C 4 dL_law_318 rfl ?_
            refine x_iload (pc := 320) C 8 dL_law_320 rfl ?_
            refine x_ishr (pc := 322) C dL_law_322 ?_
            refine x_iconst (pc := 323) C (v := (1 : Int32)) dL_law_323 rfl ?_
            refine x_iand (pc := 324) C dL_law_324 ?_
            refine x_iconst (pc := 325) C (v := (1 : Int32)) dL_law_325 rfl ?_
            refine x_icmp_eq (pc := 326) C 343 dL_law_326 rfl (fun c_6 => ?_) (fun c_6 => ?_)
            · replace h := of_ifp c_6 h
              refine x_iconst (pc := 343) C (v := (0 : Int32)) dL_law_343 rfl ?_
              have hq := hr _ (of_s1 h).symm
              exact x_lawret (pc := 344) hE dL_law_344 hq.1
            · replace h := of_ifn c_6 h
              exact x_sub [0, 1, 2, 3, 4, 5, 6, 7, 8] rfl (kJ_2 () h)
        refine x_if_eq (pc := 278) C 313 dL_law_278 rfl (fun c_7 => ?_) (fun c_7 => ?_)
        · replace h := of_ifp c_7 h
          exact x_sub [1, 2, 3, 4, 5, 6, 7, 8, 9] rfl (kJ_1 _ h)
        · replace h := of_ifn c_7 h
          refine x_iload (pc := 281) C 5 dL_law_281 rfl ?_
          refine x_iload (pc := 283) C 9 dL_law_283 rfl ?_
          refine x_ishr (pc := 285) C dL_law_285 ?_
          refine x_iconst (pc := 286) C (v := (1 : Int32)) dL_law_286 rfl ?_
          refine x_iand (pc := 287) C dL_law_287 ?_
          refine x_iconst (pc := 288) C (v := (1 : Int32)) dL_law_288 rfl ?_
          refine x_icmp_ne (pc := 289) C 343 dL_law_289 rfl (fun c_8 => ?_) (fun c_8 => ?_)
          · replace h := of_ifn c_8 h
            refine x_iconst (pc := 343) C (v := (0 : Int32)) dL_law_343 rfl ?_
            have hq := hr _ (of_s1 h).symm
            exact x_lawret (pc := 344) hE dL_law_344 hq.1
          · replace h := of_ifp c_8 h
            refine x_lload (pc := 292) C 0 dL_law_292 rfl ?_
            refine x_lconst (pc := 294) C (v := (1 : Int64)) dL_law_294 rfl ?_
            refine x_lcmp_ne (pc := 295) C 343 dL_law_295 dL_law_296 rfl (fun c_9 => ?_) (fun c_9 => ?_)
            · replace h := of_ifn c_9 h
              refine x_iconst (pc := 343) C (v := (0 : Int32)) dL_law_343 rfl ?_
              have hq := hr _ (of_s1 h).symm
              exact x_lawret (pc := 344) hE dL_law_344 hq.1
            · replace h := of_ifp c_9 h
              refine x_aload_n (pc := 299) C 2 dL_law_299 rfl ?_
              refine x_iload (pc := 300) C 6 dL_law_300 rfl ?_
              refine x_iload (pc := 302) C 9 dL_law_302 rfl ?_
              refine x_iconst (pc := 304) C (v := (1 : Int32)) dL_law_304 rfl ?_
              obtain ⟨⟨r_3, S_4⟩, hc_3, h⟩ := of_bd h
              replace h := of_u2 h
              refine x_callV1 (pc := 305) C (o := 0) [.int v5, .int v8, .int (1 : Int32)] [] (c_X6_reduced (b := b) v5 v8 (1 : Int32) hO S_1 _ _ hc_3) cw_L_96 vi_X6_reduced ⟨rfl, rfl, Nat.le_of_ble_eq_true rfl, Nat.le_of_ble_eq_true rfl⟩ hR hO.1 ⟨rfl, rfl, rfl⟩ rfl ⟨rfl, Nat.le_of_ble_eq_true rfl⟩ dL_law_305 (fun hx_3 => ?_)
              refine x_lconst (pc := 308) C (v := (1 : Int64)) dL_law_308 rfl ?_
              refine x_lcmp_ne (pc := 309) C 343 dL_law_309 dL_law_310 rfl (fun c_10 => ?_) (fun c_10 => ?_)
              · replace h := of_ifn c_10 h
                refine x_iconst (pc := 343) C (v := (0 : Int32)) dL_law_343 rfl ?_
                have hq := hr _ (of_s1 h).symm
                exact x_lawret (pc := 344) hE dL_law_344 hq.1
              · replace h := of_ifp c_10 h
                exact x_sub [1, 2, 3, 4, 5, 6, 7, 8, 9] rfl (kJ_1 _ h)
      · replace h := of_ifp c_2 h
        refine x_goto (pc := 273) C 363 dL_law_273 rfl ?_
        obtain ⟨v8_2, ev8_2, h⟩ := of_lt h
        refine x_iinc (pc := 363) C (w := (1 : Int32)) 9 [(8, .int v8_2), (9, .long r_1), (0, .ref bs), (1, .ref (b + 0)), (2, .int v2), (3, .int v3), (4, .int v4), (5, .int v5), (6, .int v6), (7, .int v7)] dL_law_363 rfl rfl (Nat.le_of_ble_eq_true rfl) ev8_2 rfl ?_
        refine x_goto (pc := 366) C 249 dL_law_366 rfl ?_
        exact x_sub [2, 3, 4, 5, 6, 7, 8, 9, 0] rfl (ih _ _ _ _ h hr hx)
set_option maxRecDepth 100000 in
set_option maxHeartbeats 4000000 in
theorem l_L_law_234 {p : Program} {l : Launch} {e : Env} {s : State} {m : MethodId} {args : Array Value} {below : List Frame} {meth : Method} {c : Code} {G : zz_G} {L : Ly} {b : Nat} {Q : State → Prop} {cells slots : Nat} {mn md : String} {ret : Option FieldType} (C : CX p G s m args meth c cL_law ⟨RL, mn, md⟩ 16 ret) (bs : Nat) (Ls : Nat) (xs : Nat → Int32) (rf : Int32) (hX : SX bs Ls xs b s) (hO : isGu L) (hR : cells ≤ room_1.cells ∧ slots ≤ room_1.slots) (hE : ∀ (pc : Nat) (S : Sg), decode cL_law pc = .ok (.ireturn, 1) → X p l e room_1 s m args below meth c cells slots Q 16 G L b S pc [] [.int rf]) (v2 : Int32) (v3 : Int32) (v4 : Int32) (Sf : Sg) : ∀ (n : Nat) (v5 : Int32) (S : Sg) {z}, L_L_law_234 bs Ls xs v2 v3 v4 n v5 S = some z → (∀ q, z = .inl q → q.1 = rf ∧ q.2 = Sf) → (∀ (S_o : Sg), z = .inr S_o → X p l e room_1 s m args below meth c cells slots Q 16 G L b S_o 382 [(0, .ref bs), (1, .ref (b + 0)), (2, .int v2), (3, .int v3), (4, .int v4)] []) → X p l e room_1 s m args below meth c cells slots Q 16 G L b S 234 [(0, .ref bs), (1, .ref (b + 0)), (2, .int v2), (3, .int v3), (4, .int v4), (5, .int v5)] [] := by
  intro n
  induction n with
  | zero =>
    intro v5 S z h
    exact of_none h
  | succ n ih =>
    intro v5 S z h hr hx
    rw [L_L_law_234] at h
    refine x_iload (pc := 234) C 5 dL_law_234 rfl ?_
    refine x_iload_n (pc := 236) C 2 dL_law_236 rfl ?_
    refine x_icmp_ge (pc := 237) C 382 dL_law_237 rfl (fun c_1 => ?_) (fun c_1 => ?_)
    · replace h := of_ifn c_1 h
      exact x_sub [0, 1, 2, 3, 4] rfl (hx _ (of_s1 h).symm)
    · replace h := of_ifp c_1 h
      refine x_iconst (pc := 240) C (v := (0 : Int32)) dL_law_240 rfl ?_
      refine x_istore (pc := 241) C [(6, .int (0 : Int32)), (0, .ref bs), (1, .ref (b + 0)), (2, .int v2), (3, .int v3), (4, .int v4), (5, .int v5)] dL_law_241 (Nat.le_of_ble_eq_true rfl) rfl rfl ?_
      refine x_iconst (pc := 243) C (v := (1 : Int32)) dL_law_243 rfl ?_
      refine x_istore (pc := 244) C [(7, .int (1 : Int32)), (6, .int (0 : Int32)), (0, .ref bs), (1, .ref (b + 0)), (2, .int v2), (3, .int v3), (4, .int v4), (5, .int v5)] dL_law_244 (Nat.le_of_ble_eq_true rfl) rfl rfl ?_
      refine x_iconst (pc := 246) C (v := (0 : Int32)) dL_law_246 rfl ?_
      refine x_istore (pc := 247) C [(8, .int (0 : Int32)), (7, .int (1 : Int32)), (6, .int (0 : Int32)), (0, .ref bs), (1, .ref (b + 0)), (2, .int v2), (3, .int v3), (4, .int v4), (5, .int v5)] dL_law_247 (Nat.le_of_ble_eq_true rfl) rfl rfl ?_
      refine x_sub [3, 4, 5, 6, 7, 8, 2, 1, 0] rfl ?_
      obtain ⟨z_hz_1, hz_1, hl, hrr⟩ := of_bs h
      refine l_L_law_249 C bs Ls xs rf hX hO hR hE v2 v3 v4 v5 Sf 400 _ _ _ _ hz_1 (fun q ez => hr _ (of_s1 (hl _ ez)).symm) (fun v6_1 S_1 ez => ?_)
      replace h := hrr _ ez
      clear hl hrr
      replace h := of_u2 h
      refine x_iload (pc := 369) C 6 dL_law_369 rfl ?_
      refine x_if_ne (pc := 371) C 376 dL_law_371 rfl (fun c_2 => ?_) (fun c_2 => ?_)
      · replace h := of_ifn c_2 h
        obtain ⟨v5_1, ev5_1, h⟩ := of_lt h
        refine x_iinc (pc := 376) C (w := (1 : Int32)) 5 [(5, .int v5_1), (0, .ref bs), (1, .ref (b + 0)), (2, .int v2), (3, .int v3), (4, .int v4), (6, .int v6_1)] dL_law_376 rfl rfl (Nat.le_of_ble_eq_true rfl) ev5_1 rfl ?_
        refine x_goto (pc := 379) C 234 dL_law_379 rfl ?_
        exact x_sub [1, 2, 3, 4, 5, 0] rfl (ih _ _ h hr hx)
      · replace h := of_ifp c_2 h
        refine x_iconst (pc := 374) C (v := (0 : Int32)) dL_law_374 rfl ?_
        have hq := hr _ (of_s1 h).symm
        exact x_lawret (pc := 375) hE dL_law_375 hq.1
set_option maxRecDepth 100000 in
set_option maxHeartbeats 4000000 in
theorem l_L_law_501 {p : Program} {l : Launch} {e : Env} {s : State} {m : MethodId} {args : Array Value} {below : List Frame} {meth : Method} {c : Code} {G : zz_G} {L : Ly} {b : Nat} {Q : State → Prop} {cells slots : Nat} {mn md : String} {ret : Option FieldType} (C : CX p G s m args meth c cL_law ⟨RL, mn, md⟩ 16 ret) (bs : Nat) (Ls : Nat) (xs : Nat → Int32) (rf : Int32) (hX : SX bs Ls xs b s) (hO : isGu L) (hR : cells ≤ room_1.cells ∧ slots ≤ room_1.slots) (hE : ∀ (pc : Nat) (S : Sg), decode cL_law pc = .ok (.ireturn, 1) → X p l e room_1 s m args below meth c cells slots Q 16 G L b S pc [] [.int rf]) (v2 : Int32) (v3 : Int32) (v4 : Int32) (v5 : Int32) (v7 : Int32) (v8 : Int32) (v9 : Int32) (v10 : Int32) (v11 : Int32) : ∀ (n : Nat) (v12 : Int32) (v13 : Int32) (S : Sg) {z}, L_L_law_501 bs Ls xs v2 v3 v4 v5 v7 v8 v9 v10 v11 n v12 v13 S = some z → (∀ (v12_o : Int32) (S_o : Sg), z = (v12_o, S_o) → X p l e room_1 s m args below meth c cells slots Q 16 G L b S_o 575 [(0, .ref bs), (1, .ref (b + 0)), (2, .int v2), (3, .int v3), (4, .int v4), (5, .int v5), (7, .int v7), (8, .int v8), (9, .int v9), (10, .int v10), (11, .int v11), (12, .int v12_o)] []) → X p l e room_1 s m args below meth c cells slots Q 16 G L b S 501 [(0, .ref bs), (1, .ref (b + 0)), (2, .int v2), (3, .int v3), (4, .int v4), (5, .int v5), (7, .int v7), (8, .int v8), (9, .int v9), (10, .int v10), (11, .int v11), (12, .int v12), (13, .int v13)] [] := by
  intro n
  induction n with
  | zero =>
    intro v12 v13 S z h
    exact of_none h
  | succ n ih =>
    intro v12 v13 S z h hx
    rw [L_L_law_501] at h
    refine x_iload (pc := 501) C 12 dL_law_501 rfl ?_
    refine x_bipush (pc := 503) C (v := (8 : Int32)) dL_law_503 rfl ?_
    refine x_icmp_ge (pc := 505) C 575 dL_law_505 rfl (fun c_1 => ?_) (fun c_1 => ?_)
    · replace h := of_ifn c_1 h
      exact x_sub [0, 1, 2, 3, 4, 5, 6, 7, 8, 9, 10, 11] rfl (hx _ _ (of_s1 h).symm)
    · replace h := of_ifp c_1 h
      refine x_iload (pc := 508) C 11 dL_law_508 rfl ?_
      refine x_aload_n (pc := 510) C 1 dL_law_510 rfl ?_
      refine x_iload (pc := 511) C 12 dL_law_511 rfl ?_
      refine x_iconst (pc := 513) C (v := (0 : Int32)) dL_law_513 rfl ?_
      obtain ⟨⟨r_1, S_1⟩, hc_1, h⟩ := of_bd h
      replace h := of_u2 h
      refine x_callV1 (pc := 514) C (o := 0) [.int v13, .int (0 : Int32)] [.int v12] (c_X6_person (b := b) v13 (0 : Int32) hO S _ _ hc_1) cw_L_75 vi_X6_person ⟨rfl, rfl, Nat.le_of_ble_eq_true rfl, Nat.le_of_ble_eq_true rfl⟩ hR hO.1 ⟨rfl, rfl, rfl⟩ rfl ⟨rfl, Nat.le_of_ble_eq_true rfl⟩ dL_law_514 (fun hx_1 => ?_)
      refine x_iload (pc := 517) C 7 dL_law_517 rfl ?_
      refine x_iconst (pc := 519) C (v := (1 : Int32)) dL_law_519 rfl ?_
      refine x_icmp_ne (pc := 520) C 541 dL_law_520 rfl (fun c_2 => ?_) (fun c_2 => ?_)
      · replace h := of_ifn c_2 h
        refine x_iload (pc := 541) C 6 dL_law_541 rfl ?_
        refine x_iload (pc := 543) C 12 dL_law_543 rfl ?_
        refine x_ishr (pc := 545) C dL_law_545 ?_
        refine x_iconst (pc := 546) C (v := (1 : Int32)) dL_law_546 rfl ?_
        refine x_iand (pc := 547) C dL_law_547 ?_
        refine x_iload (pc := 548) C 7 dL_law_548 rfl ?_
        refine x_if_ne (pc := 550) C 557 dL_law_550 rfl (fun c_3 => ?_) (fun c_3 => ?_)
        · replace h := of_ifn c_3 h
          refine x_iload (pc := 557) C 12 dL_law_557 rfl ?_
          refine x_iload (pc := 559) C 8 dL_law_559 rfl ?_
          obtain ⟨g_1, h⟩ := of_gd h
          refine x_irem (pc := 561) C dL_law_561 g_1 ?_
          refine x_iconst (pc := 562) C (v := (1 : Int32)) dL_law_562 rfl ?_
          refine x_iadd (pc := 563) C dL_law_563 ?_
          refine x_imul (pc := 564) C dL_law_564 ?_
          refine x_imul (pc := 565) C dL_law_565 ?_
          refine x_iadd (pc := 566) C dL_law_566 ?_
          obtain ⟨v12_1, ev12_1, h⟩ := of_lt h
          refine x_istore (pc := 567) C [(12, .int v12_1), (0, .ref bs), (1, .ref (b + 0)), (2, .int v2), (3, .int v3), (4, .int v4), (5, .int v5), (7, .int v7), (8, .int v8), (9, .int v9), (10, .int v10), (11, .int v11), (13, .int v13)] dL_law_567 (Nat.le_of_ble_eq_true rfl) ev12_1 rfl ?_
          obtain ⟨v13_1, ev13_1, h⟩ := of_lt h
          refine x_iinc (pc := 569) C (w := (1 : Int32)) 12 [(13, .int v13_1), (12, .int v12_1), (0, .ref bs), (1, .ref (b + 0)), (2, .int v2), (3, .int v3), (4, .int v4), (5, .int v5), (7, .int v7), (8, .int v8), (9, .int v9), (10, .int v10), (11, .int v11)] dL_law_569 rfl rfl (Nat.le_of_ble_eq_true rfl) ev13_1 rfl ?_
          refine x_goto (pc := 572) C 501 dL_law_572 rfl ?_
          exact x_sub [2, 3, 4, 5, 6, 7, 8, 9, 10, 11, 12, 1, 0] rfl (ih _ _ _ h hx)
        · replace h := of_ifp c_3 h
          refine x_iconst (pc := 553) C (v := (1 : Int32)) dL_law_553 rfl ?_
          refine x_goto (pc := 554) C 564 dL_law_554 rfl ?_
          refine x_imul (pc := 564) C dL_law_564 ?_
          refine x_imul (pc := 565) C dL_law_565 ?_
          refine x_iadd (pc := 566) C dL_law_566 ?_
          obtain ⟨v12_2, ev12_2, h⟩ := of_lt h
          refine x_istore (pc := 567) C [(12, .int v12_2), (0, .ref bs), (1, .ref (b + 0)), (2, .int v2), (3, .int v3), (4, .int v4), (5, .int v5), (7, .int v7), (8, .int v8), (9, .int v9), (10, .int v10), (11, .int v11), (13, .int v13)] dL_law_567 (Nat.le_of_ble_eq_true rfl) ev12_2 rfl ?_
          obtain ⟨v13_2, ev13_2, h⟩ := of_lt h
          refine x_iinc (pc := 569) C (w := (1 : Int32)) 12 [(13, .int v13_2), (12, .int v12_2), (0, .ref bs), (1, .ref (b + 0)), (2, .int v2), (3, .int v3), (4, .int v4), (5, .int v5), (7, .int v7), (8, .int v8), (9, .int v9), (10, .int v10), (11, .int v11)] dL_law_569 rfl rfl (Nat.le_of_ble_eq_true rfl) ev13_2 rfl ?_
          refine x_goto (pc := 572) C 501 dL_law_572 rfl ?_
          exact x_sub [2, 3, 4, 5, 6, 7, 8, 9, 10, 11, 12, 1, 0] rfl (ih _ _ _ h hx)
      · replace h := of_ifp c_2 h
        refine x_iload (pc := 523) C 6 dL_law_523 rfl ?_
        refine x_iload (pc := 525) C 12 dL_law_525 rfl ?_
        refine x_ishr (pc := 527) C dL_law_527 ?_
        refine x_iconst (pc := 528) C (v := (1 : Int32)) dL_law_528 rfl ?_
        refine x_iand (pc := 529) C dL_law_529 ?_
        refine x_iload (pc := 530) C 8 dL_law_530 rfl ?_
        refine x_iload (pc := 532) C 12 dL_law_532 rfl ?_
        refine x_ishr (pc := 534) C dL_law_534 ?_
        refine x_iconst (pc := 535) C (v := (1 : Int32)) dL_law_535 rfl ?_
        refine x_iand (pc := 536) C dL_law_536 ?_
        refine x_isub (pc := 537) C dL_law_537 ?_
        refine x_goto (pc := 538) C 565 dL_law_538 rfl ?_
        refine x_imul (pc := 565) C dL_law_565 ?_
        refine x_iadd (pc := 566) C dL_law_566 ?_
        obtain ⟨v12_3, ev12_3, h⟩ := of_lt h
        refine x_istore (pc := 567) C [(12, .int v12_3), (0, .ref bs), (1, .ref (b + 0)), (2, .int v2), (3, .int v3), (4, .int v4), (5, .int v5), (7, .int v7), (8, .int v8), (9, .int v9), (10, .int v10), (11, .int v11), (13, .int v13)] dL_law_567 (Nat.le_of_ble_eq_true rfl) ev12_3 rfl ?_
        obtain ⟨v13_3, ev13_3, h⟩ := of_lt h
        refine x_iinc (pc := 569) C (w := (1 : Int32)) 12 [(13, .int v13_3), (12, .int v12_3), (0, .ref bs), (1, .ref (b + 0)), (2, .int v2), (3, .int v3), (4, .int v4), (5, .int v5), (7, .int v7), (8, .int v8), (9, .int v9), (10, .int v10), (11, .int v11)] dL_law_569 rfl rfl (Nat.le_of_ble_eq_true rfl) ev13_3 rfl ?_
        refine x_goto (pc := 572) C 501 dL_law_572 rfl ?_
        exact x_sub [2, 3, 4, 5, 6, 7, 8, 9, 10, 11, 12, 1, 0] rfl (ih _ _ _ h hx)
set_option maxRecDepth 100000 in
set_option maxHeartbeats 4000000 in
theorem l_L_law_693 {p : Program} {l : Launch} {e : Env} {s : State} {m : MethodId} {args : Array Value} {below : List Frame} {meth : Method} {c : Code} {G : zz_G} {L : Ly} {b : Nat} {Q : State → Prop} {cells slots : Nat} {mn md : String} {ret : Option FieldType} (C : CX p G s m args meth c cL_law ⟨RL, mn, md⟩ 16 ret) (bs : Nat) (Ls : Nat) (xs : Nat → Int32) (rf : Int32) (hX : SX bs Ls xs b s) (hO : isGu L) (hR : cells ≤ room_1.cells ∧ slots ≤ room_1.slots) (hE : ∀ (pc : Nat) (S : Sg), decode cL_law pc = .ok (.ireturn, 1) → X p l e room_1 s m args below meth c cells slots Q 16 G L b S pc [] [.int rf]) (v2 : Int32) (v3 : Int32) (v4 : Int32) (v5 : Int32) (v8 : Int32) (v10 : Int32) (v14 : Int32) (Sf : Sg) : ∀ (n : Nat) (v15 : Int32) (S : Sg) {z}, L_L_law_693 bs Ls xs v2 v3 v4 v5 v8 v10 v14 n v15 S = some z → (∀ q, z = .inl q → q.1 = rf ∧ q.2 = Sf) → (∀ (S_o : Sg), z = .inr S_o → X p l e room_1 s m args below meth c cells slots Q 16 G L b S_o 722 [(0, .ref bs), (1, .ref (b + 0)), (2, .int v2), (3, .int v3), (4, .int v4), (5, .int v5), (8, .int v8), (10, .int v10), (14, .int v14)] []) → X p l e room_1 s m args below meth c cells slots Q 16 G L b S 693 [(0, .ref bs), (1, .ref (b + 0)), (2, .int v2), (3, .int v3), (4, .int v4), (5, .int v5), (8, .int v8), (10, .int v10), (14, .int v14), (15, .int v15)] [] := by
  intro n
  induction n with
  | zero =>
    intro v15 S z h
    exact of_none h
  | succ n ih =>
    intro v15 S z h hr hx
    rw [L_L_law_693] at h
    refine x_iload (pc := 693) C 9 dL_law_693 rfl ?_
    refine x_bipush (pc := 695) C (v := (8 : Int32)) dL_law_695 rfl ?_
    refine x_icmp_ge (pc := 697) C 722 dL_law_697 rfl (fun c_1 => ?_) (fun c_1 => ?_)
    · replace h := of_ifn c_1 h
      exact x_sub [0, 1, 2, 3, 4, 5, 6, 7, 8] rfl (hx _ (of_s1 h).symm)
    · replace h := of_ifp c_1 h
      refine x_aload_n (pc := 700) C 1 dL_law_700 rfl ?_
      refine x_iconst (pc := 701) C (v := (0 : Int32)) dL_law_701 rfl ?_
      refine x_iconst (pc := 702) C (v := (1 : Int32)) dL_law_702 rfl ?_
      refine x_iload (pc := 703) C 9 dL_law_703 rfl ?_
      refine x_ishl (pc := 705) C dL_law_705 ?_
      refine x_iconst (pc := 706) C (v := (0 : Int32)) dL_law_706 rfl ?_
      obtain ⟨⟨r_1, S_1⟩, hc_1, h⟩ := of_bd h
      replace h := of_u2 h
      refine x_callV1 (pc := 707) C (o := 0) [.int (0 : Int32), .int (isl (1 : Int32) v15), .int (0 : Int32)] [] (c_X6_would (b := b) (0 : Int32) (isl (1 : Int32) v15) (0 : Int32) hO S _ _ hc_1) cw_L_72 vi_X6_would ⟨rfl, rfl, Nat.le_of_ble_eq_true rfl, Nat.le_of_ble_eq_true rfl⟩ hR hO.1 ⟨rfl, rfl, rfl⟩ rfl ⟨rfl, Nat.le_of_ble_eq_true rfl⟩ dL_law_707 (fun hx_1 => ?_)
      refine x_iconst (pc := 710) C (v := (2 : Int32)) dL_law_710 rfl ?_
      refine x_icmp_eq (pc := 711) C 716 dL_law_711 rfl (fun c_2 => ?_) (fun c_2 => ?_)
      · replace h := of_ifp c_2 h
        obtain ⟨v15_1, ev15_1, h⟩ := of_lt h
        refine x_iinc (pc := 716) C (w := (1 : Int32)) 9 [(15, .int v15_1), (0, .ref bs), (1, .ref (b + 0)), (2, .int v2), (3, .int v3), (4, .int v4), (5, .int v5), (8, .int v8), (10, .int v10), (14, .int v14)] dL_law_716 rfl rfl (Nat.le_of_ble_eq_true rfl) ev15_1 rfl ?_
        refine x_goto (pc := 719) C 693 dL_law_719 rfl ?_
        exact x_sub [1, 2, 3, 4, 5, 6, 7, 8, 9, 0] rfl (ih _ _ h hr hx)
      · replace h := of_ifn c_2 h
        refine x_iconst (pc := 714) C (v := (0 : Int32)) dL_law_714 rfl ?_
        have hq := hr _ (of_s1 h).symm
        exact x_lawret (pc := 715) hE dL_law_715 hq.1
set_option maxRecDepth 100000 in
set_option maxHeartbeats 4000000 in
theorem l_L_law_385 {p : Program} {l : Launch} {e : Env} {s : State} {m : MethodId} {args : Array Value} {below : List Frame} {meth : Method} {c : Code} {G : zz_G} {L : Ly} {b : Nat} {Q : State → Prop} {cells slots : Nat} {mn md : String} {ret : Option FieldType} (C : CX p G s m args meth c cL_law ⟨RL, mn, md⟩ 16 ret) (bs : Nat) (Ls : Nat) (xs : Nat → Int32) (rf : Int32) (hX : SX bs Ls xs b s) (hO : isGu L) (hR : cells ≤ room_1.cells ∧ slots ≤ room_1.slots) (hE : ∀ (pc : Nat) (S : Sg), decode cL_law pc = .ok (.ireturn, 1) → X p l e room_1 s m args below meth c cells slots Q 16 G L b S pc [] [.int rf]) (v2 : Int32) (v3 : Int32) (v4 : Int32) (Sf : Sg) : ∀ (n : Nat) (v5 : Int32) (S : Sg) {z}, L_L_law_385 bs Ls xs v2 v3 v4 n v5 S = some z → (∀ q, z = .inl q → q.1 = rf ∧ q.2 = Sf) → (∀ (S_o : Sg), z = .inr S_o → X p l e room_1 s m args below meth c cells slots Q 16 G L b S_o 797 [(1, .ref (b + 0)), (2, .int v2), (3, .int v3), (4, .int v4)] []) → X p l e room_1 s m args below meth c cells slots Q 16 G L b S 385 [(0, .ref bs), (1, .ref (b + 0)), (2, .int v2), (3, .int v3), (4, .int v4), (5, .int v5)] [] := by
  intro n
  induction n with
  | zero =>
    intro v5 S z h
    exact of_none h
  | succ n ih =>
    intro v5 S z h hr hx
    rw [L_L_law_385] at h
    refine x_iload (pc := 385) C 5 dL_law_385 rfl ?_
    refine x_bipush (pc := 387) C (v := (6 : Int32)) dL_law_387 rfl ?_
    refine x_icmp_ge (pc := 389) C 797 dL_law_389 rfl (fun c_1 => ?_) (fun c_1 => ?_)
    · replace h := of_ifn c_1 h
      exact x_sub [1, 2, 3, 4] rfl (hx _ (of_s1 h).symm)
    · replace h := of_ifp c_1 h
      refine x_aload_n (pc := 392) C 0 dL_law_392 rfl ?_
      refine x_bipush (pc := 393) C (v := (26 : Int32)) dL_law_393 rfl ?_
      refine x_iload (pc := 395) C 5 dL_law_395 rfl ?_
      refine x_iadd (pc := 397) C dL_law_397 ?_
      obtain ⟨r_1, hc_1, h⟩ := of_bd h
      refine x_callSX1 (pc := 398) C hX [.ref bs, .int ((26 : Int32) + v5)] [] (c_L_cell (b := b) bs Ls xs ((26 : Int32) + v5) S _ hc_1) cw_L_18 vs_L_cell ⟨rfl, rfl, Nat.le_of_ble_eq_true rfl, Nat.le_of_ble_eq_true rfl⟩ hR rfl ⟨rfl, Nat.le_of_ble_eq_true rfl⟩ dL_law_398 (fun hx_1 => ?_)
      refine x_istore (pc := 401) C [(6, .int r_1), (0, .ref bs), (1, .ref (b + 0)), (2, .int v2), (3, .int v3), (4, .int v4), (5, .int v5)] dL_law_401 (Nat.le_of_ble_eq_true rfl) rfl rfl ?_
      refine x_iconst (pc := 403) C (v := (1 : Int32)) dL_law_403 rfl ?_
      refine x_iload (pc := 404) C 0 dL_law_404 rfl ?_
      refine x_sipush (pc := 406) C (v := (255 : Int32)) dL_law_406 rfl ?_
      obtain ⟨r_2, hc_2, h⟩ := of_bd h
      refine x_callS1 (pc := 409) C [.int r_1, .int (255 : Int32)] [.int (1 : Int32)] (c_L_pick (b := b) r_1 (255 : Int32) S _ hc_2) cw_L_24 vs_L_pick ⟨rfl, rfl, Nat.le_of_ble_eq_true rfl, Nat.le_of_ble_eq_true rfl⟩ hR rfl ⟨rfl, Nat.le_of_ble_eq_true rfl⟩ dL_law_409 (fun hx_2 => ?_)
      refine x_iadd (pc := 412) C dL_law_412 ?_
      obtain ⟨v7_1, ev7_1, h⟩ := of_lt h
      refine x_istore (pc := 413) C [(7, .int v7_1), (6, .int r_1), (0, .ref bs), (1, .ref (b + 0)), (2, .int v2), (3, .int v3), (4, .int v4), (5, .int v5)] dL_law_413 (Nat.le_of_ble_eq_true rfl) ev7_1 rfl ?_
      refine x_iload (pc := 415) C 1 dL_law_415 rfl ?_
      refine x_bipush (pc := 417) C (v := (8 : Int32)) dL_law_417 rfl ?_
      refine x_ishr (pc := 419) C dL_law_419 ?_
      refine x_iconst (pc := 420) C (v := (3 : Int32)) dL_law_420 rfl ?_
      obtain ⟨r_3, hc_3, h⟩ := of_bd h
      refine x_callS1 (pc := 421) C [.int (isr r_1 (8 : Int32)), .int (3 : Int32)] [] (c_L_pick (b := b) (isr r_1 (8 : Int32)) (3 : Int32) S _ hc_3) cw_L_24 vs_L_pick ⟨rfl, rfl, Nat.le_of_ble_eq_true rfl, Nat.le_of_ble_eq_true rfl⟩ hR rfl ⟨rfl, Nat.le_of_ble_eq_true rfl⟩ dL_law_421 (fun hx_3 => ?_)
      refine x_istore (pc := 424) C [(8, .int r_3), (7, .int v7_1), (6, .int r_1), (0, .ref bs), (1, .ref (b + 0)), (2, .int v2), (3, .int v3), (4, .int v4), (5, .int v5)] dL_law_424 (Nat.le_of_ble_eq_true rfl) rfl rfl ?_
      refine x_iload (pc := 426) C 0 dL_law_426 rfl ?_
      refine x_iconst (pc := 428) C (v := (1 : Int32)) dL_law_428 rfl ?_
      obtain ⟨J_1, eJ_1, h⟩ := of_lt h
      have kJ_1 : ∀ (x_1 : Int32), J_1 x_1 = some z → X p l e room_1 s m args below meth c cells slots Q 16 G L b S 460 [(0, .ref bs), (1, .ref (b + 0)), (2, .int v2), (3, .int v3), (4, .int v4), (5, .int v5), (7, .int v7_1), (8, .int r_3)] [.int x_1] := by
        intro x_1 h
        replace h := of_J1 eJ_1 h
        refine x_istore (pc := 460) C [(9, .int x_1), (0, .ref bs), (1, .ref (b + 0)), (2, .int v2), (3, .int v3), (4, .int v4), (5, .int v5), (7, .int v7_1), (8, .int r_3)] dL_law_460 (Nat.le_of_ble_eq_true rfl) rfl rfl ?_
        refine x_iload (pc := 462) C 8 dL_law_462 rfl ?_
        refine x_iconst (pc := 464) C (v := (1 : Int32)) dL_law_464 rfl ?_
        obtain ⟨J_2, eJ_2, h⟩ := of_lt h
        have kJ_2 : ∀ (_ : Unit), J_2 () = some z → X p l e room_1 s m args below meth c cells slots Q 16 G L b S 476 [(0, .ref bs), (1, .ref (b + 0)), (2, .int v2), (3, .int v3), (4, .int v4), (5, .int v5), (7, .int v7_1), (8, .int r_3), (9, .int x_1)] [] := by
          intro _ h
          replace h := of_J1 eJ_2 h
          refine x_aload_n (pc := 476) C 1 dL_law_476 rfl ?_
          refine x_iload (pc := 477) C 7 dL_law_477 rfl ?_
          refine x_iload (pc := 479) C 6 dL_law_479 rfl ?_
          refine x_iload (pc := 481) C 8 dL_law_481 rfl ?_
          obtain ⟨⟨r_4, S_1⟩, hc_4, h⟩ := of_bd h
          replace h := of_u2 h
          refine x_callV1 (pc := 483) C (o := 0) [.int r_3, .int v7_1, .int x_1] [] (c_X6_would (b := b) r_3 v7_1 x_1 hO S _ _ hc_4) cw_L_72 vi_X6_would ⟨rfl, rfl, Nat.le_of_ble_eq_true rfl, Nat.le_of_ble_eq_true rfl⟩ hR hO.1 ⟨rfl, rfl, rfl⟩ rfl ⟨rfl, Nat.le_of_ble_eq_true rfl⟩ dL_law_483 (fun hx_4 => ?_)
          refine x_istore (pc := 486) C [(10, .int r_4), (0, .ref bs), (1, .ref (b + 0)), (2, .int v2), (3, .int v3), (4, .int v4), (5, .int v5), (7, .int v7_1), (8, .int r_3), (9, .int x_1)] dL_law_486 (Nat.le_of_ble_eq_true rfl) rfl rfl ?_
          refine x_aload_n (pc := 488) C 2 dL_law_488 rfl ?_
          refine x_iconst (pc := 489) C (v := (0 : Int32)) dL_law_489 rfl ?_
          obtain ⟨r_5, hc_5, h⟩ := of_bd h
          refine x_callV1 (pc := 490) C (o := 0) [.int (0 : Int32)] [] (c_X6_count (b := b) (0 : Int32) hO S_1 _ hc_5) cw_L_69 vi_X6_count ⟨rfl, rfl, Nat.le_of_ble_eq_true rfl, Nat.le_of_ble_eq_true rfl⟩ hR hO.1 ⟨rfl, rfl, rfl⟩ rfl ⟨rfl, Nat.le_of_ble_eq_true rfl⟩ dL_law_490 (fun hx_5 => ?_)
          refine x_istore (pc := 493) C [(11, .int r_5), (10, .int r_4), (0, .ref bs), (1, .ref (b + 0)), (2, .int v2), (3, .int v3), (4, .int v4), (5, .int v5), (7, .int v7_1), (8, .int r_3), (9, .int x_1)] dL_law_493 (Nat.le_of_ble_eq_true rfl) rfl rfl ?_
          refine x_iconst (pc := 495) C (v := (0 : Int32)) dL_law_495 rfl ?_
          refine x_istore (pc := 496) C [(12, .int (0 : Int32)), (11, .int r_5), (10, .int r_4), (0, .ref bs), (1, .ref (b + 0)), (2, .int v2), (3, .int v3), (4, .int v4), (5, .int v5), (7, .int v7_1), (8, .int r_3), (9, .int x_1)] dL_law_496 (Nat.le_of_ble_eq_true rfl) rfl rfl ?_
          refine x_iconst (pc := 498) C (v := (0 : Int32)) dL_law_498 rfl ?_
          refine x_istore (pc := 499) C [(13, .int (0 : Int32)), (12, .int (0 : Int32)), (11, .int r_5), (10, .int r_4), (0, .ref bs), (1, .ref (b + 0)), (2, .int v2), (3, .int v3), (4, .int v4), (5, .int v5), (7, .int v7_1), (8, .int r_3), (9, .int x_1)] dL_law_499 (Nat.le_of_ble_eq_true rfl) rfl rfl ?_
          refine x_sub [4, 5, 6, 7, 8, 9, 10, 11, 12, 3, 2, 1, 0] rfl ?_
          obtain ⟨z_hz_2, hz_2, h⟩ := of_bd h
          refine l_L_law_501 C bs Ls xs rf hX hO hR hE v2 v3 v4 v5 v7_1 r_3 x_1 r_4 r_5 400 _ _ _ hz_2 (fun v12_1 S_2 ez => ?_)
          subst z_hz_2
          replace h := of_u2 h
          refine x_aload_n (pc := 575) C 1 dL_law_575 rfl ?_
          refine x_iload (pc := 576) C 7 dL_law_576 rfl ?_
          refine x_iload (pc := 578) C 6 dL_law_578 rfl ?_
          refine x_iload (pc := 580) C 8 dL_law_580 rfl ?_
          obtain ⟨⟨r_6, S_3⟩, hc_6, h⟩ := of_bd h
          replace h := of_u2 h
          refine x_callV1 (pc := 582) C (o := 0) [.int r_3, .int v7_1, .int x_1] [] (c_X6_ask (b := b) r_3 v7_1 x_1 hO S_2 _ _ hc_6) cw_L_37 vi_X6_ask ⟨rfl, rfl, Nat.le_of_ble_eq_true rfl, Nat.le_of_ble_eq_true rfl⟩ hR hO.1 ⟨rfl, rfl, rfl⟩ rfl ⟨rfl, Nat.le_of_ble_eq_true rfl⟩ dL_law_582 (fun hx_6 => ?_)
          refine x_istore (pc := 585) C [(13, .int r_6), (0, .ref bs), (1, .ref (b + 0)), (2, .int v2), (3, .int v3), (4, .int v4), (5, .int v5), (7, .int v7_1), (8, .int r_3), (9, .int x_1), (10, .int r_4), (11, .int r_5), (12, .int v12_1)] dL_law_585 (Nat.le_of_ble_eq_true rfl) rfl rfl ?_
          refine x_iload (pc := 587) C 0 dL_law_587 rfl ?_
          refine x_iload (pc := 589) C 10 dL_law_589 rfl ?_
          refine x_iconst (pc := 591) C (v := (2 : Int32)) dL_law_591 rfl ?_
          obtain ⟨x_2, ex_2, h⟩ := of_lt h
          have kd_1 : X p l e room_1 s m args below meth c cells slots Q 16 G L b S_3 602 [(0, .ref bs), (1, .ref (b + 0)), (2, .int v2), (3, .int v3), (4, .int v4), (5, .int v5), (7, .int v7_1), (8, .int r_3), (9, .int x_1), (10, .int r_4), (11, .int r_5), (12, .int v12_1)] [.int x_2, .int r_6] := by
            refine x_icmp_ne (pc := 602) C 680 dL_law_602 rfl (fun c_2 => ?_) (fun c_2 => ?_)
            · replace h := of_ifn c_2 h
              refine x_iconst (pc := 680) C (v := (0 : Int32)) dL_law_680 rfl ?_
              have hq := hr _ (of_s1 h).symm
              exact x_lawret (pc := 681) hE dL_law_681 hq.1
            · replace h := of_ifp c_2 h
              refine x_aload_n (pc := 605) C 1 dL_law_605 rfl ?_
              refine x_iconst (pc := 606) C (v := (0 : Int32)) dL_law_606 rfl ?_
              obtain ⟨r_7, hc_7, h⟩ := of_bd h
              refine x_callV1 (pc := 607) C (o := 0) [.int (0 : Int32)] [] (c_X6_count (b := b) (0 : Int32) hO S_3 _ hc_7) cw_L_69 vi_X6_count ⟨rfl, rfl, Nat.le_of_ble_eq_true rfl, Nat.le_of_ble_eq_true rfl⟩ hR hO.1 ⟨rfl, rfl, rfl⟩ rfl ⟨rfl, Nat.le_of_ble_eq_true rfl⟩ dL_law_607 (fun hx_7 => ?_)
              refine x_iload (pc := 610) C 10 dL_law_610 rfl ?_
              refine x_iload (pc := 612) C 9 dL_law_612 rfl ?_
              refine x_iconst (pc := 614) C (v := (1 : Int32)) dL_law_614 rfl ?_
              obtain ⟨x_3, ex_3, h⟩ := of_lt h
              have kd_2 : X p l e room_1 s m args below meth c cells slots Q 16 G L b S_3 623 [(0, .ref bs), (1, .ref (b + 0)), (2, .int v2), (3, .int v3), (4, .int v4), (5, .int v5), (7, .int v7_1), (8, .int r_3), (9, .int x_1), (10, .int r_4), (11, .int r_5), (12, .int v12_1)] [.int x_3, .int r_5, .int r_7] := by
                refine x_iadd (pc := 623) C dL_law_623 ?_
                refine x_icmp_ne (pc := 624) C 680 dL_law_624 rfl (fun c_3 => ?_) (fun c_3 => ?_)
                · replace h := of_ifn c_3 h
                  refine x_iconst (pc := 680) C (v := (0 : Int32)) dL_law_680 rfl ?_
                  have hq := hr _ (of_s1 h).symm
                  exact x_lawret (pc := 681) hE dL_law_681 hq.1
                · replace h := of_ifp c_3 h
                  refine x_iload (pc := 627) C 9 dL_law_627 rfl ?_
                  refine x_iconst (pc := 629) C (v := (2 : Int32)) dL_law_629 rfl ?_
                  obtain ⟨J_3, eJ_3, h⟩ := of_lt h
                  have kJ_3 : ∀ (S_4 : Sg), J_3 S_4 = some z → X p l e room_1 s m args below meth c cells slots Q 16 G L b S_4 661 [(0, .ref bs), (1, .ref (b + 0)), (2, .int v2), (3, .int v3), (4, .int v4), (5, .int v5), (7, .int v7_1), (8, .int r_3), (10, .int r_4), (11, .int r_5), (12, .int v12_1)] [] := by
                    intro S_4 h
                    replace h := of_J1 eJ_3 h
                    refine x_iload (pc := 661) C 8 dL_law_661 rfl ?_
                    refine x_iconst (pc := 663) C (v := (1 : Int32)) dL_law_663 rfl ?_
                    obtain ⟨J_4, eJ_4, h⟩ := of_lt h
                    have kJ_4 : ∀ (S_5 : Sg), J_4 S_5 = some z → X p l e room_1 s m args below meth c cells slots Q 16 G L b S_5 682 [(0, .ref bs), (1, .ref (b + 0)), (2, .int v2), (3, .int v3), (4, .int v4), (5, .int v5), (7, .int v7_1), (8, .int r_3), (10, .int r_4)] [] := by
                      intro S_5 h
                      replace h := of_J1 eJ_4 h
                      refine x_iload (pc := 682) C 6 dL_law_682 rfl ?_
                      refine x_sipush (pc := 684) C (v := (255 : Int32)) dL_law_684 rfl ?_
                      refine x_iand (pc := 687) C dL_law_687 ?_
                      obtain ⟨v14_1, ev14_1, h⟩ := of_lt h
                      refine x_istore (pc := 688) C [(14, .int v14_1), (0, .ref bs), (1, .ref (b + 0)), (2, .int v2), (3, .int v3), (4, .int v4), (5, .int v5), (7, .int v7_1), (8, .int r_3), (10, .int r_4)] dL_law_688 (Nat.le_of_ble_eq_true rfl) ev14_1 rfl ?_
                      refine x_iconst (pc := 690) C (v := (0 : Int32)) dL_law_690 rfl ?_
                      refine x_istore (pc := 691) C [(15, .int (0 : Int32)), (14, .int v14_1), (0, .ref bs), (1, .ref (b + 0)), (2, .int v2), (3, .int v3), (4, .int v4), (5, .int v5), (7, .int v7_1), (8, .int r_3), (10, .int r_4)] dL_law_691 (Nat.le_of_ble_eq_true rfl) rfl rfl ?_
                      refine x_sub [2, 3, 4, 5, 6, 7, 9, 10, 1, 0] rfl ?_
                      obtain ⟨z_hz_1, hz_1, hl, hrr⟩ := of_bs h
                      refine l_L_law_693 C bs Ls xs rf hX hO hR hE v2 v3 v4 v5 r_3 r_4 v14_1 Sf 400 _ _ hz_1 (fun q ez => hr _ (of_s1 (hl _ ez)).symm) (fun S_6 ez => ?_)
                      replace h := hrr _ ez
                      clear hl hrr
                      refine x_iload (pc := 722) C 7 dL_law_722 rfl ?_
                      refine x_iconst (pc := 724) C (v := (1 : Int32)) dL_law_724 rfl ?_
                      obtain ⟨J_5, eJ_5, h⟩ := of_lt h
                      have kJ_5 : ∀ (_ : Unit), J_5 () = some z → X p l e room_1 s m args below meth c cells slots Q 16 G L b S_6 761 [(0, .ref bs), (1, .ref (b + 0)), (2, .int v2), (3, .int v3), (4, .int v4), (5, .int v5), (10, .int r_4)] [] := by
                        intro _ h
                        replace h := of_J1 eJ_5 h
                        refine x_iload (pc := 761) C 6 dL_law_761 rfl ?_
                        refine x_iconst (pc := 763) C (v := (1 : Int32)) dL_law_763 rfl ?_
                        refine x_icmp_ne (pc := 764) C 791 dL_law_764 rfl (fun c_4 => ?_) (fun c_4 => ?_)
                        · replace h := of_ifn c_4 h
                          obtain ⟨v5_1, ev5_1, h⟩ := of_lt h
                          refine x_iinc (pc := 791) C (w := (1 : Int32)) 5 [(5, .int v5_1), (0, .ref bs), (1, .ref (b + 0)), (2, .int v2), (3, .int v3), (4, .int v4), (10, .int r_4)] dL_law_791 rfl rfl (Nat.le_of_ble_eq_true rfl) ev5_1 rfl ?_
                          refine x_goto (pc := 794) C 385 dL_law_794 rfl ?_
                          exact x_sub [1, 2, 3, 4, 5, 0] rfl (ih _ _ h hr hx)
                        · replace h := of_ifp c_4 h
                          refine x_aload_n (pc := 767) C 1 dL_law_767 rfl ?_
                          refine x_iconst (pc := 768) C (v := (2 : Int32)) dL_law_768 rfl ?_
                          obtain ⟨r_8, hc_8, h⟩ := of_bd h
                          refine x_callV1 (pc := 769) C (o := 0) [.int (2 : Int32)] [] (c_X6_count (b := b) (2 : Int32) hO S_6 _ hc_8) cw_L_69 vi_X6_count ⟨rfl, rfl, Nat.le_of_ble_eq_true rfl, Nat.le_of_ble_eq_true rfl⟩ hR hO.1 ⟨rfl, rfl, rfl⟩ rfl ⟨rfl, Nat.le_of_ble_eq_true rfl⟩ dL_law_769 (fun hx_8 => ?_)
                          refine x_iconst (pc := 772) C (v := (3 : Int32)) dL_law_772 rfl ?_
                          refine x_icmp_ne (pc := 773) C 791 dL_law_773 rfl (fun c_5 => ?_) (fun c_5 => ?_)
                          · replace h := of_ifn c_5 h
                            obtain ⟨v5_2, ev5_2, h⟩ := of_lt h
                            refine x_iinc (pc := 791) C (w := (1 : Int32)) 5 [(5, .int v5_2), (0, .ref bs), (1, .ref (b + 0)), (2, .int v2), (3, .int v3), (4, .int v4), (10, .int r_4)] dL_law_791 rfl rfl (Nat.le_of_ble_eq_true rfl) ev5_2 rfl ?_
                            refine x_goto (pc := 794) C 385 dL_law_794 rfl ?_
                            exact x_sub [1, 2, 3, 4, 5, 0] rfl (ih _ _ h hr hx)
                          · replace h := of_ifp c_5 h
                            refine x_aload_n (pc := 776) C 1 dL_law_776 rfl ?_
                            refine x_iconst (pc := 777) C (v := (0 : Int32)) dL_law_777 rfl ?_
                            obtain ⟨r_9, hc_9, h⟩ := of_bd h
                            refine x_callV1 (pc := 778) C (o := 0) [.int (0 : Int32)] [] (c_X6_count (b := b) (0 : Int32) hO S_6 _ hc_9) cw_L_69 vi_X6_count ⟨rfl, rfl, Nat.le_of_ble_eq_true rfl, Nat.le_of_ble_eq_true rfl⟩ hR hO.1 ⟨rfl, rfl, rfl⟩ rfl ⟨rfl, Nat.le_of_ble_eq_true rfl⟩ dL_law_778 (fun hx_9 => ?_)
                            refine x_aload_n (pc := 781) C 1 dL_law_781 rfl ?_
                            refine x_iconst (pc := 782) C (v := (3 : Int32)) dL_law_782 rfl ?_
                            obtain ⟨r_10, hc_10, h⟩ := of_bd h
                            refine x_callV1 (pc := 783) C (o := 0) [.int (3 : Int32)] [.int r_9] (c_X6_count (b := b) (3 : Int32) hO S_6 _ hc_10) cw_L_69 vi_X6_count ⟨rfl, rfl, Nat.le_of_ble_eq_true rfl, Nat.le_of_ble_eq_true rfl⟩ hR hO.1 ⟨rfl, rfl, rfl⟩ rfl ⟨rfl, Nat.le_of_ble_eq_true rfl⟩ dL_law_783 (fun hx_10 => ?_)
                            refine x_icmp_le (pc := 786) C 791 dL_law_786 rfl (fun c_6 => ?_) (fun c_6 => ?_)
                            · replace h := of_ifn c_6 h
                              obtain ⟨v5_3, ev5_3, h⟩ := of_lt h
                              refine x_iinc (pc := 791) C (w := (1 : Int32)) 5 [(5, .int v5_3), (0, .ref bs), (1, .ref (b + 0)), (2, .int v2), (3, .int v3), (4, .int v4), (10, .int r_4)] dL_law_791 rfl rfl (Nat.le_of_ble_eq_true rfl) ev5_3 rfl ?_
                              refine x_goto (pc := 794) C 385 dL_law_794 rfl ?_
                              exact x_sub [1, 2, 3, 4, 5, 0] rfl (ih _ _ h hr hx)
                            · replace h := of_ifp c_6 h
                              refine x_iconst (pc := 789) C (v := (0 : Int32)) dL_law_789 rfl ?_
                              have hq := hr _ (of_s1 h).symm
                              exact x_lawret (pc := 790) hE dL_law_790 hq.1
                      refine x_icmp_ne (pc := 725) C 761 dL_law_725 rfl (fun c_7 => ?_) (fun c_7 => ?_)
                      · replace h := of_ifn c_7 h
                        exact x_sub [0, 1, 2, 3, 4, 5, 7] rfl (kJ_5 () h)
                      · replace h := of_ifp c_7 h
                        refine x_iload (pc := 728) C 6 dL_law_728 rfl ?_
                        refine x_if_ne (pc := 730) C 761 dL_law_730 rfl (fun c_8 => ?_) (fun c_8 => ?_)
                        · replace h := of_ifn c_8 h
                          exact x_sub [0, 1, 2, 3, 4, 5, 7] rfl (kJ_5 () h)
                        · replace h := of_ifp c_8 h
                          refine x_aload_n (pc := 733) C 1 dL_law_733 rfl ?_
                          refine x_iconst (pc := 734) C (v := (2 : Int32)) dL_law_734 rfl ?_
                          obtain ⟨r_11, hc_11, h⟩ := of_bd h
                          refine x_callV1 (pc := 735) C (o := 0) [.int (2 : Int32)] [] (c_X6_count (b := b) (2 : Int32) hO S_6 _ hc_11) cw_L_69 vi_X6_count ⟨rfl, rfl, Nat.le_of_ble_eq_true rfl, Nat.le_of_ble_eq_true rfl⟩ hR hO.1 ⟨rfl, rfl, rfl⟩ rfl ⟨rfl, Nat.le_of_ble_eq_true rfl⟩ dL_law_735 (fun hx_11 => ?_)
                          refine x_iconst (pc := 738) C (v := (1 : Int32)) dL_law_738 rfl ?_
                          refine x_icmp_ne (pc := 739) C 761 dL_law_739 rfl (fun c_9 => ?_) (fun c_9 => ?_)
                          · replace h := of_ifn c_9 h
                            exact x_sub [0, 1, 2, 3, 4, 5, 7] rfl (kJ_5 () h)
                          · replace h := of_ifp c_9 h
                            refine x_iload (pc := 742) C 8 dL_law_742 rfl ?_
                            refine x_callS1 (pc := 744) C [.int v14_1] [] (c_J6_bitCount_0f7a4 (b := b) v14_1 S_6) cw_L_88 vs_J6_bitCount_0f7a4 ⟨rfl, rfl, Nat.le_of_ble_eq_true rfl, Nat.le_of_ble_eq_true rfl⟩ hR rfl ⟨rfl, Nat.le_of_ble_eq_true rfl⟩ dL_law_744 (fun hx_12 => ?_)
                            refine x_iconst (pc := 747) C (v := (2 : Int32)) dL_law_747 rfl ?_
                            refine x_icmp_lt (pc := 748) C 789 dL_law_748 rfl (fun c_10 => ?_) (fun c_10 => ?_)
                            · replace h := of_ifp c_10 h
                              refine x_iconst (pc := 789) C (v := (0 : Int32)) dL_law_789 rfl ?_
                              have hq := hr _ (of_s1 h).symm
                              exact x_lawret (pc := 790) hE dL_law_790 hq.1
                            · replace h := of_ifn c_10 h
                              refine x_iload (pc := 751) C 8 dL_law_751 rfl ?_
                              refine x_callS1 (pc := 753) C [.int v14_1] [] (c_J6_bitCount_0f7a4 (b := b) v14_1 S_6) cw_L_88 vs_J6_bitCount_0f7a4 ⟨rfl, rfl, Nat.le_of_ble_eq_true rfl, Nat.le_of_ble_eq_true rfl⟩ hR rfl ⟨rfl, Nat.le_of_ble_eq_true rfl⟩ dL_law_753 (fun hx_13 => ?_)
                              refine x_bipush (pc := 756) C (v := (6 : Int32)) dL_law_756 rfl ?_
                              refine x_icmp_gt (pc := 758) C 789 dL_law_758 rfl (fun c_11 => ?_) (fun c_11 => ?_)
                              · replace h := of_ifp c_11 h
                                refine x_iconst (pc := 789) C (v := (0 : Int32)) dL_law_789 rfl ?_
                                have hq := hr _ (of_s1 h).symm
                                exact x_lawret (pc := 790) hE dL_law_790 hq.1
                              · replace h := of_ifn c_11 h
                                exact x_sub [0, 1, 2, 3, 4, 5, 7] rfl (kJ_5 () h)
                    refine x_icmp_ne (pc := 664) C 682 dL_law_664 rfl (fun c_12 => ?_) (fun c_12 => ?_)
                    · replace h := of_ifn c_12 h
                      exact x_sub [0, 1, 2, 3, 4, 5, 6, 7, 8] rfl (kJ_4 _ h)
                    · replace h := of_ifp c_12 h
                      refine x_aload_n (pc := 667) C 1 dL_law_667 rfl ?_
                      refine x_iload (pc := 668) C 9 dL_law_668 rfl ?_
                      obtain ⟨⟨r_12, S_7⟩, hc_12, h⟩ := of_bd h
                      replace h := of_u2 h
                      refine x_callV1 (pc := 670) C (o := 0) [.int r_5] [] (c_X6_answer (b := b) r_5 hO S_4 _ _ hc_12) cw_L_100 vi_X6_answer ⟨rfl, rfl, Nat.le_of_ble_eq_true rfl, Nat.le_of_ble_eq_true rfl⟩ hR hO.1 ⟨rfl, rfl, rfl⟩ rfl ⟨rfl, Nat.le_of_ble_eq_true rfl⟩ dL_law_670 (fun hx_14 => ?_)
                      refine x_iload (pc := 673) C 10 dL_law_673 rfl ?_
                      refine x_i2l (pc := 675) C dL_law_675 ?_
                      refine x_lcmp_eq (pc := 676) C 682 dL_law_676 dL_law_677 rfl (fun c_13 => ?_) (fun c_13 => ?_)
                      · replace h := of_ifp c_13 h
                        exact x_sub [0, 1, 2, 3, 4, 5, 6, 7, 8] rfl (kJ_4 _ h)
                      · replace h := of_ifn c_13 h
                        refine x_iconst (pc := 680) C (v := (0 : Int32)) dL_law_680 rfl ?_
                        have hq := hr _ (of_s1 h).symm
                        exact x_lawret (pc := 681) hE dL_law_681 hq.1
                  refine x_icmp_eq (pc := 630) C 661 dL_law_630 rfl (fun c_14 => ?_) (fun c_14 => ?_)
                  · replace h := of_ifp c_14 h
                    exact x_sub [0, 1, 2, 3, 4, 5, 6, 7, 9, 10, 11] rfl (kJ_3 _ h)
                  · replace h := of_ifn c_14 h
                    refine x_aload_n (pc := 633) C 1 dL_law_633 rfl ?_
                    refine x_iload (pc := 634) C 7 dL_law_634 rfl ?_
                    refine x_iload (pc := 636) C 6 dL_law_636 rfl ?_
                    refine x_iload (pc := 638) C 8 dL_law_638 rfl ?_
                    obtain ⟨⟨r_13, S_8⟩, hc_13, h⟩ := of_bd h
                    replace h := of_u2 h
                    refine x_callV1 (pc := 640) C (o := 0) [.int r_3, .int v7_1, .int x_1] [] (c_X6_would (b := b) r_3 v7_1 x_1 hO S_3 _ _ hc_13) cw_L_72 vi_X6_would ⟨rfl, rfl, Nat.le_of_ble_eq_true rfl, Nat.le_of_ble_eq_true rfl⟩ hR hO.1 ⟨rfl, rfl, rfl⟩ rfl ⟨rfl, Nat.le_of_ble_eq_true rfl⟩ dL_law_640 (fun hx_15 => ?_)
                    refine x_if_ne (pc := 643) C 680 dL_law_643 rfl (fun c_15 => ?_) (fun c_15 => ?_)
                    · replace h := of_ifn c_15 h
                      refine x_iconst (pc := 680) C (v := (0 : Int32)) dL_law_680 rfl ?_
                      have hq := hr _ (of_s1 h).symm
                      exact x_lawret (pc := 681) hE dL_law_681 hq.1
                    · replace h := of_ifp c_15 h
                      refine x_aload_n (pc := 646) C 1 dL_law_646 rfl ?_
                      refine x_iload (pc := 647) C 7 dL_law_647 rfl ?_
                      refine x_iload (pc := 649) C 6 dL_law_649 rfl ?_
                      refine x_iload (pc := 651) C 8 dL_law_651 rfl ?_
                      obtain ⟨⟨r_14, S_9⟩, hc_14, h⟩ := of_bd h
                      replace h := of_u2 h
                      refine x_callV1 (pc := 653) C (o := 0) [.int r_3, .int v7_1, .int x_1] [] (c_X6_ask (b := b) r_3 v7_1 x_1 hO S_8 _ _ hc_14) cw_L_37 vi_X6_ask ⟨rfl, rfl, Nat.le_of_ble_eq_true rfl, Nat.le_of_ble_eq_true rfl⟩ hR hO.1 ⟨rfl, rfl, rfl⟩ rfl ⟨rfl, Nat.le_of_ble_eq_true rfl⟩ dL_law_653 (fun hx_16 => ?_)
                      refine x_iload (pc := 656) C 11 dL_law_656 rfl ?_
                      refine x_icmp_ne (pc := 658) C 680 dL_law_658 rfl (fun c_16 => ?_) (fun c_16 => ?_)
                      · replace h := of_ifn c_16 h
                        refine x_iconst (pc := 680) C (v := (0 : Int32)) dL_law_680 rfl ?_
                        have hq := hr _ (of_s1 h).symm
                        exact x_lawret (pc := 681) hE dL_law_681 hq.1
                      · replace h := of_ifp c_16 h
                        exact x_sub [0, 1, 2, 3, 4, 5, 6, 7, 9, 10, 11] rfl (kJ_3 _ h)
              refine x_icmp_ne (pc := 615) C 622 dL_law_615 rfl (fun c_17 => ?_) (fun c_17 => ?_)
              · refine x_iconst (pc := 622) C (v := (0 : Int32)) dL_law_622 rfl ?_
                refine x_sub [0, 1, 2, 3, 4, 5, 6, 7, 8, 9, 10, 11] rfl ?_
                rw [show x_3 = (0 : Int32) from (ex_3.trans (if_neg c_17))] at kd_2
                exact kd_2
              · refine x_iconst (pc := 618) C (v := (1 : Int32)) dL_law_618 rfl ?_
                refine x_goto (pc := 619) C 623 dL_law_619 rfl ?_
                refine x_sub [0, 1, 2, 3, 4, 5, 6, 7, 8, 9, 10, 11] rfl ?_
                rw [show x_3 = (1 : Int32) from (ex_3.trans (if_pos c_17))] at kd_2
                exact kd_2
          refine x_icmp_ne (pc := 592) C 600 dL_law_592 rfl (fun c_18 => ?_) (fun c_18 => ?_)
          · refine x_iload (pc := 600) C 12 dL_law_600 rfl ?_
            refine x_sub [1, 2, 3, 4, 5, 6, 7, 8, 9, 10, 11, 12] rfl ?_
            rw [show x_2 = v12_1 from (ex_2.trans (if_neg c_18))] at kd_1
            exact kd_1
          · refine x_ldc (pc := 595) C wd_507 dL_law_595 ?_
            refine x_goto (pc := 597) C 602 dL_law_597 rfl ?_
            refine x_sub [1, 2, 3, 4, 5, 6, 7, 8, 9, 10, 11, 12] rfl ?_
            rw [show x_2 = (1000000005 : Int32) from (ex_2.trans (if_pos c_18))] at kd_1
            exact kd_1
        refine x_icmp_ne (pc := 465) C 476 dL_law_465 rfl (fun c_19 => ?_) (fun c_19 => ?_)
        · replace h := of_ifn c_19 h
          exact x_sub [1, 2, 3, 4, 5, 6, 7, 8, 0] rfl (kJ_2 () h)
        · replace h := of_ifp c_19 h
          refine x_iload (pc := 468) C 0 dL_law_468 rfl ?_
          refine x_if_ne (pc := 470) C 476 dL_law_470 rfl (fun c_20 => ?_) (fun c_20 => ?_)
          · replace h := of_ifn c_20 h
            exact x_sub [1, 2, 3, 4, 5, 6, 7, 8, 0] rfl (kJ_2 () h)
          · replace h := of_ifp c_20 h
            refine x_goto (pc := 473) C 791 dL_law_473 rfl ?_
            obtain ⟨v5_4, ev5_4, h⟩ := of_lt h
            refine x_iinc (pc := 791) C (w := (1 : Int32)) 6 [(5, .int v5_4), (9, .int x_1), (0, .ref bs), (1, .ref (b + 0)), (2, .int v2), (3, .int v3), (4, .int v4), (7, .int v7_1), (8, .int r_3)] dL_law_791 rfl rfl (Nat.le_of_ble_eq_true rfl) ev5_4 rfl ?_
            refine x_goto (pc := 794) C 385 dL_law_794 rfl ?_
            exact x_sub [2, 3, 4, 5, 6, 0] rfl (ih _ _ h hr hx)
      refine x_icmp_ne (pc := 429) C 449 dL_law_429 rfl (fun c_21 => ?_) (fun c_21 => ?_)
      · replace h := of_ifn c_21 h
        refine x_iconst (pc := 449) C (v := (1 : Int32)) dL_law_449 rfl ?_
        refine x_iload (pc := 450) C 2 dL_law_450 rfl ?_
        refine x_bipush (pc := 452) C (v := (10 : Int32)) dL_law_452 rfl ?_
        refine x_ishr (pc := 454) C dL_law_454 ?_
        refine x_iconst (pc := 455) C (v := (3 : Int32)) dL_law_455 rfl ?_
        obtain ⟨r_15, hc_15, h⟩ := of_bd h
        refine x_callS1 (pc := 456) C [.int (isr r_1 (10 : Int32)), .int (3 : Int32)] [.int (1 : Int32)] (c_L_pick (b := b) (isr r_1 (10 : Int32)) (3 : Int32) S _ hc_15) cw_L_24 vs_L_pick ⟨rfl, rfl, Nat.le_of_ble_eq_true rfl, Nat.le_of_ble_eq_true rfl⟩ hR rfl ⟨rfl, Nat.le_of_ble_eq_true rfl⟩ dL_law_456 (fun hx_17 => ?_)
        refine x_iadd (pc := 459) C dL_law_459 ?_
        exact x_sub [3, 4, 5, 6, 7, 8, 1, 0] rfl (kJ_1 _ h)
      · replace h := of_ifp c_21 h
        refine x_iload (pc := 432) C 2 dL_law_432 rfl ?_
        refine x_bipush (pc := 434) C (v := (10 : Int32)) dL_law_434 rfl ?_
        refine x_ishr (pc := 436) C dL_law_436 ?_
        refine x_sipush (pc := 437) C (v := (255 : Int32)) dL_law_437 rfl ?_
        refine x_iand (pc := 440) C dL_law_440 ?_
        refine x_iload (pc := 441) C 1 dL_law_441 rfl ?_
        refine x_iconst (pc := 443) C (v := (-1 : Int32)) dL_law_443 rfl ?_
        refine x_ixor (pc := 444) C dL_law_444 ?_
        refine x_iand (pc := 445) C dL_law_445 ?_
        refine x_goto (pc := 446) C 460 dL_law_446 rfl ?_
        exact x_sub [3, 4, 5, 6, 7, 8, 1, 0] rfl (kJ_1 _ h)
set_option maxRecDepth 100000 in
set_option maxHeartbeats 4000000 in
theorem w_law {p : Program} {l : Launch} {e : Env} {s : State} {m : MethodId} {args : Array Value} {below : List Frame} {meth : Method} {c : Code} {G : zz_G} {L : Ly} {b : Nat} {Q : State → Prop} {cells slots : Nat} {mn md : String} {ret : Option FieldType} (C : CX p G s m args meth c cL_law ⟨RL, mn, md⟩ 16 ret) (bs : Nat) (Ls : Nat) (xs : Nat → Int32) (rf : Int32) (hX : SX bs Ls xs b s) (hO : isGu L) (hR : cells ≤ room_1.cells ∧ slots ≤ room_1.slots) (hE : ∀ (pc : Nat) (S : Sg), decode cL_law pc = .ok (.ireturn, 1) → X p l e room_1 s m args below meth c cells slots Q 16 G L b S pc [] [.int rf]) (S Sf : Sg) (h : f_L_law bs Ls xs S = some (rf, Sf)) : X p l e room_1 s m args below meth c cells slots Q 16 G L b S 8 [(1, .ref (b + 0)), (0, .ref bs)] [] := by
  unfold f_L_law at h
  refine x_aload_n (pc := 8) C 0 dL_law_8 rfl ?_
  refine x_aload_n (pc := 9) C 1 dL_law_9 rfl ?_
  refine x_bipush (pc := 10) C (v := (14 : Int32)) dL_law_10 rfl ?_
  obtain ⟨S_1, hc_1, h⟩ := of_bd h
  refine x_callSX_ (pc := 12) C hX [.ref (b + 0), .ref bs, .int (14 : Int32)] [] (c_L_guard (b := b) bs Ls xs (14 : Int32) hO S _ hc_1) cw_L_63 vs_L_guard ⟨rfl, rfl, Nat.le_of_ble_eq_true rfl, Nat.le_of_ble_eq_true rfl⟩ hR rfl ⟨rfl, Nat.le_of_ble_eq_true rfl⟩ dL_law_12 (fun hx_1 => ?_)
  refine x_aload_n (pc := 15) C 0 dL_law_15 rfl ?_
  obtain ⟨⟨r_1, S_2⟩, hc_2, h⟩ := of_bd h
  replace h := of_u2 h
  refine x_callV1 (pc := 16) C (o := 0) [] [] (c_X6_image (b := b) hO S_1 _ _ hc_2) cw_L_66 vi_X6_image ⟨rfl, rfl, Nat.le_of_ble_eq_true rfl, Nat.le_of_ble_eq_true rfl⟩ hR hO.1 ⟨rfl, rfl, rfl⟩ rfl ⟨rfl, Nat.le_of_ble_eq_true rfl⟩ dL_law_16 (fun hx_2 => ?_)
  refine x_istore_n (pc := 19) C 2 [(2, .int r_1), (1, .ref (b + 0)), (0, .ref bs)] dL_law_19 rfl (Nat.le_of_ble_eq_true rfl) rfl rfl ?_
  refine x_aload_n (pc := 20) C 1 dL_law_20 rfl ?_
  refine x_iconst (pc := 21) C (v := (1 : Int32)) dL_law_21 rfl ?_
  obtain ⟨r_2, hc_3, h⟩ := of_bd h
  refine x_callV1 (pc := 22) C (o := 0) [.int (1 : Int32)] [] (c_X6_count (b := b) (1 : Int32) hO S_2 _ hc_3) cw_L_69 vi_X6_count ⟨rfl, rfl, Nat.le_of_ble_eq_true rfl, Nat.le_of_ble_eq_true rfl⟩ hR hO.1 ⟨rfl, rfl, rfl⟩ rfl ⟨rfl, Nat.le_of_ble_eq_true rfl⟩ dL_law_22 (fun hx_3 => ?_)
  refine x_istore_n (pc := 25) C 3 [(3, .int r_2), (2, .int r_1), (1, .ref (b + 0)), (0, .ref bs)] dL_law_25 rfl (Nat.le_of_ble_eq_true rfl) rfl rfl ?_
  refine x_iconst (pc := 26) C (v := (0 : Int32)) dL_law_26 rfl ?_
  refine x_istore (pc := 27) C [(4, .int (0 : Int32)), (3, .int r_2), (2, .int r_1), (1, .ref (b + 0)), (0, .ref bs)] dL_law_27 (Nat.le_of_ble_eq_true rfl) rfl rfl ?_
  refine x_sub [4, 3, 2, 1, 0] rfl ?_
  obtain ⟨z_hz_3, hz_3, hl, hrr⟩ := of_bs h
  refine l_L_law_29 C bs Ls xs rf hX hO hR hE r_1 r_2 Sf 400 _ _ hz_3 (fun q ez => of_sp (x := q.1) (u := q.2) (hl _ ez)) (fun S_3 ez => ?_)
  replace h := hrr _ ez
  clear hl hrr
  refine x_aload_n (pc := 186) C 1 dL_law_186 rfl ?_
  refine x_callV1 (pc := 187) C (o := 0) [] [] (c_X6_pivots (b := b) hO S_3) cw_L_85 vi_X6_pivots ⟨rfl, rfl, Nat.le_of_ble_eq_true rfl, Nat.le_of_ble_eq_true rfl⟩ hR hO.1 ⟨rfl, rfl, rfl⟩ rfl ⟨rfl, Nat.le_of_ble_eq_true rfl⟩ dL_law_187 (fun hx_4 => ?_)
  obtain ⟨v4_1, ev4_1, h⟩ := of_lt h
  refine x_istore (pc := 190) C [(4, .int v4_1), (0, .ref bs), (1, .ref (b + 0)), (2, .int r_1), (3, .int r_2)] dL_law_190 (Nat.le_of_ble_eq_true rfl) ev4_1 rfl ?_
  refine x_iload (pc := 192) C 0 dL_law_192 rfl ?_
  refine x_callS1 (pc := 194) C [.int v4_1] [] (c_J6_bitCount_0f7a4 (b := b) v4_1 S_3) cw_L_88 vs_J6_bitCount_0f7a4 ⟨rfl, rfl, Nat.le_of_ble_eq_true rfl, Nat.le_of_ble_eq_true rfl⟩ hR rfl ⟨rfl, Nat.le_of_ble_eq_true rfl⟩ dL_law_194 (fun hx_5 => ?_)
  refine x_iload_n (pc := 197) C 3 dL_law_197 rfl ?_
  refine x_icmp_ne (pc := 198) C 229 dL_law_198 rfl (fun c_1 => ?_) (fun c_1 => ?_)
  · replace h := of_ifn c_1 h
    refine x_iconst (pc := 229) C (v := (0 : Int32)) dL_law_229 rfl ?_
    exact x_lawret (pc := 230) hE dL_law_230 (of_sp h).1
  · replace h := of_ifp c_1 h
    refine x_iload_n (pc := 201) C 3 dL_law_201 rfl ?_
    refine x_iload_n (pc := 202) C 4 dL_law_202 rfl ?_
    refine x_icmp_ge (pc := 203) C 229 dL_law_203 rfl (fun c_2 => ?_) (fun c_2 => ?_)
    · replace h := of_ifn c_2 h
      refine x_iconst (pc := 229) C (v := (0 : Int32)) dL_law_229 rfl ?_
      exact x_lawret (pc := 230) hE dL_law_230 (of_sp h).1
    · replace h := of_ifp c_2 h
      refine x_aload_n (pc := 206) C 2 dL_law_206 rfl ?_
      refine x_iconst (pc := 207) C (v := (1 : Int32)) dL_law_207 rfl ?_
      obtain ⟨⟨r_3, S_4⟩, hc_4, h⟩ := of_bd h
      replace h := of_u2 h
      refine x_callV1 (pc := 208) C (o := 0) [.int (1 : Int32)] [] (c_X6_sums (b := b) (1 : Int32) hO S_3 _ _ hc_4) cw_L_93 vi_X6_sums ⟨rfl, rfl, Nat.le_of_ble_eq_true rfl, Nat.le_of_ble_eq_true rfl⟩ hR hO.1 ⟨rfl, rfl, rfl⟩ rfl ⟨rfl, Nat.le_of_ble_eq_true rfl⟩ dL_law_208 (fun hx_6 => ?_)
      refine x_aload_n (pc := 211) C 2 dL_law_211 rfl ?_
      refine x_iconst (pc := 212) C (v := (2 : Int32)) dL_law_212 rfl ?_
      obtain ⟨⟨r_4, S_5⟩, hc_5, h⟩ := of_bd h
      replace h := of_u2 h
      refine x_callV1 (pc := 213) C (o := 0) [.int (2 : Int32)] [.int r_3] (c_X6_sums (b := b) (2 : Int32) hO S_4 _ _ hc_5) cw_L_93 vi_X6_sums ⟨rfl, rfl, Nat.le_of_ble_eq_true rfl, Nat.le_of_ble_eq_true rfl⟩ hR hO.1 ⟨rfl, rfl, rfl⟩ rfl ⟨rfl, Nat.le_of_ble_eq_true rfl⟩ dL_law_213 (fun hx_7 => ?_)
      refine x_iadd (pc := 216) C dL_law_216 ?_
      refine x_aload_n (pc := 217) C 2 dL_law_217 rfl ?_
      refine x_iconst (pc := 218) C (v := (3 : Int32)) dL_law_218 rfl ?_
      obtain ⟨⟨r_5, S_6⟩, hc_6, h⟩ := of_bd h
      replace h := of_u2 h
      refine x_callV1 (pc := 219) C (o := 0) [.int (3 : Int32)] [.int (r_3 + r_4)] (c_X6_sums (b := b) (3 : Int32) hO S_5 _ _ hc_6) cw_L_93 vi_X6_sums ⟨rfl, rfl, Nat.le_of_ble_eq_true rfl, Nat.le_of_ble_eq_true rfl⟩ hR hO.1 ⟨rfl, rfl, rfl⟩ rfl ⟨rfl, Nat.le_of_ble_eq_true rfl⟩ dL_law_219 (fun hx_8 => ?_)
      refine x_iadd (pc := 222) C dL_law_222 ?_
      refine x_sipush (pc := 223) C (v := (255 : Int32)) dL_law_223 rfl ?_
      refine x_icmp_eq (pc := 226) C 231 dL_law_226 rfl (fun c_3 => ?_) (fun c_3 => ?_)
      · replace h := of_ifp c_3 h
        refine x_iconst (pc := 231) C (v := (0 : Int32)) dL_law_231 rfl ?_
        refine x_istore (pc := 232) C [(5, .int (0 : Int32)), (4, .int v4_1), (0, .ref bs), (1, .ref (b + 0)), (2, .int r_1), (3, .int r_2)] dL_law_232 (Nat.le_of_ble_eq_true rfl) rfl rfl ?_
        refine x_sub [2, 3, 4, 5, 1, 0] rfl ?_
        obtain ⟨z_hz_2, hz_2, hl, hrr⟩ := of_bs h
        refine l_L_law_234 C bs Ls xs rf hX hO hR hE r_1 r_2 v4_1 Sf 400 _ _ hz_2 (fun q ez => of_sp (x := q.1) (u := q.2) (hl _ ez)) (fun S_7 ez => ?_)
        replace h := hrr _ ez
        clear hl hrr
        refine x_iconst (pc := 382) C (v := (0 : Int32)) dL_law_382 rfl ?_
        refine x_istore (pc := 383) C [(5, .int (0 : Int32)), (0, .ref bs), (1, .ref (b + 0)), (2, .int r_1), (3, .int r_2), (4, .int v4_1)] dL_law_383 (Nat.le_of_ble_eq_true rfl) rfl rfl ?_
        refine x_sub [1, 2, 3, 4, 5, 0] rfl ?_
        obtain ⟨z_hz_1, hz_1, hl, hrr⟩ := of_bs h
        refine l_L_law_385 C bs Ls xs rf hX hO hR hE r_1 r_2 v4_1 Sf 400 _ _ hz_1 (fun q ez => of_sp (x := q.1) (u := q.2) (hl _ ez)) (fun S_8 ez => ?_)
        replace h := hrr _ ez
        clear hl hrr
        refine x_aload_n (pc := 797) C 0 dL_law_797 rfl ?_
        obtain ⟨⟨r_6, S_9⟩, hc_7, h⟩ := of_bd h
        replace h := of_u2 h
        refine x_callV1 (pc := 798) C (o := 0) [] [] (c_X6_on (b := b) hO S_8 _ _ hc_7) cw_L_79 vi_X6_on ⟨rfl, rfl, Nat.le_of_ble_eq_true rfl, Nat.le_of_ble_eq_true rfl⟩ hR hO.1 ⟨rfl, rfl, rfl⟩ rfl ⟨rfl, Nat.le_of_ble_eq_true rfl⟩ dL_law_798 (fun hx_9 => ?_)
        refine x_iload_n (pc := 801) C 1 dL_law_801 rfl ?_
        refine x_icmp_ne (pc := 802) C 836 dL_law_802 rfl (fun c_4 => ?_) (fun c_4 => ?_)
        · replace h := of_ifn c_4 h
          refine x_iconst (pc := 836) C (v := (0 : Int32)) dL_law_836 rfl ?_
          exact x_lawret (pc := 837) hE dL_law_837 (of_sp h).1
        · replace h := of_ifp c_4 h
          refine x_aload_n (pc := 805) C 0 dL_law_805 rfl ?_
          refine x_iconst (pc := 806) C (v := (0 : Int32)) dL_law_806 rfl ?_
          obtain ⟨r_7, hc_8, h⟩ := of_bd h
          refine x_callV1 (pc := 807) C (o := 0) [.int (0 : Int32)] [] (c_X6_count (b := b) (0 : Int32) hO S_9 _ hc_8) cw_L_69 vi_X6_count ⟨rfl, rfl, Nat.le_of_ble_eq_true rfl, Nat.le_of_ble_eq_true rfl⟩ hR hO.1 ⟨rfl, rfl, rfl⟩ rfl ⟨rfl, Nat.le_of_ble_eq_true rfl⟩ dL_law_807 (fun hx_10 => ?_)
          refine x_iload_n (pc := 810) C 1 dL_law_810 rfl ?_
          refine x_icmp_ne (pc := 811) C 836 dL_law_811 rfl (fun c_5 => ?_) (fun c_5 => ?_)
          · replace h := of_ifn c_5 h
            refine x_iconst (pc := 836) C (v := (0 : Int32)) dL_law_836 rfl ?_
            exact x_lawret (pc := 837) hE dL_law_837 (of_sp h).1
          · replace h := of_ifp c_5 h
            refine x_aload_n (pc := 814) C 0 dL_law_814 rfl ?_
            refine x_iconst (pc := 815) C (v := (1 : Int32)) dL_law_815 rfl ?_
            obtain ⟨r_8, hc_9, h⟩ := of_bd h
            refine x_callV1 (pc := 816) C (o := 0) [.int (1 : Int32)] [] (c_X6_count (b := b) (1 : Int32) hO S_9 _ hc_9) cw_L_69 vi_X6_count ⟨rfl, rfl, Nat.le_of_ble_eq_true rfl, Nat.le_of_ble_eq_true rfl⟩ hR hO.1 ⟨rfl, rfl, rfl⟩ rfl ⟨rfl, Nat.le_of_ble_eq_true rfl⟩ dL_law_816 (fun hx_11 => ?_)
            refine x_iload_n (pc := 819) C 2 dL_law_819 rfl ?_
            obtain ⟨x_1, ex_1, h⟩ := of_lt h
            have kd_1 : X p l e room_1 s m args below meth c cells slots Q 16 G L b S_9 837 [] [.int x_1] := by
              exact x_lawret (pc := 837) hE dL_law_837 (of_sp h).1
            refine x_icmp_ne (pc := 820) C 836 dL_law_820 rfl (fun c_6 => ?_) (fun c_6 => ?_)
            · refine x_iconst (pc := 836) C (v := (0 : Int32)) dL_law_836 rfl ?_
              refine x_sub [] rfl ?_
              rw [show x_1 = (0 : Int32) from (ex_1.trans (if_neg c_6))] at kd_1
              exact kd_1
            · refine x_aload_n (pc := 823) C 0 dL_law_823 rfl ?_
              refine x_callV1 (pc := 824) C (o := 0) [] [] (c_X6_pivots (b := b) hO S_9) cw_L_85 vi_X6_pivots ⟨rfl, rfl, Nat.le_of_ble_eq_true rfl, Nat.le_of_ble_eq_true rfl⟩ hR hO.1 ⟨rfl, rfl, rfl⟩ rfl ⟨rfl, Nat.le_of_ble_eq_true rfl⟩ dL_law_824 (fun hx_12 => ?_)
              refine x_iload (pc := 827) C 3 dL_law_827 rfl ?_
              refine x_icmp_ne (pc := 829) C 836 dL_law_829 rfl (fun c_7 => ?_) (fun c_7 => ?_)
              · refine x_iconst (pc := 836) C (v := (0 : Int32)) dL_law_836 rfl ?_
                refine x_sub [] rfl ?_
                rw [show x_1 = (0 : Int32) from ((ex_1.trans (if_pos c_6)).trans (if_neg c_7))] at kd_1
                exact kd_1
              · refine x_iconst (pc := 832) C (v := (1 : Int32)) dL_law_832 rfl ?_
                refine x_goto (pc := 833) C 837 dL_law_833 rfl ?_
                refine x_sub [] rfl ?_
                rw [show x_1 = (1 : Int32) from ((ex_1.trans (if_pos c_6)).trans (if_pos c_7))] at kd_1
                exact kd_1
      · replace h := of_ifn c_3 h
        refine x_iconst (pc := 229) C (v := (0 : Int32)) dL_law_229 rfl ?_
        exact x_lawret (pc := 230) hE dL_law_230 (of_sp h).1
end
section
theorem zz_stub : True := trivial
end
