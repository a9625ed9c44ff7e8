section
-- ===== PART A: goes FIRST, ahead of the names: the tables' words, and 'selects' of the private methods out of them =====
/-- a private method of a class that the tables say can be made, by its rows of tables_1 -/
def lw_okq (q : MethodName × Nat) : Prop := (q.1.cls ≠ "java/lang/invoke/MethodHandle" ∧ q.1.cls ≠ "java/lang/invoke/VarHandle") ∧ Cond.instantiable q.1.cls q.2 ∈ tables_1 ∧ Cond.privateMethod q.1 ∈ tables_1 ∧ Cond.instanceMethod q.1 ∈ tables_1
theorem lw_p0 : lw_okq (⟨"GuardOfSums", "append", "(LGuardOfSums$Numbers;I)I"⟩, 9) := ⟨⟨by decide +kernel, by decide +kernel⟩, List.mem_of_getElem? (i := 13) (by decide +kernel), List.mem_of_getElem? (i := 175) (by decide +kernel), List.mem_of_getElem? (i := 176) (by decide +kernel)⟩
theorem lw_p1 : lw_okq (⟨"GuardOfSums", "refuse", "(I)I"⟩, 9) := ⟨⟨by decide +kernel, by decide +kernel⟩, List.mem_of_getElem? (i := 13) (by decide +kernel), List.mem_of_getElem? (i := 182) (by decide +kernel), List.mem_of_getElem? (i := 183) (by decide +kernel)⟩
theorem lw_p2 : lw_okq (⟨"GuardOfSums$World", "set", "(II)V"⟩, 14) := ⟨⟨by decide +kernel, by decide +kernel⟩, List.mem_of_getElem? (i := 21) (by decide +kernel), List.mem_of_getElem? (i := 253) (by decide +kernel), List.mem_of_getElem? (i := 254) (by decide +kernel)⟩
theorem lw_p3 : lw_okq (⟨"GuardOfSums$World", "findRest", "(LGuardOfSums$Question;)V"⟩, 14) := ⟨⟨by decide +kernel, by decide +kernel⟩, List.mem_of_getElem? (i := 21) (by decide +kernel), List.mem_of_getElem? (i := 291) (by decide +kernel), List.mem_of_getElem? (i := 292) (by decide +kernel)⟩
theorem lw_p4 : lw_okq (⟨"GuardOfSums", "narrowed", "(II)I"⟩, 9) := ⟨⟨by decide +kernel, by decide +kernel⟩, List.mem_of_getElem? (i := 13) (by decide +kernel), List.mem_of_getElem? (i := 361) (by decide +kernel), List.mem_of_getElem? (i := 362) (by decide +kernel)⟩
theorem lw_p5 : lw_okq (⟨"GuardOfSums$Narrowing", "narrowByRow", "(LGuardOfSums$World;I)Z"⟩, 3) := ⟨⟨by decide +kernel, by decide +kernel⟩, List.mem_of_getElem? (i := 111) (by decide +kernel), List.mem_of_getElem? (i := 374) (by decide +kernel), List.mem_of_getElem? (i := 375) (by decide +kernel)⟩
theorem lw_p6 : lw_okq (⟨"GuardOfSums$Narrowing", "lowEnd", "(II)I"⟩, 3) := ⟨⟨by decide +kernel, by decide +kernel⟩, List.mem_of_getElem? (i := 111) (by decide +kernel), List.mem_of_getElem? (i := 379) (by decide +kernel), List.mem_of_getElem? (i := 380) (by decide +kernel)⟩
theorem lw_p7 : lw_okq (⟨"GuardOfSums$Narrowing", "highEnd", "(II)I"⟩, 3) := ⟨⟨by decide +kernel, by decide +kernel⟩, List.mem_of_getElem? (i := 111) (by decide +kernel), List.mem_of_getElem? (i := 392) (by decide +kernel), List.mem_of_getElem? (i := 393) (by decide +kernel)⟩
theorem lw_p8 : lw_okq (⟨"GuardOfSums$Narrowing", "narrowOne", "(IIII)Z"⟩, 3) := ⟨⟨by decide +kernel, by decide +kernel⟩, List.mem_of_getElem? (i := 111) (by decide +kernel), List.mem_of_getElem? (i := 400) (by decide +kernel), List.mem_of_getElem? (i := 401) (by decide +kernel)⟩
theorem lw_p9 : lw_okq (⟨"GuardOfSums", "leastJoining", "()I"⟩, 9) := ⟨⟨by decide +kernel, by decide +kernel⟩, List.mem_of_getElem? (i := 13) (by decide +kernel), List.mem_of_getElem? (i := 459) (by decide +kernel), List.mem_of_getElem? (i := 460) (by decide +kernel)⟩
theorem lw_p10 : lw_okq (⟨"GuardOfSums", "meetingOfSum", "(LGuardOfSums$World;I)I"⟩, 9) := ⟨⟨by decide +kernel, by decide +kernel⟩, List.mem_of_getElem? (i := 13) (by decide +kernel), List.mem_of_getElem? (i := 463) (by decide +kernel), List.mem_of_getElem? (i := 464) (by decide +kernel)⟩
theorem lw_p11 : lw_okq (⟨"GuardOfSums", "howMany", "(I)I"⟩, 9) := ⟨⟨by decide +kernel, by decide +kernel⟩, List.mem_of_getElem? (i := 13) (by decide +kernel), List.mem_of_getElem? (i := 467) (by decide +kernel), List.mem_of_getElem? (i := 468) (by decide +kernel)⟩
theorem lw_p12 : lw_okq (⟨"GuardOfSums$Space", "pivotOf", "(I)I"⟩, 3) := ⟨⟨by decide +kernel, by decide +kernel⟩, List.mem_of_getElem? (i := 29) (by decide +kernel), List.mem_of_getElem? (i := 490) (by decide +kernel), List.mem_of_getElem? (i := 491) (by decide +kernel)⟩
theorem lw_p13 : lw_okq (⟨"GuardOfSums", "joinedInTurn", "(III)I"⟩, 9) := ⟨⟨by decide +kernel, by decide +kernel⟩, List.mem_of_getElem? (i := 13) (by decide +kernel), List.mem_of_getElem? (i := 563) (by decide +kernel), List.mem_of_getElem? (i := 564) (by decide +kernel)⟩
theorem lw_p14 : lw_okq (⟨"GuardOfSums", "takeSum", "(LGuardOfSums$World;I)I"⟩, 9) := ⟨⟨by decide +kernel, by decide +kernel⟩, List.mem_of_getElem? (i := 13) (by decide +kernel), List.mem_of_getElem? (i := 567) (by decide +kernel), List.mem_of_getElem? (i := 568) (by decide +kernel)⟩
theorem lw_p15 : lw_okq (⟨"GuardOfSums", "isRowOfPairs", "()Z"⟩, 9) := ⟨⟨by decide +kernel, by decide +kernel⟩, List.mem_of_getElem? (i := 13) (by decide +kernel), List.mem_of_getElem? (i := 606) (by decide +kernel), List.mem_of_getElem? (i := 607) (by decide +kernel)⟩
def lw_privs_1 : List (MethodName × Nat) := [(⟨"GuardOfSums", "append", "(LGuardOfSums$Numbers;I)I"⟩, 9), (⟨"GuardOfSums", "refuse", "(I)I"⟩, 9), (⟨"GuardOfSums$World", "set", "(II)V"⟩, 14), (⟨"GuardOfSums$World", "findRest", "(LGuardOfSums$Question;)V"⟩, 14), (⟨"GuardOfSums", "narrowed", "(II)I"⟩, 9), (⟨"GuardOfSums$Narrowing", "narrowByRow", "(LGuardOfSums$World;I)Z"⟩, 3), (⟨"GuardOfSums$Narrowing", "lowEnd", "(II)I"⟩, 3), (⟨"GuardOfSums$Narrowing", "highEnd", "(II)I"⟩, 3), (⟨"GuardOfSums$Narrowing", "narrowOne", "(IIII)Z"⟩, 3), (⟨"GuardOfSums", "leastJoining", "()I"⟩, 9), (⟨"GuardOfSums", "meetingOfSum", "(LGuardOfSums$World;I)I"⟩, 9), (⟨"GuardOfSums", "howMany", "(I)I"⟩, 9), (⟨"GuardOfSums$Space", "pivotOf", "(I)I"⟩, 3), (⟨"GuardOfSums", "joinedInTurn", "(III)I"⟩, 9), (⟨"GuardOfSums", "takeSum", "(LGuardOfSums$World;I)I"⟩, 9), (⟨"GuardOfSums", "isRowOfPairs", "()Z"⟩, 9)]
theorem lw_r1 : ∀ q ∈ lw_privs_1, lw_okq q := List.forall_mem_cons.mpr ⟨lw_p0, List.forall_mem_cons.mpr ⟨lw_p1, List.forall_mem_cons.mpr ⟨lw_p2, List.forall_mem_cons.mpr ⟨lw_p3, List.forall_mem_cons.mpr ⟨lw_p4, List.forall_mem_cons.mpr ⟨lw_p5, List.forall_mem_cons.mpr ⟨lw_p6, List.forall_mem_cons.mpr ⟨lw_p7, List.forall_mem_cons.mpr ⟨lw_p8, List.forall_mem_cons.mpr ⟨lw_p9, List.forall_mem_cons.mpr ⟨lw_p10, List.forall_mem_cons.mpr ⟨lw_p11, List.forall_mem_cons.mpr ⟨lw_p12, List.forall_mem_cons.mpr ⟨lw_p13, List.forall_mem_cons.mpr ⟨lw_p14, List.forall_mem_cons.mpr ⟨lw_p15, fun _ h => absurd h List.not_mem_nil⟩⟩⟩⟩⟩⟩⟩⟩⟩⟩⟩⟩⟩⟩⟩⟩
theorem lw_p16 : lw_okq (⟨"GuardOfSums", "isMetBy", "(II)Z"⟩, 9) := ⟨⟨by decide +kernel, by decide +kernel⟩, List.mem_of_getElem? (i := 13) (by decide +kernel), List.mem_of_getElem? (i := 611) (by decide +kernel), List.mem_of_getElem? (i := 612) (by decide +kernel)⟩
theorem lw_p17 : lw_okq (⟨"GuardOfSumsModel", "passesAll", "(IZ)V"⟩, 41) := ⟨⟨by decide +kernel, by decide +kernel⟩, List.mem_of_getElem? (i := 645) (by decide +kernel), List.mem_of_getElem? (i := 779) (by decide +kernel), List.mem_of_getElem? (i := 780) (by decide +kernel)⟩
theorem lw_p18 : lw_okq (⟨"GuardOfSumsModel", "passes", "([I)V"⟩, 41) := ⟨⟨by decide +kernel, by decide +kernel⟩, List.mem_of_getElem? (i := 645) (by decide +kernel), List.mem_of_getElem? (i := 783) (by decide +kernel), List.mem_of_getElem? (i := 784) (by decide +kernel)⟩
theorem lw_p19 : lw_okq (⟨"GuardOfSumsModel", "passOne", "(I)I"⟩, 41) := ⟨⟨by decide +kernel, by decide +kernel⟩, List.mem_of_getElem? (i := 645) (by decide +kernel), List.mem_of_getElem? (i := 787) (by decide +kernel), List.mem_of_getElem? (i := 788) (by decide +kernel)⟩
theorem lw_p20 : lw_okq (⟨"GuardOfSumsModel", "no", "(I)I"⟩, 41) := ⟨⟨by decide +kernel, by decide +kernel⟩, List.mem_of_getElem? (i := 645) (by decide +kernel), List.mem_of_getElem? (i := 795) (by decide +kernel), List.mem_of_getElem? (i := 796) (by decide +kernel)⟩
theorem lw_p21 : lw_okq (⟨"GuardOfSumsModel", "statement", "()Z"⟩, 41) := ⟨⟨by decide +kernel, by decide +kernel⟩, List.mem_of_getElem? (i := 645) (by decide +kernel), List.mem_of_getElem? (i := 810) (by decide +kernel), List.mem_of_getElem? (i := 811) (by decide +kernel)⟩
theorem lw_p22 : lw_okq (⟨"GuardOfSumsModel", "letterNow", "()I"⟩, 41) := ⟨⟨by decide +kernel, by decide +kernel⟩, List.mem_of_getElem? (i := 645) (by decide +kernel), List.mem_of_getElem? (i := 814) (by decide +kernel), List.mem_of_getElem? (i := 815) (by decide +kernel)⟩
theorem lw_p23 : lw_okq (⟨"GuardOfSumsModel", "readsAll", "(I)Z"⟩, 41) := ⟨⟨by decide +kernel, by decide +kernel⟩, List.mem_of_getElem? (i := 645) (by decide +kernel), List.mem_of_getElem? (i := 818) (by decide +kernel), List.mem_of_getElem? (i := 819) (by decide +kernel)⟩
theorem lw_p24 : lw_okq (⟨"GuardOfSumsModel", "readsDigits", "(I)Z"⟩, 41) := ⟨⟨by decide +kernel, by decide +kernel⟩, List.mem_of_getElem? (i := 645) (by decide +kernel), List.mem_of_getElem? (i := 822) (by decide +kernel), List.mem_of_getElem? (i := 823) (by decide +kernel)⟩
theorem lw_p25 : lw_okq (⟨"GuardOfSumsModel", "readsMany", "(I)Z"⟩, 41) := ⟨⟨by decide +kernel, by decide +kernel⟩, List.mem_of_getElem? (i := 645) (by decide +kernel), List.mem_of_getElem? (i := 829) (by decide +kernel), List.mem_of_getElem? (i := 830) (by decide +kernel)⟩
theorem lw_p26 : lw_okq (⟨"GuardOfSumsModel", "comes", "(I)Z"⟩, 41) := ⟨⟨by decide +kernel, by decide +kernel⟩, List.mem_of_getElem? (i := 645) (by decide +kernel), List.mem_of_getElem? (i := 833) (by decide +kernel), List.mem_of_getElem? (i := 834) (by decide +kernel)⟩
theorem lw_p27 : lw_okq (⟨"GuardOfSumsModel", "comesTold", "(II)Z"⟩, 41) := ⟨⟨by decide +kernel, by decide +kernel⟩, List.mem_of_getElem? (i := 645) (by decide +kernel), List.mem_of_getElem? (i := 837) (by decide +kernel), List.mem_of_getElem? (i := 838) (by decide +kernel)⟩
theorem lw_p28 : lw_okq (⟨"GuardOfSumsModel", "isFree", "(I)Z"⟩, 41) := ⟨⟨by decide +kernel, by decide +kernel⟩, List.mem_of_getElem? (i := 645) (by decide +kernel), List.mem_of_getElem? (i := 844) (by decide +kernel), List.mem_of_getElem? (i := 845) (by decide +kernel)⟩
theorem lw_p29 : lw_okq (⟨"GuardOfSumsModel", "isTold", "(II)V"⟩, 41) := ⟨⟨by decide +kernel, by decide +kernel⟩, List.mem_of_getElem? (i := 645) (by decide +kernel), List.mem_of_getElem? (i := 848) (by decide +kernel), List.mem_of_getElem? (i := 849) (by decide +kernel)⟩
theorem lw_p30 : lw_okq (⟨"GuardOfSumsModel", "comesChange", "(II)Z"⟩, 41) := ⟨⟨by decide +kernel, by decide +kernel⟩, List.mem_of_getElem? (i := 645) (by decide +kernel), List.mem_of_getElem? (i := 852) (by decide +kernel), List.mem_of_getElem? (i := 853) (by decide +kernel)⟩
theorem lw_p31 : lw_okq (⟨"GuardOfSumsModel", "changesTo", "(II)V"⟩, 41) := ⟨⟨by decide +kernel, by decide +kernel⟩, List.mem_of_getElem? (i := 645) (by decide +kernel), List.mem_of_getElem? (i := 856) (by decide +kernel), List.mem_of_getElem? (i := 857) (by decide +kernel)⟩
def lw_privs_2 : List (MethodName × Nat) := [(⟨"GuardOfSums", "isMetBy", "(II)Z"⟩, 9), (⟨"GuardOfSumsModel", "passesAll", "(IZ)V"⟩, 41), (⟨"GuardOfSumsModel", "passes", "([I)V"⟩, 41), (⟨"GuardOfSumsModel", "passOne", "(I)I"⟩, 41), (⟨"GuardOfSumsModel", "no", "(I)I"⟩, 41), (⟨"GuardOfSumsModel", "statement", "()Z"⟩, 41), (⟨"GuardOfSumsModel", "letterNow", "()I"⟩, 41), (⟨"GuardOfSumsModel", "readsAll", "(I)Z"⟩, 41), (⟨"GuardOfSumsModel", "readsDigits", "(I)Z"⟩, 41), (⟨"GuardOfSumsModel", "readsMany", "(I)Z"⟩, 41), (⟨"GuardOfSumsModel", "comes", "(I)Z"⟩, 41), (⟨"GuardOfSumsModel", "comesTold", "(II)Z"⟩, 41), (⟨"GuardOfSumsModel", "isFree", "(I)Z"⟩, 41), (⟨"GuardOfSumsModel", "isTold", "(II)V"⟩, 41), (⟨"GuardOfSumsModel", "comesChange", "(II)Z"⟩, 41), (⟨"GuardOfSumsModel", "changesTo", "(II)V"⟩, 41)]
theorem lw_r2 : ∀ q ∈ lw_privs_2, lw_okq q := List.forall_mem_cons.mpr ⟨lw_p16, List.forall_mem_cons.mpr ⟨lw_p17, List.forall_mem_cons.mpr ⟨lw_p18, List.forall_mem_cons.mpr ⟨lw_p19, List.forall_mem_cons.mpr ⟨lw_p20, List.forall_mem_cons.mpr ⟨lw_p21, List.forall_mem_cons.mpr ⟨lw_p22, List.forall_mem_cons.mpr ⟨lw_p23, List.forall_mem_cons.mpr ⟨lw_p24, List.forall_mem_cons.mpr ⟨lw_p25, List.forall_mem_cons.mpr ⟨lw_p26, List.forall_mem_cons.mpr ⟨lw_p27, List.forall_mem_cons.mpr ⟨lw_p28, List.forall_mem_cons.mpr ⟨lw_p29, List.forall_mem_cons.mpr ⟨lw_p30, List.forall_mem_cons.mpr ⟨lw_p31, fun _ h => absurd h List.not_mem_nil⟩⟩⟩⟩⟩⟩⟩⟩⟩⟩⟩⟩⟩⟩⟩⟩
theorem lw_p32 : lw_okq (⟨"GuardOfSumsModel", "comesBounds", "(III)Z"⟩, 41) := ⟨⟨by decide +kernel, by decide +kernel⟩, List.mem_of_getElem? (i := 645) (by decide +kernel), List.mem_of_getElem? (i := 860) (by decide +kernel), List.mem_of_getElem? (i := 861) (by decide +kernel)⟩
theorem lw_p33 : lw_okq (⟨"GuardOfSumsModel", "isVariable", "(I)Z"⟩, 41) := ⟨⟨by decide +kernel, by decide +kernel⟩, List.mem_of_getElem? (i := 645) (by decide +kernel), List.mem_of_getElem? (i := 864) (by decide +kernel), List.mem_of_getElem? (i := 865) (by decide +kernel)⟩
theorem lw_p34 : lw_okq (⟨"GuardOfSumsModel", "comesRule", "(II)Z"⟩, 41) := ⟨⟨by decide +kernel, by decide +kernel⟩, List.mem_of_getElem? (i := 645) (by decide +kernel), List.mem_of_getElem? (i := 868) (by decide +kernel), List.mem_of_getElem? (i := 869) (by decide +kernel)⟩
theorem lw_p35 : lw_okq (⟨"GuardOfSumsModel", "comesQuestion", "(II)Z"⟩, 41) := ⟨⟨by decide +kernel, by decide +kernel⟩, List.mem_of_getElem? (i := 645) (by decide +kernel), List.mem_of_getElem? (i := 872) (by decide +kernel), List.mem_of_getElem? (i := 873) (by decide +kernel)⟩
theorem lw_p36 : lw_okq (⟨"GuardOfSumsModel", "setTold", "(III)I"⟩, 41) := ⟨⟨by decide +kernel, by decide +kernel⟩, List.mem_of_getElem? (i := 645) (by decide +kernel), List.mem_of_getElem? (i := 876) (by decide +kernel), List.mem_of_getElem? (i := 877) (by decide +kernel)⟩
theorem lw_p37 : lw_okq (⟨"GuardOfSumsModel", "asks", "(III)V"⟩, 41) := ⟨⟨by decide +kernel, by decide +kernel⟩, List.mem_of_getElem? (i := 645) (by decide +kernel), List.mem_of_getElem? (i := 883) (by decide +kernel), List.mem_of_getElem? (i := 884) (by decide +kernel)⟩
theorem lw_p38 : lw_okq (⟨"GuardOfSumsModel", "isAsked", "()I"⟩, 41) := ⟨⟨by decide +kernel, by decide +kernel⟩, List.mem_of_getElem? (i := 645) (by decide +kernel), List.mem_of_getElem? (i := 893) (by decide +kernel), List.mem_of_getElem? (i := 894) (by decide +kernel)⟩
theorem lw_p39 : lw_okq (⟨"GuardOfSumsModel", "meetsNow", "()I"⟩, 41) := ⟨⟨by decide +kernel, by decide +kernel⟩, List.mem_of_getElem? (i := 645) (by decide +kernel), List.mem_of_getElem? (i := 897) (by decide +kernel), List.mem_of_getElem? (i := 898) (by decide +kernel)⟩
theorem lw_p40 : lw_okq (⟨"GuardOfSumsModel", "builds", "()V"⟩, 41) := ⟨⟨by decide +kernel, by decide +kernel⟩, List.mem_of_getElem? (i := 645) (by decide +kernel), List.mem_of_getElem? (i := 901) (by decide +kernel), List.mem_of_getElem? (i := 902) (by decide +kernel)⟩
theorem lw_p41 : lw_okq (⟨"GuardOfSumsModel", "adds", "([II)V"⟩, 41) := ⟨⟨by decide +kernel, by decide +kernel⟩, List.mem_of_getElem? (i := 645) (by decide +kernel), List.mem_of_getElem? (i := 905) (by decide +kernel), List.mem_of_getElem? (i := 906) (by decide +kernel)⟩
theorem lw_p42 : lw_okq (⟨"GuardOfSumsModel", "reduces", "([II)V"⟩, 41) := ⟨⟨by decide +kernel, by decide +kernel⟩, List.mem_of_getElem? (i := 645) (by decide +kernel), List.mem_of_getElem? (i := 909) (by decide +kernel), List.mem_of_getElem? (i := 910) (by decide +kernel)⟩
theorem lw_p43 : lw_okq (⟨"GuardOfSumsModel", "firstOfOne", "()I"⟩, 41) := ⟨⟨by decide +kernel, by decide +kernel⟩, List.mem_of_getElem? (i := 645) (by decide +kernel), List.mem_of_getElem? (i := 925) (by decide +kernel), List.mem_of_getElem? (i := 926) (by decide +kernel)⟩
theorem lw_p44 : lw_okq (⟨"GuardOfSumsModel", "meetsBy", "(II)I"⟩, 41) := ⟨⟨by decide +kernel, by decide +kernel⟩, List.mem_of_getElem? (i := 645) (by decide +kernel), List.mem_of_getElem? (i := 930) (by decide +kernel), List.mem_of_getElem? (i := 931) (by decide +kernel)⟩
theorem lw_p45 : lw_okq (⟨"GuardOfSumsModel", "loads", "()V"⟩, 41) := ⟨⟨by decide +kernel, by decide +kernel⟩, List.mem_of_getElem? (i := 645) (by decide +kernel), List.mem_of_getElem? (i := 934) (by decide +kernel), List.mem_of_getElem? (i := 935) (by decide +kernel)⟩
theorem lw_p46 : lw_okq (⟨"GuardOfSumsModel", "isForbidden", "(II)Z"⟩, 41) := ⟨⟨by decide +kernel, by decide +kernel⟩, List.mem_of_getElem? (i := 645) (by decide +kernel), List.mem_of_getElem? (i := 938) (by decide +kernel), List.mem_of_getElem? (i := 939) (by decide +kernel)⟩
theorem lw_p47 : lw_okq (⟨"GuardOfSumsModel", "isAnyFixed", "()Z"⟩, 41) := ⟨⟨by decide +kernel, by decide +kernel⟩, List.mem_of_getElem? (i := 645) (by decide +kernel), List.mem_of_getElem? (i := 942) (by decide +kernel), List.mem_of_getElem? (i := 943) (by decide +kernel)⟩
def lw_privs_3 : List (MethodName × Nat) := [(⟨"GuardOfSumsModel", "comesBounds", "(III)Z"⟩, 41), (⟨"GuardOfSumsModel", "isVariable", "(I)Z"⟩, 41), (⟨"GuardOfSumsModel", "comesRule", "(II)Z"⟩, 41), (⟨"GuardOfSumsModel", "comesQuestion", "(II)Z"⟩, 41), (⟨"GuardOfSumsModel", "setTold", "(III)I"⟩, 41), (⟨"GuardOfSumsModel", "asks", "(III)V"⟩, 41), (⟨"GuardOfSumsModel", "isAsked", "()I"⟩, 41), (⟨"GuardOfSumsModel", "meetsNow", "()I"⟩, 41), (⟨"GuardOfSumsModel", "builds", "()V"⟩, 41), (⟨"GuardOfSumsModel", "adds", "([II)V"⟩, 41), (⟨"GuardOfSumsModel", "reduces", "([II)V"⟩, 41), (⟨"GuardOfSumsModel", "firstOfOne", "()I"⟩, 41), (⟨"GuardOfSumsModel", "meetsBy", "(II)I"⟩, 41), (⟨"GuardOfSumsModel", "loads", "()V"⟩, 41), (⟨"GuardOfSumsModel", "isForbidden", "(II)Z"⟩, 41), (⟨"GuardOfSumsModel", "isAnyFixed", "()Z"⟩, 41)]
theorem lw_r3 : ∀ q ∈ lw_privs_3, lw_okq q := List.forall_mem_cons.mpr ⟨lw_p32, List.forall_mem_cons.mpr ⟨lw_p33, List.forall_mem_cons.mpr ⟨lw_p34, List.forall_mem_cons.mpr ⟨lw_p35, List.forall_mem_cons.mpr ⟨lw_p36, List.forall_mem_cons.mpr ⟨lw_p37, List.forall_mem_cons.mpr ⟨lw_p38, List.forall_mem_cons.mpr ⟨lw_p39, List.forall_mem_cons.mpr ⟨lw_p40, List.forall_mem_cons.mpr ⟨lw_p41, List.forall_mem_cons.mpr ⟨lw_p42, List.forall_mem_cons.mpr ⟨lw_p43, List.forall_mem_cons.mpr ⟨lw_p44, List.forall_mem_cons.mpr ⟨lw_p45, List.forall_mem_cons.mpr ⟨lw_p46, List.forall_mem_cons.mpr ⟨lw_p47, fun _ h => absurd h List.not_mem_nil⟩⟩⟩⟩⟩⟩⟩⟩⟩⟩⟩⟩⟩⟩⟩⟩
theorem lw_p48 : lw_okq (⟨"GuardOfSumsModel", "manyNot0", "(I)I"⟩, 41) := ⟨⟨by decide +kernel, by decide +kernel⟩, List.mem_of_getElem? (i := 645) (by decide +kernel), List.mem_of_getElem? (i := 946) (by decide +kernel), List.mem_of_getElem? (i := 947) (by decide +kernel)⟩
theorem lw_p49 : lw_okq (⟨"GuardOfSumsModel", "isAnyPaired", "()Z"⟩, 41) := ⟨⟨by decide +kernel, by decide +kernel⟩, List.mem_of_getElem? (i := 645) (by decide +kernel), List.mem_of_getElem? (i := 950) (by decide +kernel), List.mem_of_getElem? (i := 951) (by decide +kernel)⟩
theorem lw_p50 : lw_okq (⟨"GuardOfSumsModel", "areAlike", "(II)Z"⟩, 41) := ⟨⟨by decide +kernel, by decide +kernel⟩, List.mem_of_getElem? (i := 645) (by decide +kernel), List.mem_of_getElem? (i := 954) (by decide +kernel), List.mem_of_getElem? (i := 955) (by decide +kernel)⟩
theorem lw_p51 : lw_okq (⟨"GuardOfSumsModel", "isPivot", "(I)Z"⟩, 41) := ⟨⟨by decide +kernel, by decide +kernel⟩, List.mem_of_getElem? (i := 645) (by decide +kernel), List.mem_of_getElem? (i := 958) (by decide +kernel), List.mem_of_getElem? (i := 959) (by decide +kernel)⟩
theorem lw_p52 : lw_okq (⟨"GuardOfSumsModel", "joins", "()V"⟩, 41) := ⟨⟨by decide +kernel, by decide +kernel⟩, List.mem_of_getElem? (i := 645) (by decide +kernel), List.mem_of_getElem? (i := 962) (by decide +kernel), List.mem_of_getElem? (i := 963) (by decide +kernel)⟩
theorem lw_p53 : lw_okq (⟨"GuardOfSumsModel", "trueAnswer", "()I"⟩, 41) := ⟨⟨by decide +kernel, by decide +kernel⟩, List.mem_of_getElem? (i := 645) (by decide +kernel), List.mem_of_getElem? (i := 966) (by decide +kernel), List.mem_of_getElem? (i := 967) (by decide +kernel)⟩
theorem lw_p54 : lw_okq (⟨"GuardOfSumsModel", "lower", "(I)I"⟩, 41) := ⟨⟨by decide +kernel, by decide +kernel⟩, List.mem_of_getElem? (i := 645) (by decide +kernel), List.mem_of_getElem? (i := 998) (by decide +kernel), List.mem_of_getElem? (i := 999) (by decide +kernel)⟩
theorem lw_p55 : lw_okq (⟨"GuardOfSumsModel", "findSums", "()V"⟩, 41) := ⟨⟨by decide +kernel, by decide +kernel⟩, List.mem_of_getElem? (i := 645) (by decide +kernel), List.mem_of_getElem? (i := 1011) (by decide +kernel), List.mem_of_getElem? (i := 1012) (by decide +kernel)⟩
theorem lw_p56 : lw_okq (⟨"GuardOfSumsModel", "firstToJoin", "()I"⟩, 41) := ⟨⟨by decide +kernel, by decide +kernel⟩, List.mem_of_getElem? (i := 645) (by decide +kernel), List.mem_of_getElem? (i := 1015) (by decide +kernel), List.mem_of_getElem? (i := 1016) (by decide +kernel)⟩
theorem lw_p57 : lw_okq (⟨"GuardOfSumsModel", "isRow", "(I)Z"⟩, 41) := ⟨⟨by decide +kernel, by decide +kernel⟩, List.mem_of_getElem? (i := 645) (by decide +kernel), List.mem_of_getElem? (i := 1030) (by decide +kernel), List.mem_of_getElem? (i := 1031) (by decide +kernel)⟩
theorem lw_p58 : lw_okq (⟨"GuardOfSumsModel", "lowestOf", "(I)J"⟩, 41) := ⟨⟨by decide +kernel, by decide +kernel⟩, List.mem_of_getElem? (i := 645) (by decide +kernel), List.mem_of_getElem? (i := 1038) (by decide +kernel), List.mem_of_getElem? (i := 1039) (by decide +kernel)⟩
theorem lw_p59 : lw_okq (⟨"GuardOfSumsModel", "byPivots", "(I)I"⟩, 41) := ⟨⟨by decide +kernel, by decide +kernel⟩, List.mem_of_getElem? (i := 645) (by decide +kernel), List.mem_of_getElem? (i := 1047) (by decide +kernel), List.mem_of_getElem? (i := 1048) (by decide +kernel)⟩
theorem lw_p60 : lw_okq (⟨"GuardOfSumsModel", "isFixed", "(I)Z"⟩, 41) := ⟨⟨by decide +kernel, by decide +kernel⟩, List.mem_of_getElem? (i := 645) (by decide +kernel), List.mem_of_getElem? (i := 1062) (by decide +kernel), List.mem_of_getElem? (i := 1063) (by decide +kernel)⟩
theorem lw_p61 : lw_okq (⟨"GuardOfSumsModel", "narrows", "()V"⟩, 41) := ⟨⟨by decide +kernel, by decide +kernel⟩, List.mem_of_getElem? (i := 645) (by decide +kernel), List.mem_of_getElem? (i := 1070) (by decide +kernel), List.mem_of_getElem? (i := 1071) (by decide +kernel)⟩
theorem lw_p62 : lw_okq (⟨"GuardOfSumsModel", "narrowsOne", "(II)Z"⟩, 41) := ⟨⟨by decide +kernel, by decide +kernel⟩, List.mem_of_getElem? (i := 645) (by decide +kernel), List.mem_of_getElem? (i := 1074) (by decide +kernel), List.mem_of_getElem? (i := 1075) (by decide +kernel)⟩
theorem lw_p63 : lw_okq (⟨"GuardOfSumsModel", "width", "(I)I"⟩, 41) := ⟨⟨by decide +kernel, by decide +kernel⟩, List.mem_of_getElem? (i := 645) (by decide +kernel), List.mem_of_getElem? (i := 1084) (by decide +kernel), List.mem_of_getElem? (i := 1085) (by decide +kernel)⟩
def lw_privs_4 : List (MethodName × Nat) := [(⟨"GuardOfSumsModel", "manyNot0", "(I)I"⟩, 41), (⟨"GuardOfSumsModel", "isAnyPaired", "()Z"⟩, 41), (⟨"GuardOfSumsModel", "areAlike", "(II)Z"⟩, 41), (⟨"GuardOfSumsModel", "isPivot", "(I)Z"⟩, 41), (⟨"GuardOfSumsModel", "joins", "()V"⟩, 41), (⟨"GuardOfSumsModel", "trueAnswer", "()I"⟩, 41), (⟨"GuardOfSumsModel", "lower", "(I)I"⟩, 41), (⟨"GuardOfSumsModel", "findSums", "()V"⟩, 41), (⟨"GuardOfSumsModel", "firstToJoin", "()I"⟩, 41), (⟨"GuardOfSumsModel", "isRow", "(I)Z"⟩, 41), (⟨"GuardOfSumsModel", "lowestOf", "(I)J"⟩, 41), (⟨"GuardOfSumsModel", "byPivots", "(I)I"⟩, 41), (⟨"GuardOfSumsModel", "isFixed", "(I)Z"⟩, 41), (⟨"GuardOfSumsModel", "narrows", "()V"⟩, 41), (⟨"GuardOfSumsModel", "narrowsOne", "(II)Z"⟩, 41), (⟨"GuardOfSumsModel", "width", "(I)I"⟩, 41)]
theorem lw_r4 : ∀ q ∈ lw_privs_4, lw_okq q := List.forall_mem_cons.mpr ⟨lw_p48, List.forall_mem_cons.mpr ⟨lw_p49, List.forall_mem_cons.mpr ⟨lw_p50, List.forall_mem_cons.mpr ⟨lw_p51, List.forall_mem_cons.mpr ⟨lw_p52, List.forall_mem_cons.mpr ⟨lw_p53, List.forall_mem_cons.mpr ⟨lw_p54, List.forall_mem_cons.mpr ⟨lw_p55, List.forall_mem_cons.mpr ⟨lw_p56, List.forall_mem_cons.mpr ⟨lw_p57, List.forall_mem_cons.mpr ⟨lw_p58, List.forall_mem_cons.mpr ⟨lw_p59, List.forall_mem_cons.mpr ⟨lw_p60, List.forall_mem_cons.mpr ⟨lw_p61, List.forall_mem_cons.mpr ⟨lw_p62, List.forall_mem_cons.mpr ⟨lw_p63, fun _ h => absurd h List.not_mem_nil⟩⟩⟩⟩⟩⟩⟩⟩⟩⟩⟩⟩⟩⟩⟩⟩
theorem lw_p64 : lw_okq (⟨"GuardOfSumsModel", "knownNow", "()I"⟩, 41) := ⟨⟨by decide +kernel, by decide +kernel⟩, List.mem_of_getElem? (i := 645) (by decide +kernel), List.mem_of_getElem? (i := 1092) (by decide +kernel), List.mem_of_getElem? (i := 1093) (by decide +kernel)⟩
theorem lw_p65 : lw_okq (⟨"GuardOfSumsModel", "minds", "()V"⟩, 41) := ⟨⟨by decide +kernel, by decide +kernel⟩, List.mem_of_getElem? (i := 645) (by decide +kernel), List.mem_of_getElem? (i := 1100) (by decide +kernel), List.mem_of_getElem? (i := 1101) (by decide +kernel)⟩
theorem lw_p66 : lw_okq (⟨"GuardOfSumsModel", "narrowest", "()I"⟩, 41) := ⟨⟨by decide +kernel, by decide +kernel⟩, List.mem_of_getElem? (i := 645) (by decide +kernel), List.mem_of_getElem? (i := 1104) (by decide +kernel), List.mem_of_getElem? (i := 1105) (by decide +kernel)⟩
theorem lw_p67 : lw_okq (⟨"GuardOfSumsModel", "forgets", "()V"⟩, 41) := ⟨⟨by decide +kernel, by decide +kernel⟩, List.mem_of_getElem? (i := 645) (by decide +kernel), List.mem_of_getElem? (i := 1108) (by decide +kernel), List.mem_of_getElem? (i := 1109) (by decide +kernel)⟩
theorem lw_p68 : lw_okq (⟨"GuardOfSumsModel", "joinsIn", "(I)I"⟩, 41) := ⟨⟨by decide +kernel, by decide +kernel⟩, List.mem_of_getElem? (i := 645) (by decide +kernel), List.mem_of_getElem? (i := 1119) (by decide +kernel), List.mem_of_getElem? (i := 1120) (by decide +kernel)⟩
theorem lw_p69 : lw_okq (⟨"GuardOfSumsModel", "asksSum", "(I)I"⟩, 41) := ⟨⟨by decide +kernel, by decide +kernel⟩, List.mem_of_getElem? (i := 645) (by decide +kernel), List.mem_of_getElem? (i := 1123) (by decide +kernel), List.mem_of_getElem? (i := 1124) (by decide +kernel)⟩
theorem lw_p70 : lw_okq (⟨"GuardOfSumsModel", "findEnds", "(II)V"⟩, 41) := ⟨⟨by decide +kernel, by decide +kernel⟩, List.mem_of_getElem? (i := 645) (by decide +kernel), List.mem_of_getElem? (i := 1131) (by decide +kernel), List.mem_of_getElem? (i := 1132) (by decide +kernel)⟩
theorem lw_p71 : lw_okq (⟨"GuardOfSumsModel", "getsFor", "(I)I"⟩, 41) := ⟨⟨by decide +kernel, by decide +kernel⟩, List.mem_of_getElem? (i := 645) (by decide +kernel), List.mem_of_getElem? (i := 1135) (by decide +kernel), List.mem_of_getElem? (i := 1136) (by decide +kernel)⟩
theorem lw_p72 : lw_okq (⟨"GuardOfSumsModel", "isRowQuestions", "()Z"⟩, 41) := ⟨⟨by decide +kernel, by decide +kernel⟩, List.mem_of_getElem? (i := 645) (by decide +kernel), List.mem_of_getElem? (i := 1152) (by decide +kernel), List.mem_of_getElem? (i := 1153) (by decide +kernel)⟩
theorem lw_p73 : lw_okq (⟨"GuardOfSumsModel", "isMetSo", "(II)Z"⟩, 41) := ⟨⟨by decide +kernel, by decide +kernel⟩, List.mem_of_getElem? (i := 645) (by decide +kernel), List.mem_of_getElem? (i := 1156) (by decide +kernel), List.mem_of_getElem? (i := 1157) (by decide +kernel)⟩
theorem lw_p74 : lw_okq (⟨"GuardOfSumsModel", "answerBy", "(II)I"⟩, 41) := ⟨⟨by decide +kernel, by decide +kernel⟩, List.mem_of_getElem? (i := 645) (by decide +kernel), List.mem_of_getElem? (i := 1168) (by decide +kernel), List.mem_of_getElem? (i := 1169) (by decide +kernel)⟩
theorem lw_p75 : lw_okq (⟨"GuardOfSumsModel", "draw", "(I)I"⟩, 41) := ⟨⟨by decide +kernel, by decide +kernel⟩, List.mem_of_getElem? (i := 645) (by decide +kernel), List.mem_of_getElem? (i := 1180) (by decide +kernel), List.mem_of_getElem? (i := 1181) (by decide +kernel)⟩
theorem lw_p76 : lw_okq (⟨"GuardOfSumsModel", "notFree", "()I"⟩, 41) := ⟨⟨by decide +kernel, by decide +kernel⟩, List.mem_of_getElem? (i := 645) (by decide +kernel), List.mem_of_getElem? (i := 1191) (by decide +kernel), List.mem_of_getElem? (i := 1192) (by decide +kernel)⟩
theorem lw_p77 : lw_okq (⟨"GuardOfSumsModel", "allValues", "()I"⟩, 41) := ⟨⟨by decide +kernel, by decide +kernel⟩, List.mem_of_getElem? (i := 645) (by decide +kernel), List.mem_of_getElem? (i := 1195) (by decide +kernel), List.mem_of_getElem? (i := 1196) (by decide +kernel)⟩
def lw_privs_5 : List (MethodName × Nat) := [(⟨"GuardOfSumsModel", "knownNow", "()I"⟩, 41), (⟨"GuardOfSumsModel", "minds", "()V"⟩, 41), (⟨"GuardOfSumsModel", "narrowest", "()I"⟩, 41), (⟨"GuardOfSumsModel", "forgets", "()V"⟩, 41), (⟨"GuardOfSumsModel", "joinsIn", "(I)I"⟩, 41), (⟨"GuardOfSumsModel", "asksSum", "(I)I"⟩, 41), (⟨"GuardOfSumsModel", "findEnds", "(II)V"⟩, 41), (⟨"GuardOfSumsModel", "getsFor", "(I)I"⟩, 41), (⟨"GuardOfSumsModel", "isRowQuestions", "()Z"⟩, 41), (⟨"GuardOfSumsModel", "isMetSo", "(II)Z"⟩, 41), (⟨"GuardOfSumsModel", "answerBy", "(II)I"⟩, 41), (⟨"GuardOfSumsModel", "draw", "(I)I"⟩, 41), (⟨"GuardOfSumsModel", "notFree", "()I"⟩, 41), (⟨"GuardOfSumsModel", "allValues", "()I"⟩, 41)]
theorem lw_r5 : ∀ q ∈ lw_privs_5, lw_okq q := List.forall_mem_cons.mpr ⟨lw_p64, List.forall_mem_cons.mpr ⟨lw_p65, List.forall_mem_cons.mpr ⟨lw_p66, List.forall_mem_cons.mpr ⟨lw_p67, List.forall_mem_cons.mpr ⟨lw_p68, List.forall_mem_cons.mpr ⟨lw_p69, List.forall_mem_cons.mpr ⟨lw_p70, List.forall_mem_cons.mpr ⟨lw_p71, List.forall_mem_cons.mpr ⟨lw_p72, List.forall_mem_cons.mpr ⟨lw_p73, List.forall_mem_cons.mpr ⟨lw_p74, List.forall_mem_cons.mpr ⟨lw_p75, List.forall_mem_cons.mpr ⟨lw_p76, List.forall_mem_cons.mpr ⟨lw_p77, fun _ h => absurd h List.not_mem_nil⟩⟩⟩⟩⟩⟩⟩⟩⟩⟩⟩⟩⟩⟩
def lw_privs : List (MethodName × Nat) := lw_privs_1 ++ (lw_privs_2 ++ (lw_privs_3 ++ (lw_privs_4 ++ (lw_privs_5))))
def lw_tbl : List Cond := k2_sels lw_privs ++ tables_1
theorem lw_privs_ok : ∀ q ∈ lw_privs, lw_okq q := by
  show ∀ q ∈ lw_privs_1 ++ (lw_privs_2 ++ (lw_privs_3 ++ (lw_privs_4 ++ (lw_privs_5)))), lw_okq q
  exact List.forall_mem_append.mpr ⟨lw_r1, List.forall_mem_append.mpr ⟨lw_r2, List.forall_mem_append.mpr ⟨lw_r3, List.forall_mem_append.mpr ⟨lw_r4, lw_r5⟩⟩⟩⟩
end
section
def RX0 : String := "GuardOfSums$Narrowing"
def TX0 : u_T := fun k => match k with
  | 0 => ("GuardOfSums$Narrowing", "least", "[I", true)
  | 1 => ("GuardOfSums$Narrowing", "most", "[I", true)
  | _ => ("GuardOfSums$Narrowing", "variables", "I", false)
abbrev cX0_init : ByteArray := prog_2_method_1_code
def yX0_init : MethodName := ⟨RX0, "<init>", "()V"⟩
abbrev cX0_narrow : ByteArray := prog_2_method_2_code
def yX0_narrow : MethodName := ⟨RX0, "narrow", "(LGuardOfSums$World;)V"⟩
abbrev cX0_narrowByRow : ByteArray := prog_2_method_3_code
def yX0_narrowByRow : MethodName := ⟨RX0, "narrowByRow", "(LGuardOfSums$World;I)Z"⟩
abbrev cX0_narrowOne : ByteArray := prog_2_method_4_code
def yX0_narrowOne : MethodName := ⟨RX0, "narrowOne", "(IIII)Z"⟩
abbrev cX0_lowEnd : ByteArray := prog_2_method_5_code
def yX0_lowEnd : MethodName := ⟨RX0, "lowEnd", "(II)I"⟩
abbrev cX0_highEnd : ByteArray := prog_2_method_6_code
def yX0_highEnd : MethodName := ⟨RX0, "highEnd", "(II)I"⟩
abbrev cX0_leastOf : ByteArray := prog_2_method_7_code
def yX0_leastOf : MethodName := ⟨RX0, "leastOf", "(I)I"⟩
abbrev cX0_mostOf : ByteArray := prog_2_method_8_code
def yX0_mostOf : MethodName := ⟨RX0, "mostOf", "(I)I"⟩
abbrev cX0_widthOf : ByteArray := prog_2_method_9_code
def yX0_widthOf : MethodName := ⟨RX0, "widthOf", "(I)I"⟩
abbrev cX0_widths : ByteArray := prog_2_method_10_code
def yX0_widths : MethodName := ⟨RX0, "widths", "()I"⟩
abbrev cX0_narrowest : ByteArray := prog_2_method_11_code
def yX0_narrowest : MethodName := ⟨RX0, "narrowest", "()I"⟩
abbrev cX0_knownBits : ByteArray := prog_2_method_12_code
def yX0_knownBits : MethodName := ⟨RX0, "knownBits", "()I"⟩
def RX1 : String := "GuardOfSums$Numbers"
def TX1 : u_T := fun k => match k with
  | 0 => ("GuardOfSums$Numbers", "size", "I", false)
  | _ => ("GuardOfSums$Numbers", "numbers", "[I", true)
abbrev cX1_init : ByteArray := prog_3_method_1_code
def yX1_init : MethodName := ⟨RX1, "<init>", "(I)V"⟩
abbrev cX1_add : ByteArray := prog_3_method_2_code
def yX1_add : MethodName := ⟨RX1, "add", "(I)Z"⟩
abbrev cX1_at : ByteArray := prog_3_method_3_code
def yX1_at : MethodName := ⟨RX1, "at", "(I)I"⟩
abbrev cX1_forget : ByteArray := prog_3_method_4_code
def yX1_forget : MethodName := ⟨RX1, "forget", "()V"⟩
def RX2 : String := "GuardOfSums$Question"
def TX2 : u_T := fun k => match k with
  | _ => ("GuardOfSums$Question", "weights", "[I", true)
abbrev cX2_init : ByteArray := prog_4_method_1_code
def yX2_init : MethodName := ⟨RX2, "<init>", "()V"⟩
abbrev cX2_misfitOf : ByteArray := prog_4_method_2_code
def yX2_misfitOf : MethodName := ⟨RX2, "misfitOf", "(III)I"⟩
abbrev cX2_make : ByteArray := prog_4_method_3_code
def yX2_make : MethodName := ⟨RX2, "make", "(III)V"⟩
abbrev cX2_size : ByteArray := prog_4_method_4_code
def yX2_size : MethodName := ⟨RX2, "size", "()I"⟩
def RX3 : String := "GuardOfSums$Script"
def TX3 : u_T := fun k => match k with
  | _ => ("", "", "", false)
abbrev cX3_perform : ByteArray := prog_5_method_2_code
def yX3_perform : MethodName := ⟨RX3, "perform", "(LGuardOfSums$Numbers;LGuardOfSums$World;LGuardOfSums$Question;)I"⟩
abbrev cX3_firstMisfit : ByteArray := prog_5_method_3_code
def yX3_firstMisfit : MethodName := ⟨RX3, "firstMisfit", "(LGuardOfSums$Numbers;)I"⟩
abbrev cX3_digitsBehind : ByteArray := prog_5_method_4_code
def yX3_digitsBehind : MethodName := ⟨RX3, "digitsBehind", "(I)I"⟩
abbrev cX3_performOne : ByteArray := prog_5_method_5_code
def yX3_performOne : MethodName := ⟨RX3, "performOne", "(LGuardOfSums$Numbers;ILGuardOfSums$World;LGuardOfSums$Question;)Z"⟩
abbrev cX3_readQuestion : ByteArray := prog_5_method_6_code
def yX3_readQuestion : MethodName := ⟨RX3, "readQuestion", "(LGuardOfSums$Numbers;ILGuardOfSums$Question;)Z"⟩
abbrev cX3_digit : ByteArray := prog_5_method_7_code
def yX3_digit : MethodName := ⟨RX3, "digit", "(LGuardOfSums$Numbers;I)I"⟩
abbrev cX3_pair : ByteArray := prog_5_method_8_code
def yX3_pair : MethodName := ⟨RX3, "pair", "(LGuardOfSums$Numbers;I)I"⟩
def RX4 : String := "GuardOfSums$Space"
def TX4 : u_T := fun k => match k with
  | 0 => ("GuardOfSums$Space", "left", "[[J", true)
  | 1 => ("GuardOfSums$Space", "scale", "J", false)
  | _ => ("GuardOfSums$Space", "pivotBits", "I", false)
abbrev cX4_init : ByteArray := prog_6_method_1_code
def yX4_init : MethodName := ⟨RX4, "<init>", "()V"⟩
abbrev cX4_copyFrom : ByteArray := prog_6_method_2_code
def yX4_copyFrom : MethodName := ⟨RX4, "copyFrom", "(LGuardOfSums$Space;)V"⟩
abbrev cX4_leave : ByteArray := prog_6_method_3_code
def yX4_leave : MethodName := ⟨RX4, "leave", "([I[J)V"⟩
abbrev cX4_join : ByteArray := prog_6_method_4_code
def yX4_join : MethodName := ⟨RX4, "join", "([J)V"⟩
abbrev cX4_fixedBitsWith : ByteArray := prog_6_method_5_code
def yX4_fixedBitsWith : MethodName := ⟨RX4, "fixedBitsWith", "([J)I"⟩
abbrev cX4_hasPair : ByteArray := prog_6_method_6_code
def yX4_hasPair : MethodName := ⟨RX4, "hasPair", "()Z"⟩
abbrev cX4_reducedPart : ByteArray := prog_6_method_7_code
def yX4_reducedPart : MethodName := ⟨RX4, "reducedPart", "(III)J"⟩
abbrev cX4_pivotOf : ByteArray := prog_6_method_8_code
def yX4_pivotOf : MethodName := ⟨RX4, "pivotOf", "(I)I"⟩
abbrev cX4_firstIn : ByteArray := prog_6_method_9_code
def yX4_firstIn : MethodName := ⟨RX4, "firstIn", "([J)I"⟩
abbrev cX4_isOneLine : ByteArray := prog_6_method_10_code
def yX4_isOneLine : MethodName := ⟨RX4, "isOneLine", "([J[JI)Z"⟩
def RX5 : String := "GuardOfSums$World"
def TX5 : u_T := fun k => match k with
  | 0 => ("GuardOfSums$World", "owned", "[I", true)
  | 1 => ("GuardOfSums$World", "values", "[I", true)
  | 2 => ("GuardOfSums$World", "lows", "[I", true)
  | 3 => ("GuardOfSums$World", "highs", "[I", true)
  | 4 => ("GuardOfSums$World", "variables", "I", false)
  | 5 => ("GuardOfSums$World", "rule", "I", false)
  | 6 => ("GuardOfSums$World", "limit", "I", false)
  | 7 => ("GuardOfSums$World", "rows", "[[I", true)
  | 8 => ("GuardOfSums$World", "answers", "[I", true)
  | 9 => ("GuardOfSums$World", "rank", "I", false)
  | 10 => ("GuardOfSums$World", "space", "LGuardOfSums$Space;", true)
  | 11 => ("GuardOfSums$World", "trial", "LGuardOfSums$Space;", true)
  | 12 => ("GuardOfSums$World", "asked", "[I", true)
  | _ => ("GuardOfSums$World", "rest", "[J", true)
abbrev cX5_init : ByteArray := prog_7_method_1_code
def yX5_init : MethodName := ⟨RX5, "<init>", "()V"⟩
abbrev cX5_copyFrom : ByteArray := prog_7_method_2_code
def yX5_copyFrom : MethodName := ⟨RX5, "copyFrom", "(LGuardOfSums$World;)V"⟩
abbrev cX5_has : ByteArray := prog_7_method_3_code
def yX5_has : MethodName := ⟨RX5, "has", "(I)Z"⟩
abbrev cX5_variableOf : ByteArray := prog_7_method_4_code
def yX5_variableOf : MethodName := ⟨RX5, "variableOf", "(I)I"⟩
abbrev cX5_valueOf : ByteArray := prog_7_method_5_code
def yX5_valueOf : MethodName := ⟨RX5, "valueOf", "(I)I"⟩
abbrev cX5_lowOf : ByteArray := prog_7_method_6_code
def yX5_lowOf : MethodName := ⟨RX5, "lowOf", "(I)I"⟩
abbrev cX5_highOf : ByteArray := prog_7_method_7_code
def yX5_highOf : MethodName := ⟨RX5, "highOf", "(I)I"⟩
abbrev cX5_coefficient : ByteArray := prog_7_method_8_code
def yX5_coefficient : MethodName := ⟨RX5, "coefficient", "(II)I"⟩
abbrev cX5_answerOf : ByteArray := prog_7_method_9_code
def yX5_answerOf : MethodName := ⟨RX5, "answerOf", "(I)I"⟩
abbrev cX5_isFree : ByteArray := prog_7_method_10_code
def yX5_isFree : MethodName := ⟨RX5, "isFree", "(I)Z"⟩
abbrev cX5_usedBits : ByteArray := prog_7_method_11_code
def yX5_usedBits : MethodName := ⟨RX5, "usedBits", "()I"⟩
abbrev cX5_valuesOfPeople : ByteArray := prog_7_method_12_code
def yX5_valuesOfPeople : MethodName := ⟨RX5, "valuesOfPeople", "()I"⟩
abbrev cX5_answerByTold : ByteArray := prog_7_method_13_code
def yX5_answerByTold : MethodName := ⟨RX5, "answerByTold", "(ILGuardOfSums$Numbers;)I"⟩
abbrev cX5_takeTold : ByteArray := prog_7_method_14_code
def yX5_takeTold : MethodName := ⟨RX5, "takeTold", "(II)Z"⟩
abbrev cX5_takeChange : ByteArray := prog_7_method_15_code
def yX5_takeChange : MethodName := ⟨RX5, "takeChange", "(II)Z"⟩
abbrev cX5_set : ByteArray := prog_7_method_16_code
def yX5_set : MethodName := ⟨RX5, "set", "(II)V"⟩
abbrev cX5_takeBounds : ByteArray := prog_7_method_17_code
def yX5_takeBounds : MethodName := ⟨RX5, "takeBounds", "(III)Z"⟩
abbrev cX5_takeRule : ByteArray := prog_7_method_18_code
def yX5_takeRule : MethodName := ⟨RX5, "takeRule", "(I)Z"⟩
abbrev cX5_takeLimit : ByteArray := prog_7_method_19_code
def yX5_takeLimit : MethodName := ⟨RX5, "takeLimit", "(I)Z"⟩
abbrev cX5_takeQuestion : ByteArray := prog_7_method_20_code
def yX5_takeQuestion : MethodName := ⟨RX5, "takeQuestion", "(LGuardOfSums$Question;)I"⟩
abbrev cX5_meetingBy : ByteArray := prog_7_method_21_code
def yX5_meetingBy : MethodName := ⟨RX5, "meetingBy", "(LGuardOfSums$Question;II)I"⟩
abbrev cX5_fixedBitsWith : ByteArray := prog_7_method_22_code
def yX5_fixedBitsWith : MethodName := ⟨RX5, "fixedBitsWith", "(LGuardOfSums$Question;)I"⟩
abbrev cX5_join : ByteArray := prog_7_method_23_code
def yX5_join : MethodName := ⟨RX5, "join", "(LGuardOfSums$Question;)V"⟩
abbrev cX5_trueAnswer : ByteArray := prog_7_method_24_code
def yX5_trueAnswer : MethodName := ⟨RX5, "trueAnswer", "(LGuardOfSums$Question;)I"⟩
abbrev cX5_findRest : ByteArray := prog_7_method_25_code
def yX5_findRest : MethodName := ⟨RX5, "findRest", "(LGuardOfSums$Question;)V"⟩
def RX6 : String := "GuardOfSums"
def TX6 : u_T := fun k => match k with
  | 0 => ("GuardOfSums", "world", "LGuardOfSums$World;", true)
  | 1 => ("GuardOfSums", "draft", "LGuardOfSums$World;", true)
  | 2 => ("GuardOfSums", "kept", "LGuardOfSums$World;", true)
  | 3 => ("GuardOfSums", "isKept", "Z", false)
  | 4 => ("GuardOfSums", "question", "LGuardOfSums$Question;", true)
  | 5 => ("GuardOfSums", "narrowing", "LGuardOfSums$Narrowing;", true)
  | 6 => ("GuardOfSums", "letters", "LGuardOfSums$Numbers;", true)
  | 7 => ("GuardOfSums", "told", "LGuardOfSums$Numbers;", true)
  | _ => ("GuardOfSums", "refusals", "[I", true)
abbrev cX6_init : ByteArray := prog_1_method_1_code
def yX6_init : MethodName := ⟨RX6, "<init>", "()V"⟩
abbrev cX6_letter : ByteArray := prog_1_method_2_code
def yX6_letter : MethodName := ⟨RX6, "letter", "(I)I"⟩
abbrev cX6_guard : ByteArray := prog_1_method_3_code
def yX6_guard : MethodName := ⟨RX6, "guard", "()I"⟩
abbrev cX6_person : ByteArray := prog_1_method_4_code
def yX6_person : MethodName := ⟨RX6, "person", "(II)I"⟩
abbrev cX6_variable : ByteArray := prog_1_method_5_code
def yX6_variable : MethodName := ⟨RX6, "variable", "(II)I"⟩
abbrev cX6_narrowed : ByteArray := prog_1_method_6_code
def yX6_narrowed : MethodName := ⟨RX6, "narrowed", "(II)I"⟩
abbrev cX6_tells : ByteArray := prog_1_method_7_code
def yX6_tells : MethodName := ⟨RX6, "tells", "(II)I"⟩
abbrev cX6_changes : ByteArray := prog_1_method_8_code
def yX6_changes : MethodName := ⟨RX6, "changes", "(II)I"⟩
abbrev cX6_misfitOfValue : ByteArray := prog_1_method_9_code
def yX6_misfitOfValue : MethodName := ⟨RX6, "misfitOfValue", "(II)I"⟩
abbrev cX6_bounds : ByteArray := prog_1_method_10_code
def yX6_bounds : MethodName := ⟨RX6, "bounds", "(III)I"⟩
abbrev cX6_rule : ByteArray := prog_1_method_11_code
def yX6_rule : MethodName := ⟨RX6, "rule", "(I)I"⟩
abbrev cX6_limit : ByteArray := prog_1_method_12_code
def yX6_limit : MethodName := ⟨RX6, "limit", "(I)I"⟩
abbrev cX6_ask : ByteArray := prog_1_method_13_code
def yX6_ask : MethodName := ⟨RX6, "ask", "(III)I"⟩
abbrev cX6_would : ByteArray := prog_1_method_14_code
def yX6_would : MethodName := ⟨RX6, "would", "(III)I"⟩
abbrev cX6_sums : ByteArray := prog_1_method_15_code
def yX6_sums : MethodName := ⟨RX6, "sums", "(I)I"⟩
abbrev cX6_leastJoining : ByteArray := prog_1_method_16_code
def yX6_leastJoining : MethodName := ⟨RX6, "leastJoining", "()I"⟩
abbrev cX6_howMany : ByteArray := prog_1_method_17_code
def yX6_howMany : MethodName := ⟨RX6, "howMany", "(I)I"⟩
abbrev cX6_meetingOfSum : ByteArray := prog_1_method_18_code
def yX6_meetingOfSum : MethodName := ⟨RX6, "meetingOfSum", "(LGuardOfSums$World;I)I"⟩
abbrev cX6_takeSum : ByteArray := prog_1_method_19_code
def yX6_takeSum : MethodName := ⟨RX6, "takeSum", "(LGuardOfSums$World;I)I"⟩
abbrev cX6_ledger : ByteArray := prog_1_method_20_code
def yX6_ledger : MethodName := ⟨RX6, "ledger", "(II)I"⟩
abbrev cX6_answer : ByteArray := prog_1_method_21_code
def yX6_answer : MethodName := ⟨RX6, "answer", "(I)J"⟩
abbrev cX6_reduced : ByteArray := prog_1_method_22_code
def yX6_reduced : MethodName := ⟨RX6, "reduced", "(III)J"⟩
abbrev cX6_pivots : ByteArray := prog_1_method_23_code
def yX6_pivots : MethodName := ⟨RX6, "pivots", "()I"⟩
abbrev cX6_attack : ByteArray := prog_1_method_24_code
def yX6_attack : MethodName := ⟨RX6, "attack", "(II)I"⟩
abbrev cX6_known : ByteArray := prog_1_method_25_code
def yX6_known : MethodName := ⟨RX6, "known", "()I"⟩
abbrev cX6_learns : ByteArray := prog_1_method_26_code
def yX6_learns : MethodName := ⟨RX6, "learns", "(IIII)I"⟩
abbrev cX6_mean : ByteArray := prog_1_method_27_code
def yX6_mean : MethodName := ⟨RX6, "mean", "(I)J"⟩
abbrev cX6_order : ByteArray := prog_1_method_28_code
def yX6_order : MethodName := ⟨RX6, "order", "(IIII)I"⟩
abbrev cX6_pick : ByteArray := prog_1_method_29_code
def yX6_pick : MethodName := ⟨RX6, "pick", "(IIII)I"⟩
abbrev cX6_joinedInTurn : ByteArray := prog_1_method_30_code
def yX6_joinedInTurn : MethodName := ⟨RX6, "joinedInTurn", "(III)I"⟩
abbrev cX6_two : ByteArray := prog_1_method_31_code
def yX6_two : MethodName := ⟨RX6, "two", "(II)I"⟩
abbrev cX6_gain : ByteArray := prog_1_method_32_code
def yX6_gain : MethodName := ⟨RX6, "gain", "(I)I"⟩
abbrev cX6_cheapest : ByteArray := prog_1_method_33_code
def yX6_cheapest : MethodName := ⟨RX6, "cheapest", "(I)I"⟩
abbrev cX6_share : ByteArray := prog_1_method_34_code
def yX6_share : MethodName := ⟨RX6, "share", "(I)J"⟩
abbrev cX6_lots : ByteArray := prog_1_method_35_code
def yX6_lots : MethodName := ⟨RX6, "lots", "(III)I"⟩
abbrev cX6_row : ByteArray := prog_1_method_36_code
def yX6_row : MethodName := ⟨RX6, "row", "(I)I"⟩
abbrev cX6_clear : ByteArray := prog_1_method_37_code
def yX6_clear : MethodName := ⟨RX6, "clear", "()I"⟩
abbrev cX6_which : ByteArray := prog_1_method_38_code
def yX6_which : MethodName := ⟨RX6, "which", "(I)I"⟩
abbrev cX6_isRowOfPairs : ByteArray := prog_1_method_39_code
def yX6_isRowOfPairs : MethodName := ⟨RX6, "isRowOfPairs", "()Z"⟩
abbrev cX6_isMetBy : ByteArray := prog_1_method_40_code
def yX6_isMetBy : MethodName := ⟨RX6, "isMetBy", "(II)Z"⟩
abbrev cX6_judge : ByteArray := prog_1_method_41_code
def yX6_judge : MethodName := ⟨RX6, "judge", "()I"⟩
abbrev cX6_image : ByteArray := prog_1_method_42_code
def yX6_image : MethodName := ⟨RX6, "image", "()I"⟩
abbrev cX6_on : ByteArray := prog_1_method_43_code
def yX6_on : MethodName := ⟨RX6, "on", "()I"⟩
abbrev cX6_count : ByteArray := prog_1_method_44_code
def yX6_count : MethodName := ⟨RX6, "count", "(I)I"⟩
abbrev cX6_refuse : ByteArray := prog_1_method_45_code
def yX6_refuse : MethodName := ⟨RX6, "refuse", "(I)I"⟩
abbrev cX6_append : ByteArray := prog_1_method_46_code
def yX6_append : MethodName := ⟨RX6, "append", "(LGuardOfSums$Numbers;I)I"⟩
abbrev cX6_misfitOfAll : ByteArray := prog_1_method_47_code
def yX6_misfitOfAll : MethodName := ⟨RX6, "misfitOfAll", "(II)I"⟩
abbrev cX6_misfit : ByteArray := prog_1_method_48_code
def yX6_misfit : MethodName := ⟨RX6, "misfit", "(III)I"⟩
abbrev cX6_isWithin : ByteArray := prog_1_method_49_code
def yX6_isWithin : MethodName := ⟨RX6, "isWithin", "(II)Z"⟩
abbrev cX6_asNumber : ByteArray := prog_1_method_50_code
def yX6_asNumber : MethodName := ⟨RX6, "asNumber", "(Z)I"⟩
abbrev cX6_partInLeastTerms : ByteArray := prog_1_method_51_code
def yX6_partInLeastTerms : MethodName := ⟨RX6, "partInLeastTerms", "(JJI)J"⟩
abbrev cX6_greatestDivisor : ByteArray := prog_1_method_52_code
def yX6_greatestDivisor : MethodName := ⟨RX6, "greatestDivisor", "(JJ)J"⟩
def RX7 : String := "GuardOfSumsModel"
def TX7 : u_T := fun k => match k with
  | 0 => ("GuardOfSumsModel", "refused", "[I", true)
  | 1 => ("GuardOfSumsModel", "value", "[I", true)
  | 2 => ("GuardOfSumsModel", "low", "[I", true)
  | 3 => ("GuardOfSumsModel", "high", "[I", true)
  | 4 => ("GuardOfSumsModel", "variableOf", "[I", true)
  | 5 => ("GuardOfSumsModel", "ledger", "[I", true)
  | 6 => ("GuardOfSumsModel", "answers", "[I", true)
  | 7 => ("GuardOfSumsModel", "variables", "I", false)
  | 8 => ("GuardOfSumsModel", "rank", "I", false)
  | 9 => ("GuardOfSumsModel", "rule", "I", false)
  | 10 => ("GuardOfSumsModel", "limit", "I", false)
  | 11 => ("GuardOfSumsModel", "asked", "[I", true)
  | 12 => ("GuardOfSumsModel", "askedSize", "I", false)
  | 13 => ("GuardOfSumsModel", "base", "[J", true)
  | 14 => ("GuardOfSumsModel", "red", "[J", true)
  | 15 => ("GuardOfSumsModel", "one", "[J", true)
  | 16 => ("GuardOfSumsModel", "basePivots", "[I", true)
  | 17 => ("GuardOfSumsModel", "pivots", "[I", true)
  | 18 => ("GuardOfSumsModel", "baseRows", "I", false)
  | 19 => ("GuardOfSumsModel", "redRows", "I", false)
  | 20 => ("GuardOfSumsModel", "kept", "[I", true)
  | 21 => ("GuardOfSumsModel", "hasImage", "Z", false)
  | 22 => ("GuardOfSumsModel", "isKeeping", "Z", false)
  | 23 => ("GuardOfSumsModel", "cursor", "I", false)
  | 24 => ("GuardOfSumsModel", "tape", "[I", true)
  | 25 => ("GuardOfSumsModel", "sort", "[I", true)
  | 26 => ("GuardOfSumsModel", "sortAt", "[I", true)
  | 27 => ("GuardOfSumsModel", "told", "[I", true)
  | 28 => ("GuardOfSumsModel", "taped", "I", false)
  | 29 => ("GuardOfSumsModel", "reading", "I", false)
  | 30 => ("GuardOfSumsModel", "statements", "I", false)
  | 31 => ("GuardOfSumsModel", "telling", "I", false)
  | 32 => ("GuardOfSumsModel", "meets", "[I", true)
  | 33 => ("GuardOfSumsModel", "met", "[I", true)
  | 34 => ("GuardOfSumsModel", "least", "[I", true)
  | 35 => ("GuardOfSumsModel", "most", "[I", true)
  | 36 => ("GuardOfSumsModel", "three", "[I", true)
  | 37 => ("GuardOfSumsModel", "ends", "[I", true)
  | 38 => ("GuardOfSumsModel", "row", "[I", true)
  | 39 => ("GuardOfSumsModel", "rowMany", "I", false)
  | _ => ("GuardOfSumsModel", "lots", "I", false)
abbrev cX7_init : ByteArray := prog_9_method_1_code
def yX7_init : MethodName := ⟨RX7, "<init>", "()V"⟩
abbrev cX7_no : ByteArray := prog_9_method_2_code
def yX7_no : MethodName := ⟨RX7, "no", "(I)I"⟩
abbrev cX7_lower : ByteArray := prog_9_method_3_code
def yX7_lower : MethodName := ⟨RX7, "lower", "(I)I"⟩
abbrev cX7_lowestOf : ByteArray := prog_9_method_4_code
def yX7_lowestOf : MethodName := ⟨RX7, "lowestOf", "(I)J"⟩
abbrev cX7_isIn : ByteArray := prog_9_method_5_code
def yX7_isIn : MethodName := ⟨RX7, "isIn", "(III)Z"⟩
abbrev cX7_bound : ByteArray := prog_9_method_6_code
def yX7_bound : MethodName := ⟨RX7, "bound", "(III)I"⟩
abbrev cX7_has : ByteArray := prog_9_method_7_code
def yX7_has : MethodName := ⟨RX7, "has", "(II)Z"⟩
abbrev cX7_bits : ByteArray := prog_9_method_8_code
def yX7_bits : MethodName := ⟨RX7, "bits", "(I)I"⟩
abbrev cX7_isPerson : ByteArray := prog_9_method_9_code
def yX7_isPerson : MethodName := ⟨RX7, "isPerson", "(I)Z"⟩
abbrev cX7_isVariable : ByteArray := prog_9_method_10_code
def yX7_isVariable : MethodName := ⟨RX7, "isVariable", "(I)Z"⟩
abbrev cX7_isFree : ByteArray := prog_9_method_11_code
def yX7_isFree : MethodName := ⟨RX7, "isFree", "(I)Z"⟩
abbrev cX7_notQuestion : ByteArray := prog_9_method_12_code
def yX7_notQuestion : MethodName := ⟨RX7, "notQuestion", "(III)I"⟩
abbrev cX7_weight : ByteArray := prog_9_method_13_code
def yX7_weight : MethodName := ⟨RX7, "weight", "(IIII)I"⟩
abbrev cX7_asks : ByteArray := prog_9_method_14_code
def yX7_asks : MethodName := ⟨RX7, "asks", "(III)V"⟩
abbrev cX7_trueAnswer : ByteArray := prog_9_method_15_code
def yX7_trueAnswer : MethodName := ⟨RX7, "trueAnswer", "()I"⟩
abbrev cX7_sizeOf : ByteArray := prog_9_method_16_code
def yX7_sizeOf : MethodName := ⟨RX7, "sizeOf", "(J)J"⟩
abbrev cX7_divisor : ByteArray := prog_9_method_17_code
def yX7_divisor : MethodName := ⟨RX7, "divisor", "(JJ)J"⟩
abbrev cX7_makesLeast : ByteArray := prog_9_method_18_code
def yX7_makesLeast : MethodName := ⟨RX7, "makesLeast", "([JI)V"⟩
abbrev cX7_clears : ByteArray := prog_9_method_19_code
def yX7_clears : MethodName := ⟨RX7, "clears", "([JI[JII)V"⟩
abbrev cX7_loads : ByteArray := prog_9_method_20_code
def yX7_loads : MethodName := ⟨RX7, "loads", "()V"⟩
abbrev cX7_reduces : ByteArray := prog_9_method_21_code
def yX7_reduces : MethodName := ⟨RX7, "reduces", "([II)V"⟩
abbrev cX7_firstOfOne : ByteArray := prog_9_method_22_code
def yX7_firstOfOne : MethodName := ⟨RX7, "firstOfOne", "()I"⟩
abbrev cX7_adds : ByteArray := prog_9_method_23_code
def yX7_adds : MethodName := ⟨RX7, "adds", "([II)V"⟩
abbrev cX7_builds : ByteArray := prog_9_method_24_code
def yX7_builds : MethodName := ⟨RX7, "builds", "()V"⟩
abbrev cX7_manyNot0 : ByteArray := prog_9_method_25_code
def yX7_manyNot0 : MethodName := ⟨RX7, "manyNot0", "(I)I"⟩
abbrev cX7_isFixed : ByteArray := prog_9_method_26_code
def yX7_isFixed : MethodName := ⟨RX7, "isFixed", "(I)Z"⟩
abbrev cX7_isAnyFixed : ByteArray := prog_9_method_27_code
def yX7_isAnyFixed : MethodName := ⟨RX7, "isAnyFixed", "()Z"⟩
abbrev cX7_isPivot : ByteArray := prog_9_method_28_code
def yX7_isPivot : MethodName := ⟨RX7, "isPivot", "(I)Z"⟩
abbrev cX7_areAlike : ByteArray := prog_9_method_29_code
def yX7_areAlike : MethodName := ⟨RX7, "areAlike", "(II)Z"⟩
abbrev cX7_isAnyPaired : ByteArray := prog_9_method_30_code
def yX7_isAnyPaired : MethodName := ⟨RX7, "isAnyPaired", "()Z"⟩
abbrev cX7_isForbidden : ByteArray := prog_9_method_31_code
def yX7_isForbidden : MethodName := ⟨RX7, "isForbidden", "(II)Z"⟩
abbrev cX7_meetsBy : ByteArray := prog_9_method_32_code
def yX7_meetsBy : MethodName := ⟨RX7, "meetsBy", "(II)I"⟩
abbrev cX7_meetsNow : ByteArray := prog_9_method_33_code
def yX7_meetsNow : MethodName := ⟨RX7, "meetsNow", "()I"⟩
abbrev cX7_joins : ByteArray := prog_9_method_34_code
def yX7_joins : MethodName := ⟨RX7, "joins", "()V"⟩
abbrev cX7_isAsked : ByteArray := prog_9_method_35_code
def yX7_isAsked : MethodName := ⟨RX7, "isAsked", "()I"⟩
abbrev cX7_passes : ByteArray := prog_9_method_36_code
def yX7_passes : MethodName := ⟨RX7, "passes", "([I)V"⟩
abbrev cX7_passOne : ByteArray := prog_9_method_37_code
def yX7_passOne : MethodName := ⟨RX7, "passOne", "(I)I"⟩
abbrev cX7_passesAll : ByteArray := prog_9_method_38_code
def yX7_passesAll : MethodName := ⟨RX7, "passesAll", "(IZ)V"⟩
abbrev cX7_minds : ByteArray := prog_9_method_39_code
def yX7_minds : MethodName := ⟨RX7, "minds", "()V"⟩
abbrev cX7_forgets : ByteArray := prog_9_method_40_code
def yX7_forgets : MethodName := ⟨RX7, "forgets", "()V"⟩
abbrev cX7_image : ByteArray := prog_9_method_41_code
def yX7_image : MethodName := ⟨RX7, "image", "()I"⟩
abbrev cX7_on : ByteArray := prog_9_method_42_code
def yX7_on : MethodName := ⟨RX7, "on", "()I"⟩
abbrev cX7_letter : ByteArray := prog_9_method_43_code
def yX7_letter : MethodName := ⟨RX7, "letter", "(I)I"⟩
abbrev cX7_letterNow : ByteArray := prog_9_method_44_code
def yX7_letterNow : MethodName := ⟨RX7, "letterNow", "()I"⟩
abbrev cX7_readsDigits : ByteArray := prog_9_method_45_code
def yX7_readsDigits : MethodName := ⟨RX7, "readsDigits", "(I)Z"⟩
abbrev cX7_readsMany : ByteArray := prog_9_method_46_code
def yX7_readsMany : MethodName := ⟨RX7, "readsMany", "(I)Z"⟩
abbrev cX7_readsAll : ByteArray := prog_9_method_47_code
def yX7_readsAll : MethodName := ⟨RX7, "readsAll", "(I)Z"⟩
abbrev cX7_statement : ByteArray := prog_9_method_48_code
def yX7_statement : MethodName := ⟨RX7, "statement", "()Z"⟩
abbrev cX7_isTold : ByteArray := prog_9_method_49_code
def yX7_isTold : MethodName := ⟨RX7, "isTold", "(II)V"⟩
abbrev cX7_comesTold : ByteArray := prog_9_method_50_code
def yX7_comesTold : MethodName := ⟨RX7, "comesTold", "(II)Z"⟩
abbrev cX7_changesTo : ByteArray := prog_9_method_51_code
def yX7_changesTo : MethodName := ⟨RX7, "changesTo", "(II)V"⟩
abbrev cX7_comesChange : ByteArray := prog_9_method_52_code
def yX7_comesChange : MethodName := ⟨RX7, "comesChange", "(II)Z"⟩
abbrev cX7_comesBounds : ByteArray := prog_9_method_53_code
def yX7_comesBounds : MethodName := ⟨RX7, "comesBounds", "(III)Z"⟩
abbrev cX7_comesRule : ByteArray := prog_9_method_54_code
def yX7_comesRule : MethodName := ⟨RX7, "comesRule", "(II)Z"⟩
abbrev cX7_setTold : ByteArray := prog_9_method_55_code
def yX7_setTold : MethodName := ⟨RX7, "setTold", "(III)I"⟩
abbrev cX7_comesQuestion : ByteArray := prog_9_method_56_code
def yX7_comesQuestion : MethodName := ⟨RX7, "comesQuestion", "(II)Z"⟩
abbrev cX7_comes : ByteArray := prog_9_method_57_code
def yX7_comes : MethodName := ⟨RX7, "comes", "(I)Z"⟩
abbrev cX7_guard : ByteArray := prog_9_method_58_code
def yX7_guard : MethodName := ⟨RX7, "guard", "()I"⟩
abbrev cX7_person : ByteArray := prog_9_method_59_code
def yX7_person : MethodName := ⟨RX7, "person", "(II)I"⟩
abbrev cX7_tells : ByteArray := prog_9_method_60_code
def yX7_tells : MethodName := ⟨RX7, "tells", "(II)I"⟩
abbrev cX7_changes : ByteArray := prog_9_method_61_code
def yX7_changes : MethodName := ⟨RX7, "changes", "(II)I"⟩
abbrev cX7_bounds : ByteArray := prog_9_method_62_code
def yX7_bounds : MethodName := ⟨RX7, "bounds", "(III)I"⟩
abbrev cX7_rule : ByteArray := prog_9_method_63_code
def yX7_rule : MethodName := ⟨RX7, "rule", "(I)I"⟩
abbrev cX7_limit : ByteArray := prog_9_method_64_code
def yX7_limit : MethodName := ⟨RX7, "limit", "(I)I"⟩
abbrev cX7_ask : ByteArray := prog_9_method_65_code
def yX7_ask : MethodName := ⟨RX7, "ask", "(III)I"⟩
abbrev cX7_would : ByteArray := prog_9_method_66_code
def yX7_would : MethodName := ⟨RX7, "would", "(III)I"⟩
abbrev cX7_findSums : ByteArray := prog_9_method_67_code
def yX7_findSums : MethodName := ⟨RX7, "findSums", "()V"⟩
abbrev cX7_firstToJoin : ByteArray := prog_9_method_68_code
def yX7_firstToJoin : MethodName := ⟨RX7, "firstToJoin", "()I"⟩
abbrev cX7_sums : ByteArray := prog_9_method_69_code
def yX7_sums : MethodName := ⟨RX7, "sums", "(I)I"⟩
abbrev cX7_cheapest : ByteArray := prog_9_method_70_code
def yX7_cheapest : MethodName := ⟨RX7, "cheapest", "(I)I"⟩
abbrev cX7_isRow : ByteArray := prog_9_method_71_code
def yX7_isRow : MethodName := ⟨RX7, "isRow", "(I)Z"⟩
abbrev cX7_ledger : ByteArray := prog_9_method_72_code
def yX7_ledger : MethodName := ⟨RX7, "ledger", "(II)I"⟩
abbrev cX7_answer : ByteArray := prog_9_method_73_code
def yX7_answer : MethodName := ⟨RX7, "answer", "(I)J"⟩
abbrev cX7_partOf : ByteArray := prog_9_method_74_code
def yX7_partOf : MethodName := ⟨RX7, "partOf", "(JJI)J"⟩
abbrev cX7_byPivots : ByteArray := prog_9_method_75_code
def yX7_byPivots : MethodName := ⟨RX7, "byPivots", "(I)I"⟩
abbrev cX7_reduced : ByteArray := prog_9_method_76_code
def yX7_reduced : MethodName := ⟨RX7, "reduced", "(III)J"⟩
abbrev cX7_pivots : ByteArray := prog_9_method_77_code
def yX7_pivots : MethodName := ⟨RX7, "pivots", "()I"⟩
abbrev cX7_attack : ByteArray := prog_9_method_78_code
def yX7_attack : MethodName := ⟨RX7, "attack", "(II)I"⟩
abbrev cX7_below : ByteArray := prog_9_method_79_code
def yX7_below : MethodName := ⟨RX7, "below", "(II)I"⟩
abbrev cX7_above : ByteArray := prog_9_method_80_code
def yX7_above : MethodName := ⟨RX7, "above", "(II)I"⟩
abbrev cX7_narrowsOne : ByteArray := prog_9_method_81_code
def yX7_narrowsOne : MethodName := ⟨RX7, "narrowsOne", "(II)Z"⟩
abbrev cX7_narrows : ByteArray := prog_9_method_82_code
def yX7_narrows : MethodName := ⟨RX7, "narrows", "()V"⟩
abbrev cX7_width : ByteArray := prog_9_method_83_code
def yX7_width : MethodName := ⟨RX7, "width", "(I)I"⟩
abbrev cX7_variable : ByteArray := prog_9_method_84_code
def yX7_variable : MethodName := ⟨RX7, "variable", "(II)I"⟩
abbrev cX7_knownNow : ByteArray := prog_9_method_85_code
def yX7_knownNow : MethodName := ⟨RX7, "knownNow", "()I"⟩
abbrev cX7_known : ByteArray := prog_9_method_86_code
def yX7_known : MethodName := ⟨RX7, "known", "()I"⟩
abbrev cX7_narrowest : ByteArray := prog_9_method_87_code
def yX7_narrowest : MethodName := ⟨RX7, "narrowest", "()I"⟩
abbrev cX7_learns : ByteArray := prog_9_method_88_code
def yX7_learns : MethodName := ⟨RX7, "learns", "(IIII)I"⟩
abbrev cX7_asksSum : ByteArray := prog_9_method_89_code
def yX7_asksSum : MethodName := ⟨RX7, "asksSum", "(I)I"⟩
abbrev cX7_joinsIn : ByteArray := prog_9_method_90_code
def yX7_joinsIn : MethodName := ⟨RX7, "joinsIn", "(I)I"⟩
abbrev cX7_isOrder : ByteArray := prog_9_method_91_code
def yX7_isOrder : MethodName := ⟨RX7, "isOrder", "(I)Z"⟩
abbrev cX7_order : ByteArray := prog_9_method_92_code
def yX7_order : MethodName := ⟨RX7, "order", "(IIII)I"⟩
abbrev cX7_getsFor : ByteArray := prog_9_method_93_code
def yX7_getsFor : MethodName := ⟨RX7, "getsFor", "(I)I"⟩
abbrev cX7_findEnds : ByteArray := prog_9_method_94_code
def yX7_findEnds : MethodName := ⟨RX7, "findEnds", "(II)V"⟩
abbrev cX7_two : ByteArray := prog_9_method_95_code
def yX7_two : MethodName := ⟨RX7, "two", "(II)I"⟩
abbrev cX7_mean : ByteArray := prog_9_method_96_code
def yX7_mean : MethodName := ⟨RX7, "mean", "(I)J"⟩
abbrev cX7_share : ByteArray := prog_9_method_97_code
def yX7_share : MethodName := ⟨RX7, "share", "(I)J"⟩
abbrev cX7_isRowQuestions : ByteArray := prog_9_method_98_code
def yX7_isRowQuestions : MethodName := ⟨RX7, "isRowQuestions", "()Z"⟩
abbrev cX7_isMetSo : ByteArray := prog_9_method_99_code
def yX7_isMetSo : MethodName := ⟨RX7, "isMetSo", "(II)Z"⟩
abbrev cX7_which : ByteArray := prog_9_method_100_code
def yX7_which : MethodName := ⟨RX7, "which", "(I)I"⟩
abbrev cX7_row : ByteArray := prog_9_method_101_code
def yX7_row : MethodName := ⟨RX7, "row", "(I)I"⟩
abbrev cX7_answerBy : ByteArray := prog_9_method_102_code
def yX7_answerBy : MethodName := ⟨RX7, "answerBy", "(II)I"⟩
abbrev cX7_judge : ByteArray := prog_9_method_103_code
def yX7_judge : MethodName := ⟨RX7, "judge", "()I"⟩
abbrev cX7_clear : ByteArray := prog_9_method_104_code
def yX7_clear : MethodName := ⟨RX7, "clear", "()I"⟩
abbrev cX7_draw : ByteArray := prog_9_method_105_code
def yX7_draw : MethodName := ⟨RX7, "draw", "(I)I"⟩
abbrev cX7_lots : ByteArray := prog_9_method_106_code
def yX7_lots : MethodName := ⟨RX7, "lots", "(III)I"⟩
abbrev cX7_notFree : ByteArray := prog_9_method_107_code
def yX7_notFree : MethodName := ⟨RX7, "notFree", "()I"⟩
abbrev cX7_allValues : ByteArray := prog_9_method_108_code
def yX7_allValues : MethodName := ⟨RX7, "allValues", "()I"⟩
abbrev cX7_count : ByteArray := prog_9_method_109_code
def yX7_count : MethodName := ⟨RX7, "count", "(I)I"⟩
def RJ6 : String := "java/lang/Integer"
abbrev cJ6_bitCount_0f7a4 : ByteArray := prog_10_method_49_code
def yJ6_bitCount_0f7a4 : MethodName := ⟨RJ6, "bitCount", "(I)I"⟩
def RJ9 : String := "java/lang/Math"
abbrev cJ9_floorDiv_7cf53 : ByteArray := prog_11_method_47_code
def yJ9_floorDiv_7cf53 : MethodName := ⟨RJ9, "floorDiv", "(II)I"⟩
abbrev cJ9_abs_067f4 : ByteArray := prog_11_method_61_code
def yJ9_abs_067f4 : MethodName := ⟨RJ9, "abs", "(J)J"⟩
abbrev cJ9_max_7cf53 : ByteArray := prog_11_method_65_code
def yJ9_max_7cf53 : MethodName := ⟨RJ9, "max", "(II)I"⟩
abbrev cJ9_min_7cf53 : ByteArray := prog_11_method_69_code
def yJ9_min_7cf53 : MethodName := ⟨RJ9, "min", "(II)I"⟩
def RJ10 : String := "java/lang/System"
def RL : String := "GuardOfSumsLaw"
abbrev cL_law : ByteArray := code
def yL_law : MethodName := ⟨RL, "law", "([I)Z"⟩
abbrev classes : List vw_C := [(RX0, TX0, 3), (RX1, TX1, 2), (RX2, TX2, 1), (RX4, TX4, 3), (RX5, TX5, 14), (RX6, TX6, 9), (RX7, TX7, 41)]
def zz_all : List Cond := lw_tbl.filter goodWord
theorem zz_in {w : Cond} (i : Nat) (h : lw_tbl[i]? = some w) (g : goodWord w = true) : w ∈ zz_all := List.mem_filter.mpr ⟨List.mem_of_getElem? h, g⟩
abbrev zz_N : Type := String × Nat × MethodName × String
def zz_nest : List zz_N := [(RX6, 24, yX2_init, RX6), (RX6, 31, yX0_init, RX6), (RX1, 19, yX6_isWithin, RX6), (RX5, 72, yX6_isWithin, RX6), (RX4, 34, yX6_isWithin, RX6), (RX0, 61, yX6_isWithin, RX6), (RX4, 46, yX6_asNumber, RX6), (RX4, 50, yX6_partInLeastTerms, RX6)]
theorem zz_lay {ws : List Cond} (ps : List Nat) (hp : ws = ps.filterMap (fun i => lw_tbl[i]?)) (h : ws.all goodWord = true) : ∀ w ∈ ws, w ∈ zz_all := by
  intro w hw
  have h1 := List.all_eq_true.mp h w hw
  rw [hp] at hw
  obtain ⟨i, -, hi⟩ := List.mem_filterMap.mp hw
  exact zz_in i hi h1
set_option maxRecDepth 100000 in
theorem cls_in : ∀ (ci : Nat) (q : vw_C), classes[ci]? = some q → ∀ w ∈ u_ws q.1 q.2.1 q.2.2, w ∈ zz_all := by
  intro ci q h
  match ci, h with
  | 0, h => cases h; exact zz_lay [197, 199, 201] rfl (by decide +kernel)
  | 1, h => cases h; exact zz_lay [215, 217] rfl (by decide +kernel)
  | 2, h => cases h; exact zz_lay [185] rfl (by decide +kernel)
  | 3, h => cases h; exact zz_lay [118, 120, 122] rfl (by decide +kernel)
  | 4, h => cases h; exact zz_lay [148, 150, 152, 154, 156, 158, 160, 162, 164, 166, 168, 170, 172, 174] rfl (by decide +kernel)
  | 5, h => cases h; exact zz_lay [229, 231, 233, 235, 237, 239, 241, 243, 245] rfl (by decide +kernel)
  | 6, h => cases h; exact zz_lay [769, 771, 773, 775, 777, 779, 781, 783, 785, 787, 789, 791, 793, 795, 797, 799, 801, 803, 805, 807, 809, 811, 813, 815, 817, 819, 821, 823, 825, 827, 829, 831, 833, 835, 837, 839, 841, 843, 845, 847, 849] rfl (by decide +kernel)
  | _ + 7, h => cases h
set_option maxRecDepth 100000 in
theorem cls_nm : ∀ (ci : Nat) (q : vw_C), classes[ci]? = some q → ∀ a, a < q.2.2 → ∀ b, b < q.2.2 → (a ≠ b → (q.2.1 a).2.1 ≠ (q.2.1 b).2.1) ∧ (parseFieldDescriptor (q.2.1 a).2.2.1).isSome = true := by
  intro ci q h
  match ci, h with
  | 0, h => cases h; decide +kernel
  | 1, h => cases h; decide +kernel
  | 2, h => cases h; decide +kernel
  | 3, h => cases h; decide +kernel
  | 4, h => cases h; decide +kernel
  | 5, h => cases h; decide +kernel
  | 6, h => cases h; decide +kernel
  | _ + 7, h => cases h
theorem wd_0 : Cond.selects RX6 yX6_append yX6_append ∈ zz_all := zz_in 0 (by decide +kernel) (by decide +kernel)
theorem wd_1 : Cond.selects RX6 yX6_refuse yX6_refuse ∈ zz_all := zz_in 1 (by decide +kernel) (by decide +kernel)
theorem wd_2 : Cond.selects RX5 yX5_set yX5_set ∈ zz_all := zz_in 2 (by decide +kernel) (by decide +kernel)
theorem wd_3 : Cond.selects RX5 yX5_findRest yX5_findRest ∈ zz_all := zz_in 3 (by decide +kernel) (by decide +kernel)
theorem wd_4 : Cond.selects RX6 yX6_narrowed yX6_narrowed ∈ zz_all := zz_in 4 (by decide +kernel) (by decide +kernel)
theorem wd_5 : Cond.selects RX0 yX0_narrowByRow yX0_narrowByRow ∈ zz_all := zz_in 5 (by decide +kernel) (by decide +kernel)
theorem wd_6 : Cond.selects RX0 yX0_lowEnd yX0_lowEnd ∈ zz_all := zz_in 6 (by decide +kernel) (by decide +kernel)
theorem wd_7 : Cond.selects RX0 yX0_highEnd yX0_highEnd ∈ zz_all := zz_in 7 (by decide +kernel) (by decide +kernel)
theorem wd_8 : Cond.selects RX0 yX0_narrowOne yX0_narrowOne ∈ zz_all := zz_in 8 (by decide +kernel) (by decide +kernel)
theorem wd_9 : Cond.selects RX6 yX6_leastJoining yX6_leastJoining ∈ zz_all := zz_in 9 (by decide +kernel) (by decide +kernel)
theorem wd_10 : Cond.selects RX6 yX6_meetingOfSum yX6_meetingOfSum ∈ zz_all := zz_in 10 (by decide +kernel) (by decide +kernel)
theorem wd_11 : Cond.selects RX6 yX6_howMany yX6_howMany ∈ zz_all := zz_in 11 (by decide +kernel) (by decide +kernel)
theorem wd_12 : Cond.selects RX4 yX4_pivotOf yX4_pivotOf ∈ zz_all := zz_in 12 (by decide +kernel) (by decide +kernel)
theorem wd_13 : Cond.selects RX6 yX6_joinedInTurn yX6_joinedInTurn ∈ zz_all := zz_in 13 (by decide +kernel) (by decide +kernel)
theorem wd_14 : Cond.selects RX6 yX6_takeSum yX6_takeSum ∈ zz_all := zz_in 14 (by decide +kernel) (by decide +kernel)
theorem wd_15 : Cond.selects RX6 yX6_isRowOfPairs yX6_isRowOfPairs ∈ zz_all := zz_in 15 (by decide +kernel) (by decide +kernel)
theorem wd_16 : Cond.selects RX6 yX6_isMetBy yX6_isMetBy ∈ zz_all := zz_in 16 (by decide +kernel) (by decide +kernel)
theorem wd_17 : Cond.selects RX7 yX7_passesAll yX7_passesAll ∈ zz_all := zz_in 17 (by decide +kernel) (by decide +kernel)
theorem wd_18 : Cond.selects RX7 yX7_passes yX7_passes ∈ zz_all := zz_in 18 (by decide +kernel) (by decide +kernel)
theorem wd_19 : Cond.selects RX7 yX7_passOne yX7_passOne ∈ zz_all := zz_in 19 (by decide +kernel) (by decide +kernel)
theorem wd_20 : Cond.selects RX7 yX7_no yX7_no ∈ zz_all := zz_in 20 (by decide +kernel) (by decide +kernel)
theorem wd_21 : Cond.selects RX7 yX7_statement yX7_statement ∈ zz_all := zz_in 21 (by decide +kernel) (by decide +kernel)
theorem wd_22 : Cond.selects RX7 yX7_letterNow yX7_letterNow ∈ zz_all := zz_in 22 (by decide +kernel) (by decide +kernel)
theorem wd_23 : Cond.selects RX7 yX7_readsAll yX7_readsAll ∈ zz_all := zz_in 23 (by decide +kernel) (by decide +kernel)
theorem wd_24 : Cond.selects RX7 yX7_readsDigits yX7_readsDigits ∈ zz_all := zz_in 24 (by decide +kernel) (by decide +kernel)
theorem wd_25 : Cond.selects RX7 yX7_readsMany yX7_readsMany ∈ zz_all := zz_in 25 (by decide +kernel) (by decide +kernel)
theorem wd_26 : Cond.selects RX7 yX7_comes yX7_comes ∈ zz_all := zz_in 26 (by decide +kernel) (by decide +kernel)
theorem wd_27 : Cond.selects RX7 yX7_comesTold yX7_comesTold ∈ zz_all := zz_in 27 (by decide +kernel) (by decide +kernel)
theorem wd_28 : Cond.selects RX7 yX7_isFree yX7_isFree ∈ zz_all := zz_in 28 (by decide +kernel) (by decide +kernel)
theorem wd_29 : Cond.selects RX7 yX7_isTold yX7_isTold ∈ zz_all := zz_in 29 (by decide +kernel) (by decide +kernel)
theorem wd_30 : Cond.selects RX7 yX7_comesChange yX7_comesChange ∈ zz_all := zz_in 30 (by decide +kernel) (by decide +kernel)
theorem wd_31 : Cond.selects RX7 yX7_changesTo yX7_changesTo ∈ zz_all := zz_in 31 (by decide +kernel) (by decide +kernel)
theorem wd_32 : Cond.selects RX7 yX7_comesBounds yX7_comesBounds ∈ zz_all := zz_in 32 (by decide +kernel) (by decide +kernel)
theorem wd_33 : Cond.selects RX7 yX7_isVariable yX7_isVariable ∈ zz_all := zz_in 33 (by decide +kernel) (by decide +kernel)
theorem wd_34 : Cond.selects RX7 yX7_comesRule yX7_comesRule ∈ zz_all := zz_in 34 (by decide +kernel) (by decide +kernel)
theorem wd_35 : Cond.selects RX7 yX7_comesQuestion yX7_comesQuestion ∈ zz_all := zz_in 35 (by decide +kernel) (by decide +kernel)
theorem wd_36 : Cond.selects RX7 yX7_setTold yX7_setTold ∈ zz_all := zz_in 36 (by decide +kernel) (by decide +kernel)
theorem wd_37 : Cond.selects RX7 yX7_asks yX7_asks ∈ zz_all := zz_in 37 (by decide +kernel) (by decide +kernel)
theorem wd_38 : Cond.selects RX7 yX7_isAsked yX7_isAsked ∈ zz_all := zz_in 38 (by decide +kernel) (by decide +kernel)
theorem wd_39 : Cond.selects RX7 yX7_meetsNow yX7_meetsNow ∈ zz_all := zz_in 39 (by decide +kernel) (by decide +kernel)
theorem wd_40 : Cond.selects RX7 yX7_builds yX7_builds ∈ zz_all := zz_in 40 (by decide +kernel) (by decide +kernel)
theorem wd_41 : Cond.selects RX7 yX7_adds yX7_adds ∈ zz_all := zz_in 41 (by decide +kernel) (by decide +kernel)
theorem wd_42 : Cond.selects RX7 yX7_reduces yX7_reduces ∈ zz_all := zz_in 42 (by decide +kernel) (by decide +kernel)
theorem wd_43 : Cond.selects RX7 yX7_firstOfOne yX7_firstOfOne ∈ zz_all := zz_in 43 (by decide +kernel) (by decide +kernel)
theorem wd_44 : Cond.selects RX7 yX7_meetsBy yX7_meetsBy ∈ zz_all := zz_in 44 (by decide +kernel) (by decide +kernel)
theorem wd_45 : Cond.selects RX7 yX7_loads yX7_loads ∈ zz_all := zz_in 45 (by decide +kernel) (by decide +kernel)
theorem wd_46 : Cond.selects RX7 yX7_isForbidden yX7_isForbidden ∈ zz_all := zz_in 46 (by decide +kernel) (by decide +kernel)
theorem wd_47 : Cond.selects RX7 yX7_isAnyFixed yX7_isAnyFixed ∈ zz_all := zz_in 47 (by decide +kernel) (by decide +kernel)
theorem wd_48 : Cond.selects RX7 yX7_manyNot0 yX7_manyNot0 ∈ zz_all := zz_in 48 (by decide +kernel) (by decide +kernel)
theorem wd_49 : Cond.selects RX7 yX7_isAnyPaired yX7_isAnyPaired ∈ zz_all := zz_in 49 (by decide +kernel) (by decide +kernel)
theorem wd_50 : Cond.selects RX7 yX7_areAlike yX7_areAlike ∈ zz_all := zz_in 50 (by decide +kernel) (by decide +kernel)
theorem wd_51 : Cond.selects RX7 yX7_isPivot yX7_isPivot ∈ zz_all := zz_in 51 (by decide +kernel) (by decide +kernel)
theorem wd_52 : Cond.selects RX7 yX7_joins yX7_joins ∈ zz_all := zz_in 52 (by decide +kernel) (by decide +kernel)
theorem wd_53 : Cond.selects RX7 yX7_trueAnswer yX7_trueAnswer ∈ zz_all := zz_in 53 (by decide +kernel) (by decide +kernel)
theorem wd_54 : Cond.selects RX7 yX7_lower yX7_lower ∈ zz_all := zz_in 54 (by decide +kernel) (by decide +kernel)
theorem wd_55 : Cond.selects RX7 yX7_findSums yX7_findSums ∈ zz_all := zz_in 55 (by decide +kernel) (by decide +kernel)
theorem wd_56 : Cond.selects RX7 yX7_firstToJoin yX7_firstToJoin ∈ zz_all := zz_in 56 (by decide +kernel) (by decide +kernel)
theorem wd_57 : Cond.selects RX7 yX7_isRow yX7_isRow ∈ zz_all := zz_in 57 (by decide +kernel) (by decide +kernel)
theorem wd_58 : Cond.selects RX7 yX7_lowestOf yX7_lowestOf ∈ zz_all := zz_in 58 (by decide +kernel) (by decide +kernel)
theorem wd_59 : Cond.selects RX7 yX7_byPivots yX7_byPivots ∈ zz_all := zz_in 59 (by decide +kernel) (by decide +kernel)
theorem wd_60 : Cond.selects RX7 yX7_isFixed yX7_isFixed ∈ zz_all := zz_in 60 (by decide +kernel) (by decide +kernel)
theorem wd_61 : Cond.selects RX7 yX7_narrows yX7_narrows ∈ zz_all := zz_in 61 (by decide +kernel) (by decide +kernel)
theorem wd_62 : Cond.selects RX7 yX7_narrowsOne yX7_narrowsOne ∈ zz_all := zz_in 62 (by decide +kernel) (by decide +kernel)
theorem wd_63 : Cond.selects RX7 yX7_width yX7_width ∈ zz_all := zz_in 63 (by decide +kernel) (by decide +kernel)
theorem wd_64 : Cond.selects RX7 yX7_knownNow yX7_knownNow ∈ zz_all := zz_in 64 (by decide +kernel) (by decide +kernel)
theorem wd_65 : Cond.selects RX7 yX7_minds yX7_minds ∈ zz_all := zz_in 65 (by decide +kernel) (by decide +kernel)
theorem wd_66 : Cond.selects RX7 yX7_narrowest yX7_narrowest ∈ zz_all := zz_in 66 (by decide +kernel) (by decide +kernel)
theorem wd_67 : Cond.selects RX7 yX7_forgets yX7_forgets ∈ zz_all := zz_in 67 (by decide +kernel) (by decide +kernel)
theorem wd_68 : Cond.selects RX7 yX7_joinsIn yX7_joinsIn ∈ zz_all := zz_in 68 (by decide +kernel) (by decide +kernel)
theorem wd_69 : Cond.selects RX7 yX7_asksSum yX7_asksSum ∈ zz_all := zz_in 69 (by decide +kernel) (by decide +kernel)
theorem wd_70 : Cond.selects RX7 yX7_findEnds yX7_findEnds ∈ zz_all := zz_in 70 (by decide +kernel) (by decide +kernel)
theorem wd_71 : Cond.selects RX7 yX7_getsFor yX7_getsFor ∈ zz_all := zz_in 71 (by decide +kernel) (by decide +kernel)
theorem wd_72 : Cond.selects RX7 yX7_isRowQuestions yX7_isRowQuestions ∈ zz_all := zz_in 72 (by decide +kernel) (by decide +kernel)
theorem wd_73 : Cond.selects RX7 yX7_isMetSo yX7_isMetSo ∈ zz_all := zz_in 73 (by decide +kernel) (by decide +kernel)
theorem wd_74 : Cond.selects RX7 yX7_answerBy yX7_answerBy ∈ zz_all := zz_in 74 (by decide +kernel) (by decide +kernel)
theorem wd_75 : Cond.selects RX7 yX7_draw yX7_draw ∈ zz_all := zz_in 75 (by decide +kernel) (by decide +kernel)
theorem wd_76 : Cond.selects RX7 yX7_notFree yX7_notFree ∈ zz_all := zz_in 76 (by decide +kernel) (by decide +kernel)
theorem wd_77 : Cond.selects RX7 yX7_allValues yX7_allValues ∈ zz_all := zz_in 77 (by decide +kernel) (by decide +kernel)
theorem wd_78 : Cond.initialized RL ∈ zz_all := zz_in 78 (by decide +kernel) (by decide +kernel)
theorem wd_79 : Cond.initialized RX6 ∈ zz_all := zz_in 79 (by decide +kernel) (by decide +kernel)
theorem wd_80 : Cond.initialized RX5 ∈ zz_all := zz_in 80 (by decide +kernel) (by decide +kernel)
theorem wd_81 : Cond.initialized RX4 ∈ zz_all := zz_in 81 (by decide +kernel) (by decide +kernel)
theorem wd_82 : Cond.initialized RX2 ∈ zz_all := zz_in 82 (by decide +kernel) (by decide +kernel)
theorem wd_83 : Cond.initialized RX0 ∈ zz_all := zz_in 83 (by decide +kernel) (by decide +kernel)
theorem wd_84 : Cond.initialized RX1 ∈ zz_all := zz_in 84 (by decide +kernel) (by decide +kernel)
theorem wd_85 : Cond.initialized RX7 ∈ zz_all := zz_in 85 (by decide +kernel) (by decide +kernel)
theorem wd_86 : Cond.initialized RJ10 ∈ zz_all := zz_in 86 (by decide +kernel) (by decide +kernel)
theorem wd_87 : Cond.initialized RX3 ∈ zz_all := zz_in 87 (by decide +kernel) (by decide +kernel)
theorem wd_88 : Cond.initialized RJ9 ∈ zz_all := zz_in 88 (by decide +kernel) (by decide +kernel)
theorem wd_89 : Cond.initialized RJ6 ∈ zz_all := zz_in 89 (by decide +kernel) (by decide +kernel)
theorem wd_90 : Cond.classLink RL 7 RX6 ∈ zz_all := zz_in 90 (by decide +kernel) (by decide +kernel)
theorem wd_91 : Cond.instantiable RX6 9 ∈ zz_all := zz_in 91 (by decide +kernel) (by decide +kernel)
theorem wd_92 : Cond.methodLink RL 9 yX6_init ∈ zz_all := zz_in 92 (by decide +kernel) (by decide +kernel)
theorem wd_93 : Cond.instanceMethod yX6_init ∈ zz_all := zz_in 93 (by decide +kernel) (by decide +kernel)
theorem wd_94 : Cond.code yX6_init cX6_init 1 none ∈ zz_all := zz_in 94 (by decide +kernel) (by decide +kernel)
theorem wd_95 : Cond.methodLink RX6 1 objectInit ∈ zz_all := zz_in 95 (by decide +kernel) (by decide +kernel)
theorem wd_96 : Cond.instanceMethod objectInit ∈ zz_all := zz_in 96 (by decide +kernel) (by decide +kernel)
theorem wd_97 : Cond.code objectInit ⟨#[0xb1]⟩ 1 none ∈ zz_all := zz_in 97 (by decide +kernel) (by decide +kernel)
theorem wd_98 : Cond.classLink RX6 7 RX5 ∈ zz_all := zz_in 98 (by decide +kernel) (by decide +kernel)
theorem wd_99 : Cond.instantiable RX5 14 ∈ zz_all := zz_in 99 (by decide +kernel) (by decide +kernel)
theorem wd_100 : Cond.methodLink RX6 9 yX5_init ∈ zz_all := zz_in 100 (by decide +kernel) (by decide +kernel)
theorem wd_101 : Cond.instanceMethod yX5_init ∈ zz_all := zz_in 101 (by decide +kernel) (by decide +kernel)
theorem wd_102 : Cond.code yX5_init cX5_init 2 none ∈ zz_all := zz_in 102 (by decide +kernel) (by decide +kernel)
theorem wd_103 : Cond.methodLink RX5 3 objectInit ∈ zz_all := zz_in 103 (by decide +kernel) (by decide +kernel)
theorem wd_104 : Cond.classLink RX5 31 "[[I" ∈ zz_all := zz_in 104 (by decide +kernel) (by decide +kernel)
theorem wd_106 : Cond.classLink RX5 39 RX4 ∈ zz_all := zz_in 106 (by decide +kernel) (by decide +kernel)
theorem wd_107 : Cond.instantiable RX4 3 ∈ zz_all := zz_in 107 (by decide +kernel) (by decide +kernel)
theorem wd_108 : Cond.methodLink RX5 41 yX4_init ∈ zz_all := zz_in 108 (by decide +kernel) (by decide +kernel)
theorem wd_109 : Cond.instanceMethod yX4_init ∈ zz_all := zz_in 109 (by decide +kernel) (by decide +kernel)
theorem wd_110 : Cond.code yX4_init cX4_init 2 none ∈ zz_all := zz_in 110 (by decide +kernel) (by decide +kernel)
theorem wd_111 : Cond.methodLink RX4 3 objectInit ∈ zz_all := zz_in 111 (by decide +kernel) (by decide +kernel)
theorem wd_112 : Cond.classLink RX4 9 "[[J" ∈ zz_all := zz_in 112 (by decide +kernel) (by decide +kernel)
theorem wd_114 : Cond.fieldLink RX4 11 "GuardOfSums$Space" "left" "[[J" ∈ zz_all := zz_in 114 (by decide +kernel) (by decide +kernel)
theorem wd_115 : Cond.fieldLink RX4 16 "GuardOfSums$Space" "scale" "J" ∈ zz_all := zz_in 115 (by decide +kernel) (by decide +kernel)
theorem wd_116 : Cond.fieldLink RX4 26 "GuardOfSums$Space" "pivotBits" "I" ∈ zz_all := zz_in 116 (by decide +kernel) (by decide +kernel)
theorem wd_117 : Cond.fieldLink RX6 197 "GuardOfSums$Space" "pivotBits" "I" ∈ zz_all := zz_in 117 (by decide +kernel) (by decide +kernel)
theorem wd_127 : Cond.fieldLink RX5 9 "GuardOfSums$World" "owned" "[I" ∈ zz_all := zz_in 127 (by decide +kernel) (by decide +kernel)
theorem wd_128 : Cond.fieldLink RX5 15 "GuardOfSums$World" "values" "[I" ∈ zz_all := zz_in 128 (by decide +kernel) (by decide +kernel)
theorem wd_129 : Cond.fieldLink RX5 18 "GuardOfSums$World" "lows" "[I" ∈ zz_all := zz_in 129 (by decide +kernel) (by decide +kernel)
theorem wd_130 : Cond.fieldLink RX5 21 "GuardOfSums$World" "highs" "[I" ∈ zz_all := zz_in 130 (by decide +kernel) (by decide +kernel)
theorem wd_131 : Cond.fieldLink RX5 24 "GuardOfSums$World" "variables" "I" ∈ zz_all := zz_in 131 (by decide +kernel) (by decide +kernel)
theorem wd_132 : Cond.fieldLink RX0 18 "GuardOfSums$World" "variables" "I" ∈ zz_all := zz_in 132 (by decide +kernel) (by decide +kernel)
theorem wd_133 : Cond.fieldLink RX6 221 "GuardOfSums$World" "variables" "I" ∈ zz_all := zz_in 133 (by decide +kernel) (by decide +kernel)
theorem wd_134 : Cond.fieldLink RX5 62 "GuardOfSums$World" "rule" "I" ∈ zz_all := zz_in 134 (by decide +kernel) (by decide +kernel)
theorem wd_135 : Cond.fieldLink RX6 133 "GuardOfSums$World" "rule" "I" ∈ zz_all := zz_in 135 (by decide +kernel) (by decide +kernel)
theorem wd_136 : Cond.fieldLink RX5 28 "GuardOfSums$World" "limit" "I" ∈ zz_all := zz_in 136 (by decide +kernel) (by decide +kernel)
theorem wd_137 : Cond.fieldLink RX6 140 "GuardOfSums$World" "limit" "I" ∈ zz_all := zz_in 137 (by decide +kernel) (by decide +kernel)
theorem wd_138 : Cond.fieldLink RX5 33 "GuardOfSums$World" "rows" "[[I" ∈ zz_all := zz_in 138 (by decide +kernel) (by decide +kernel)
theorem wd_139 : Cond.fieldLink RX5 36 "GuardOfSums$World" "answers" "[I" ∈ zz_all := zz_in 139 (by decide +kernel) (by decide +kernel)
theorem wd_140 : Cond.fieldLink RX0 38 "GuardOfSums$World" "rank" "I" ∈ zz_all := zz_in 140 (by decide +kernel) (by decide +kernel)
theorem wd_141 : Cond.fieldLink RX5 65 "GuardOfSums$World" "rank" "I" ∈ zz_all := zz_in 141 (by decide +kernel) (by decide +kernel)
theorem wd_142 : Cond.fieldLink RX6 176 "GuardOfSums$World" "rank" "I" ∈ zz_all := zz_in 142 (by decide +kernel) (by decide +kernel)
theorem wd_143 : Cond.fieldLink RX5 42 "GuardOfSums$World" "space" "LGuardOfSums$Space;" ∈ zz_all := zz_in 143 (by decide +kernel) (by decide +kernel)
theorem wd_144 : Cond.fieldLink RX6 187 "GuardOfSums$World" "space" "LGuardOfSums$Space;" ∈ zz_all := zz_in 144 (by decide +kernel) (by decide +kernel)
theorem wd_145 : Cond.fieldLink RX5 46 "GuardOfSums$World" "trial" "LGuardOfSums$Space;" ∈ zz_all := zz_in 145 (by decide +kernel) (by decide +kernel)
theorem wd_146 : Cond.fieldLink RX5 49 "GuardOfSums$World" "asked" "[I" ∈ zz_all := zz_in 146 (by decide +kernel) (by decide +kernel)
theorem wd_147 : Cond.fieldLink RX5 52 "GuardOfSums$World" "rest" "[J" ∈ zz_all := zz_in 147 (by decide +kernel) (by decide +kernel)
theorem wd_177 : Cond.classLink RX6 22 RX2 ∈ zz_all := zz_in 177 (by decide +kernel) (by decide +kernel)
theorem wd_178 : Cond.instantiable RX2 1 ∈ zz_all := zz_in 178 (by decide +kernel) (by decide +kernel)
theorem wd_180 : Cond.instanceMethod yX2_init ∈ zz_all := zz_in 180 (by decide +kernel) (by decide +kernel)
theorem wd_181 : Cond.code yX2_init cX2_init 1 none ∈ zz_all := zz_in 181 (by decide +kernel) (by decide +kernel)
theorem wd_182 : Cond.methodLink RX2 3 objectInit ∈ zz_all := zz_in 182 (by decide +kernel) (by decide +kernel)
theorem wd_183 : Cond.fieldLink RX2 9 "GuardOfSums$Question" "weights" "[I" ∈ zz_all := zz_in 183 (by decide +kernel) (by decide +kernel)
theorem wd_184 : Cond.fieldLink RX5 140 "GuardOfSums$Question" "weights" "[I" ∈ zz_all := zz_in 184 (by decide +kernel) (by decide +kernel)
theorem wd_188 : Cond.classLink RX6 29 RX0 ∈ zz_all := zz_in 188 (by decide +kernel) (by decide +kernel)
theorem wd_189 : Cond.instantiable RX0 3 ∈ zz_all := zz_in 189 (by decide +kernel) (by decide +kernel)
theorem wd_191 : Cond.instanceMethod yX0_init ∈ zz_all := zz_in 191 (by decide +kernel) (by decide +kernel)
theorem wd_192 : Cond.code yX0_init cX0_init 1 none ∈ zz_all := zz_in 192 (by decide +kernel) (by decide +kernel)
theorem wd_193 : Cond.methodLink RX0 3 objectInit ∈ zz_all := zz_in 193 (by decide +kernel) (by decide +kernel)
theorem wd_194 : Cond.fieldLink RX0 9 "GuardOfSums$Narrowing" "least" "[I" ∈ zz_all := zz_in 194 (by decide +kernel) (by decide +kernel)
theorem wd_195 : Cond.fieldLink RX0 15 "GuardOfSums$Narrowing" "most" "[I" ∈ zz_all := zz_in 195 (by decide +kernel) (by decide +kernel)
theorem wd_196 : Cond.fieldLink RX0 30 "GuardOfSums$Narrowing" "variables" "I" ∈ zz_all := zz_in 196 (by decide +kernel) (by decide +kernel)
theorem wd_204 : Cond.classLink RX6 36 RX1 ∈ zz_all := zz_in 204 (by decide +kernel) (by decide +kernel)
theorem wd_205 : Cond.instantiable RX1 2 ∈ zz_all := zz_in 205 (by decide +kernel) (by decide +kernel)
theorem wd_206 : Cond.methodLink RX6 38 yX1_init ∈ zz_all := zz_in 206 (by decide +kernel) (by decide +kernel)
theorem wd_207 : Cond.instanceMethod yX1_init ∈ zz_all := zz_in 207 (by decide +kernel) (by decide +kernel)
theorem wd_208 : Cond.code yX1_init cX1_init 2 none ∈ zz_all := zz_in 208 (by decide +kernel) (by decide +kernel)
theorem wd_209 : Cond.methodLink RX1 3 objectInit ∈ zz_all := zz_in 209 (by decide +kernel) (by decide +kernel)
theorem wd_210 : Cond.fieldLink RX1 15 "GuardOfSums$Numbers" "size" "I" ∈ zz_all := zz_in 210 (by decide +kernel) (by decide +kernel)
theorem wd_211 : Cond.fieldLink RX3 15 "GuardOfSums$Numbers" "size" "I" ∈ zz_all := zz_in 211 (by decide +kernel) (by decide +kernel)
theorem wd_212 : Cond.fieldLink RX5 91 "GuardOfSums$Numbers" "size" "I" ∈ zz_all := zz_in 212 (by decide +kernel) (by decide +kernel)
theorem wd_213 : Cond.fieldLink RX6 257 "GuardOfSums$Numbers" "size" "I" ∈ zz_all := zz_in 213 (by decide +kernel) (by decide +kernel)
theorem wd_214 : Cond.fieldLink RX1 9 "GuardOfSums$Numbers" "numbers" "[I" ∈ zz_all := zz_in 214 (by decide +kernel) (by decide +kernel)
theorem wd_220 : Cond.fieldLink RX6 10 "GuardOfSums" "world" "LGuardOfSums$World;" ∈ zz_all := zz_in 220 (by decide +kernel) (by decide +kernel)
theorem wd_221 : Cond.fieldLink RX6 16 "GuardOfSums" "draft" "LGuardOfSums$World;" ∈ zz_all := zz_in 221 (by decide +kernel) (by decide +kernel)
theorem wd_222 : Cond.fieldLink RX6 19 "GuardOfSums" "kept" "LGuardOfSums$World;" ∈ zz_all := zz_in 222 (by decide +kernel) (by decide +kernel)
theorem wd_223 : Cond.fieldLink RX6 274 "GuardOfSums" "isKept" "Z" ∈ zz_all := zz_in 223 (by decide +kernel) (by decide +kernel)
theorem wd_224 : Cond.fieldLink RX6 25 "GuardOfSums" "question" "LGuardOfSums$Question;" ∈ zz_all := zz_in 224 (by decide +kernel) (by decide +kernel)
theorem wd_225 : Cond.fieldLink RX6 32 "GuardOfSums" "narrowing" "LGuardOfSums$Narrowing;" ∈ zz_all := zz_in 225 (by decide +kernel) (by decide +kernel)
theorem wd_226 : Cond.fieldLink RX6 41 "GuardOfSums" "letters" "LGuardOfSums$Numbers;" ∈ zz_all := zz_in 226 (by decide +kernel) (by decide +kernel)
theorem wd_227 : Cond.fieldLink RX6 45 "GuardOfSums" "told" "LGuardOfSums$Numbers;" ∈ zz_all := zz_in 227 (by decide +kernel) (by decide +kernel)
theorem wd_228 : Cond.fieldLink RX6 48 "GuardOfSums" "refusals" "[I" ∈ zz_all := zz_in 228 (by decide +kernel) (by decide +kernel)
theorem wd_248 : Cond.methodLink RL 13 yX6_letter ∈ zz_all := zz_in 248 (by decide +kernel) (by decide +kernel)
theorem wd_249 : Cond.instanceMethod yX6_letter ∈ zz_all := zz_in 249 (by decide +kernel) (by decide +kernel)
theorem wd_250 : Cond.selects RX6 yX6_letter yX6_letter ∈ zz_all := zz_in 250 (by decide +kernel) (by decide +kernel)
theorem wd_251 : Cond.code yX6_letter cX6_letter 2 (some .int) ∈ zz_all := zz_in 251 (by decide +kernel) (by decide +kernel)
theorem wd_252 : Cond.methodLink RX6 52 yX6_append ∈ zz_all := zz_in 252 (by decide +kernel) (by decide +kernel)
theorem wd_254 : Cond.instanceMethod yX6_append ∈ zz_all := zz_in 254 (by decide +kernel) (by decide +kernel)
theorem wd_255 : Cond.code yX6_append cX6_append 4 (some .int) ∈ zz_all := zz_in 255 (by decide +kernel) (by decide +kernel)
theorem wd_256 : Cond.methodLink RX6 125 yX6_misfit ∈ zz_all := zz_in 256 (by decide +kernel) (by decide +kernel)
theorem wd_257 : Cond.static yX6_misfit ∈ zz_all := zz_in 257 (by decide +kernel) (by decide +kernel)
theorem wd_258 : Cond.code yX6_misfit cX6_misfit 3 (some .int) ∈ zz_all := zz_in 258 (by decide +kernel) (by decide +kernel)
theorem wd_259 : Cond.methodLink RX6 73 yX6_refuse ∈ zz_all := zz_in 259 (by decide +kernel) (by decide +kernel)
theorem wd_261 : Cond.instanceMethod yX6_refuse ∈ zz_all := zz_in 261 (by decide +kernel) (by decide +kernel)
theorem wd_262 : Cond.code yX6_refuse cX6_refuse 3 (some .int) ∈ zz_all := zz_in 262 (by decide +kernel) (by decide +kernel)
theorem wd_263 : Cond.methodLink RX6 69 yX6_isWithin ∈ zz_all := zz_in 263 (by decide +kernel) (by decide +kernel)
theorem wd_264 : Cond.static yX6_isWithin ∈ zz_all := zz_in 264 (by decide +kernel) (by decide +kernel)
theorem wd_265 : Cond.code yX6_isWithin cX6_isWithin 2 (some .boolean) ∈ zz_all := zz_in 265 (by decide +kernel) (by decide +kernel)
theorem wd_266 : Cond.methodLink RX6 284 yX1_add ∈ zz_all := zz_in 266 (by decide +kernel) (by decide +kernel)
theorem wd_267 : Cond.instanceMethod yX1_add ∈ zz_all := zz_in 267 (by decide +kernel) (by decide +kernel)
theorem wd_268 : Cond.selects RX1 yX1_add yX1_add ∈ zz_all := zz_in 268 (by decide +kernel) (by decide +kernel)
theorem wd_269 : Cond.code yX1_add cX1_add 2 (some .boolean) ∈ zz_all := zz_in 269 (by decide +kernel) (by decide +kernel)
theorem wd_271 : Cond.methodLink RL 18 yX6_guard ∈ zz_all := zz_in 271 (by decide +kernel) (by decide +kernel)
theorem wd_272 : Cond.instanceMethod yX6_guard ∈ zz_all := zz_in 272 (by decide +kernel) (by decide +kernel)
theorem wd_273 : Cond.selects RX6 yX6_guard yX6_guard ∈ zz_all := zz_in 273 (by decide +kernel) (by decide +kernel)
theorem wd_274 : Cond.code yX6_guard cX6_guard 2 (some .int) ∈ zz_all := zz_in 274 (by decide +kernel) (by decide +kernel)
theorem wd_275 : Cond.methodLink RX6 56 yX5_copyFrom ∈ zz_all := zz_in 275 (by decide +kernel) (by decide +kernel)
theorem wd_276 : Cond.instanceMethod yX5_copyFrom ∈ zz_all := zz_in 276 (by decide +kernel) (by decide +kernel)
theorem wd_277 : Cond.selects RX5 yX5_copyFrom yX5_copyFrom ∈ zz_all := zz_in 277 (by decide +kernel) (by decide +kernel)
theorem wd_278 : Cond.code yX5_copyFrom cX5_copyFrom 3 none ∈ zz_all := zz_in 278 (by decide +kernel) (by decide +kernel)
theorem wd_279 : Cond.methodLink RX5 56 arraycopyName ∈ zz_all := zz_in 279 (by decide +kernel) (by decide +kernel)
theorem wd_280 : Cond.static arraycopyName ∈ zz_all := zz_in 280 (by decide +kernel) (by decide +kernel)
theorem wd_281 : Cond.native arraycopyName ∈ zz_all := zz_in 281 (by decide +kernel) (by decide +kernel)
theorem wd_282 : Cond.methodLink RX5 68 yX4_copyFrom ∈ zz_all := zz_in 282 (by decide +kernel) (by decide +kernel)
theorem wd_283 : Cond.instanceMethod yX4_copyFrom ∈ zz_all := zz_in 283 (by decide +kernel) (by decide +kernel)
theorem wd_284 : Cond.selects RX4 yX4_copyFrom yX4_copyFrom ∈ zz_all := zz_in 284 (by decide +kernel) (by decide +kernel)
theorem wd_285 : Cond.code yX4_copyFrom cX4_copyFrom 3 none ∈ zz_all := zz_in 285 (by decide +kernel) (by decide +kernel)
theorem wd_286 : Cond.methodLink RX4 20 arraycopyName ∈ zz_all := zz_in 286 (by decide +kernel) (by decide +kernel)
theorem wd_287 : Cond.methodLink RX6 60 yX3_perform ∈ zz_all := zz_in 287 (by decide +kernel) (by decide +kernel)
theorem wd_288 : Cond.static yX3_perform ∈ zz_all := zz_in 288 (by decide +kernel) (by decide +kernel)
theorem wd_289 : Cond.code yX3_perform cX3_perform 7 (some .int) ∈ zz_all := zz_in 289 (by decide +kernel) (by decide +kernel)
theorem wd_290 : Cond.methodLink RX3 9 yX3_firstMisfit ∈ zz_all := zz_in 290 (by decide +kernel) (by decide +kernel)
theorem wd_291 : Cond.static yX3_firstMisfit ∈ zz_all := zz_in 291 (by decide +kernel) (by decide +kernel)
theorem wd_292 : Cond.code yX3_firstMisfit cX3_firstMisfit 5 (some .int) ∈ zz_all := zz_in 292 (by decide +kernel) (by decide +kernel)
theorem wd_293 : Cond.methodLink RX3 25 yX1_at ∈ zz_all := zz_in 293 (by decide +kernel) (by decide +kernel)
theorem wd_294 : Cond.instanceMethod yX1_at ∈ zz_all := zz_in 294 (by decide +kernel) (by decide +kernel)
theorem wd_295 : Cond.selects RX1 yX1_at yX1_at ∈ zz_all := zz_in 295 (by decide +kernel) (by decide +kernel)
theorem wd_296 : Cond.code yX1_at cX1_at 2 (some .int) ∈ zz_all := zz_in 296 (by decide +kernel) (by decide +kernel)
theorem wd_297 : Cond.methodLink RX3 29 yX3_digitsBehind ∈ zz_all := zz_in 297 (by decide +kernel) (by decide +kernel)
theorem wd_298 : Cond.static yX3_digitsBehind ∈ zz_all := zz_in 298 (by decide +kernel) (by decide +kernel)
theorem wd_299 : Cond.code yX3_digitsBehind cX3_digitsBehind 1 (some .int) ∈ zz_all := zz_in 299 (by decide +kernel) (by decide +kernel)
theorem wd_300 : Cond.methodLink RX3 21 yX3_performOne ∈ zz_all := zz_in 300 (by decide +kernel) (by decide +kernel)
theorem wd_301 : Cond.static yX3_performOne ∈ zz_all := zz_in 301 (by decide +kernel) (by decide +kernel)
theorem wd_302 : Cond.code yX3_performOne cX3_performOne 4 (some .boolean) ∈ zz_all := zz_in 302 (by decide +kernel) (by decide +kernel)
theorem wd_303 : Cond.methodLink RX3 32 yX3_digit ∈ zz_all := zz_in 303 (by decide +kernel) (by decide +kernel)
theorem wd_304 : Cond.static yX3_digit ∈ zz_all := zz_in 304 (by decide +kernel) (by decide +kernel)
theorem wd_305 : Cond.code yX3_digit cX3_digit 2 (some .int) ∈ zz_all := zz_in 305 (by decide +kernel) (by decide +kernel)
theorem wd_306 : Cond.methodLink RX3 36 yX3_pair ∈ zz_all := zz_in 306 (by decide +kernel) (by decide +kernel)
theorem wd_307 : Cond.static yX3_pair ∈ zz_all := zz_in 307 (by decide +kernel) (by decide +kernel)
theorem wd_308 : Cond.code yX3_pair cX3_pair 2 (some .int) ∈ zz_all := zz_in 308 (by decide +kernel) (by decide +kernel)
theorem wd_309 : Cond.methodLink RX3 39 yX5_takeTold ∈ zz_all := zz_in 309 (by decide +kernel) (by decide +kernel)
theorem wd_310 : Cond.instanceMethod yX5_takeTold ∈ zz_all := zz_in 310 (by decide +kernel) (by decide +kernel)
theorem wd_311 : Cond.selects RX5 yX5_takeTold yX5_takeTold ∈ zz_all := zz_in 311 (by decide +kernel) (by decide +kernel)
theorem wd_312 : Cond.code yX5_takeTold cX5_takeTold 4 (some .boolean) ∈ zz_all := zz_in 312 (by decide +kernel) (by decide +kernel)
theorem wd_313 : Cond.methodLink RX5 99 yX5_variableOf ∈ zz_all := zz_in 313 (by decide +kernel) (by decide +kernel)
theorem wd_314 : Cond.instanceMethod yX5_variableOf ∈ zz_all := zz_in 314 (by decide +kernel) (by decide +kernel)
theorem wd_315 : Cond.selects RX5 yX5_variableOf yX5_variableOf ∈ zz_all := zz_in 315 (by decide +kernel) (by decide +kernel)
theorem wd_316 : Cond.code yX5_variableOf cX5_variableOf 2 (some .int) ∈ zz_all := zz_in 316 (by decide +kernel) (by decide +kernel)
theorem wd_318 : Cond.methodLink RX5 76 yX5_has ∈ zz_all := zz_in 318 (by decide +kernel) (by decide +kernel)
theorem wd_319 : Cond.instanceMethod yX5_has ∈ zz_all := zz_in 319 (by decide +kernel) (by decide +kernel)
theorem wd_320 : Cond.selects RX5 yX5_has yX5_has ∈ zz_all := zz_in 320 (by decide +kernel) (by decide +kernel)
theorem wd_321 : Cond.code yX5_has cX5_has 2 (some .boolean) ∈ zz_all := zz_in 321 (by decide +kernel) (by decide +kernel)
theorem wd_322 : Cond.methodLink RX5 84 yX5_isFree ∈ zz_all := zz_in 322 (by decide +kernel) (by decide +kernel)
theorem wd_323 : Cond.instanceMethod yX5_isFree ∈ zz_all := zz_in 323 (by decide +kernel) (by decide +kernel)
theorem wd_324 : Cond.selects RX5 yX5_isFree yX5_isFree ∈ zz_all := zz_in 324 (by decide +kernel) (by decide +kernel)
theorem wd_325 : Cond.code yX5_isFree cX5_isFree 3 (some .boolean) ∈ zz_all := zz_in 325 (by decide +kernel) (by decide +kernel)
theorem wd_326 : Cond.methodLink RX5 80 yX5_coefficient ∈ zz_all := zz_in 326 (by decide +kernel) (by decide +kernel)
theorem wd_327 : Cond.instanceMethod yX5_coefficient ∈ zz_all := zz_in 327 (by decide +kernel) (by decide +kernel)
theorem wd_328 : Cond.selects RX5 yX5_coefficient yX5_coefficient ∈ zz_all := zz_in 328 (by decide +kernel) (by decide +kernel)
theorem wd_329 : Cond.code yX5_coefficient cX5_coefficient 3 (some .int) ∈ zz_all := zz_in 329 (by decide +kernel) (by decide +kernel)
theorem wd_330 : Cond.methodLink RX5 102 yX5_set ∈ zz_all := zz_in 330 (by decide +kernel) (by decide +kernel)
theorem wd_332 : Cond.instanceMethod yX5_set ∈ zz_all := zz_in 332 (by decide +kernel) (by decide +kernel)
theorem wd_333 : Cond.code yX5_set cX5_set 3 none ∈ zz_all := zz_in 333 (by decide +kernel) (by decide +kernel)
theorem wd_334 : Cond.methodLink RX3 45 yX5_takeChange ∈ zz_all := zz_in 334 (by decide +kernel) (by decide +kernel)
theorem wd_335 : Cond.instanceMethod yX5_takeChange ∈ zz_all := zz_in 335 (by decide +kernel) (by decide +kernel)
theorem wd_336 : Cond.selects RX5 yX5_takeChange yX5_takeChange ∈ zz_all := zz_in 336 (by decide +kernel) (by decide +kernel)
theorem wd_337 : Cond.code yX5_takeChange cX5_takeChange 3 (some .boolean) ∈ zz_all := zz_in 337 (by decide +kernel) (by decide +kernel)
theorem wd_338 : Cond.methodLink RX3 48 yX5_takeBounds ∈ zz_all := zz_in 338 (by decide +kernel) (by decide +kernel)
theorem wd_339 : Cond.instanceMethod yX5_takeBounds ∈ zz_all := zz_in 339 (by decide +kernel) (by decide +kernel)
theorem wd_340 : Cond.selects RX5 yX5_takeBounds yX5_takeBounds ∈ zz_all := zz_in 340 (by decide +kernel) (by decide +kernel)
theorem wd_341 : Cond.code yX5_takeBounds cX5_takeBounds 4 (some .boolean) ∈ zz_all := zz_in 341 (by decide +kernel) (by decide +kernel)
theorem wd_342 : Cond.methodLink RX3 52 yX5_takeRule ∈ zz_all := zz_in 342 (by decide +kernel) (by decide +kernel)
theorem wd_343 : Cond.instanceMethod yX5_takeRule ∈ zz_all := zz_in 343 (by decide +kernel) (by decide +kernel)
theorem wd_344 : Cond.selects RX5 yX5_takeRule yX5_takeRule ∈ zz_all := zz_in 344 (by decide +kernel) (by decide +kernel)
theorem wd_345 : Cond.code yX5_takeRule cX5_takeRule 2 (some .boolean) ∈ zz_all := zz_in 345 (by decide +kernel) (by decide +kernel)
theorem wd_346 : Cond.methodLink RX3 56 yX5_takeLimit ∈ zz_all := zz_in 346 (by decide +kernel) (by decide +kernel)
theorem wd_347 : Cond.instanceMethod yX5_takeLimit ∈ zz_all := zz_in 347 (by decide +kernel) (by decide +kernel)
theorem wd_348 : Cond.selects RX5 yX5_takeLimit yX5_takeLimit ∈ zz_all := zz_in 348 (by decide +kernel) (by decide +kernel)
theorem wd_349 : Cond.code yX5_takeLimit cX5_takeLimit 2 (some .boolean) ∈ zz_all := zz_in 349 (by decide +kernel) (by decide +kernel)
theorem wd_350 : Cond.methodLink RX3 59 yX3_readQuestion ∈ zz_all := zz_in 350 (by decide +kernel) (by decide +kernel)
theorem wd_351 : Cond.static yX3_readQuestion ∈ zz_all := zz_in 351 (by decide +kernel) (by decide +kernel)
theorem wd_352 : Cond.code yX3_readQuestion cX3_readQuestion 9 (some .boolean) ∈ zz_all := zz_in 352 (by decide +kernel) (by decide +kernel)
theorem wd_353 : Cond.methodLink RX3 67 yX2_misfitOf ∈ zz_all := zz_in 353 (by decide +kernel) (by decide +kernel)
theorem wd_354 : Cond.static yX2_misfitOf ∈ zz_all := zz_in 354 (by decide +kernel) (by decide +kernel)
theorem wd_355 : Cond.code yX2_misfitOf cX2_misfitOf 5 (some .int) ∈ zz_all := zz_in 355 (by decide +kernel) (by decide +kernel)
theorem wd_356 : Cond.methodLink RX3 73 yX2_make ∈ zz_all := zz_in 356 (by decide +kernel) (by decide +kernel)
theorem wd_357 : Cond.instanceMethod yX2_make ∈ zz_all := zz_in 357 (by decide +kernel) (by decide +kernel)
theorem wd_358 : Cond.selects RX2 yX2_make yX2_make ∈ zz_all := zz_in 358 (by decide +kernel) (by decide +kernel)
theorem wd_359 : Cond.code yX2_make cX2_make 8 none ∈ zz_all := zz_in 359 (by decide +kernel) (by decide +kernel)
theorem wd_360 : Cond.methodLink RX3 63 yX5_takeQuestion ∈ zz_all := zz_in 360 (by decide +kernel) (by decide +kernel)
theorem wd_361 : Cond.instanceMethod yX5_takeQuestion ∈ zz_all := zz_in 361 (by decide +kernel) (by decide +kernel)
theorem wd_362 : Cond.selects RX5 yX5_takeQuestion yX5_takeQuestion ∈ zz_all := zz_in 362 (by decide +kernel) (by decide +kernel)
theorem wd_363 : Cond.code yX5_takeQuestion cX5_takeQuestion 3 (some .int) ∈ zz_all := zz_in 363 (by decide +kernel) (by decide +kernel)
theorem wd_364 : Cond.methodLink RX5 106 yX5_meetingBy ∈ zz_all := zz_in 364 (by decide +kernel) (by decide +kernel)
theorem wd_365 : Cond.instanceMethod yX5_meetingBy ∈ zz_all := zz_in 365 (by decide +kernel) (by decide +kernel)
theorem wd_366 : Cond.selects RX5 yX5_meetingBy yX5_meetingBy ∈ zz_all := zz_in 366 (by decide +kernel) (by decide +kernel)
theorem wd_367 : Cond.code yX5_meetingBy cX5_meetingBy 6 (some .int) ∈ zz_all := zz_in 367 (by decide +kernel) (by decide +kernel)
theorem wd_368 : Cond.methodLink RX5 114 yX5_findRest ∈ zz_all := zz_in 368 (by decide +kernel) (by decide +kernel)
theorem wd_370 : Cond.instanceMethod yX5_findRest ∈ zz_all := zz_in 370 (by decide +kernel) (by decide +kernel)
theorem wd_371 : Cond.code yX5_findRest cX5_findRest 4 none ∈ zz_all := zz_in 371 (by decide +kernel) (by decide +kernel)
theorem wd_372 : Cond.methodLink RX5 143 yX4_leave ∈ zz_all := zz_in 372 (by decide +kernel) (by decide +kernel)
theorem wd_373 : Cond.instanceMethod yX4_leave ∈ zz_all := zz_in 373 (by decide +kernel) (by decide +kernel)
theorem wd_374 : Cond.selects RX4 yX4_leave yX4_leave ∈ zz_all := zz_in 374 (by decide +kernel) (by decide +kernel)
theorem wd_375 : Cond.code yX4_leave cX4_leave 6 none ∈ zz_all := zz_in 375 (by decide +kernel) (by decide +kernel)
theorem wd_376 : Cond.methodLink RX5 117 yX4_firstIn ∈ zz_all := zz_in 376 (by decide +kernel) (by decide +kernel)
theorem wd_377 : Cond.static yX4_firstIn ∈ zz_all := zz_in 377 (by decide +kernel) (by decide +kernel)
theorem wd_378 : Cond.code yX4_firstIn cX4_firstIn 2 (some .int) ∈ zz_all := zz_in 378 (by decide +kernel) (by decide +kernel)
theorem wd_379 : Cond.methodLink RX5 121 yX4_fixedBitsWith ∈ zz_all := zz_in 379 (by decide +kernel) (by decide +kernel)
theorem wd_380 : Cond.instanceMethod yX4_fixedBitsWith ∈ zz_all := zz_in 380 (by decide +kernel) (by decide +kernel)
theorem wd_381 : Cond.selects RX4 yX4_fixedBitsWith yX4_fixedBitsWith ∈ zz_all := zz_in 381 (by decide +kernel) (by decide +kernel)
theorem wd_382 : Cond.code yX4_fixedBitsWith cX4_fixedBitsWith 5 (some .int) ∈ zz_all := zz_in 382 (by decide +kernel) (by decide +kernel)
theorem wd_383 : Cond.methodLink RX4 30 yX4_firstIn ∈ zz_all := zz_in 383 (by decide +kernel) (by decide +kernel)
theorem wd_384 : Cond.methodLink RX4 38 yX4_isOneLine ∈ zz_all := zz_in 384 (by decide +kernel) (by decide +kernel)
theorem wd_385 : Cond.static yX4_isOneLine ∈ zz_all := zz_in 385 (by decide +kernel) (by decide +kernel)
theorem wd_386 : Cond.code yX4_isOneLine cX4_isOneLine 4 (some .boolean) ∈ zz_all := zz_in 386 (by decide +kernel) (by decide +kernel)
theorem wd_387 : Cond.methodLink RX5 124 yX2_size ∈ zz_all := zz_in 387 (by decide +kernel) (by decide +kernel)
theorem wd_388 : Cond.instanceMethod yX2_size ∈ zz_all := zz_in 388 (by decide +kernel) (by decide +kernel)
theorem wd_389 : Cond.selects RX2 yX2_size yX2_size ∈ zz_all := zz_in 389 (by decide +kernel) (by decide +kernel)
theorem wd_390 : Cond.code yX2_size cX2_size 3 (some .int) ∈ zz_all := zz_in 390 (by decide +kernel) (by decide +kernel)
theorem wd_391 : Cond.methodLink RX5 129 yX4_join ∈ zz_all := zz_in 391 (by decide +kernel) (by decide +kernel)
theorem wd_392 : Cond.instanceMethod yX4_join ∈ zz_all := zz_in 392 (by decide +kernel) (by decide +kernel)
theorem wd_393 : Cond.selects RX4 yX4_join yX4_join ∈ zz_all := zz_in 393 (by decide +kernel) (by decide +kernel)
theorem wd_394 : Cond.code yX4_join cX4_join 9 none ∈ zz_all := zz_in 394 (by decide +kernel) (by decide +kernel)
theorem wd_396 : Cond.methodLink RX5 132 yX4_hasPair ∈ zz_all := zz_in 396 (by decide +kernel) (by decide +kernel)
theorem wd_397 : Cond.instanceMethod yX4_hasPair ∈ zz_all := zz_in 397 (by decide +kernel) (by decide +kernel)
theorem wd_398 : Cond.selects RX4 yX4_hasPair yX4_hasPair ∈ zz_all := zz_in 398 (by decide +kernel) (by decide +kernel)
theorem wd_399 : Cond.code yX4_hasPair cX4_hasPair 4 (some .boolean) ∈ zz_all := zz_in 399 (by decide +kernel) (by decide +kernel)
theorem wd_400 : Cond.methodLink RX5 110 yX5_join ∈ zz_all := zz_in 400 (by decide +kernel) (by decide +kernel)
theorem wd_401 : Cond.instanceMethod yX5_join ∈ zz_all := zz_in 401 (by decide +kernel) (by decide +kernel)
theorem wd_402 : Cond.selects RX5 yX5_join yX5_join ∈ zz_all := zz_in 402 (by decide +kernel) (by decide +kernel)
theorem wd_403 : Cond.code yX5_join cX5_join 2 none ∈ zz_all := zz_in 403 (by decide +kernel) (by decide +kernel)
theorem wd_404 : Cond.methodLink RX5 136 yX5_trueAnswer ∈ zz_all := zz_in 404 (by decide +kernel) (by decide +kernel)
theorem wd_405 : Cond.instanceMethod yX5_trueAnswer ∈ zz_all := zz_in 405 (by decide +kernel) (by decide +kernel)
theorem wd_406 : Cond.selects RX5 yX5_trueAnswer yX5_trueAnswer ∈ zz_all := zz_in 406 (by decide +kernel) (by decide +kernel)
theorem wd_407 : Cond.code yX5_trueAnswer cX5_trueAnswer 5 (some .int) ∈ zz_all := zz_in 407 (by decide +kernel) (by decide +kernel)
theorem wd_408 : Cond.methodLink RX6 66 yX1_forget ∈ zz_all := zz_in 408 (by decide +kernel) (by decide +kernel)
theorem wd_409 : Cond.instanceMethod yX1_forget ∈ zz_all := zz_in 409 (by decide +kernel) (by decide +kernel)
theorem wd_410 : Cond.selects RX1 yX1_forget yX1_forget ∈ zz_all := zz_in 410 (by decide +kernel) (by decide +kernel)
theorem wd_411 : Cond.code yX1_forget cX1_forget 1 none ∈ zz_all := zz_in 411 (by decide +kernel) (by decide +kernel)
theorem wd_412 : Cond.methodLink RL 23 yX6_person ∈ zz_all := zz_in 412 (by decide +kernel) (by decide +kernel)
theorem wd_413 : Cond.instanceMethod yX6_person ∈ zz_all := zz_in 413 (by decide +kernel) (by decide +kernel)
theorem wd_414 : Cond.selects RX6 yX6_person yX6_person ∈ zz_all := zz_in 414 (by decide +kernel) (by decide +kernel)
theorem wd_415 : Cond.code yX6_person cX6_person 4 (some .int) ∈ zz_all := zz_in 415 (by decide +kernel) (by decide +kernel)
theorem wd_416 : Cond.methodLink RX6 77 yX5_variableOf ∈ zz_all := zz_in 416 (by decide +kernel) (by decide +kernel)
theorem wd_417 : Cond.methodLink RX6 80 yX5_valueOf ∈ zz_all := zz_in 417 (by decide +kernel) (by decide +kernel)
theorem wd_418 : Cond.instanceMethod yX5_valueOf ∈ zz_all := zz_in 418 (by decide +kernel) (by decide +kernel)
theorem wd_419 : Cond.selects RX5 yX5_valueOf yX5_valueOf ∈ zz_all := zz_in 419 (by decide +kernel) (by decide +kernel)
theorem wd_420 : Cond.code yX5_valueOf cX5_valueOf 2 (some .int) ∈ zz_all := zz_in 420 (by decide +kernel) (by decide +kernel)
theorem wd_421 : Cond.methodLink RX6 83 yX5_isFree ∈ zz_all := zz_in 421 (by decide +kernel) (by decide +kernel)
theorem wd_422 : Cond.methodLink RX6 87 yX6_asNumber ∈ zz_all := zz_in 422 (by decide +kernel) (by decide +kernel)
theorem wd_423 : Cond.static yX6_asNumber ∈ zz_all := zz_in 423 (by decide +kernel) (by decide +kernel)
theorem wd_424 : Cond.code yX6_asNumber cX6_asNumber 1 (some .int) ∈ zz_all := zz_in 424 (by decide +kernel) (by decide +kernel)
theorem wd_425 : Cond.methodLink RL 28 yX6_variable ∈ zz_all := zz_in 425 (by decide +kernel) (by decide +kernel)
theorem wd_426 : Cond.instanceMethod yX6_variable ∈ zz_all := zz_in 426 (by decide +kernel) (by decide +kernel)
theorem wd_427 : Cond.selects RX6 yX6_variable yX6_variable ∈ zz_all := zz_in 427 (by decide +kernel) (by decide +kernel)
theorem wd_428 : Cond.code yX6_variable cX6_variable 3 (some .int) ∈ zz_all := zz_in 428 (by decide +kernel) (by decide +kernel)
theorem wd_429 : Cond.methodLink RX6 91 yX5_has ∈ zz_all := zz_in 429 (by decide +kernel) (by decide +kernel)
theorem wd_430 : Cond.methodLink RX6 94 yX5_lowOf ∈ zz_all := zz_in 430 (by decide +kernel) (by decide +kernel)
theorem wd_431 : Cond.instanceMethod yX5_lowOf ∈ zz_all := zz_in 431 (by decide +kernel) (by decide +kernel)
theorem wd_432 : Cond.selects RX5 yX5_lowOf yX5_lowOf ∈ zz_all := zz_in 432 (by decide +kernel) (by decide +kernel)
theorem wd_433 : Cond.code yX5_lowOf cX5_lowOf 2 (some .int) ∈ zz_all := zz_in 433 (by decide +kernel) (by decide +kernel)
theorem wd_434 : Cond.methodLink RX6 97 yX5_highOf ∈ zz_all := zz_in 434 (by decide +kernel) (by decide +kernel)
theorem wd_435 : Cond.instanceMethod yX5_highOf ∈ zz_all := zz_in 435 (by decide +kernel) (by decide +kernel)
theorem wd_436 : Cond.selects RX5 yX5_highOf yX5_highOf ∈ zz_all := zz_in 436 (by decide +kernel) (by decide +kernel)
theorem wd_437 : Cond.code yX5_highOf cX5_highOf 2 (some .int) ∈ zz_all := zz_in 437 (by decide +kernel) (by decide +kernel)
theorem wd_438 : Cond.methodLink RX6 100 yX6_narrowed ∈ zz_all := zz_in 438 (by decide +kernel) (by decide +kernel)
theorem wd_440 : Cond.instanceMethod yX6_narrowed ∈ zz_all := zz_in 440 (by decide +kernel) (by decide +kernel)
theorem wd_441 : Cond.code yX6_narrowed cX6_narrowed 3 (some .int) ∈ zz_all := zz_in 441 (by decide +kernel) (by decide +kernel)
theorem wd_442 : Cond.methodLink RX6 104 yX0_narrow ∈ zz_all := zz_in 442 (by decide +kernel) (by decide +kernel)
theorem wd_443 : Cond.instanceMethod yX0_narrow ∈ zz_all := zz_in 443 (by decide +kernel) (by decide +kernel)
theorem wd_444 : Cond.selects RX0 yX0_narrow yX0_narrow ∈ zz_all := zz_in 444 (by decide +kernel) (by decide +kernel)
theorem wd_445 : Cond.code yX0_narrow cX0_narrow 5 none ∈ zz_all := zz_in 445 (by decide +kernel) (by decide +kernel)
theorem wd_446 : Cond.methodLink RX0 24 yJ9_min_7cf53 ∈ zz_all := zz_in 446 (by decide +kernel) (by decide +kernel)
theorem wd_447 : Cond.static yJ9_min_7cf53 ∈ zz_all := zz_in 447 (by decide +kernel) (by decide +kernel)
theorem wd_448 : Cond.code yJ9_min_7cf53 cJ9_min_7cf53 2 (some .int) ∈ zz_all := zz_in 448 (by decide +kernel) (by decide +kernel)
theorem wd_449 : Cond.methodLink RX0 31 yX5_lowOf ∈ zz_all := zz_in 449 (by decide +kernel) (by decide +kernel)
theorem wd_450 : Cond.methodLink RX0 35 yX5_highOf ∈ zz_all := zz_in 450 (by decide +kernel) (by decide +kernel)
theorem wd_451 : Cond.methodLink RX0 41 yX0_narrowByRow ∈ zz_all := zz_in 451 (by decide +kernel) (by decide +kernel)
theorem wd_453 : Cond.instanceMethod yX0_narrowByRow ∈ zz_all := zz_in 453 (by decide +kernel) (by decide +kernel)
theorem wd_454 : Cond.code yX0_narrowByRow cX0_narrowByRow 11 (some .boolean) ∈ zz_all := zz_in 454 (by decide +kernel) (by decide +kernel)
theorem wd_455 : Cond.methodLink RX0 45 yX5_coefficient ∈ zz_all := zz_in 455 (by decide +kernel) (by decide +kernel)
theorem wd_456 : Cond.methodLink RX0 48 yX0_lowEnd ∈ zz_all := zz_in 456 (by decide +kernel) (by decide +kernel)
theorem wd_458 : Cond.instanceMethod yX0_lowEnd ∈ zz_all := zz_in 458 (by decide +kernel) (by decide +kernel)
theorem wd_459 : Cond.code yX0_lowEnd cX0_lowEnd 3 (some .int) ∈ zz_all := zz_in 459 (by decide +kernel) (by decide +kernel)
theorem wd_460 : Cond.methodLink RX0 68 yX0_leastOf ∈ zz_all := zz_in 460 (by decide +kernel) (by decide +kernel)
theorem wd_461 : Cond.instanceMethod yX0_leastOf ∈ zz_all := zz_in 461 (by decide +kernel) (by decide +kernel)
theorem wd_462 : Cond.selects RX0 yX0_leastOf yX0_leastOf ∈ zz_all := zz_in 462 (by decide +kernel) (by decide +kernel)
theorem wd_463 : Cond.code yX0_leastOf cX0_leastOf 2 (some .int) ∈ zz_all := zz_in 463 (by decide +kernel) (by decide +kernel)
theorem wd_465 : Cond.methodLink RX0 71 yX0_mostOf ∈ zz_all := zz_in 465 (by decide +kernel) (by decide +kernel)
theorem wd_466 : Cond.instanceMethod yX0_mostOf ∈ zz_all := zz_in 466 (by decide +kernel) (by decide +kernel)
theorem wd_467 : Cond.selects RX0 yX0_mostOf yX0_mostOf ∈ zz_all := zz_in 467 (by decide +kernel) (by decide +kernel)
theorem wd_468 : Cond.code yX0_mostOf cX0_mostOf 2 (some .int) ∈ zz_all := zz_in 468 (by decide +kernel) (by decide +kernel)
theorem wd_469 : Cond.methodLink RX0 51 yX0_highEnd ∈ zz_all := zz_in 469 (by decide +kernel) (by decide +kernel)
theorem wd_471 : Cond.instanceMethod yX0_highEnd ∈ zz_all := zz_in 471 (by decide +kernel) (by decide +kernel)
theorem wd_472 : Cond.code yX0_highEnd cX0_highEnd 3 (some .int) ∈ zz_all := zz_in 472 (by decide +kernel) (by decide +kernel)
theorem wd_473 : Cond.methodLink RX0 54 yX5_answerOf ∈ zz_all := zz_in 473 (by decide +kernel) (by decide +kernel)
theorem wd_474 : Cond.instanceMethod yX5_answerOf ∈ zz_all := zz_in 474 (by decide +kernel) (by decide +kernel)
theorem wd_475 : Cond.selects RX5 yX5_answerOf yX5_answerOf ∈ zz_all := zz_in 475 (by decide +kernel) (by decide +kernel)
theorem wd_476 : Cond.code yX5_answerOf cX5_answerOf 2 (some .int) ∈ zz_all := zz_in 476 (by decide +kernel) (by decide +kernel)
theorem wd_477 : Cond.methodLink RX0 57 yX0_narrowOne ∈ zz_all := zz_in 477 (by decide +kernel) (by decide +kernel)
theorem wd_479 : Cond.instanceMethod yX0_narrowOne ∈ zz_all := zz_in 479 (by decide +kernel) (by decide +kernel)
theorem wd_480 : Cond.code yX0_narrowOne cX0_narrowOne 8 (some .boolean) ∈ zz_all := zz_in 480 (by decide +kernel) (by decide +kernel)
theorem wd_481 : Cond.methodLink RX0 65 yJ9_floorDiv_7cf53 ∈ zz_all := zz_in 481 (by decide +kernel) (by decide +kernel)
theorem wd_482 : Cond.static yJ9_floorDiv_7cf53 ∈ zz_all := zz_in 482 (by decide +kernel) (by decide +kernel)
theorem wd_483 : Cond.code yJ9_floorDiv_7cf53 cJ9_floorDiv_7cf53 3 (some .int) ∈ zz_all := zz_in 483 (by decide +kernel) (by decide +kernel)
theorem wd_484 : Cond.methodLink RX6 107 yX0_leastOf ∈ zz_all := zz_in 484 (by decide +kernel) (by decide +kernel)
theorem wd_485 : Cond.methodLink RX6 110 yX0_mostOf ∈ zz_all := zz_in 485 (by decide +kernel) (by decide +kernel)
theorem wd_486 : Cond.methodLink RX6 113 yX0_widthOf ∈ zz_all := zz_in 486 (by decide +kernel) (by decide +kernel)
theorem wd_487 : Cond.instanceMethod yX0_widthOf ∈ zz_all := zz_in 487 (by decide +kernel) (by decide +kernel)
theorem wd_488 : Cond.selects RX0 yX0_widthOf yX0_widthOf ∈ zz_all := zz_in 488 (by decide +kernel) (by decide +kernel)
theorem wd_489 : Cond.code yX0_widthOf cX0_widthOf 2 (some .int) ∈ zz_all := zz_in 489 (by decide +kernel) (by decide +kernel)
theorem wd_490 : Cond.methodLink RL 32 yX6_tells ∈ zz_all := zz_in 490 (by decide +kernel) (by decide +kernel)
theorem wd_491 : Cond.instanceMethod yX6_tells ∈ zz_all := zz_in 491 (by decide +kernel) (by decide +kernel)
theorem wd_492 : Cond.selects RX6 yX6_tells yX6_tells ∈ zz_all := zz_in 492 (by decide +kernel) (by decide +kernel)
theorem wd_493 : Cond.code yX6_tells cX6_tells 5 (some .int) ∈ zz_all := zz_in 493 (by decide +kernel) (by decide +kernel)
theorem wd_494 : Cond.methodLink RX6 116 yX6_misfitOfValue ∈ zz_all := zz_in 494 (by decide +kernel) (by decide +kernel)
theorem wd_495 : Cond.static yX6_misfitOfValue ∈ zz_all := zz_in 495 (by decide +kernel) (by decide +kernel)
theorem wd_496 : Cond.code yX6_misfitOfValue cX6_misfitOfValue 2 (some .int) ∈ zz_all := zz_in 496 (by decide +kernel) (by decide +kernel)
theorem wd_497 : Cond.methodLink RX6 119 yX5_takeTold ∈ zz_all := zz_in 497 (by decide +kernel) (by decide +kernel)
theorem wd_498 : Cond.methodLink RL 36 yX6_changes ∈ zz_all := zz_in 498 (by decide +kernel) (by decide +kernel)
theorem wd_499 : Cond.instanceMethod yX6_changes ∈ zz_all := zz_in 499 (by decide +kernel) (by decide +kernel)
theorem wd_500 : Cond.selects RX6 yX6_changes yX6_changes ∈ zz_all := zz_in 500 (by decide +kernel) (by decide +kernel)
theorem wd_501 : Cond.code yX6_changes cX6_changes 4 (some .int) ∈ zz_all := zz_in 501 (by decide +kernel) (by decide +kernel)
theorem wd_502 : Cond.methodLink RX6 122 yX5_takeChange ∈ zz_all := zz_in 502 (by decide +kernel) (by decide +kernel)
theorem wd_503 : Cond.methodLink RL 40 yX6_bounds ∈ zz_all := zz_in 503 (by decide +kernel) (by decide +kernel)
theorem wd_504 : Cond.instanceMethod yX6_bounds ∈ zz_all := zz_in 504 (by decide +kernel) (by decide +kernel)
theorem wd_505 : Cond.selects RX6 yX6_bounds yX6_bounds ∈ zz_all := zz_in 505 (by decide +kernel) (by decide +kernel)
theorem wd_506 : Cond.code yX6_bounds cX6_bounds 4 (some .int) ∈ zz_all := zz_in 506 (by decide +kernel) (by decide +kernel)
theorem wd_507 : Cond.methodLink RX6 129 yX5_takeBounds ∈ zz_all := zz_in 507 (by decide +kernel) (by decide +kernel)
theorem wd_508 : Cond.methodLink RL 45 yX6_rule ∈ zz_all := zz_in 508 (by decide +kernel) (by decide +kernel)
theorem wd_509 : Cond.instanceMethod yX6_rule ∈ zz_all := zz_in 509 (by decide +kernel) (by decide +kernel)
theorem wd_510 : Cond.selects RX6 yX6_rule yX6_rule ∈ zz_all := zz_in 510 (by decide +kernel) (by decide +kernel)
theorem wd_511 : Cond.code yX6_rule cX6_rule 3 (some .int) ∈ zz_all := zz_in 511 (by decide +kernel) (by decide +kernel)
theorem wd_512 : Cond.methodLink RX6 137 yX5_takeRule ∈ zz_all := zz_in 512 (by decide +kernel) (by decide +kernel)
theorem wd_513 : Cond.methodLink RL 49 yX6_limit ∈ zz_all := zz_in 513 (by decide +kernel) (by decide +kernel)
theorem wd_514 : Cond.instanceMethod yX6_limit ∈ zz_all := zz_in 514 (by decide +kernel) (by decide +kernel)
theorem wd_515 : Cond.selects RX6 yX6_limit yX6_limit ∈ zz_all := zz_in 515 (by decide +kernel) (by decide +kernel)
theorem wd_516 : Cond.code yX6_limit cX6_limit 4 (some .int) ∈ zz_all := zz_in 516 (by decide +kernel) (by decide +kernel)
theorem wd_517 : Cond.methodLink RX6 143 yX5_takeLimit ∈ zz_all := zz_in 517 (by decide +kernel) (by decide +kernel)
theorem wd_518 : Cond.methodLink RL 53 yX6_ask ∈ zz_all := zz_in 518 (by decide +kernel) (by decide +kernel)
theorem wd_519 : Cond.instanceMethod yX6_ask ∈ zz_all := zz_in 519 (by decide +kernel) (by decide +kernel)
theorem wd_520 : Cond.selects RX6 yX6_ask yX6_ask ∈ zz_all := zz_in 520 (by decide +kernel) (by decide +kernel)
theorem wd_521 : Cond.code yX6_ask cX6_ask 5 (some .int) ∈ zz_all := zz_in 521 (by decide +kernel) (by decide +kernel)
theorem wd_522 : Cond.methodLink RX6 146 yX2_misfitOf ∈ zz_all := zz_in 522 (by decide +kernel) (by decide +kernel)
theorem wd_523 : Cond.constant RX6 149 (1000000000 : Int32) ∈ zz_all := zz_in 523 (by decide +kernel) (by decide +kernel)
theorem wd_524 : Cond.methodLink RX6 150 yX2_make ∈ zz_all := zz_in 524 (by decide +kernel) (by decide +kernel)
theorem wd_525 : Cond.methodLink RX6 154 yX5_takeQuestion ∈ zz_all := zz_in 525 (by decide +kernel) (by decide +kernel)
theorem wd_526 : Cond.methodLink RX6 158 yX5_trueAnswer ∈ zz_all := zz_in 526 (by decide +kernel) (by decide +kernel)
theorem wd_527 : Cond.methodLink RL 57 yX6_would ∈ zz_all := zz_in 527 (by decide +kernel) (by decide +kernel)
theorem wd_528 : Cond.instanceMethod yX6_would ∈ zz_all := zz_in 528 (by decide +kernel) (by decide +kernel)
theorem wd_529 : Cond.selects RX6 yX6_would yX6_would ∈ zz_all := zz_in 529 (by decide +kernel) (by decide +kernel)
theorem wd_530 : Cond.code yX6_would cX6_would 5 (some .int) ∈ zz_all := zz_in 530 (by decide +kernel) (by decide +kernel)
theorem wd_531 : Cond.methodLink RX6 161 yX5_meetingBy ∈ zz_all := zz_in 531 (by decide +kernel) (by decide +kernel)
theorem wd_532 : Cond.methodLink RL 61 yX6_sums ∈ zz_all := zz_in 532 (by decide +kernel) (by decide +kernel)
theorem wd_533 : Cond.instanceMethod yX6_sums ∈ zz_all := zz_in 533 (by decide +kernel) (by decide +kernel)
theorem wd_534 : Cond.selects RX6 yX6_sums yX6_sums ∈ zz_all := zz_in 534 (by decide +kernel) (by decide +kernel)
theorem wd_535 : Cond.code yX6_sums cX6_sums 2 (some .int) ∈ zz_all := zz_in 535 (by decide +kernel) (by decide +kernel)
theorem wd_536 : Cond.methodLink RX6 165 yX6_leastJoining ∈ zz_all := zz_in 536 (by decide +kernel) (by decide +kernel)
theorem wd_538 : Cond.instanceMethod yX6_leastJoining ∈ zz_all := zz_in 538 (by decide +kernel) (by decide +kernel)
theorem wd_539 : Cond.code yX6_leastJoining cX6_leastJoining 2 (some .int) ∈ zz_all := zz_in 539 (by decide +kernel) (by decide +kernel)
theorem wd_540 : Cond.methodLink RX6 172 yX6_meetingOfSum ∈ zz_all := zz_in 540 (by decide +kernel) (by decide +kernel)
theorem wd_542 : Cond.instanceMethod yX6_meetingOfSum ∈ zz_all := zz_in 542 (by decide +kernel) (by decide +kernel)
theorem wd_543 : Cond.code yX6_meetingOfSum cX6_meetingOfSum 3 (some .int) ∈ zz_all := zz_in 543 (by decide +kernel) (by decide +kernel)
theorem wd_544 : Cond.methodLink RX6 169 yX6_howMany ∈ zz_all := zz_in 544 (by decide +kernel) (by decide +kernel)
theorem wd_546 : Cond.instanceMethod yX6_howMany ∈ zz_all := zz_in 546 (by decide +kernel) (by decide +kernel)
theorem wd_547 : Cond.code yX6_howMany cX6_howMany 4 (some .int) ∈ zz_all := zz_in 547 (by decide +kernel) (by decide +kernel)
theorem wd_548 : Cond.methodLink RL 65 yX6_ledger ∈ zz_all := zz_in 548 (by decide +kernel) (by decide +kernel)
theorem wd_549 : Cond.instanceMethod yX6_ledger ∈ zz_all := zz_in 549 (by decide +kernel) (by decide +kernel)
theorem wd_550 : Cond.selects RX6 yX6_ledger yX6_ledger ∈ zz_all := zz_in 550 (by decide +kernel) (by decide +kernel)
theorem wd_551 : Cond.code yX6_ledger cX6_ledger 3 (some .int) ∈ zz_all := zz_in 551 (by decide +kernel) (by decide +kernel)
theorem wd_552 : Cond.methodLink RX6 179 yX5_coefficient ∈ zz_all := zz_in 552 (by decide +kernel) (by decide +kernel)
theorem wd_553 : Cond.methodLink RL 69 yX6_answer ∈ zz_all := zz_in 553 (by decide +kernel) (by decide +kernel)
theorem wd_554 : Cond.instanceMethod yX6_answer ∈ zz_all := zz_in 554 (by decide +kernel) (by decide +kernel)
theorem wd_555 : Cond.selects RX6 yX6_answer yX6_answer ∈ zz_all := zz_in 555 (by decide +kernel) (by decide +kernel)
theorem wd_556 : Cond.code yX6_answer cX6_answer 2 (some .long) ∈ zz_all := zz_in 556 (by decide +kernel) (by decide +kernel)
theorem wd_557 : Cond.constantLong RX6 182 (4000000000000000000 : Int64) ∈ zz_all := zz_in 557 (by decide +kernel) (by decide +kernel)
theorem wd_558 : Cond.methodLink RX6 184 yX5_answerOf ∈ zz_all := zz_in 558 (by decide +kernel) (by decide +kernel)
theorem wd_559 : Cond.methodLink RL 74 yX6_reduced ∈ zz_all := zz_in 559 (by decide +kernel) (by decide +kernel)
theorem wd_560 : Cond.instanceMethod yX6_reduced ∈ zz_all := zz_in 560 (by decide +kernel) (by decide +kernel)
theorem wd_561 : Cond.selects RX6 yX6_reduced yX6_reduced ∈ zz_all := zz_in 561 (by decide +kernel) (by decide +kernel)
theorem wd_562 : Cond.code yX6_reduced cX6_reduced 4 (some .long) ∈ zz_all := zz_in 562 (by decide +kernel) (by decide +kernel)
theorem wd_563 : Cond.methodLink RX6 191 yX4_reducedPart ∈ zz_all := zz_in 563 (by decide +kernel) (by decide +kernel)
theorem wd_564 : Cond.instanceMethod yX4_reducedPart ∈ zz_all := zz_in 564 (by decide +kernel) (by decide +kernel)
theorem wd_565 : Cond.selects RX4 yX4_reducedPart yX4_reducedPart ∈ zz_all := zz_in 565 (by decide +kernel) (by decide +kernel)
theorem wd_566 : Cond.code yX4_reducedPart cX4_reducedPart 5 (some .long) ∈ zz_all := zz_in 566 (by decide +kernel) (by decide +kernel)
theorem wd_567 : Cond.methodLink RX4 42 yX4_pivotOf ∈ zz_all := zz_in 567 (by decide +kernel) (by decide +kernel)
theorem wd_569 : Cond.instanceMethod yX4_pivotOf ∈ zz_all := zz_in 569 (by decide +kernel) (by decide +kernel)
theorem wd_570 : Cond.code yX4_pivotOf cX4_pivotOf 4 (some .int) ∈ zz_all := zz_in 570 (by decide +kernel) (by decide +kernel)
theorem wd_573 : Cond.static yX6_partInLeastTerms ∈ zz_all := zz_in 573 (by decide +kernel) (by decide +kernel)
theorem wd_574 : Cond.code yX6_partInLeastTerms cX6_partInLeastTerms 9 (some .long) ∈ zz_all := zz_in 574 (by decide +kernel) (by decide +kernel)
theorem wd_575 : Cond.methodLink RX6 287 yJ9_abs_067f4 ∈ zz_all := zz_in 575 (by decide +kernel) (by decide +kernel)
theorem wd_576 : Cond.static yJ9_abs_067f4 ∈ zz_all := zz_in 576 (by decide +kernel) (by decide +kernel)
theorem wd_577 : Cond.code yJ9_abs_067f4 cJ9_abs_067f4 2 (some .long) ∈ zz_all := zz_in 577 (by decide +kernel) (by decide +kernel)
theorem wd_578 : Cond.methodLink RX6 291 yX6_greatestDivisor ∈ zz_all := zz_in 578 (by decide +kernel) (by decide +kernel)
theorem wd_579 : Cond.static yX6_greatestDivisor ∈ zz_all := zz_in 579 (by decide +kernel) (by decide +kernel)
theorem wd_580 : Cond.code yX6_greatestDivisor cX6_greatestDivisor 11 (some .long) ∈ zz_all := zz_in 580 (by decide +kernel) (by decide +kernel)
theorem wd_581 : Cond.methodLink RL 79 yX6_pivots ∈ zz_all := zz_in 581 (by decide +kernel) (by decide +kernel)
theorem wd_582 : Cond.instanceMethod yX6_pivots ∈ zz_all := zz_in 582 (by decide +kernel) (by decide +kernel)
theorem wd_583 : Cond.selects RX6 yX6_pivots yX6_pivots ∈ zz_all := zz_in 583 (by decide +kernel) (by decide +kernel)
theorem wd_584 : Cond.code yX6_pivots cX6_pivots 1 (some .int) ∈ zz_all := zz_in 584 (by decide +kernel) (by decide +kernel)
theorem wd_585 : Cond.methodLink RL 83 yX6_attack ∈ zz_all := zz_in 585 (by decide +kernel) (by decide +kernel)
theorem wd_586 : Cond.instanceMethod yX6_attack ∈ zz_all := zz_in 586 (by decide +kernel) (by decide +kernel)
theorem wd_587 : Cond.selects RX6 yX6_attack yX6_attack ∈ zz_all := zz_in 587 (by decide +kernel) (by decide +kernel)
theorem wd_588 : Cond.code yX6_attack cX6_attack 6 (some .int) ∈ zz_all := zz_in 588 (by decide +kernel) (by decide +kernel)
theorem wd_589 : Cond.methodLink RX6 200 yX5_fixedBitsWith ∈ zz_all := zz_in 589 (by decide +kernel) (by decide +kernel)
theorem wd_590 : Cond.instanceMethod yX5_fixedBitsWith ∈ zz_all := zz_in 590 (by decide +kernel) (by decide +kernel)
theorem wd_591 : Cond.selects RX5 yX5_fixedBitsWith yX5_fixedBitsWith ∈ zz_all := zz_in 591 (by decide +kernel) (by decide +kernel)
theorem wd_592 : Cond.code yX5_fixedBitsWith cX5_fixedBitsWith 2 (some .int) ∈ zz_all := zz_in 592 (by decide +kernel) (by decide +kernel)
theorem wd_593 : Cond.methodLink RL 87 yX6_known ∈ zz_all := zz_in 593 (by decide +kernel) (by decide +kernel)
theorem wd_594 : Cond.instanceMethod yX6_known ∈ zz_all := zz_in 594 (by decide +kernel) (by decide +kernel)
theorem wd_595 : Cond.selects RX6 yX6_known yX6_known ∈ zz_all := zz_in 595 (by decide +kernel) (by decide +kernel)
theorem wd_596 : Cond.code yX6_known cX6_known 1 (some .int) ∈ zz_all := zz_in 596 (by decide +kernel) (by decide +kernel)
theorem wd_597 : Cond.methodLink RX6 203 yX0_knownBits ∈ zz_all := zz_in 597 (by decide +kernel) (by decide +kernel)
theorem wd_598 : Cond.instanceMethod yX0_knownBits ∈ zz_all := zz_in 598 (by decide +kernel) (by decide +kernel)
theorem wd_599 : Cond.selects RX0 yX0_knownBits yX0_knownBits ∈ zz_all := zz_in 599 (by decide +kernel) (by decide +kernel)
theorem wd_600 : Cond.code yX0_knownBits cX0_knownBits 3 (some .int) ∈ zz_all := zz_in 600 (by decide +kernel) (by decide +kernel)
theorem wd_601 : Cond.methodLink RX0 74 yX0_widthOf ∈ zz_all := zz_in 601 (by decide +kernel) (by decide +kernel)
theorem wd_602 : Cond.methodLink RL 91 yX6_learns ∈ zz_all := zz_in 602 (by decide +kernel) (by decide +kernel)
theorem wd_603 : Cond.instanceMethod yX6_learns ∈ zz_all := zz_in 603 (by decide +kernel) (by decide +kernel)
theorem wd_604 : Cond.selects RX6 yX6_learns yX6_learns ∈ zz_all := zz_in 604 (by decide +kernel) (by decide +kernel)
theorem wd_605 : Cond.code yX6_learns cX6_learns 7 (some .int) ∈ zz_all := zz_in 605 (by decide +kernel) (by decide +kernel)
theorem wd_606 : Cond.methodLink RX6 206 yX5_join ∈ zz_all := zz_in 606 (by decide +kernel) (by decide +kernel)
theorem wd_607 : Cond.methodLink RX6 210 yX0_narrowest ∈ zz_all := zz_in 607 (by decide +kernel) (by decide +kernel)
theorem wd_608 : Cond.instanceMethod yX0_narrowest ∈ zz_all := zz_in 608 (by decide +kernel) (by decide +kernel)
theorem wd_609 : Cond.selects RX0 yX0_narrowest yX0_narrowest ∈ zz_all := zz_in 609 (by decide +kernel) (by decide +kernel)
theorem wd_610 : Cond.code yX0_narrowest cX0_narrowest 3 (some .int) ∈ zz_all := zz_in 610 (by decide +kernel) (by decide +kernel)
theorem wd_611 : Cond.methodLink RX6 213 yJ6_bitCount_0f7a4 ∈ zz_all := zz_in 611 (by decide +kernel) (by decide +kernel)
theorem wd_612 : Cond.static yJ6_bitCount_0f7a4 ∈ zz_all := zz_in 612 (by decide +kernel) (by decide +kernel)
theorem wd_613 : Cond.code yJ6_bitCount_0f7a4 cJ6_bitCount_0f7a4 1 (some .int) ∈ zz_all := zz_in 613 (by decide +kernel) (by decide +kernel)
theorem wd_614 : Cond.constant RJ6 265 (1431655765 : Int32) ∈ zz_all := zz_in 614 (by decide +kernel) (by decide +kernel)
theorem wd_615 : Cond.constant RJ6 266 (858993459 : Int32) ∈ zz_all := zz_in 615 (by decide +kernel) (by decide +kernel)
theorem wd_616 : Cond.constant RJ6 267 (252645135 : Int32) ∈ zz_all := zz_in 616 (by decide +kernel) (by decide +kernel)
theorem wd_617 : Cond.methodLink RL 108 yX6_mean ∈ zz_all := zz_in 617 (by decide +kernel) (by decide +kernel)
theorem wd_618 : Cond.instanceMethod yX6_mean ∈ zz_all := zz_in 618 (by decide +kernel) (by decide +kernel)
theorem wd_619 : Cond.selects RX6 yX6_mean yX6_mean ∈ zz_all := zz_in 619 (by decide +kernel) (by decide +kernel)
theorem wd_620 : Cond.code yX6_mean cX6_mean 2 (some .long) ∈ zz_all := zz_in 620 (by decide +kernel) (by decide +kernel)
theorem wd_621 : Cond.methodLink RX6 218 yX0_widths ∈ zz_all := zz_in 621 (by decide +kernel) (by decide +kernel)
theorem wd_622 : Cond.instanceMethod yX0_widths ∈ zz_all := zz_in 622 (by decide +kernel) (by decide +kernel)
theorem wd_623 : Cond.selects RX0 yX0_widths yX0_widths ∈ zz_all := zz_in 623 (by decide +kernel) (by decide +kernel)
theorem wd_624 : Cond.code yX0_widths cX0_widths 3 (some .int) ∈ zz_all := zz_in 624 (by decide +kernel) (by decide +kernel)
theorem wd_625 : Cond.methodLink RX6 224 yX6_partInLeastTerms ∈ zz_all := zz_in 625 (by decide +kernel) (by decide +kernel)
theorem wd_626 : Cond.methodLink RL 96 yX6_order ∈ zz_all := zz_in 626 (by decide +kernel) (by decide +kernel)
theorem wd_627 : Cond.instanceMethod yX6_order ∈ zz_all := zz_in 627 (by decide +kernel) (by decide +kernel)
theorem wd_628 : Cond.selects RX6 yX6_order yX6_order ∈ zz_all := zz_in 628 (by decide +kernel) (by decide +kernel)
theorem wd_629 : Cond.code yX6_order cX6_order 12 (some .int) ∈ zz_all := zz_in 629 (by decide +kernel) (by decide +kernel)
theorem wd_630 : Cond.methodLink RX6 228 yJ9_min_7cf53 ∈ zz_all := zz_in 630 (by decide +kernel) (by decide +kernel)
theorem wd_631 : Cond.methodLink RX6 233 yJ9_max_7cf53 ∈ zz_all := zz_in 631 (by decide +kernel) (by decide +kernel)
theorem wd_632 : Cond.static yJ9_max_7cf53 ∈ zz_all := zz_in 632 (by decide +kernel) (by decide +kernel)
theorem wd_633 : Cond.code yJ9_max_7cf53 cJ9_max_7cf53 2 (some .int) ∈ zz_all := zz_in 633 (by decide +kernel) (by decide +kernel)
theorem wd_634 : Cond.methodLink RX6 236 yX6_misfitOfAll ∈ zz_all := zz_in 634 (by decide +kernel) (by decide +kernel)
theorem wd_635 : Cond.static yX6_misfitOfAll ∈ zz_all := zz_in 635 (by decide +kernel) (by decide +kernel)
theorem wd_636 : Cond.code yX6_misfitOfAll cX6_misfitOfAll 2 (some .int) ∈ zz_all := zz_in 636 (by decide +kernel) (by decide +kernel)
theorem wd_637 : Cond.methodLink RX6 239 yX6_pick ∈ zz_all := zz_in 637 (by decide +kernel) (by decide +kernel)
theorem wd_638 : Cond.static yX6_pick ∈ zz_all := zz_in 638 (by decide +kernel) (by decide +kernel)
theorem wd_639 : Cond.code yX6_pick cX6_pick 4 (some .int) ∈ zz_all := zz_in 639 (by decide +kernel) (by decide +kernel)
theorem wd_640 : Cond.methodLink RX6 243 yX6_joinedInTurn ∈ zz_all := zz_in 640 (by decide +kernel) (by decide +kernel)
theorem wd_642 : Cond.instanceMethod yX6_joinedInTurn ∈ zz_all := zz_in 642 (by decide +kernel) (by decide +kernel)
theorem wd_643 : Cond.code yX6_joinedInTurn cX6_joinedInTurn 4 (some .int) ∈ zz_all := zz_in 643 (by decide +kernel) (by decide +kernel)
theorem wd_644 : Cond.methodLink RX6 246 yX6_takeSum ∈ zz_all := zz_in 644 (by decide +kernel) (by decide +kernel)
theorem wd_646 : Cond.instanceMethod yX6_takeSum ∈ zz_all := zz_in 646 (by decide +kernel) (by decide +kernel)
theorem wd_647 : Cond.code yX6_takeSum cX6_takeSum 3 (some .int) ∈ zz_all := zz_in 647 (by decide +kernel) (by decide +kernel)
theorem wd_648 : Cond.methodLink RL 100 yX6_two ∈ zz_all := zz_in 648 (by decide +kernel) (by decide +kernel)
theorem wd_649 : Cond.instanceMethod yX6_two ∈ zz_all := zz_in 649 (by decide +kernel) (by decide +kernel)
theorem wd_650 : Cond.selects RX6 yX6_two yX6_two ∈ zz_all := zz_in 650 (by decide +kernel) (by decide +kernel)
theorem wd_651 : Cond.code yX6_two cX6_two 12 (some .int) ∈ zz_all := zz_in 651 (by decide +kernel) (by decide +kernel)
theorem wd_652 : Cond.methodLink RX6 249 yX6_gain ∈ zz_all := zz_in 652 (by decide +kernel) (by decide +kernel)
theorem wd_653 : Cond.static yX6_gain ∈ zz_all := zz_in 653 (by decide +kernel) (by decide +kernel)
theorem wd_654 : Cond.code yX6_gain cX6_gain 1 (some .int) ∈ zz_all := zz_in 654 (by decide +kernel) (by decide +kernel)
theorem wd_655 : Cond.methodLink RL 104 yX6_cheapest ∈ zz_all := zz_in 655 (by decide +kernel) (by decide +kernel)
theorem wd_656 : Cond.instanceMethod yX6_cheapest ∈ zz_all := zz_in 656 (by decide +kernel) (by decide +kernel)
theorem wd_657 : Cond.selects RX6 yX6_cheapest yX6_cheapest ∈ zz_all := zz_in 657 (by decide +kernel) (by decide +kernel)
theorem wd_658 : Cond.code yX6_cheapest cX6_cheapest 6 (some .int) ∈ zz_all := zz_in 658 (by decide +kernel) (by decide +kernel)
theorem wd_659 : Cond.methodLink RL 112 yX6_share ∈ zz_all := zz_in 659 (by decide +kernel) (by decide +kernel)
theorem wd_660 : Cond.instanceMethod yX6_share ∈ zz_all := zz_in 660 (by decide +kernel) (by decide +kernel)
theorem wd_661 : Cond.selects RX6 yX6_share yX6_share ∈ zz_all := zz_in 661 (by decide +kernel) (by decide +kernel)
theorem wd_662 : Cond.code yX6_share cX6_share 2 (some .long) ∈ zz_all := zz_in 662 (by decide +kernel) (by decide +kernel)
theorem wd_663 : Cond.constantLong RX6 252 (255 : Int64) ∈ zz_all := zz_in 663 (by decide +kernel) (by decide +kernel)
theorem wd_664 : Cond.methodLink RL 132 yX6_lots ∈ zz_all := zz_in 664 (by decide +kernel) (by decide +kernel)
theorem wd_665 : Cond.instanceMethod yX6_lots ∈ zz_all := zz_in 665 (by decide +kernel) (by decide +kernel)
theorem wd_666 : Cond.selects RX6 yX6_lots yX6_lots ∈ zz_all := zz_in 666 (by decide +kernel) (by decide +kernel)
theorem wd_667 : Cond.code yX6_lots cX6_lots 11 (some .int) ∈ zz_all := zz_in 667 (by decide +kernel) (by decide +kernel)
theorem wd_668 : Cond.constant RX6 254 (1664525 : Int32) ∈ zz_all := zz_in 668 (by decide +kernel) (by decide +kernel)
theorem wd_669 : Cond.constant RX6 255 (1013904223 : Int32) ∈ zz_all := zz_in 669 (by decide +kernel) (by decide +kernel)
theorem wd_670 : Cond.constant RX6 256 (2147483647 : Int32) ∈ zz_all := zz_in 670 (by decide +kernel) (by decide +kernel)
theorem wd_671 : Cond.methodLink RL 120 yX6_row ∈ zz_all := zz_in 671 (by decide +kernel) (by decide +kernel)
theorem wd_672 : Cond.instanceMethod yX6_row ∈ zz_all := zz_in 672 (by decide +kernel) (by decide +kernel)
theorem wd_673 : Cond.selects RX6 yX6_row yX6_row ∈ zz_all := zz_in 673 (by decide +kernel) (by decide +kernel)
theorem wd_674 : Cond.code yX6_row cX6_row 2 (some .int) ∈ zz_all := zz_in 674 (by decide +kernel) (by decide +kernel)
theorem wd_675 : Cond.methodLink RL 128 yX6_clear ∈ zz_all := zz_in 675 (by decide +kernel) (by decide +kernel)
theorem wd_676 : Cond.instanceMethod yX6_clear ∈ zz_all := zz_in 676 (by decide +kernel) (by decide +kernel)
theorem wd_677 : Cond.selects RX6 yX6_clear yX6_clear ∈ zz_all := zz_in 677 (by decide +kernel) (by decide +kernel)
theorem wd_678 : Cond.code yX6_clear cX6_clear 2 (some .int) ∈ zz_all := zz_in 678 (by decide +kernel) (by decide +kernel)
theorem wd_679 : Cond.methodLink RL 116 yX6_which ∈ zz_all := zz_in 679 (by decide +kernel) (by decide +kernel)
theorem wd_680 : Cond.instanceMethod yX6_which ∈ zz_all := zz_in 680 (by decide +kernel) (by decide +kernel)
theorem wd_681 : Cond.selects RX6 yX6_which yX6_which ∈ zz_all := zz_in 681 (by decide +kernel) (by decide +kernel)
theorem wd_682 : Cond.code yX6_which cX6_which 6 (some .int) ∈ zz_all := zz_in 682 (by decide +kernel) (by decide +kernel)
theorem wd_683 : Cond.methodLink RX6 260 yX6_isRowOfPairs ∈ zz_all := zz_in 683 (by decide +kernel) (by decide +kernel)
theorem wd_685 : Cond.instanceMethod yX6_isRowOfPairs ∈ zz_all := zz_in 685 (by decide +kernel) (by decide +kernel)
theorem wd_686 : Cond.code yX6_isRowOfPairs cX6_isRowOfPairs 2 (some .boolean) ∈ zz_all := zz_in 686 (by decide +kernel) (by decide +kernel)
theorem wd_687 : Cond.methodLink RX6 267 yX1_at ∈ zz_all := zz_in 687 (by decide +kernel) (by decide +kernel)
theorem wd_688 : Cond.methodLink RX6 264 yX6_isMetBy ∈ zz_all := zz_in 688 (by decide +kernel) (by decide +kernel)
theorem wd_690 : Cond.instanceMethod yX6_isMetBy ∈ zz_all := zz_in 690 (by decide +kernel) (by decide +kernel)
theorem wd_691 : Cond.code yX6_isMetBy cX6_isMetBy 4 (some .boolean) ∈ zz_all := zz_in 691 (by decide +kernel) (by decide +kernel)
theorem wd_692 : Cond.methodLink RL 124 yX6_judge ∈ zz_all := zz_in 692 (by decide +kernel) (by decide +kernel)
theorem wd_693 : Cond.instanceMethod yX6_judge ∈ zz_all := zz_in 693 (by decide +kernel) (by decide +kernel)
theorem wd_694 : Cond.selects RX6 yX6_judge yX6_judge ∈ zz_all := zz_in 694 (by decide +kernel) (by decide +kernel)
theorem wd_695 : Cond.code yX6_judge cX6_judge 3 (some .int) ∈ zz_all := zz_in 695 (by decide +kernel) (by decide +kernel)
theorem wd_696 : Cond.methodLink RX6 270 yX5_answerByTold ∈ zz_all := zz_in 696 (by decide +kernel) (by decide +kernel)
theorem wd_697 : Cond.instanceMethod yX5_answerByTold ∈ zz_all := zz_in 697 (by decide +kernel) (by decide +kernel)
theorem wd_698 : Cond.selects RX5 yX5_answerByTold yX5_answerByTold ∈ zz_all := zz_in 698 (by decide +kernel) (by decide +kernel)
theorem wd_699 : Cond.code yX5_answerByTold cX5_answerByTold 6 (some .int) ∈ zz_all := zz_in 699 (by decide +kernel) (by decide +kernel)
theorem wd_700 : Cond.methodLink RX5 96 yX1_at ∈ zz_all := zz_in 700 (by decide +kernel) (by decide +kernel)
theorem wd_701 : Cond.methodLink RX5 87 yX5_valueOf ∈ zz_all := zz_in 701 (by decide +kernel) (by decide +kernel)
theorem wd_702 : Cond.methodLink RL 136 yX6_image ∈ zz_all := zz_in 702 (by decide +kernel) (by decide +kernel)
theorem wd_703 : Cond.instanceMethod yX6_image ∈ zz_all := zz_in 703 (by decide +kernel) (by decide +kernel)
theorem wd_704 : Cond.selects RX6 yX6_image yX6_image ∈ zz_all := zz_in 704 (by decide +kernel) (by decide +kernel)
theorem wd_705 : Cond.code yX6_image cX6_image 1 (some .int) ∈ zz_all := zz_in 705 (by decide +kernel) (by decide +kernel)
theorem wd_706 : Cond.methodLink RL 140 yX6_on ∈ zz_all := zz_in 706 (by decide +kernel) (by decide +kernel)
theorem wd_707 : Cond.instanceMethod yX6_on ∈ zz_all := zz_in 707 (by decide +kernel) (by decide +kernel)
theorem wd_708 : Cond.selects RX6 yX6_on yX6_on ∈ zz_all := zz_in 708 (by decide +kernel) (by decide +kernel)
theorem wd_709 : Cond.code yX6_on cX6_on 1 (some .int) ∈ zz_all := zz_in 709 (by decide +kernel) (by decide +kernel)
theorem wd_710 : Cond.methodLink RL 144 yX6_count ∈ zz_all := zz_in 710 (by decide +kernel) (by decide +kernel)
theorem wd_711 : Cond.instanceMethod yX6_count ∈ zz_all := zz_in 711 (by decide +kernel) (by decide +kernel)
theorem wd_712 : Cond.selects RX6 yX6_count yX6_count ∈ zz_all := zz_in 712 (by decide +kernel) (by decide +kernel)
theorem wd_713 : Cond.code yX6_count cX6_count 2 (some .int) ∈ zz_all := zz_in 713 (by decide +kernel) (by decide +kernel)
theorem wd_714 : Cond.methodLink RX6 278 yX5_usedBits ∈ zz_all := zz_in 714 (by decide +kernel) (by decide +kernel)
theorem wd_715 : Cond.instanceMethod yX5_usedBits ∈ zz_all := zz_in 715 (by decide +kernel) (by decide +kernel)
theorem wd_716 : Cond.selects RX5 yX5_usedBits yX5_usedBits ∈ zz_all := zz_in 716 (by decide +kernel) (by decide +kernel)
theorem wd_717 : Cond.code yX5_usedBits cX5_usedBits 3 (some .int) ∈ zz_all := zz_in 717 (by decide +kernel) (by decide +kernel)
theorem wd_718 : Cond.methodLink RX6 281 yX5_valuesOfPeople ∈ zz_all := zz_in 718 (by decide +kernel) (by decide +kernel)
theorem wd_719 : Cond.instanceMethod yX5_valuesOfPeople ∈ zz_all := zz_in 719 (by decide +kernel) (by decide +kernel)
theorem wd_720 : Cond.selects RX5 yX5_valuesOfPeople yX5_valuesOfPeople ∈ zz_all := zz_in 720 (by decide +kernel) (by decide +kernel)
theorem wd_721 : Cond.code yX5_valuesOfPeople cX5_valuesOfPeople 3 (some .int) ∈ zz_all := zz_in 721 (by decide +kernel) (by decide +kernel)
theorem wd_722 : Cond.classLink RL 10 RX7 ∈ zz_all := zz_in 722 (by decide +kernel) (by decide +kernel)
theorem wd_723 : Cond.instantiable RX7 41 ∈ zz_all := zz_in 723 (by decide +kernel) (by decide +kernel)
theorem wd_724 : Cond.methodLink RL 12 yX7_init ∈ zz_all := zz_in 724 (by decide +kernel) (by decide +kernel)
theorem wd_725 : Cond.instanceMethod yX7_init ∈ zz_all := zz_in 725 (by decide +kernel) (by decide +kernel)
theorem wd_726 : Cond.code yX7_init cX7_init 2 none ∈ zz_all := zz_in 726 (by decide +kernel) (by decide +kernel)
theorem wd_727 : Cond.methodLink RX7 1 objectInit ∈ zz_all := zz_in 727 (by decide +kernel) (by decide +kernel)
theorem wd_728 : Cond.fieldLink RX7 7 "GuardOfSumsModel" "refused" "[I" ∈ zz_all := zz_in 728 (by decide +kernel) (by decide +kernel)
theorem wd_729 : Cond.fieldLink RX7 13 "GuardOfSumsModel" "value" "[I" ∈ zz_all := zz_in 729 (by decide +kernel) (by decide +kernel)
theorem wd_730 : Cond.fieldLink RX7 16 "GuardOfSumsModel" "low" "[I" ∈ zz_all := zz_in 730 (by decide +kernel) (by decide +kernel)
theorem wd_731 : Cond.fieldLink RX7 19 "GuardOfSumsModel" "high" "[I" ∈ zz_all := zz_in 731 (by decide +kernel) (by decide +kernel)
theorem wd_732 : Cond.fieldLink RX7 22 "GuardOfSumsModel" "variableOf" "[I" ∈ zz_all := zz_in 732 (by decide +kernel) (by decide +kernel)
theorem wd_733 : Cond.fieldLink RX7 25 "GuardOfSumsModel" "ledger" "[I" ∈ zz_all := zz_in 733 (by decide +kernel) (by decide +kernel)
theorem wd_734 : Cond.fieldLink RX7 28 "GuardOfSumsModel" "answers" "[I" ∈ zz_all := zz_in 734 (by decide +kernel) (by decide +kernel)
theorem wd_735 : Cond.fieldLink RX7 86 "GuardOfSumsModel" "variables" "I" ∈ zz_all := zz_in 735 (by decide +kernel) (by decide +kernel)
theorem wd_736 : Cond.fieldLink RX7 100 "GuardOfSumsModel" "rank" "I" ∈ zz_all := zz_in 736 (by decide +kernel) (by decide +kernel)
theorem wd_737 : Cond.fieldLink RX7 176 "GuardOfSumsModel" "rule" "I" ∈ zz_all := zz_in 737 (by decide +kernel) (by decide +kernel)
theorem wd_738 : Cond.fieldLink RX7 90 "GuardOfSumsModel" "limit" "I" ∈ zz_all := zz_in 738 (by decide +kernel) (by decide +kernel)
theorem wd_739 : Cond.fieldLink RX7 31 "GuardOfSumsModel" "asked" "[I" ∈ zz_all := zz_in 739 (by decide +kernel) (by decide +kernel)
theorem wd_740 : Cond.fieldLink RX7 107 "GuardOfSumsModel" "askedSize" "I" ∈ zz_all := zz_in 740 (by decide +kernel) (by decide +kernel)
theorem wd_741 : Cond.fieldLink RX7 34 "GuardOfSumsModel" "base" "[J" ∈ zz_all := zz_in 741 (by decide +kernel) (by decide +kernel)
theorem wd_742 : Cond.fieldLink RX7 38 "GuardOfSumsModel" "red" "[J" ∈ zz_all := zz_in 742 (by decide +kernel) (by decide +kernel)
theorem wd_743 : Cond.fieldLink RX7 41 "GuardOfSumsModel" "one" "[J" ∈ zz_all := zz_in 743 (by decide +kernel) (by decide +kernel)
theorem wd_744 : Cond.fieldLink RX7 44 "GuardOfSumsModel" "basePivots" "[I" ∈ zz_all := zz_in 744 (by decide +kernel) (by decide +kernel)
theorem wd_745 : Cond.fieldLink RX7 47 "GuardOfSumsModel" "pivots" "[I" ∈ zz_all := zz_in 745 (by decide +kernel) (by decide +kernel)
theorem wd_746 : Cond.fieldLink RX7 126 "GuardOfSumsModel" "baseRows" "I" ∈ zz_all := zz_in 746 (by decide +kernel) (by decide +kernel)
theorem wd_747 : Cond.fieldLink RX7 129 "GuardOfSumsModel" "redRows" "I" ∈ zz_all := zz_in 747 (by decide +kernel) (by decide +kernel)
theorem wd_748 : Cond.fieldLink RX7 50 "GuardOfSumsModel" "kept" "[I" ∈ zz_all := zz_in 748 (by decide +kernel) (by decide +kernel)
theorem wd_749 : Cond.fieldLink RX7 210 "GuardOfSumsModel" "hasImage" "Z" ∈ zz_all := zz_in 749 (by decide +kernel) (by decide +kernel)
theorem wd_750 : Cond.fieldLink RX7 192 "GuardOfSumsModel" "isKeeping" "Z" ∈ zz_all := zz_in 750 (by decide +kernel) (by decide +kernel)
theorem wd_751 : Cond.fieldLink RX7 196 "GuardOfSumsModel" "cursor" "I" ∈ zz_all := zz_in 751 (by decide +kernel) (by decide +kernel)
theorem wd_752 : Cond.fieldLink RX7 53 "GuardOfSumsModel" "tape" "[I" ∈ zz_all := zz_in 752 (by decide +kernel) (by decide +kernel)
theorem wd_753 : Cond.fieldLink RX7 56 "GuardOfSumsModel" "sort" "[I" ∈ zz_all := zz_in 753 (by decide +kernel) (by decide +kernel)
theorem wd_754 : Cond.fieldLink RX7 59 "GuardOfSumsModel" "sortAt" "[I" ∈ zz_all := zz_in 754 (by decide +kernel) (by decide +kernel)
theorem wd_755 : Cond.fieldLink RX7 62 "GuardOfSumsModel" "told" "[I" ∈ zz_all := zz_in 755 (by decide +kernel) (by decide +kernel)
theorem wd_756 : Cond.fieldLink RX7 220 "GuardOfSumsModel" "taped" "I" ∈ zz_all := zz_in 756 (by decide +kernel) (by decide +kernel)
theorem wd_757 : Cond.fieldLink RX7 223 "GuardOfSumsModel" "reading" "I" ∈ zz_all := zz_in 757 (by decide +kernel) (by decide +kernel)
theorem wd_758 : Cond.fieldLink RX7 238 "GuardOfSumsModel" "statements" "I" ∈ zz_all := zz_in 758 (by decide +kernel) (by decide +kernel)
theorem wd_759 : Cond.fieldLink RX7 229 "GuardOfSumsModel" "telling" "I" ∈ zz_all := zz_in 759 (by decide +kernel) (by decide +kernel)
theorem wd_760 : Cond.fieldLink RX7 65 "GuardOfSumsModel" "meets" "[I" ∈ zz_all := zz_in 760 (by decide +kernel) (by decide +kernel)
theorem wd_761 : Cond.fieldLink RX7 68 "GuardOfSumsModel" "met" "[I" ∈ zz_all := zz_in 761 (by decide +kernel) (by decide +kernel)
theorem wd_762 : Cond.fieldLink RX7 71 "GuardOfSumsModel" "least" "[I" ∈ zz_all := zz_in 762 (by decide +kernel) (by decide +kernel)
theorem wd_763 : Cond.fieldLink RX7 74 "GuardOfSumsModel" "most" "[I" ∈ zz_all := zz_in 763 (by decide +kernel) (by decide +kernel)
theorem wd_764 : Cond.fieldLink RX7 77 "GuardOfSumsModel" "three" "[I" ∈ zz_all := zz_in 764 (by decide +kernel) (by decide +kernel)
theorem wd_765 : Cond.fieldLink RX7 80 "GuardOfSumsModel" "ends" "[I" ∈ zz_all := zz_in 765 (by decide +kernel) (by decide +kernel)
theorem wd_766 : Cond.fieldLink RX7 83 "GuardOfSumsModel" "row" "[I" ∈ zz_all := zz_in 766 (by decide +kernel) (by decide +kernel)
theorem wd_767 : Cond.fieldLink RX7 367 "GuardOfSumsModel" "rowMany" "I" ∈ zz_all := zz_in 767 (by decide +kernel) (by decide +kernel)
theorem wd_768 : Cond.fieldLink RX7 379 "GuardOfSumsModel" "lots" "I" ∈ zz_all := zz_in 768 (by decide +kernel) (by decide +kernel)
theorem wd_852 : Cond.methodLink RL 139 yX7_image ∈ zz_all := zz_in 852 (by decide +kernel) (by decide +kernel)
theorem wd_853 : Cond.instanceMethod yX7_image ∈ zz_all := zz_in 853 (by decide +kernel) (by decide +kernel)
theorem wd_854 : Cond.selects RX7 yX7_image yX7_image ∈ zz_all := zz_in 854 (by decide +kernel) (by decide +kernel)
theorem wd_855 : Cond.code yX7_image cX7_image 1 (some .int) ∈ zz_all := zz_in 855 (by decide +kernel) (by decide +kernel)
theorem wd_856 : Cond.methodLink RX7 206 yX7_passesAll ∈ zz_all := zz_in 856 (by decide +kernel) (by decide +kernel)
theorem wd_858 : Cond.instanceMethod yX7_passesAll ∈ zz_all := zz_in 858 (by decide +kernel) (by decide +kernel)
theorem wd_859 : Cond.code yX7_passesAll cX7_passesAll 3 none ∈ zz_all := zz_in 859 (by decide +kernel) (by decide +kernel)
theorem wd_860 : Cond.methodLink RX7 199 yX7_passes ∈ zz_all := zz_in 860 (by decide +kernel) (by decide +kernel)
theorem wd_862 : Cond.instanceMethod yX7_passes ∈ zz_all := zz_in 862 (by decide +kernel) (by decide +kernel)
theorem wd_863 : Cond.code yX7_passes cX7_passes 3 none ∈ zz_all := zz_in 863 (by decide +kernel) (by decide +kernel)
theorem wd_864 : Cond.methodLink RX7 203 yX7_passOne ∈ zz_all := zz_in 864 (by decide +kernel) (by decide +kernel)
theorem wd_866 : Cond.instanceMethod yX7_passOne ∈ zz_all := zz_in 866 (by decide +kernel) (by decide +kernel)
theorem wd_867 : Cond.code yX7_passOne cX7_passOne 3 (some .int) ∈ zz_all := zz_in 867 (by decide +kernel) (by decide +kernel)
theorem wd_868 : Cond.methodLink RL 143 yX7_on ∈ zz_all := zz_in 868 (by decide +kernel) (by decide +kernel)
theorem wd_869 : Cond.instanceMethod yX7_on ∈ zz_all := zz_in 869 (by decide +kernel) (by decide +kernel)
theorem wd_870 : Cond.selects RX7 yX7_on yX7_on ∈ zz_all := zz_in 870 (by decide +kernel) (by decide +kernel)
theorem wd_871 : Cond.code yX7_on cX7_on 1 (some .int) ∈ zz_all := zz_in 871 (by decide +kernel) (by decide +kernel)
theorem wd_872 : Cond.methodLink RX7 213 yX7_no ∈ zz_all := zz_in 872 (by decide +kernel) (by decide +kernel)
theorem wd_874 : Cond.instanceMethod yX7_no ∈ zz_all := zz_in 874 (by decide +kernel) (by decide +kernel)
theorem wd_875 : Cond.code yX7_no cX7_no 2 (some .int) ∈ zz_all := zz_in 875 (by decide +kernel) (by decide +kernel)
theorem wd_876 : Cond.methodLink RL 17 yX7_letter ∈ zz_all := zz_in 876 (by decide +kernel) (by decide +kernel)
theorem wd_877 : Cond.instanceMethod yX7_letter ∈ zz_all := zz_in 877 (by decide +kernel) (by decide +kernel)
theorem wd_878 : Cond.selects RX7 yX7_letter yX7_letter ∈ zz_all := zz_in 878 (by decide +kernel) (by decide +kernel)
theorem wd_879 : Cond.code yX7_letter cX7_letter 3 (some .int) ∈ zz_all := zz_in 879 (by decide +kernel) (by decide +kernel)
theorem wd_880 : Cond.methodLink RX7 216 yX7_bound ∈ zz_all := zz_in 880 (by decide +kernel) (by decide +kernel)
theorem wd_881 : Cond.static yX7_bound ∈ zz_all := zz_in 881 (by decide +kernel) (by decide +kernel)
theorem wd_882 : Cond.code yX7_bound cX7_bound 3 (some .int) ∈ zz_all := zz_in 882 (by decide +kernel) (by decide +kernel)
theorem wd_883 : Cond.methodLink RL 22 yX7_guard ∈ zz_all := zz_in 883 (by decide +kernel) (by decide +kernel)
theorem wd_884 : Cond.instanceMethod yX7_guard ∈ zz_all := zz_in 884 (by decide +kernel) (by decide +kernel)
theorem wd_885 : Cond.selects RX7 yX7_guard yX7_guard ∈ zz_all := zz_in 885 (by decide +kernel) (by decide +kernel)
theorem wd_886 : Cond.code yX7_guard cX7_guard 3 (some .int) ∈ zz_all := zz_in 886 (by decide +kernel) (by decide +kernel)
theorem wd_887 : Cond.methodLink RX7 288 yX7_statement ∈ zz_all := zz_in 887 (by decide +kernel) (by decide +kernel)
theorem wd_889 : Cond.instanceMethod yX7_statement ∈ zz_all := zz_in 889 (by decide +kernel) (by decide +kernel)
theorem wd_890 : Cond.code yX7_statement cX7_statement 2 (some .boolean) ∈ zz_all := zz_in 890 (by decide +kernel) (by decide +kernel)
theorem wd_891 : Cond.methodLink RX7 226 yX7_letterNow ∈ zz_all := zz_in 891 (by decide +kernel) (by decide +kernel)
theorem wd_893 : Cond.instanceMethod yX7_letterNow ∈ zz_all := zz_in 893 (by decide +kernel) (by decide +kernel)
theorem wd_894 : Cond.code yX7_letterNow cX7_letterNow 1 (some .int) ∈ zz_all := zz_in 894 (by decide +kernel) (by decide +kernel)
theorem wd_895 : Cond.methodLink RX7 241 yX7_readsAll ∈ zz_all := zz_in 895 (by decide +kernel) (by decide +kernel)
theorem wd_897 : Cond.instanceMethod yX7_readsAll ∈ zz_all := zz_in 897 (by decide +kernel) (by decide +kernel)
theorem wd_898 : Cond.code yX7_readsAll cX7_readsAll 2 (some .boolean) ∈ zz_all := zz_in 898 (by decide +kernel) (by decide +kernel)
theorem wd_899 : Cond.methodLink RX7 232 yX7_readsDigits ∈ zz_all := zz_in 899 (by decide +kernel) (by decide +kernel)
theorem wd_901 : Cond.instanceMethod yX7_readsDigits ∈ zz_all := zz_in 901 (by decide +kernel) (by decide +kernel)
theorem wd_902 : Cond.code yX7_readsDigits cX7_readsDigits 4 (some .boolean) ∈ zz_all := zz_in 902 (by decide +kernel) (by decide +kernel)
theorem wd_903 : Cond.methodLink RX7 96 yX7_isIn ∈ zz_all := zz_in 903 (by decide +kernel) (by decide +kernel)
theorem wd_904 : Cond.static yX7_isIn ∈ zz_all := zz_in 904 (by decide +kernel) (by decide +kernel)
theorem wd_905 : Cond.code yX7_isIn cX7_isIn 3 (some .boolean) ∈ zz_all := zz_in 905 (by decide +kernel) (by decide +kernel)
theorem wd_906 : Cond.methodLink RX7 235 yX7_readsMany ∈ zz_all := zz_in 906 (by decide +kernel) (by decide +kernel)
theorem wd_908 : Cond.instanceMethod yX7_readsMany ∈ zz_all := zz_in 908 (by decide +kernel) (by decide +kernel)
theorem wd_909 : Cond.code yX7_readsMany cX7_readsMany 3 (some .boolean) ∈ zz_all := zz_in 909 (by decide +kernel) (by decide +kernel)
theorem wd_910 : Cond.methodLink RX7 291 yX7_comes ∈ zz_all := zz_in 910 (by decide +kernel) (by decide +kernel)
theorem wd_912 : Cond.instanceMethod yX7_comes ∈ zz_all := zz_in 912 (by decide +kernel) (by decide +kernel)
theorem wd_913 : Cond.code yX7_comes cX7_comes 3 (some .boolean) ∈ zz_all := zz_in 913 (by decide +kernel) (by decide +kernel)
theorem wd_914 : Cond.methodLink RX7 273 yX7_comesTold ∈ zz_all := zz_in 914 (by decide +kernel) (by decide +kernel)
theorem wd_916 : Cond.instanceMethod yX7_comesTold ∈ zz_all := zz_in 916 (by decide +kernel) (by decide +kernel)
theorem wd_917 : Cond.code yX7_comesTold cX7_comesTold 3 (some .boolean) ∈ zz_all := zz_in 917 (by decide +kernel) (by decide +kernel)
theorem wd_918 : Cond.methodLink RX7 244 yX7_isPerson ∈ zz_all := zz_in 918 (by decide +kernel) (by decide +kernel)
theorem wd_919 : Cond.static yX7_isPerson ∈ zz_all := zz_in 919 (by decide +kernel) (by decide +kernel)
theorem wd_920 : Cond.code yX7_isPerson cX7_isPerson 1 (some .boolean) ∈ zz_all := zz_in 920 (by decide +kernel) (by decide +kernel)
theorem wd_921 : Cond.methodLink RX7 247 yX7_isFree ∈ zz_all := zz_in 921 (by decide +kernel) (by decide +kernel)
theorem wd_923 : Cond.instanceMethod yX7_isFree ∈ zz_all := zz_in 923 (by decide +kernel) (by decide +kernel)
theorem wd_924 : Cond.code yX7_isFree cX7_isFree 3 (some .boolean) ∈ zz_all := zz_in 924 (by decide +kernel) (by decide +kernel)
theorem wd_925 : Cond.methodLink RX7 250 yX7_isTold ∈ zz_all := zz_in 925 (by decide +kernel) (by decide +kernel)
theorem wd_927 : Cond.instanceMethod yX7_isTold ∈ zz_all := zz_in 927 (by decide +kernel) (by decide +kernel)
theorem wd_928 : Cond.code yX7_isTold cX7_isTold 3 none ∈ zz_all := zz_in 928 (by decide +kernel) (by decide +kernel)
theorem wd_929 : Cond.methodLink RX7 276 yX7_comesChange ∈ zz_all := zz_in 929 (by decide +kernel) (by decide +kernel)
theorem wd_931 : Cond.instanceMethod yX7_comesChange ∈ zz_all := zz_in 931 (by decide +kernel) (by decide +kernel)
theorem wd_932 : Cond.code yX7_comesChange cX7_comesChange 3 (some .boolean) ∈ zz_all := zz_in 932 (by decide +kernel) (by decide +kernel)
theorem wd_933 : Cond.methodLink RX7 254 yX7_changesTo ∈ zz_all := zz_in 933 (by decide +kernel) (by decide +kernel)
theorem wd_935 : Cond.instanceMethod yX7_changesTo ∈ zz_all := zz_in 935 (by decide +kernel) (by decide +kernel)
theorem wd_936 : Cond.code yX7_changesTo cX7_changesTo 3 none ∈ zz_all := zz_in 936 (by decide +kernel) (by decide +kernel)
theorem wd_937 : Cond.methodLink RX7 279 yX7_comesBounds ∈ zz_all := zz_in 937 (by decide +kernel) (by decide +kernel)
theorem wd_939 : Cond.instanceMethod yX7_comesBounds ∈ zz_all := zz_in 939 (by decide +kernel) (by decide +kernel)
theorem wd_940 : Cond.code yX7_comesBounds cX7_comesBounds 4 (some .boolean) ∈ zz_all := zz_in 940 (by decide +kernel) (by decide +kernel)
theorem wd_941 : Cond.methodLink RX7 257 yX7_isVariable ∈ zz_all := zz_in 941 (by decide +kernel) (by decide +kernel)
theorem wd_943 : Cond.instanceMethod yX7_isVariable ∈ zz_all := zz_in 943 (by decide +kernel) (by decide +kernel)
theorem wd_944 : Cond.code yX7_isVariable cX7_isVariable 2 (some .boolean) ∈ zz_all := zz_in 944 (by decide +kernel) (by decide +kernel)
theorem wd_945 : Cond.methodLink RX7 282 yX7_comesRule ∈ zz_all := zz_in 945 (by decide +kernel) (by decide +kernel)
theorem wd_947 : Cond.instanceMethod yX7_comesRule ∈ zz_all := zz_in 947 (by decide +kernel) (by decide +kernel)
theorem wd_948 : Cond.code yX7_comesRule cX7_comesRule 3 (some .boolean) ∈ zz_all := zz_in 948 (by decide +kernel) (by decide +kernel)
theorem wd_949 : Cond.methodLink RX7 285 yX7_comesQuestion ∈ zz_all := zz_in 949 (by decide +kernel) (by decide +kernel)
theorem wd_951 : Cond.instanceMethod yX7_comesQuestion ∈ zz_all := zz_in 951 (by decide +kernel) (by decide +kernel)
theorem wd_952 : Cond.code yX7_comesQuestion cX7_comesQuestion 6 (some .boolean) ∈ zz_all := zz_in 952 (by decide +kernel) (by decide +kernel)
theorem wd_953 : Cond.methodLink RX7 260 yX7_setTold ∈ zz_all := zz_in 953 (by decide +kernel) (by decide +kernel)
theorem wd_955 : Cond.instanceMethod yX7_setTold ∈ zz_all := zz_in 955 (by decide +kernel) (by decide +kernel)
theorem wd_956 : Cond.code yX7_setTold cX7_setTold 6 (some .int) ∈ zz_all := zz_in 956 (by decide +kernel) (by decide +kernel)
theorem wd_957 : Cond.methodLink RX7 263 yX7_notQuestion ∈ zz_all := zz_in 957 (by decide +kernel) (by decide +kernel)
theorem wd_958 : Cond.static yX7_notQuestion ∈ zz_all := zz_in 958 (by decide +kernel) (by decide +kernel)
theorem wd_959 : Cond.code yX7_notQuestion cX7_notQuestion 4 (some .int) ∈ zz_all := zz_in 959 (by decide +kernel) (by decide +kernel)
theorem wd_960 : Cond.methodLink RX7 266 yX7_asks ∈ zz_all := zz_in 960 (by decide +kernel) (by decide +kernel)
theorem wd_962 : Cond.instanceMethod yX7_asks ∈ zz_all := zz_in 962 (by decide +kernel) (by decide +kernel)
theorem wd_963 : Cond.code yX7_asks cX7_asks 6 none ∈ zz_all := zz_in 963 (by decide +kernel) (by decide +kernel)
theorem wd_964 : Cond.methodLink RX7 110 yX7_weight ∈ zz_all := zz_in 964 (by decide +kernel) (by decide +kernel)
theorem wd_965 : Cond.static yX7_weight ∈ zz_all := zz_in 965 (by decide +kernel) (by decide +kernel)
theorem wd_966 : Cond.code yX7_weight cX7_weight 4 (some .int) ∈ zz_all := zz_in 966 (by decide +kernel) (by decide +kernel)
theorem wd_967 : Cond.methodLink RX7 103 yX7_has ∈ zz_all := zz_in 967 (by decide +kernel) (by decide +kernel)
theorem wd_968 : Cond.static yX7_has ∈ zz_all := zz_in 968 (by decide +kernel) (by decide +kernel)
theorem wd_969 : Cond.code yX7_has cX7_has 2 (some .boolean) ∈ zz_all := zz_in 969 (by decide +kernel) (by decide +kernel)
theorem wd_970 : Cond.methodLink RX7 270 yX7_isAsked ∈ zz_all := zz_in 970 (by decide +kernel) (by decide +kernel)
theorem wd_972 : Cond.instanceMethod yX7_isAsked ∈ zz_all := zz_in 972 (by decide +kernel) (by decide +kernel)
theorem wd_973 : Cond.code yX7_isAsked cX7_isAsked 2 (some .int) ∈ zz_all := zz_in 973 (by decide +kernel) (by decide +kernel)
theorem wd_974 : Cond.methodLink RX7 186 yX7_meetsNow ∈ zz_all := zz_in 974 (by decide +kernel) (by decide +kernel)
theorem wd_976 : Cond.instanceMethod yX7_meetsNow ∈ zz_all := zz_in 976 (by decide +kernel) (by decide +kernel)
theorem wd_977 : Cond.code yX7_meetsNow cX7_meetsNow 1 (some .int) ∈ zz_all := zz_in 977 (by decide +kernel) (by decide +kernel)
theorem wd_978 : Cond.methodLink RX7 173 yX7_builds ∈ zz_all := zz_in 978 (by decide +kernel) (by decide +kernel)
theorem wd_980 : Cond.instanceMethod yX7_builds ∈ zz_all := zz_in 980 (by decide +kernel) (by decide +kernel)
theorem wd_981 : Cond.code yX7_builds cX7_builds 2 none ∈ zz_all := zz_in 981 (by decide +kernel) (by decide +kernel)
theorem wd_982 : Cond.methodLink RX7 146 yX7_adds ∈ zz_all := zz_in 982 (by decide +kernel) (by decide +kernel)
theorem wd_984 : Cond.instanceMethod yX7_adds ∈ zz_all := zz_in 984 (by decide +kernel) (by decide +kernel)
theorem wd_985 : Cond.code yX7_adds cX7_adds 7 none ∈ zz_all := zz_in 985 (by decide +kernel) (by decide +kernel)
theorem wd_986 : Cond.methodLink RX7 136 yX7_reduces ∈ zz_all := zz_in 986 (by decide +kernel) (by decide +kernel)
theorem wd_988 : Cond.instanceMethod yX7_reduces ∈ zz_all := zz_in 988 (by decide +kernel) (by decide +kernel)
theorem wd_989 : Cond.code yX7_reduces cX7_reduces 4 none ∈ zz_all := zz_in 989 (by decide +kernel) (by decide +kernel)
theorem wd_990 : Cond.methodLink RX7 132 yX7_clears ∈ zz_all := zz_in 990 (by decide +kernel) (by decide +kernel)
theorem wd_991 : Cond.static yX7_clears ∈ zz_all := zz_in 991 (by decide +kernel) (by decide +kernel)
theorem wd_992 : Cond.code yX7_clears cX7_clears 12 none ∈ zz_all := zz_in 992 (by decide +kernel) (by decide +kernel)
theorem wd_993 : Cond.methodLink RX7 118 yX7_divisor ∈ zz_all := zz_in 993 (by decide +kernel) (by decide +kernel)
theorem wd_994 : Cond.static yX7_divisor ∈ zz_all := zz_in 994 (by decide +kernel) (by decide +kernel)
theorem wd_995 : Cond.code yX7_divisor cX7_divisor 10 (some .long) ∈ zz_all := zz_in 995 (by decide +kernel) (by decide +kernel)
theorem wd_996 : Cond.methodLink RX7 114 yX7_sizeOf ∈ zz_all := zz_in 996 (by decide +kernel) (by decide +kernel)
theorem wd_997 : Cond.static yX7_sizeOf ∈ zz_all := zz_in 997 (by decide +kernel) (by decide +kernel)
theorem wd_998 : Cond.code yX7_sizeOf cX7_sizeOf 2 (some .long) ∈ zz_all := zz_in 998 (by decide +kernel) (by decide +kernel)
theorem wd_999 : Cond.methodLink RX7 122 yX7_makesLeast ∈ zz_all := zz_in 999 (by decide +kernel) (by decide +kernel)
theorem wd_1000 : Cond.static yX7_makesLeast ∈ zz_all := zz_in 1000 (by decide +kernel) (by decide +kernel)
theorem wd_1001 : Cond.code yX7_makesLeast cX7_makesLeast 5 none ∈ zz_all := zz_in 1001 (by decide +kernel) (by decide +kernel)
theorem wd_1002 : Cond.methodLink RX7 140 yX7_firstOfOne ∈ zz_all := zz_in 1002 (by decide +kernel) (by decide +kernel)
theorem wd_1004 : Cond.instanceMethod yX7_firstOfOne ∈ zz_all := zz_in 1004 (by decide +kernel) (by decide +kernel)
theorem wd_1005 : Cond.code yX7_firstOfOne cX7_firstOfOne 2 (some .int) ∈ zz_all := zz_in 1005 (by decide +kernel) (by decide +kernel)
theorem wd_1006 : Cond.constantLong RX7 144 (-1 : Int64) ∈ zz_all := zz_in 1006 (by decide +kernel) (by decide +kernel)
theorem wd_1007 : Cond.methodLink RX7 179 yX7_meetsBy ∈ zz_all := zz_in 1007 (by decide +kernel) (by decide +kernel)
theorem wd_1009 : Cond.instanceMethod yX7_meetsBy ∈ zz_all := zz_in 1009 (by decide +kernel) (by decide +kernel)
theorem wd_1010 : Cond.code yX7_meetsBy cX7_meetsBy 3 (some .int) ∈ zz_all := zz_in 1010 (by decide +kernel) (by decide +kernel)
theorem wd_1011 : Cond.methodLink RX7 167 yX7_loads ∈ zz_all := zz_in 1011 (by decide +kernel) (by decide +kernel)
theorem wd_1013 : Cond.instanceMethod yX7_loads ∈ zz_all := zz_in 1013 (by decide +kernel) (by decide +kernel)
theorem wd_1014 : Cond.code yX7_loads cX7_loads 2 none ∈ zz_all := zz_in 1014 (by decide +kernel) (by decide +kernel)
theorem wd_1015 : Cond.methodLink RX7 170 yX7_isForbidden ∈ zz_all := zz_in 1015 (by decide +kernel) (by decide +kernel)
theorem wd_1017 : Cond.instanceMethod yX7_isForbidden ∈ zz_all := zz_in 1017 (by decide +kernel) (by decide +kernel)
theorem wd_1018 : Cond.code yX7_isForbidden cX7_isForbidden 3 (some .boolean) ∈ zz_all := zz_in 1018 (by decide +kernel) (by decide +kernel)
theorem wd_1019 : Cond.methodLink RX7 160 yX7_isAnyFixed ∈ zz_all := zz_in 1019 (by decide +kernel) (by decide +kernel)
theorem wd_1021 : Cond.instanceMethod yX7_isAnyFixed ∈ zz_all := zz_in 1021 (by decide +kernel) (by decide +kernel)
theorem wd_1022 : Cond.code yX7_isAnyFixed cX7_isAnyFixed 2 (some .boolean) ∈ zz_all := zz_in 1022 (by decide +kernel) (by decide +kernel)
theorem wd_1023 : Cond.methodLink RX7 149 yX7_manyNot0 ∈ zz_all := zz_in 1023 (by decide +kernel) (by decide +kernel)
theorem wd_1025 : Cond.instanceMethod yX7_manyNot0 ∈ zz_all := zz_in 1025 (by decide +kernel) (by decide +kernel)
theorem wd_1026 : Cond.code yX7_manyNot0 cX7_manyNot0 4 (some .int) ∈ zz_all := zz_in 1026 (by decide +kernel) (by decide +kernel)
theorem wd_1027 : Cond.methodLink RX7 164 yX7_isAnyPaired ∈ zz_all := zz_in 1027 (by decide +kernel) (by decide +kernel)
theorem wd_1029 : Cond.instanceMethod yX7_isAnyPaired ∈ zz_all := zz_in 1029 (by decide +kernel) (by decide +kernel)
theorem wd_1030 : Cond.code yX7_isAnyPaired cX7_isAnyPaired 3 (some .boolean) ∈ zz_all := zz_in 1030 (by decide +kernel) (by decide +kernel)
theorem wd_1031 : Cond.methodLink RX7 157 yX7_areAlike ∈ zz_all := zz_in 1031 (by decide +kernel) (by decide +kernel)
theorem wd_1033 : Cond.instanceMethod yX7_areAlike ∈ zz_all := zz_in 1033 (by decide +kernel) (by decide +kernel)
theorem wd_1034 : Cond.code yX7_areAlike cX7_areAlike 5 (some .boolean) ∈ zz_all := zz_in 1034 (by decide +kernel) (by decide +kernel)
theorem wd_1035 : Cond.methodLink RX7 153 yX7_isPivot ∈ zz_all := zz_in 1035 (by decide +kernel) (by decide +kernel)
theorem wd_1037 : Cond.instanceMethod yX7_isPivot ∈ zz_all := zz_in 1037 (by decide +kernel) (by decide +kernel)
theorem wd_1038 : Cond.code yX7_isPivot cX7_isPivot 3 (some .boolean) ∈ zz_all := zz_in 1038 (by decide +kernel) (by decide +kernel)
theorem wd_1039 : Cond.methodLink RX7 189 yX7_joins ∈ zz_all := zz_in 1039 (by decide +kernel) (by decide +kernel)
theorem wd_1041 : Cond.instanceMethod yX7_joins ∈ zz_all := zz_in 1041 (by decide +kernel) (by decide +kernel)
theorem wd_1042 : Cond.code yX7_joins cX7_joins 2 none ∈ zz_all := zz_in 1042 (by decide +kernel) (by decide +kernel)
theorem wd_1043 : Cond.methodLink RX7 183 yX7_trueAnswer ∈ zz_all := zz_in 1043 (by decide +kernel) (by decide +kernel)
theorem wd_1045 : Cond.instanceMethod yX7_trueAnswer ∈ zz_all := zz_in 1045 (by decide +kernel) (by decide +kernel)
theorem wd_1046 : Cond.code yX7_trueAnswer cX7_trueAnswer 3 (some .int) ∈ zz_all := zz_in 1046 (by decide +kernel) (by decide +kernel)
theorem wd_1047 : Cond.methodLink RL 27 yX7_person ∈ zz_all := zz_in 1047 (by decide +kernel) (by decide +kernel)
theorem wd_1048 : Cond.instanceMethod yX7_person ∈ zz_all := zz_in 1048 (by decide +kernel) (by decide +kernel)
theorem wd_1049 : Cond.selects RX7 yX7_person yX7_person ∈ zz_all := zz_in 1049 (by decide +kernel) (by decide +kernel)
theorem wd_1050 : Cond.code yX7_person cX7_person 4 (some .int) ∈ zz_all := zz_in 1050 (by decide +kernel) (by decide +kernel)
theorem wd_1051 : Cond.methodLink RL 35 yX7_tells ∈ zz_all := zz_in 1051 (by decide +kernel) (by decide +kernel)
theorem wd_1052 : Cond.instanceMethod yX7_tells ∈ zz_all := zz_in 1052 (by decide +kernel) (by decide +kernel)
theorem wd_1053 : Cond.selects RX7 yX7_tells yX7_tells ∈ zz_all := zz_in 1053 (by decide +kernel) (by decide +kernel)
theorem wd_1054 : Cond.code yX7_tells cX7_tells 5 (some .int) ∈ zz_all := zz_in 1054 (by decide +kernel) (by decide +kernel)
theorem wd_1055 : Cond.methodLink RL 39 yX7_changes ∈ zz_all := zz_in 1055 (by decide +kernel) (by decide +kernel)
theorem wd_1056 : Cond.instanceMethod yX7_changes ∈ zz_all := zz_in 1056 (by decide +kernel) (by decide +kernel)
theorem wd_1057 : Cond.selects RX7 yX7_changes yX7_changes ∈ zz_all := zz_in 1057 (by decide +kernel) (by decide +kernel)
theorem wd_1058 : Cond.code yX7_changes cX7_changes 4 (some .int) ∈ zz_all := zz_in 1058 (by decide +kernel) (by decide +kernel)
theorem wd_1059 : Cond.methodLink RL 44 yX7_bounds ∈ zz_all := zz_in 1059 (by decide +kernel) (by decide +kernel)
theorem wd_1060 : Cond.instanceMethod yX7_bounds ∈ zz_all := zz_in 1060 (by decide +kernel) (by decide +kernel)
theorem wd_1061 : Cond.selects RX7 yX7_bounds yX7_bounds ∈ zz_all := zz_in 1061 (by decide +kernel) (by decide +kernel)
theorem wd_1062 : Cond.code yX7_bounds cX7_bounds 5 (some .int) ∈ zz_all := zz_in 1062 (by decide +kernel) (by decide +kernel)
theorem wd_1063 : Cond.methodLink RL 48 yX7_rule ∈ zz_all := zz_in 1063 (by decide +kernel) (by decide +kernel)
theorem wd_1064 : Cond.instanceMethod yX7_rule ∈ zz_all := zz_in 1064 (by decide +kernel) (by decide +kernel)
theorem wd_1065 : Cond.selects RX7 yX7_rule yX7_rule ∈ zz_all := zz_in 1065 (by decide +kernel) (by decide +kernel)
theorem wd_1066 : Cond.code yX7_rule cX7_rule 3 (some .int) ∈ zz_all := zz_in 1066 (by decide +kernel) (by decide +kernel)
theorem wd_1067 : Cond.methodLink RL 52 yX7_limit ∈ zz_all := zz_in 1067 (by decide +kernel) (by decide +kernel)
theorem wd_1068 : Cond.instanceMethod yX7_limit ∈ zz_all := zz_in 1068 (by decide +kernel) (by decide +kernel)
theorem wd_1069 : Cond.selects RX7 yX7_limit yX7_limit ∈ zz_all := zz_in 1069 (by decide +kernel) (by decide +kernel)
theorem wd_1070 : Cond.code yX7_limit cX7_limit 4 (some .int) ∈ zz_all := zz_in 1070 (by decide +kernel) (by decide +kernel)
theorem wd_1071 : Cond.methodLink RL 56 yX7_ask ∈ zz_all := zz_in 1071 (by decide +kernel) (by decide +kernel)
theorem wd_1072 : Cond.instanceMethod yX7_ask ∈ zz_all := zz_in 1072 (by decide +kernel) (by decide +kernel)
theorem wd_1073 : Cond.selects RX7 yX7_ask yX7_ask ∈ zz_all := zz_in 1073 (by decide +kernel) (by decide +kernel)
theorem wd_1074 : Cond.code yX7_ask cX7_ask 5 (some .int) ∈ zz_all := zz_in 1074 (by decide +kernel) (by decide +kernel)
theorem wd_1075 : Cond.methodLink RX7 294 yX7_lower ∈ zz_all := zz_in 1075 (by decide +kernel) (by decide +kernel)
theorem wd_1077 : Cond.instanceMethod yX7_lower ∈ zz_all := zz_in 1077 (by decide +kernel) (by decide +kernel)
theorem wd_1078 : Cond.code yX7_lower cX7_lower 2 (some .int) ∈ zz_all := zz_in 1078 (by decide +kernel) (by decide +kernel)
theorem wd_1079 : Cond.constant RX7 93 (1000000000 : Int32) ∈ zz_all := zz_in 1079 (by decide +kernel) (by decide +kernel)
theorem wd_1080 : Cond.methodLink RL 60 yX7_would ∈ zz_all := zz_in 1080 (by decide +kernel) (by decide +kernel)
theorem wd_1081 : Cond.instanceMethod yX7_would ∈ zz_all := zz_in 1081 (by decide +kernel) (by decide +kernel)
theorem wd_1082 : Cond.selects RX7 yX7_would yX7_would ∈ zz_all := zz_in 1082 (by decide +kernel) (by decide +kernel)
theorem wd_1083 : Cond.code yX7_would cX7_would 5 (some .int) ∈ zz_all := zz_in 1083 (by decide +kernel) (by decide +kernel)
theorem wd_1084 : Cond.methodLink RL 64 yX7_sums ∈ zz_all := zz_in 1084 (by decide +kernel) (by decide +kernel)
theorem wd_1085 : Cond.instanceMethod yX7_sums ∈ zz_all := zz_in 1085 (by decide +kernel) (by decide +kernel)
theorem wd_1086 : Cond.selects RX7 yX7_sums yX7_sums ∈ zz_all := zz_in 1086 (by decide +kernel) (by decide +kernel)
theorem wd_1087 : Cond.code yX7_sums cX7_sums 2 (some .int) ∈ zz_all := zz_in 1087 (by decide +kernel) (by decide +kernel)
theorem wd_1088 : Cond.methodLink RX7 297 yX7_findSums ∈ zz_all := zz_in 1088 (by decide +kernel) (by decide +kernel)
theorem wd_1090 : Cond.instanceMethod yX7_findSums ∈ zz_all := zz_in 1090 (by decide +kernel) (by decide +kernel)
theorem wd_1091 : Cond.code yX7_findSums cX7_findSums 2 none ∈ zz_all := zz_in 1091 (by decide +kernel) (by decide +kernel)
theorem wd_1092 : Cond.methodLink RX7 300 yX7_firstToJoin ∈ zz_all := zz_in 1092 (by decide +kernel) (by decide +kernel)
theorem wd_1094 : Cond.instanceMethod yX7_firstToJoin ∈ zz_all := zz_in 1094 (by decide +kernel) (by decide +kernel)
theorem wd_1095 : Cond.code yX7_firstToJoin cX7_firstToJoin 2 (some .int) ∈ zz_all := zz_in 1095 (by decide +kernel) (by decide +kernel)
theorem wd_1096 : Cond.methodLink RL 107 yX7_cheapest ∈ zz_all := zz_in 1096 (by decide +kernel) (by decide +kernel)
theorem wd_1097 : Cond.instanceMethod yX7_cheapest ∈ zz_all := zz_in 1097 (by decide +kernel) (by decide +kernel)
theorem wd_1098 : Cond.selects RX7 yX7_cheapest yX7_cheapest ∈ zz_all := zz_in 1098 (by decide +kernel) (by decide +kernel)
theorem wd_1099 : Cond.code yX7_cheapest cX7_cheapest 4 (some .int) ∈ zz_all := zz_in 1099 (by decide +kernel) (by decide +kernel)
theorem wd_1100 : Cond.methodLink RX7 303 yX7_bits ∈ zz_all := zz_in 1100 (by decide +kernel) (by decide +kernel)
theorem wd_1101 : Cond.static yX7_bits ∈ zz_all := zz_in 1101 (by decide +kernel) (by decide +kernel)
theorem wd_1102 : Cond.code yX7_bits cX7_bits 3 (some .int) ∈ zz_all := zz_in 1102 (by decide +kernel) (by decide +kernel)
theorem wd_1103 : Cond.methodLink RL 68 yX7_ledger ∈ zz_all := zz_in 1103 (by decide +kernel) (by decide +kernel)
theorem wd_1104 : Cond.instanceMethod yX7_ledger ∈ zz_all := zz_in 1104 (by decide +kernel) (by decide +kernel)
theorem wd_1105 : Cond.selects RX7 yX7_ledger yX7_ledger ∈ zz_all := zz_in 1105 (by decide +kernel) (by decide +kernel)
theorem wd_1106 : Cond.code yX7_ledger cX7_ledger 3 (some .int) ∈ zz_all := zz_in 1106 (by decide +kernel) (by decide +kernel)
theorem wd_1107 : Cond.methodLink RX7 306 yX7_isRow ∈ zz_all := zz_in 1107 (by decide +kernel) (by decide +kernel)
theorem wd_1109 : Cond.instanceMethod yX7_isRow ∈ zz_all := zz_in 1109 (by decide +kernel) (by decide +kernel)
theorem wd_1110 : Cond.code yX7_isRow cX7_isRow 2 (some .boolean) ∈ zz_all := zz_in 1110 (by decide +kernel) (by decide +kernel)
theorem wd_1111 : Cond.methodLink RL 73 yX7_answer ∈ zz_all := zz_in 1111 (by decide +kernel) (by decide +kernel)
theorem wd_1112 : Cond.instanceMethod yX7_answer ∈ zz_all := zz_in 1112 (by decide +kernel) (by decide +kernel)
theorem wd_1113 : Cond.selects RX7 yX7_answer yX7_answer ∈ zz_all := zz_in 1113 (by decide +kernel) (by decide +kernel)
theorem wd_1114 : Cond.code yX7_answer cX7_answer 2 (some .long) ∈ zz_all := zz_in 1114 (by decide +kernel) (by decide +kernel)
theorem wd_1115 : Cond.methodLink RX7 309 yX7_lowestOf ∈ zz_all := zz_in 1115 (by decide +kernel) (by decide +kernel)
theorem wd_1117 : Cond.instanceMethod yX7_lowestOf ∈ zz_all := zz_in 1117 (by decide +kernel) (by decide +kernel)
theorem wd_1118 : Cond.code yX7_lowestOf cX7_lowestOf 2 (some .long) ∈ zz_all := zz_in 1118 (by decide +kernel) (by decide +kernel)
theorem wd_1119 : Cond.constantLong RX7 94 (4000000000000000000 : Int64) ∈ zz_all := zz_in 1119 (by decide +kernel) (by decide +kernel)
theorem wd_1120 : Cond.methodLink RL 78 yX7_reduced ∈ zz_all := zz_in 1120 (by decide +kernel) (by decide +kernel)
theorem wd_1121 : Cond.instanceMethod yX7_reduced ∈ zz_all := zz_in 1121 (by decide +kernel) (by decide +kernel)
theorem wd_1122 : Cond.selects RX7 yX7_reduced yX7_reduced ∈ zz_all := zz_in 1122 (by decide +kernel) (by decide +kernel)
theorem wd_1123 : Cond.code yX7_reduced cX7_reduced 6 (some .long) ∈ zz_all := zz_in 1123 (by decide +kernel) (by decide +kernel)
theorem wd_1124 : Cond.methodLink RX7 313 yX7_byPivots ∈ zz_all := zz_in 1124 (by decide +kernel) (by decide +kernel)
theorem wd_1126 : Cond.instanceMethod yX7_byPivots ∈ zz_all := zz_in 1126 (by decide +kernel) (by decide +kernel)
theorem wd_1127 : Cond.code yX7_byPivots cX7_byPivots 5 (some .int) ∈ zz_all := zz_in 1127 (by decide +kernel) (by decide +kernel)
theorem wd_1128 : Cond.methodLink RX7 316 yX7_partOf ∈ zz_all := zz_in 1128 (by decide +kernel) (by decide +kernel)
theorem wd_1129 : Cond.static yX7_partOf ∈ zz_all := zz_in 1129 (by decide +kernel) (by decide +kernel)
theorem wd_1130 : Cond.code yX7_partOf cX7_partOf 5 (some .long) ∈ zz_all := zz_in 1130 (by decide +kernel) (by decide +kernel)
theorem wd_1131 : Cond.methodLink RL 82 yX7_pivots ∈ zz_all := zz_in 1131 (by decide +kernel) (by decide +kernel)
theorem wd_1132 : Cond.instanceMethod yX7_pivots ∈ zz_all := zz_in 1132 (by decide +kernel) (by decide +kernel)
theorem wd_1133 : Cond.selects RX7 yX7_pivots yX7_pivots ∈ zz_all := zz_in 1133 (by decide +kernel) (by decide +kernel)
theorem wd_1134 : Cond.code yX7_pivots cX7_pivots 3 (some .int) ∈ zz_all := zz_in 1134 (by decide +kernel) (by decide +kernel)
theorem wd_1135 : Cond.methodLink RL 86 yX7_attack ∈ zz_all := zz_in 1135 (by decide +kernel) (by decide +kernel)
theorem wd_1136 : Cond.instanceMethod yX7_attack ∈ zz_all := zz_in 1136 (by decide +kernel) (by decide +kernel)
theorem wd_1137 : Cond.selects RX7 yX7_attack yX7_attack ∈ zz_all := zz_in 1137 (by decide +kernel) (by decide +kernel)
theorem wd_1138 : Cond.code yX7_attack cX7_attack 7 (some .int) ∈ zz_all := zz_in 1138 (by decide +kernel) (by decide +kernel)
theorem wd_1139 : Cond.methodLink RX7 320 yX7_isFixed ∈ zz_all := zz_in 1139 (by decide +kernel) (by decide +kernel)
theorem wd_1141 : Cond.instanceMethod yX7_isFixed ∈ zz_all := zz_in 1141 (by decide +kernel) (by decide +kernel)
theorem wd_1142 : Cond.code yX7_isFixed cX7_isFixed 3 (some .boolean) ∈ zz_all := zz_in 1142 (by decide +kernel) (by decide +kernel)
theorem wd_1143 : Cond.methodLink RL 31 yX7_variable ∈ zz_all := zz_in 1143 (by decide +kernel) (by decide +kernel)
theorem wd_1144 : Cond.instanceMethod yX7_variable ∈ zz_all := zz_in 1144 (by decide +kernel) (by decide +kernel)
theorem wd_1145 : Cond.selects RX7 yX7_variable yX7_variable ∈ zz_all := zz_in 1145 (by decide +kernel) (by decide +kernel)
theorem wd_1146 : Cond.code yX7_variable cX7_variable 3 (some .int) ∈ zz_all := zz_in 1146 (by decide +kernel) (by decide +kernel)
theorem wd_1147 : Cond.methodLink RX7 332 yX7_narrows ∈ zz_all := zz_in 1147 (by decide +kernel) (by decide +kernel)
theorem wd_1149 : Cond.instanceMethod yX7_narrows ∈ zz_all := zz_in 1149 (by decide +kernel) (by decide +kernel)
theorem wd_1150 : Cond.code yX7_narrows cX7_narrows 5 none ∈ zz_all := zz_in 1150 (by decide +kernel) (by decide +kernel)
theorem wd_1151 : Cond.methodLink RX7 329 yX7_narrowsOne ∈ zz_all := zz_in 1151 (by decide +kernel) (by decide +kernel)
theorem wd_1153 : Cond.instanceMethod yX7_narrowsOne ∈ zz_all := zz_in 1153 (by decide +kernel) (by decide +kernel)
theorem wd_1154 : Cond.code yX7_narrowsOne cX7_narrowsOne 11 (some .boolean) ∈ zz_all := zz_in 1154 (by decide +kernel) (by decide +kernel)
theorem wd_1155 : Cond.methodLink RX7 326 yX7_above ∈ zz_all := zz_in 1155 (by decide +kernel) (by decide +kernel)
theorem wd_1156 : Cond.static yX7_above ∈ zz_all := zz_in 1156 (by decide +kernel) (by decide +kernel)
theorem wd_1157 : Cond.code yX7_above cX7_above 2 (some .int) ∈ zz_all := zz_in 1157 (by decide +kernel) (by decide +kernel)
theorem wd_1158 : Cond.methodLink RX7 323 yX7_below ∈ zz_all := zz_in 1158 (by decide +kernel) (by decide +kernel)
theorem wd_1159 : Cond.static yX7_below ∈ zz_all := zz_in 1159 (by decide +kernel) (by decide +kernel)
theorem wd_1160 : Cond.code yX7_below cX7_below 2 (some .int) ∈ zz_all := zz_in 1160 (by decide +kernel) (by decide +kernel)
theorem wd_1161 : Cond.methodLink RX7 335 yX7_width ∈ zz_all := zz_in 1161 (by decide +kernel) (by decide +kernel)
theorem wd_1163 : Cond.instanceMethod yX7_width ∈ zz_all := zz_in 1163 (by decide +kernel) (by decide +kernel)
theorem wd_1164 : Cond.code yX7_width cX7_width 2 (some .int) ∈ zz_all := zz_in 1164 (by decide +kernel) (by decide +kernel)
theorem wd_1165 : Cond.methodLink RL 90 yX7_known ∈ zz_all := zz_in 1165 (by decide +kernel) (by decide +kernel)
theorem wd_1166 : Cond.instanceMethod yX7_known ∈ zz_all := zz_in 1166 (by decide +kernel) (by decide +kernel)
theorem wd_1167 : Cond.selects RX7 yX7_known yX7_known ∈ zz_all := zz_in 1167 (by decide +kernel) (by decide +kernel)
theorem wd_1168 : Cond.code yX7_known cX7_known 1 (some .int) ∈ zz_all := zz_in 1168 (by decide +kernel) (by decide +kernel)
theorem wd_1169 : Cond.methodLink RX7 338 yX7_knownNow ∈ zz_all := zz_in 1169 (by decide +kernel) (by decide +kernel)
theorem wd_1171 : Cond.instanceMethod yX7_knownNow ∈ zz_all := zz_in 1171 (by decide +kernel) (by decide +kernel)
theorem wd_1172 : Cond.code yX7_knownNow cX7_knownNow 3 (some .int) ∈ zz_all := zz_in 1172 (by decide +kernel) (by decide +kernel)
theorem wd_1173 : Cond.methodLink RL 95 yX7_learns ∈ zz_all := zz_in 1173 (by decide +kernel) (by decide +kernel)
theorem wd_1174 : Cond.instanceMethod yX7_learns ∈ zz_all := zz_in 1174 (by decide +kernel) (by decide +kernel)
theorem wd_1175 : Cond.selects RX7 yX7_learns yX7_learns ∈ zz_all := zz_in 1175 (by decide +kernel) (by decide +kernel)
theorem wd_1176 : Cond.code yX7_learns cX7_learns 8 (some .int) ∈ zz_all := zz_in 1176 (by decide +kernel) (by decide +kernel)
theorem wd_1177 : Cond.methodLink RX7 341 yX7_minds ∈ zz_all := zz_in 1177 (by decide +kernel) (by decide +kernel)
theorem wd_1179 : Cond.instanceMethod yX7_minds ∈ zz_all := zz_in 1179 (by decide +kernel) (by decide +kernel)
theorem wd_1180 : Cond.code yX7_minds cX7_minds 1 none ∈ zz_all := zz_in 1180 (by decide +kernel) (by decide +kernel)
theorem wd_1181 : Cond.methodLink RX7 344 yX7_narrowest ∈ zz_all := zz_in 1181 (by decide +kernel) (by decide +kernel)
theorem wd_1183 : Cond.instanceMethod yX7_narrowest ∈ zz_all := zz_in 1183 (by decide +kernel) (by decide +kernel)
theorem wd_1184 : Cond.code yX7_narrowest cX7_narrowest 3 (some .int) ∈ zz_all := zz_in 1184 (by decide +kernel) (by decide +kernel)
theorem wd_1185 : Cond.methodLink RX7 347 yX7_forgets ∈ zz_all := zz_in 1185 (by decide +kernel) (by decide +kernel)
theorem wd_1187 : Cond.instanceMethod yX7_forgets ∈ zz_all := zz_in 1187 (by decide +kernel) (by decide +kernel)
theorem wd_1188 : Cond.code yX7_forgets cX7_forgets 1 none ∈ zz_all := zz_in 1188 (by decide +kernel) (by decide +kernel)
theorem wd_1189 : Cond.methodLink RL 99 yX7_order ∈ zz_all := zz_in 1189 (by decide +kernel) (by decide +kernel)
theorem wd_1190 : Cond.instanceMethod yX7_order ∈ zz_all := zz_in 1190 (by decide +kernel) (by decide +kernel)
theorem wd_1191 : Cond.selects RX7 yX7_order yX7_order ∈ zz_all := zz_in 1191 (by decide +kernel) (by decide +kernel)
theorem wd_1192 : Cond.code yX7_order cX7_order 10 (some .int) ∈ zz_all := zz_in 1192 (by decide +kernel) (by decide +kernel)
theorem wd_1193 : Cond.methodLink RX7 353 yX7_isOrder ∈ zz_all := zz_in 1193 (by decide +kernel) (by decide +kernel)
theorem wd_1194 : Cond.static yX7_isOrder ∈ zz_all := zz_in 1194 (by decide +kernel) (by decide +kernel)
theorem wd_1195 : Cond.code yX7_isOrder cX7_isOrder 1 (some .boolean) ∈ zz_all := zz_in 1195 (by decide +kernel) (by decide +kernel)
theorem wd_1196 : Cond.methodLink RX7 356 yX7_joinsIn ∈ zz_all := zz_in 1196 (by decide +kernel) (by decide +kernel)
theorem wd_1198 : Cond.instanceMethod yX7_joinsIn ∈ zz_all := zz_in 1198 (by decide +kernel) (by decide +kernel)
theorem wd_1199 : Cond.code yX7_joinsIn cX7_joinsIn 3 (some .int) ∈ zz_all := zz_in 1199 (by decide +kernel) (by decide +kernel)
theorem wd_1200 : Cond.methodLink RX7 350 yX7_asksSum ∈ zz_all := zz_in 1200 (by decide +kernel) (by decide +kernel)
theorem wd_1202 : Cond.instanceMethod yX7_asksSum ∈ zz_all := zz_in 1202 (by decide +kernel) (by decide +kernel)
theorem wd_1203 : Cond.code yX7_asksSum cX7_asksSum 2 (some .int) ∈ zz_all := zz_in 1203 (by decide +kernel) (by decide +kernel)
theorem wd_1204 : Cond.methodLink RL 103 yX7_two ∈ zz_all := zz_in 1204 (by decide +kernel) (by decide +kernel)
theorem wd_1205 : Cond.instanceMethod yX7_two ∈ zz_all := zz_in 1205 (by decide +kernel) (by decide +kernel)
theorem wd_1206 : Cond.selects RX7 yX7_two yX7_two ∈ zz_all := zz_in 1206 (by decide +kernel) (by decide +kernel)
theorem wd_1207 : Cond.code yX7_two cX7_two 5 (some .int) ∈ zz_all := zz_in 1207 (by decide +kernel) (by decide +kernel)
theorem wd_1208 : Cond.methodLink RX7 362 yX7_findEnds ∈ zz_all := zz_in 1208 (by decide +kernel) (by decide +kernel)
theorem wd_1210 : Cond.instanceMethod yX7_findEnds ∈ zz_all := zz_in 1210 (by decide +kernel) (by decide +kernel)
theorem wd_1211 : Cond.code yX7_findEnds cX7_findEnds 4 none ∈ zz_all := zz_in 1211 (by decide +kernel) (by decide +kernel)
theorem wd_1212 : Cond.methodLink RX7 359 yX7_getsFor ∈ zz_all := zz_in 1212 (by decide +kernel) (by decide +kernel)
theorem wd_1214 : Cond.instanceMethod yX7_getsFor ∈ zz_all := zz_in 1214 (by decide +kernel) (by decide +kernel)
theorem wd_1215 : Cond.code yX7_getsFor cX7_getsFor 3 (some .int) ∈ zz_all := zz_in 1215 (by decide +kernel) (by decide +kernel)
theorem wd_1216 : Cond.methodLink RL 111 yX7_mean ∈ zz_all := zz_in 1216 (by decide +kernel) (by decide +kernel)
theorem wd_1217 : Cond.instanceMethod yX7_mean ∈ zz_all := zz_in 1217 (by decide +kernel) (by decide +kernel)
theorem wd_1218 : Cond.selects RX7 yX7_mean yX7_mean ∈ zz_all := zz_in 1218 (by decide +kernel) (by decide +kernel)
theorem wd_1219 : Cond.code yX7_mean cX7_mean 4 (some .long) ∈ zz_all := zz_in 1219 (by decide +kernel) (by decide +kernel)
theorem wd_1220 : Cond.methodLink RL 115 yX7_share ∈ zz_all := zz_in 1220 (by decide +kernel) (by decide +kernel)
theorem wd_1221 : Cond.instanceMethod yX7_share ∈ zz_all := zz_in 1221 (by decide +kernel) (by decide +kernel)
theorem wd_1222 : Cond.selects RX7 yX7_share yX7_share ∈ zz_all := zz_in 1222 (by decide +kernel) (by decide +kernel)
theorem wd_1223 : Cond.code yX7_share cX7_share 2 (some .long) ∈ zz_all := zz_in 1223 (by decide +kernel) (by decide +kernel)
theorem wd_1224 : Cond.constantLong RX7 365 (255 : Int64) ∈ zz_all := zz_in 1224 (by decide +kernel) (by decide +kernel)
theorem wd_1225 : Cond.methodLink RL 119 yX7_which ∈ zz_all := zz_in 1225 (by decide +kernel) (by decide +kernel)
theorem wd_1226 : Cond.instanceMethod yX7_which ∈ zz_all := zz_in 1226 (by decide +kernel) (by decide +kernel)
theorem wd_1227 : Cond.selects RX7 yX7_which yX7_which ∈ zz_all := zz_in 1227 (by decide +kernel) (by decide +kernel)
theorem wd_1228 : Cond.code yX7_which cX7_which 6 (some .int) ∈ zz_all := zz_in 1228 (by decide +kernel) (by decide +kernel)
theorem wd_1229 : Cond.methodLink RX7 370 yX7_isRowQuestions ∈ zz_all := zz_in 1229 (by decide +kernel) (by decide +kernel)
theorem wd_1231 : Cond.instanceMethod yX7_isRowQuestions ∈ zz_all := zz_in 1231 (by decide +kernel) (by decide +kernel)
theorem wd_1232 : Cond.code yX7_isRowQuestions cX7_isRowQuestions 2 (some .boolean) ∈ zz_all := zz_in 1232 (by decide +kernel) (by decide +kernel)
theorem wd_1233 : Cond.methodLink RX7 373 yX7_isMetSo ∈ zz_all := zz_in 1233 (by decide +kernel) (by decide +kernel)
theorem wd_1235 : Cond.instanceMethod yX7_isMetSo ∈ zz_all := zz_in 1235 (by decide +kernel) (by decide +kernel)
theorem wd_1236 : Cond.code yX7_isMetSo cX7_isMetSo 4 (some .boolean) ∈ zz_all := zz_in 1236 (by decide +kernel) (by decide +kernel)
theorem wd_1237 : Cond.methodLink RL 123 yX7_row ∈ zz_all := zz_in 1237 (by decide +kernel) (by decide +kernel)
theorem wd_1238 : Cond.instanceMethod yX7_row ∈ zz_all := zz_in 1238 (by decide +kernel) (by decide +kernel)
theorem wd_1239 : Cond.selects RX7 yX7_row yX7_row ∈ zz_all := zz_in 1239 (by decide +kernel) (by decide +kernel)
theorem wd_1240 : Cond.code yX7_row cX7_row 3 (some .int) ∈ zz_all := zz_in 1240 (by decide +kernel) (by decide +kernel)
theorem wd_1241 : Cond.methodLink RL 127 yX7_judge ∈ zz_all := zz_in 1241 (by decide +kernel) (by decide +kernel)
theorem wd_1242 : Cond.instanceMethod yX7_judge ∈ zz_all := zz_in 1242 (by decide +kernel) (by decide +kernel)
theorem wd_1243 : Cond.selects RX7 yX7_judge yX7_judge ∈ zz_all := zz_in 1243 (by decide +kernel) (by decide +kernel)
theorem wd_1244 : Cond.code yX7_judge cX7_judge 3 (some .int) ∈ zz_all := zz_in 1244 (by decide +kernel) (by decide +kernel)
theorem wd_1245 : Cond.methodLink RX7 376 yX7_answerBy ∈ zz_all := zz_in 1245 (by decide +kernel) (by decide +kernel)
theorem wd_1247 : Cond.instanceMethod yX7_answerBy ∈ zz_all := zz_in 1247 (by decide +kernel) (by decide +kernel)
theorem wd_1248 : Cond.code yX7_answerBy cX7_answerBy 5 (some .int) ∈ zz_all := zz_in 1248 (by decide +kernel) (by decide +kernel)
theorem wd_1249 : Cond.methodLink RL 131 yX7_clear ∈ zz_all := zz_in 1249 (by decide +kernel) (by decide +kernel)
theorem wd_1250 : Cond.instanceMethod yX7_clear ∈ zz_all := zz_in 1250 (by decide +kernel) (by decide +kernel)
theorem wd_1251 : Cond.selects RX7 yX7_clear yX7_clear ∈ zz_all := zz_in 1251 (by decide +kernel) (by decide +kernel)
theorem wd_1252 : Cond.code yX7_clear cX7_clear 2 (some .int) ∈ zz_all := zz_in 1252 (by decide +kernel) (by decide +kernel)
theorem wd_1253 : Cond.methodLink RL 135 yX7_lots ∈ zz_all := zz_in 1253 (by decide +kernel) (by decide +kernel)
theorem wd_1254 : Cond.instanceMethod yX7_lots ∈ zz_all := zz_in 1254 (by decide +kernel) (by decide +kernel)
theorem wd_1255 : Cond.selects RX7 yX7_lots yX7_lots ∈ zz_all := zz_in 1255 (by decide +kernel) (by decide +kernel)
theorem wd_1256 : Cond.code yX7_lots cX7_lots 8 (some .int) ∈ zz_all := zz_in 1256 (by decide +kernel) (by decide +kernel)
theorem wd_1257 : Cond.methodLink RX7 385 yX7_draw ∈ zz_all := zz_in 1257 (by decide +kernel) (by decide +kernel)
theorem wd_1259 : Cond.instanceMethod yX7_draw ∈ zz_all := zz_in 1259 (by decide +kernel) (by decide +kernel)
theorem wd_1260 : Cond.code yX7_draw cX7_draw 2 (some .int) ∈ zz_all := zz_in 1260 (by decide +kernel) (by decide +kernel)
theorem wd_1261 : Cond.constant RX7 382 (1664525 : Int32) ∈ zz_all := zz_in 1261 (by decide +kernel) (by decide +kernel)
theorem wd_1262 : Cond.constant RX7 383 (1013904223 : Int32) ∈ zz_all := zz_in 1262 (by decide +kernel) (by decide +kernel)
theorem wd_1263 : Cond.constant RX7 384 (2147483647 : Int32) ∈ zz_all := zz_in 1263 (by decide +kernel) (by decide +kernel)
theorem wd_1264 : Cond.methodLink RL 147 yX7_count ∈ zz_all := zz_in 1264 (by decide +kernel) (by decide +kernel)
theorem wd_1265 : Cond.instanceMethod yX7_count ∈ zz_all := zz_in 1265 (by decide +kernel) (by decide +kernel)
theorem wd_1266 : Cond.selects RX7 yX7_count yX7_count ∈ zz_all := zz_in 1266 (by decide +kernel) (by decide +kernel)
theorem wd_1267 : Cond.code yX7_count cX7_count 2 (some .int) ∈ zz_all := zz_in 1267 (by decide +kernel) (by decide +kernel)
theorem wd_1268 : Cond.methodLink RX7 388 yX7_notFree ∈ zz_all := zz_in 1268 (by decide +kernel) (by decide +kernel)
theorem wd_1270 : Cond.instanceMethod yX7_notFree ∈ zz_all := zz_in 1270 (by decide +kernel) (by decide +kernel)
theorem wd_1271 : Cond.code yX7_notFree cX7_notFree 3 (some .int) ∈ zz_all := zz_in 1271 (by decide +kernel) (by decide +kernel)
theorem wd_1272 : Cond.methodLink RX7 391 yX7_allValues ∈ zz_all := zz_in 1272 (by decide +kernel) (by decide +kernel)
theorem wd_1274 : Cond.instanceMethod yX7_allValues ∈ zz_all := zz_in 1274 (by decide +kernel) (by decide +kernel)
theorem wd_1275 : Cond.code yX7_allValues cX7_allValues 3 (some .int) ∈ zz_all := zz_in 1275 (by decide +kernel) (by decide +kernel)
end
section
theorem dX0_init_0 : decode cX0_init 0 = .ok (.aload_n 0, 1) := by decide +kernel
theorem dX0_init_1 : decode cX0_init 1 = .ok (.invokespecial 3, 3) := by decide +kernel
theorem dX0_init_4 : decode cX0_init 4 = .ok (.aload_n 0, 1) := by decide +kernel
theorem dX0_init_5 : decode cX0_init 5 = .ok (.bipush 10, 2) := by decide +kernel
theorem dX0_init_7 : decode cX0_init 7 = .ok (.newarray .int, 2) := by decide +kernel
theorem dX0_init_9 : decode cX0_init 9 = .ok (.putfield 9, 3) := by decide +kernel
theorem dX0_init_12 : decode cX0_init 12 = .ok (.aload_n 0, 1) := by decide +kernel
theorem dX0_init_13 : decode cX0_init 13 = .ok (.bipush 10, 2) := by decide +kernel
theorem dX0_init_15 : decode cX0_init 15 = .ok (.newarray .int, 2) := by decide +kernel
theorem dX0_init_17 : decode cX0_init 17 = .ok (.putfield 15, 3) := by decide +kernel
theorem dX0_init_20 : decode cX0_init 20 = .ok (.return_, 1) := by decide +kernel
theorem dX0_narrow_0 : decode cX0_narrow 0 = .ok (.aload_n 0, 1) := by decide +kernel
theorem dX0_narrow_1 : decode cX0_narrow 1 = .ok (.aload_n 1, 1) := by decide +kernel
theorem dX0_narrow_2 : decode cX0_narrow 2 = .ok (.getfield 18, 3) := by decide +kernel
theorem dX0_narrow_5 : decode cX0_narrow 5 = .ok (.bipush 10, 2) := by decide +kernel
theorem dX0_narrow_7 : decode cX0_narrow 7 = .ok (.invokestatic 24, 3) := by decide +kernel
theorem dX0_narrow_10 : decode cX0_narrow 10 = .ok (.putfield 30, 3) := by decide +kernel
theorem dX0_narrow_13 : decode cX0_narrow 13 = .ok (.iconst 0, 1) := by decide +kernel
theorem dX0_narrow_14 : decode cX0_narrow 14 = .ok (.istore_n 2, 1) := by decide +kernel
theorem dX0_narrow_15 : decode cX0_narrow 15 = .ok (.iload_n 2, 1) := by decide +kernel
theorem dX0_narrow_16 : decode cX0_narrow 16 = .ok (.aload_n 0, 1) := by decide +kernel
theorem dX0_narrow_17 : decode cX0_narrow 17 = .ok (.getfield 30, 3) := by decide +kernel
theorem dX0_narrow_20 : decode cX0_narrow 20 = .ok (.if_icmp .ge 31, 3) := by decide +kernel
theorem dX0_narrow_23 : decode cX0_narrow 23 = .ok (.aload_n 0, 1) := by decide +kernel
theorem dX0_narrow_24 : decode cX0_narrow 24 = .ok (.getfield 9, 3) := by decide +kernel
theorem dX0_narrow_27 : decode cX0_narrow 27 = .ok (.iload_n 2, 1) := by decide +kernel
theorem dX0_narrow_28 : decode cX0_narrow 28 = .ok (.aload_n 1, 1) := by decide +kernel
theorem dX0_narrow_29 : decode cX0_narrow 29 = .ok (.iload_n 2, 1) := by decide +kernel
theorem dX0_narrow_30 : decode cX0_narrow 30 = .ok (.invokevirtual 31, 3) := by decide +kernel
theorem dX0_narrow_33 : decode cX0_narrow 33 = .ok (.iastore, 1) := by decide +kernel
theorem dX0_narrow_34 : decode cX0_narrow 34 = .ok (.aload_n 0, 1) := by decide +kernel
theorem dX0_narrow_35 : decode cX0_narrow 35 = .ok (.getfield 15, 3) := by decide +kernel
theorem dX0_narrow_38 : decode cX0_narrow 38 = .ok (.iload_n 2, 1) := by decide +kernel
theorem dX0_narrow_39 : decode cX0_narrow 39 = .ok (.aload_n 1, 1) := by decide +kernel
theorem dX0_narrow_40 : decode cX0_narrow 40 = .ok (.iload_n 2, 1) := by decide +kernel
theorem dX0_narrow_41 : decode cX0_narrow 41 = .ok (.invokevirtual 35, 3) := by decide +kernel
theorem dX0_narrow_44 : decode cX0_narrow 44 = .ok (.iastore, 1) := by decide +kernel
theorem dX0_narrow_45 : decode cX0_narrow 45 = .ok (.iinc 2 1, 3) := by decide +kernel
theorem dX0_narrow_48 : decode cX0_narrow 48 = .ok (.goto (-33), 3) := by decide +kernel
theorem dX0_narrow_51 : decode cX0_narrow 51 = .ok (.iconst 1, 1) := by decide +kernel
theorem dX0_narrow_52 : decode cX0_narrow 52 = .ok (.istore_n 2, 1) := by decide +kernel
theorem dX0_narrow_53 : decode cX0_narrow 53 = .ok (.iconst 0, 1) := by decide +kernel
theorem dX0_narrow_54 : decode cX0_narrow 54 = .ok (.istore_n 3, 1) := by decide +kernel
theorem dX0_narrow_55 : decode cX0_narrow 55 = .ok (.iload_n 3, 1) := by decide +kernel
theorem dX0_narrow_56 : decode cX0_narrow 56 = .ok (.bipush 60, 2) := by decide +kernel
theorem dX0_narrow_58 : decode cX0_narrow 58 = .ok (.if_icmp .ge 45, 3) := by decide +kernel
theorem dX0_narrow_61 : decode cX0_narrow 61 = .ok (.iload_n 2, 1) := by decide +kernel
theorem dX0_narrow_62 : decode cX0_narrow 62 = .ok (.ifCond .eq 41, 3) := by decide +kernel
theorem dX0_narrow_65 : decode cX0_narrow 65 = .ok (.iconst 0, 1) := by decide +kernel
theorem dX0_narrow_66 : decode cX0_narrow 66 = .ok (.istore_n 2, 1) := by decide +kernel
theorem dX0_narrow_67 : decode cX0_narrow 67 = .ok (.iconst 0, 1) := by decide +kernel
theorem dX0_narrow_68 : decode cX0_narrow 68 = .ok (.istore 4, 2) := by decide +kernel
theorem dX0_narrow_70 : decode cX0_narrow 70 = .ok (.iload 4, 2) := by decide +kernel
theorem dX0_narrow_72 : decode cX0_narrow 72 = .ok (.aload_n 1, 1) := by decide +kernel
theorem dX0_narrow_73 : decode cX0_narrow 73 = .ok (.getfield 38, 3) := by decide +kernel
theorem dX0_narrow_76 : decode cX0_narrow 76 = .ok (.if_icmp .ge 21, 3) := by decide +kernel
theorem dX0_narrow_79 : decode cX0_narrow 79 = .ok (.aload_n 0, 1) := by decide +kernel
theorem dX0_narrow_80 : decode cX0_narrow 80 = .ok (.aload_n 1, 1) := by decide +kernel
theorem dX0_narrow_81 : decode cX0_narrow 81 = .ok (.iload 4, 2) := by decide +kernel
theorem dX0_narrow_83 : decode cX0_narrow 83 = .ok (.invokevirtual 41, 3) := by decide +kernel
theorem dX0_narrow_86 : decode cX0_narrow 86 = .ok (.ifCond .eq 5, 3) := by decide +kernel
theorem dX0_narrow_89 : decode cX0_narrow 89 = .ok (.iconst 1, 1) := by decide +kernel
theorem dX0_narrow_90 : decode cX0_narrow 90 = .ok (.istore_n 2, 1) := by decide +kernel
theorem dX0_narrow_91 : decode cX0_narrow 91 = .ok (.iinc 4 1, 3) := by decide +kernel
theorem dX0_narrow_94 : decode cX0_narrow 94 = .ok (.goto (-24), 3) := by decide +kernel
theorem dX0_narrow_97 : decode cX0_narrow 97 = .ok (.iinc 3 1, 3) := by decide +kernel
theorem dX0_narrow_100 : decode cX0_narrow 100 = .ok (.goto (-45), 3) := by decide +kernel
theorem dX0_narrow_103 : decode cX0_narrow 103 = .ok (.return_, 1) := by decide +kernel
theorem dX0_narrowByRow_0 : decode cX0_narrowByRow 0 = .ok (.iconst 0, 1) := by decide +kernel
theorem dX0_narrowByRow_1 : decode cX0_narrowByRow 1 = .ok (.istore_n 3, 1) := by decide +kernel
theorem dX0_narrowByRow_2 : decode cX0_narrowByRow 2 = .ok (.iconst 0, 1) := by decide +kernel
theorem dX0_narrowByRow_3 : decode cX0_narrowByRow 3 = .ok (.istore 4, 2) := by decide +kernel
theorem dX0_narrowByRow_5 : decode cX0_narrowByRow 5 = .ok (.iconst 0, 1) := by decide +kernel
theorem dX0_narrowByRow_6 : decode cX0_narrowByRow 6 = .ok (.istore 5, 2) := by decide +kernel
theorem dX0_narrowByRow_8 : decode cX0_narrowByRow 8 = .ok (.iload 5, 2) := by decide +kernel
theorem dX0_narrowByRow_10 : decode cX0_narrowByRow 10 = .ok (.aload_n 0, 1) := by decide +kernel
theorem dX0_narrowByRow_11 : decode cX0_narrowByRow 11 = .ok (.getfield 30, 3) := by decide +kernel
theorem dX0_narrowByRow_14 : decode cX0_narrowByRow 14 = .ok (.if_icmp .ge 42, 3) := by decide +kernel
theorem dX0_narrowByRow_17 : decode cX0_narrowByRow 17 = .ok (.aload_n 1, 1) := by decide +kernel
theorem dX0_narrowByRow_18 : decode cX0_narrowByRow 18 = .ok (.iload_n 2, 1) := by decide +kernel
theorem dX0_narrowByRow_19 : decode cX0_narrowByRow 19 = .ok (.iload 5, 2) := by decide +kernel
theorem dX0_narrowByRow_21 : decode cX0_narrowByRow 21 = .ok (.invokevirtual 45, 3) := by decide +kernel
theorem dX0_narrowByRow_24 : decode cX0_narrowByRow 24 = .ok (.istore 6, 2) := by decide +kernel
theorem dX0_narrowByRow_26 : decode cX0_narrowByRow 26 = .ok (.iload_n 3, 1) := by decide +kernel
theorem dX0_narrowByRow_27 : decode cX0_narrowByRow 27 = .ok (.aload_n 0, 1) := by decide +kernel
theorem dX0_narrowByRow_28 : decode cX0_narrowByRow 28 = .ok (.iload 6, 2) := by decide +kernel
theorem dX0_narrowByRow_30 : decode cX0_narrowByRow 30 = .ok (.iload 5, 2) := by decide +kernel
theorem dX0_narrowByRow_32 : decode cX0_narrowByRow 32 = .ok (.invokevirtual 48, 3) := by decide +kernel
theorem dX0_narrowByRow_35 : decode cX0_narrowByRow 35 = .ok (.iadd, 1) := by decide +kernel
theorem dX0_narrowByRow_36 : decode cX0_narrowByRow 36 = .ok (.istore_n 3, 1) := by decide +kernel
theorem dX0_narrowByRow_37 : decode cX0_narrowByRow 37 = .ok (.iload 4, 2) := by decide +kernel
theorem dX0_narrowByRow_39 : decode cX0_narrowByRow 39 = .ok (.aload_n 0, 1) := by decide +kernel
theorem dX0_narrowByRow_40 : decode cX0_narrowByRow 40 = .ok (.iload 6, 2) := by decide +kernel
theorem dX0_narrowByRow_42 : decode cX0_narrowByRow 42 = .ok (.iload 5, 2) := by decide +kernel
theorem dX0_narrowByRow_44 : decode cX0_narrowByRow 44 = .ok (.invokevirtual 51, 3) := by decide +kernel
theorem dX0_narrowByRow_47 : decode cX0_narrowByRow 47 = .ok (.iadd, 1) := by decide +kernel
theorem dX0_narrowByRow_48 : decode cX0_narrowByRow 48 = .ok (.istore 4, 2) := by decide +kernel
theorem dX0_narrowByRow_50 : decode cX0_narrowByRow 50 = .ok (.iinc 5 1, 3) := by decide +kernel
theorem dX0_narrowByRow_53 : decode cX0_narrowByRow 53 = .ok (.goto (-45), 3) := by decide +kernel
theorem dX0_narrowByRow_56 : decode cX0_narrowByRow 56 = .ok (.aload_n 1, 1) := by decide +kernel
theorem dX0_narrowByRow_57 : decode cX0_narrowByRow 57 = .ok (.iload_n 2, 1) := by decide +kernel
theorem dX0_narrowByRow_58 : decode cX0_narrowByRow 58 = .ok (.invokevirtual 54, 3) := by decide +kernel
theorem dX0_narrowByRow_61 : decode cX0_narrowByRow 61 = .ok (.istore 5, 2) := by decide +kernel
theorem dX0_narrowByRow_63 : decode cX0_narrowByRow 63 = .ok (.iconst 0, 1) := by decide +kernel
theorem dX0_narrowByRow_64 : decode cX0_narrowByRow 64 = .ok (.istore 6, 2) := by decide +kernel
theorem dX0_narrowByRow_66 : decode cX0_narrowByRow 66 = .ok (.iconst 0, 1) := by decide +kernel
theorem dX0_narrowByRow_67 : decode cX0_narrowByRow 67 = .ok (.istore 7, 2) := by decide +kernel
theorem dX0_narrowByRow_69 : decode cX0_narrowByRow 69 = .ok (.iload 7, 2) := by decide +kernel
theorem dX0_narrowByRow_71 : decode cX0_narrowByRow 71 = .ok (.aload_n 0, 1) := by decide +kernel
theorem dX0_narrowByRow_72 : decode cX0_narrowByRow 72 = .ok (.getfield 30, 3) := by decide +kernel
theorem dX0_narrowByRow_75 : decode cX0_narrowByRow 75 = .ok (.if_icmp .ge 100, 3) := by decide +kernel
theorem dX0_narrowByRow_78 : decode cX0_narrowByRow 78 = .ok (.aload_n 1, 1) := by decide +kernel
theorem dX0_narrowByRow_79 : decode cX0_narrowByRow 79 = .ok (.iload_n 2, 1) := by decide +kernel
theorem dX0_narrowByRow_80 : decode cX0_narrowByRow 80 = .ok (.iload 7, 2) := by decide +kernel
theorem dX0_narrowByRow_82 : decode cX0_narrowByRow 82 = .ok (.invokevirtual 45, 3) := by decide +kernel
theorem dX0_narrowByRow_85 : decode cX0_narrowByRow 85 = .ok (.istore 8, 2) := by decide +kernel
theorem dX0_narrowByRow_87 : decode cX0_narrowByRow 87 = .ok (.iload 8, 2) := by decide +kernel
theorem dX0_narrowByRow_89 : decode cX0_narrowByRow 89 = .ok (.ifCond .ne 6, 3) := by decide +kernel
theorem dX0_narrowByRow_92 : decode cX0_narrowByRow 92 = .ok (.goto 77, 3) := by decide +kernel
theorem dX0_narrowByRow_95 : decode cX0_narrowByRow 95 = .ok (.iload_n 3, 1) := by decide +kernel
theorem dX0_narrowByRow_96 : decode cX0_narrowByRow 96 = .ok (.aload_n 0, 1) := by decide +kernel
theorem dX0_narrowByRow_97 : decode cX0_narrowByRow 97 = .ok (.iload 8, 2) := by decide +kernel
theorem dX0_narrowByRow_99 : decode cX0_narrowByRow 99 = .ok (.iload 7, 2) := by decide +kernel
theorem dX0_narrowByRow_101 : decode cX0_narrowByRow 101 = .ok (.invokevirtual 48, 3) := by decide +kernel
theorem dX0_narrowByRow_104 : decode cX0_narrowByRow 104 = .ok (.isub, 1) := by decide +kernel
theorem dX0_narrowByRow_105 : decode cX0_narrowByRow 105 = .ok (.istore 9, 2) := by decide +kernel
theorem dX0_narrowByRow_107 : decode cX0_narrowByRow 107 = .ok (.iload 4, 2) := by decide +kernel
theorem dX0_narrowByRow_109 : decode cX0_narrowByRow 109 = .ok (.aload_n 0, 1) := by decide +kernel
theorem dX0_narrowByRow_110 : decode cX0_narrowByRow 110 = .ok (.iload 8, 2) := by decide +kernel
theorem dX0_narrowByRow_112 : decode cX0_narrowByRow 112 = .ok (.iload 7, 2) := by decide +kernel
theorem dX0_narrowByRow_114 : decode cX0_narrowByRow 114 = .ok (.invokevirtual 51, 3) := by decide +kernel
theorem dX0_narrowByRow_117 : decode cX0_narrowByRow 117 = .ok (.isub, 1) := by decide +kernel
theorem dX0_narrowByRow_118 : decode cX0_narrowByRow 118 = .ok (.istore 10, 2) := by decide +kernel
theorem dX0_narrowByRow_120 : decode cX0_narrowByRow 120 = .ok (.aload_n 0, 1) := by decide +kernel
theorem dX0_narrowByRow_121 : decode cX0_narrowByRow 121 = .ok (.iload 7, 2) := by decide +kernel
theorem dX0_narrowByRow_123 : decode cX0_narrowByRow 123 = .ok (.iload 8, 2) := by decide +kernel
theorem dX0_narrowByRow_125 : decode cX0_narrowByRow 125 = .ok (.iload 5, 2) := by decide +kernel
theorem dX0_narrowByRow_127 : decode cX0_narrowByRow 127 = .ok (.iload 10, 2) := by decide +kernel
theorem dX0_narrowByRow_129 : decode cX0_narrowByRow 129 = .ok (.isub, 1) := by decide +kernel
theorem dX0_narrowByRow_130 : decode cX0_narrowByRow 130 = .ok (.iload 5, 2) := by decide +kernel
theorem dX0_narrowByRow_132 : decode cX0_narrowByRow 132 = .ok (.iload 9, 2) := by decide +kernel
theorem dX0_narrowByRow_134 : decode cX0_narrowByRow 134 = .ok (.isub, 1) := by decide +kernel
theorem dX0_narrowByRow_135 : decode cX0_narrowByRow 135 = .ok (.invokevirtual 57, 3) := by decide +kernel
theorem dX0_narrowByRow_138 : decode cX0_narrowByRow 138 = .ok (.ifCond .eq 6, 3) := by decide +kernel
theorem dX0_narrowByRow_141 : decode cX0_narrowByRow 141 = .ok (.iconst 1, 1) := by decide +kernel
theorem dX0_narrowByRow_142 : decode cX0_narrowByRow 142 = .ok (.istore 6, 2) := by decide +kernel
theorem dX0_narrowByRow_144 : decode cX0_narrowByRow 144 = .ok (.iload 9, 2) := by decide +kernel
theorem dX0_narrowByRow_146 : decode cX0_narrowByRow 146 = .ok (.aload_n 0, 1) := by decide +kernel
theorem dX0_narrowByRow_147 : decode cX0_narrowByRow 147 = .ok (.iload 8, 2) := by decide +kernel
theorem dX0_narrowByRow_149 : decode cX0_narrowByRow 149 = .ok (.iload 7, 2) := by decide +kernel
theorem dX0_narrowByRow_151 : decode cX0_narrowByRow 151 = .ok (.invokevirtual 48, 3) := by decide +kernel
theorem dX0_narrowByRow_154 : decode cX0_narrowByRow 154 = .ok (.iadd, 1) := by decide +kernel
theorem dX0_narrowByRow_155 : decode cX0_narrowByRow 155 = .ok (.istore_n 3, 1) := by decide +kernel
theorem dX0_narrowByRow_156 : decode cX0_narrowByRow 156 = .ok (.iload 10, 2) := by decide +kernel
theorem dX0_narrowByRow_158 : decode cX0_narrowByRow 158 = .ok (.aload_n 0, 1) := by decide +kernel
theorem dX0_narrowByRow_159 : decode cX0_narrowByRow 159 = .ok (.iload 8, 2) := by decide +kernel
theorem dX0_narrowByRow_161 : decode cX0_narrowByRow 161 = .ok (.iload 7, 2) := by decide +kernel
theorem dX0_narrowByRow_163 : decode cX0_narrowByRow 163 = .ok (.invokevirtual 51, 3) := by decide +kernel
theorem dX0_narrowByRow_166 : decode cX0_narrowByRow 166 = .ok (.iadd, 1) := by decide +kernel
theorem dX0_narrowByRow_167 : decode cX0_narrowByRow 167 = .ok (.istore 4, 2) := by decide +kernel
theorem dX0_narrowByRow_169 : decode cX0_narrowByRow 169 = .ok (.iinc 7 1, 3) := by decide +kernel
theorem dX0_narrowByRow_172 : decode cX0_narrowByRow 172 = .ok (.goto (-103), 3) := by decide +kernel
theorem dX0_narrowByRow_175 : decode cX0_narrowByRow 175 = .ok (.iload 6, 2) := by decide +kernel
theorem dX0_narrowByRow_177 : decode cX0_narrowByRow 177 = .ok (.ireturn, 1) := by decide +kernel
theorem dX0_narrowOne_0 : decode cX0_narrowOne 0 = .ok (.iload_n 1, 1) := by decide +kernel
theorem dX0_narrowOne_1 : decode cX0_narrowOne 1 = .ok (.bipush 10, 2) := by decide +kernel
theorem dX0_narrowOne_3 : decode cX0_narrowOne 3 = .ok (.invokestatic 61, 3) := by decide +kernel
theorem dX0_narrowOne_6 : decode cX0_narrowOne 6 = .ok (.ifCond .eq 7, 3) := by decide +kernel
theorem dX0_narrowOne_9 : decode cX0_narrowOne 9 = .ok (.iload_n 2, 1) := by decide +kernel
theorem dX0_narrowOne_10 : decode cX0_narrowOne 10 = .ok (.ifCond .ne 5, 3) := by decide +kernel
theorem dX0_narrowOne_13 : decode cX0_narrowOne 13 = .ok (.iconst 0, 1) := by decide +kernel
theorem dX0_narrowOne_14 : decode cX0_narrowOne 14 = .ok (.ireturn, 1) := by decide +kernel
theorem dX0_narrowOne_15 : decode cX0_narrowOne 15 = .ok (.iload_n 2, 1) := by decide +kernel
theorem dX0_narrowOne_16 : decode cX0_narrowOne 16 = .ok (.ifCond .le 8, 3) := by decide +kernel
theorem dX0_narrowOne_19 : decode cX0_narrowOne 19 = .ok (.iload_n 3, 1) := by decide +kernel
theorem dX0_narrowOne_20 : decode cX0_narrowOne 20 = .ok (.ineg, 1) := by decide +kernel
theorem dX0_narrowOne_21 : decode cX0_narrowOne 21 = .ok (.goto 6, 3) := by decide +kernel
theorem dX0_narrowOne_24 : decode cX0_narrowOne 24 = .ok (.iload 4, 2) := by decide +kernel
theorem dX0_narrowOne_26 : decode cX0_narrowOne 26 = .ok (.ineg, 1) := by decide +kernel
theorem dX0_narrowOne_27 : decode cX0_narrowOne 27 = .ok (.iload_n 2, 1) := by decide +kernel
theorem dX0_narrowOne_28 : decode cX0_narrowOne 28 = .ok (.invokestatic 65, 3) := by decide +kernel
theorem dX0_narrowOne_31 : decode cX0_narrowOne 31 = .ok (.ineg, 1) := by decide +kernel
theorem dX0_narrowOne_32 : decode cX0_narrowOne 32 = .ok (.istore 5, 2) := by decide +kernel
theorem dX0_narrowOne_34 : decode cX0_narrowOne 34 = .ok (.iload_n 2, 1) := by decide +kernel
theorem dX0_narrowOne_35 : decode cX0_narrowOne 35 = .ok (.ifCond .le 8, 3) := by decide +kernel
theorem dX0_narrowOne_38 : decode cX0_narrowOne 38 = .ok (.iload 4, 2) := by decide +kernel
theorem dX0_narrowOne_40 : decode cX0_narrowOne 40 = .ok (.goto 4, 3) := by decide +kernel
theorem dX0_narrowOne_43 : decode cX0_narrowOne 43 = .ok (.iload_n 3, 1) := by decide +kernel
theorem dX0_narrowOne_44 : decode cX0_narrowOne 44 = .ok (.iload_n 2, 1) := by decide +kernel
theorem dX0_narrowOne_45 : decode cX0_narrowOne 45 = .ok (.invokestatic 65, 3) := by decide +kernel
theorem dX0_narrowOne_48 : decode cX0_narrowOne 48 = .ok (.istore 6, 2) := by decide +kernel
theorem dX0_narrowOne_50 : decode cX0_narrowOne 50 = .ok (.iconst 0, 1) := by decide +kernel
theorem dX0_narrowOne_51 : decode cX0_narrowOne 51 = .ok (.istore 7, 2) := by decide +kernel
theorem dX0_narrowOne_53 : decode cX0_narrowOne 53 = .ok (.iload 5, 2) := by decide +kernel
theorem dX0_narrowOne_55 : decode cX0_narrowOne 55 = .ok (.aload_n 0, 1) := by decide +kernel
theorem dX0_narrowOne_56 : decode cX0_narrowOne 56 = .ok (.getfield 9, 3) := by decide +kernel
theorem dX0_narrowOne_59 : decode cX0_narrowOne 59 = .ok (.iload_n 1, 1) := by decide +kernel
theorem dX0_narrowOne_60 : decode cX0_narrowOne 60 = .ok (.iaload, 1) := by decide +kernel
theorem dX0_narrowOne_61 : decode cX0_narrowOne 61 = .ok (.if_icmp .le 14, 3) := by decide +kernel
theorem dX0_narrowOne_64 : decode cX0_narrowOne 64 = .ok (.aload_n 0, 1) := by decide +kernel
theorem dX0_narrowOne_65 : decode cX0_narrowOne 65 = .ok (.getfield 9, 3) := by decide +kernel
theorem dX0_narrowOne_68 : decode cX0_narrowOne 68 = .ok (.iload_n 1, 1) := by decide +kernel
theorem dX0_narrowOne_69 : decode cX0_narrowOne 69 = .ok (.iload 5, 2) := by decide +kernel
theorem dX0_narrowOne_71 : decode cX0_narrowOne 71 = .ok (.iastore, 1) := by decide +kernel
theorem dX0_narrowOne_72 : decode cX0_narrowOne 72 = .ok (.iconst 1, 1) := by decide +kernel
theorem dX0_narrowOne_73 : decode cX0_narrowOne 73 = .ok (.istore 7, 2) := by decide +kernel
theorem dX0_narrowOne_75 : decode cX0_narrowOne 75 = .ok (.iload 6, 2) := by decide +kernel
theorem dX0_narrowOne_77 : decode cX0_narrowOne 77 = .ok (.aload_n 0, 1) := by decide +kernel
theorem dX0_narrowOne_78 : decode cX0_narrowOne 78 = .ok (.getfield 15, 3) := by decide +kernel
theorem dX0_narrowOne_81 : decode cX0_narrowOne 81 = .ok (.iload_n 1, 1) := by decide +kernel
theorem dX0_narrowOne_82 : decode cX0_narrowOne 82 = .ok (.iaload, 1) := by decide +kernel
theorem dX0_narrowOne_83 : decode cX0_narrowOne 83 = .ok (.if_icmp .ge 14, 3) := by decide +kernel
theorem dX0_narrowOne_86 : decode cX0_narrowOne 86 = .ok (.aload_n 0, 1) := by decide +kernel
theorem dX0_narrowOne_87 : decode cX0_narrowOne 87 = .ok (.getfield 15, 3) := by decide +kernel
theorem dX0_narrowOne_90 : decode cX0_narrowOne 90 = .ok (.iload_n 1, 1) := by decide +kernel
theorem dX0_narrowOne_91 : decode cX0_narrowOne 91 = .ok (.iload 6, 2) := by decide +kernel
theorem dX0_narrowOne_93 : decode cX0_narrowOne 93 = .ok (.iastore, 1) := by decide +kernel
theorem dX0_narrowOne_94 : decode cX0_narrowOne 94 = .ok (.iconst 1, 1) := by decide +kernel
theorem dX0_narrowOne_95 : decode cX0_narrowOne 95 = .ok (.istore 7, 2) := by decide +kernel
theorem dX0_narrowOne_97 : decode cX0_narrowOne 97 = .ok (.iload 7, 2) := by decide +kernel
theorem dX0_narrowOne_99 : decode cX0_narrowOne 99 = .ok (.ireturn, 1) := by decide +kernel
theorem dX0_lowEnd_0 : decode cX0_lowEnd 0 = .ok (.iload_n 1, 1) := by decide +kernel
theorem dX0_lowEnd_1 : decode cX0_lowEnd 1 = .ok (.iload_n 1, 1) := by decide +kernel
theorem dX0_lowEnd_2 : decode cX0_lowEnd 2 = .ok (.ifCond .le 11, 3) := by decide +kernel
theorem dX0_lowEnd_5 : decode cX0_lowEnd 5 = .ok (.aload_n 0, 1) := by decide +kernel
theorem dX0_lowEnd_6 : decode cX0_lowEnd 6 = .ok (.iload_n 2, 1) := by decide +kernel
theorem dX0_lowEnd_7 : decode cX0_lowEnd 7 = .ok (.invokevirtual 68, 3) := by decide +kernel
theorem dX0_lowEnd_10 : decode cX0_lowEnd 10 = .ok (.goto 8, 3) := by decide +kernel
theorem dX0_lowEnd_13 : decode cX0_lowEnd 13 = .ok (.aload_n 0, 1) := by decide +kernel
theorem dX0_lowEnd_14 : decode cX0_lowEnd 14 = .ok (.iload_n 2, 1) := by decide +kernel
theorem dX0_lowEnd_15 : decode cX0_lowEnd 15 = .ok (.invokevirtual 71, 3) := by decide +kernel
theorem dX0_lowEnd_18 : decode cX0_lowEnd 18 = .ok (.imul, 1) := by decide +kernel
theorem dX0_lowEnd_19 : decode cX0_lowEnd 19 = .ok (.ireturn, 1) := by decide +kernel
theorem dX0_highEnd_0 : decode cX0_highEnd 0 = .ok (.iload_n 1, 1) := by decide +kernel
theorem dX0_highEnd_1 : decode cX0_highEnd 1 = .ok (.iload_n 1, 1) := by decide +kernel
theorem dX0_highEnd_2 : decode cX0_highEnd 2 = .ok (.ifCond .le 11, 3) := by decide +kernel
theorem dX0_highEnd_5 : decode cX0_highEnd 5 = .ok (.aload_n 0, 1) := by decide +kernel
theorem dX0_highEnd_6 : decode cX0_highEnd 6 = .ok (.iload_n 2, 1) := by decide +kernel
theorem dX0_highEnd_7 : decode cX0_highEnd 7 = .ok (.invokevirtual 71, 3) := by decide +kernel
theorem dX0_highEnd_10 : decode cX0_highEnd 10 = .ok (.goto 8, 3) := by decide +kernel
theorem dX0_highEnd_13 : decode cX0_highEnd 13 = .ok (.aload_n 0, 1) := by decide +kernel
theorem dX0_highEnd_14 : decode cX0_highEnd 14 = .ok (.iload_n 2, 1) := by decide +kernel
theorem dX0_highEnd_15 : decode cX0_highEnd 15 = .ok (.invokevirtual 68, 3) := by decide +kernel
theorem dX0_highEnd_18 : decode cX0_highEnd 18 = .ok (.imul, 1) := by decide +kernel
theorem dX0_highEnd_19 : decode cX0_highEnd 19 = .ok (.ireturn, 1) := by decide +kernel
theorem dX0_leastOf_0 : decode cX0_leastOf 0 = .ok (.iload_n 1, 1) := by decide +kernel
theorem dX0_leastOf_1 : decode cX0_leastOf 1 = .ok (.bipush 10, 2) := by decide +kernel
theorem dX0_leastOf_3 : decode cX0_leastOf 3 = .ok (.invokestatic 61, 3) := by decide +kernel
theorem dX0_leastOf_6 : decode cX0_leastOf 6 = .ok (.ifCond .eq 12, 3) := by decide +kernel
theorem dX0_leastOf_9 : decode cX0_leastOf 9 = .ok (.aload_n 0, 1) := by decide +kernel
theorem dX0_leastOf_10 : decode cX0_leastOf 10 = .ok (.getfield 9, 3) := by decide +kernel
theorem dX0_leastOf_13 : decode cX0_leastOf 13 = .ok (.iload_n 1, 1) := by decide +kernel
theorem dX0_leastOf_14 : decode cX0_leastOf 14 = .ok (.iaload, 1) := by decide +kernel
theorem dX0_leastOf_15 : decode cX0_leastOf 15 = .ok (.goto 4, 3) := by decide +kernel
theorem dX0_leastOf_18 : decode cX0_leastOf 18 = .ok (.iconst 0, 1) := by decide +kernel
theorem dX0_leastOf_19 : decode cX0_leastOf 19 = .ok (.ireturn, 1) := by decide +kernel
theorem dX0_mostOf_0 : decode cX0_mostOf 0 = .ok (.iload_n 1, 1) := by decide +kernel
theorem dX0_mostOf_1 : decode cX0_mostOf 1 = .ok (.bipush 10, 2) := by decide +kernel
theorem dX0_mostOf_3 : decode cX0_mostOf 3 = .ok (.invokestatic 61, 3) := by decide +kernel
theorem dX0_mostOf_6 : decode cX0_mostOf 6 = .ok (.ifCond .eq 12, 3) := by decide +kernel
theorem dX0_mostOf_9 : decode cX0_mostOf 9 = .ok (.aload_n 0, 1) := by decide +kernel
theorem dX0_mostOf_10 : decode cX0_mostOf 10 = .ok (.getfield 15, 3) := by decide +kernel
theorem dX0_mostOf_13 : decode cX0_mostOf 13 = .ok (.iload_n 1, 1) := by decide +kernel
theorem dX0_mostOf_14 : decode cX0_mostOf 14 = .ok (.iaload, 1) := by decide +kernel
theorem dX0_mostOf_15 : decode cX0_mostOf 15 = .ok (.goto 4, 3) := by decide +kernel
theorem dX0_mostOf_18 : decode cX0_mostOf 18 = .ok (.iconst 0, 1) := by decide +kernel
theorem dX0_mostOf_19 : decode cX0_mostOf 19 = .ok (.ireturn, 1) := by decide +kernel
theorem dX0_widthOf_0 : decode cX0_widthOf 0 = .ok (.aload_n 0, 1) := by decide +kernel
theorem dX0_widthOf_1 : decode cX0_widthOf 1 = .ok (.iload_n 1, 1) := by decide +kernel
theorem dX0_widthOf_2 : decode cX0_widthOf 2 = .ok (.invokevirtual 71, 3) := by decide +kernel
theorem dX0_widthOf_5 : decode cX0_widthOf 5 = .ok (.aload_n 0, 1) := by decide +kernel
theorem dX0_widthOf_6 : decode cX0_widthOf 6 = .ok (.iload_n 1, 1) := by decide +kernel
theorem dX0_widthOf_7 : decode cX0_widthOf 7 = .ok (.invokevirtual 68, 3) := by decide +kernel
theorem dX0_widthOf_10 : decode cX0_widthOf 10 = .ok (.isub, 1) := by decide +kernel
theorem dX0_widthOf_11 : decode cX0_widthOf 11 = .ok (.iconst 1, 1) := by decide +kernel
theorem dX0_widthOf_12 : decode cX0_widthOf 12 = .ok (.iadd, 1) := by decide +kernel
theorem dX0_widthOf_13 : decode cX0_widthOf 13 = .ok (.ireturn, 1) := by decide +kernel
theorem dX0_widths_0 : decode cX0_widths 0 = .ok (.iconst 0, 1) := by decide +kernel
theorem dX0_widths_1 : decode cX0_widths 1 = .ok (.istore_n 1, 1) := by decide +kernel
theorem dX0_widths_2 : decode cX0_widths 2 = .ok (.iconst 0, 1) := by decide +kernel
theorem dX0_widths_3 : decode cX0_widths 3 = .ok (.istore_n 2, 1) := by decide +kernel
theorem dX0_widths_4 : decode cX0_widths 4 = .ok (.iload_n 2, 1) := by decide +kernel
theorem dX0_widths_5 : decode cX0_widths 5 = .ok (.aload_n 0, 1) := by decide +kernel
theorem dX0_widths_6 : decode cX0_widths 6 = .ok (.getfield 30, 3) := by decide +kernel
theorem dX0_widths_9 : decode cX0_widths 9 = .ok (.if_icmp .ge 17, 3) := by decide +kernel
theorem dX0_widths_12 : decode cX0_widths 12 = .ok (.iload_n 1, 1) := by decide +kernel
theorem dX0_widths_13 : decode cX0_widths 13 = .ok (.aload_n 0, 1) := by decide +kernel
theorem dX0_widths_14 : decode cX0_widths 14 = .ok (.iload_n 2, 1) := by decide +kernel
theorem dX0_widths_15 : decode cX0_widths 15 = .ok (.invokevirtual 74, 3) := by decide +kernel
theorem dX0_widths_18 : decode cX0_widths 18 = .ok (.iadd, 1) := by decide +kernel
theorem dX0_widths_19 : decode cX0_widths 19 = .ok (.istore_n 1, 1) := by decide +kernel
theorem dX0_widths_20 : decode cX0_widths 20 = .ok (.iinc 2 1, 3) := by decide +kernel
theorem dX0_widths_23 : decode cX0_widths 23 = .ok (.goto (-19), 3) := by decide +kernel
theorem dX0_widths_26 : decode cX0_widths 26 = .ok (.iload_n 1, 1) := by decide +kernel
theorem dX0_widths_27 : decode cX0_widths 27 = .ok (.ireturn, 1) := by decide +kernel
theorem dX0_narrowest_0 : decode cX0_narrowest 0 = .ok (.iconst 0, 1) := by decide +kernel
theorem dX0_narrowest_1 : decode cX0_narrowest 1 = .ok (.istore_n 1, 1) := by decide +kernel
theorem dX0_narrowest_2 : decode cX0_narrowest 2 = .ok (.iconst 1, 1) := by decide +kernel
theorem dX0_narrowest_3 : decode cX0_narrowest 3 = .ok (.istore_n 2, 1) := by decide +kernel
theorem dX0_narrowest_4 : decode cX0_narrowest 4 = .ok (.iload_n 2, 1) := by decide +kernel
theorem dX0_narrowest_5 : decode cX0_narrowest 5 = .ok (.aload_n 0, 1) := by decide +kernel
theorem dX0_narrowest_6 : decode cX0_narrowest 6 = .ok (.getfield 30, 3) := by decide +kernel
theorem dX0_narrowest_9 : decode cX0_narrowest 9 = .ok (.if_icmp .ge 24, 3) := by decide +kernel
theorem dX0_narrowest_12 : decode cX0_narrowest 12 = .ok (.aload_n 0, 1) := by decide +kernel
theorem dX0_narrowest_13 : decode cX0_narrowest 13 = .ok (.iload_n 2, 1) := by decide +kernel
theorem dX0_narrowest_14 : decode cX0_narrowest 14 = .ok (.invokevirtual 74, 3) := by decide +kernel
theorem dX0_narrowest_17 : decode cX0_narrowest 17 = .ok (.aload_n 0, 1) := by decide +kernel
theorem dX0_narrowest_18 : decode cX0_narrowest 18 = .ok (.iload_n 1, 1) := by decide +kernel
theorem dX0_narrowest_19 : decode cX0_narrowest 19 = .ok (.invokevirtual 74, 3) := by decide +kernel
theorem dX0_narrowest_22 : decode cX0_narrowest 22 = .ok (.if_icmp .ge 5, 3) := by decide +kernel
theorem dX0_narrowest_25 : decode cX0_narrowest 25 = .ok (.iload_n 2, 1) := by decide +kernel
theorem dX0_narrowest_26 : decode cX0_narrowest 26 = .ok (.istore_n 1, 1) := by decide +kernel
theorem dX0_narrowest_27 : decode cX0_narrowest 27 = .ok (.iinc 2 1, 3) := by decide +kernel
theorem dX0_narrowest_30 : decode cX0_narrowest 30 = .ok (.goto (-26), 3) := by decide +kernel
theorem dX0_narrowest_33 : decode cX0_narrowest 33 = .ok (.iload_n 1, 1) := by decide +kernel
theorem dX0_narrowest_34 : decode cX0_narrowest 34 = .ok (.ireturn, 1) := by decide +kernel
theorem dX0_knownBits_0 : decode cX0_knownBits 0 = .ok (.iconst 0, 1) := by decide +kernel
theorem dX0_knownBits_1 : decode cX0_knownBits 1 = .ok (.istore_n 1, 1) := by decide +kernel
theorem dX0_knownBits_2 : decode cX0_knownBits 2 = .ok (.iconst 0, 1) := by decide +kernel
theorem dX0_knownBits_3 : decode cX0_knownBits 3 = .ok (.istore_n 2, 1) := by decide +kernel
theorem dX0_knownBits_4 : decode cX0_knownBits 4 = .ok (.iload_n 2, 1) := by decide +kernel
theorem dX0_knownBits_5 : decode cX0_knownBits 5 = .ok (.aload_n 0, 1) := by decide +kernel
theorem dX0_knownBits_6 : decode cX0_knownBits 6 = .ok (.getfield 30, 3) := by decide +kernel
theorem dX0_knownBits_9 : decode cX0_knownBits 9 = .ok (.if_icmp .ge 24, 3) := by decide +kernel
theorem dX0_knownBits_12 : decode cX0_knownBits 12 = .ok (.aload_n 0, 1) := by decide +kernel
theorem dX0_knownBits_13 : decode cX0_knownBits 13 = .ok (.iload_n 2, 1) := by decide +kernel
theorem dX0_knownBits_14 : decode cX0_knownBits 14 = .ok (.invokevirtual 74, 3) := by decide +kernel
theorem dX0_knownBits_17 : decode cX0_knownBits 17 = .ok (.iconst 1, 1) := by decide +kernel
theorem dX0_knownBits_18 : decode cX0_knownBits 18 = .ok (.if_icmp .ne 9, 3) := by decide +kernel
theorem dX0_knownBits_21 : decode cX0_knownBits 21 = .ok (.iload_n 1, 1) := by decide +kernel
theorem dX0_knownBits_22 : decode cX0_knownBits 22 = .ok (.iconst 1, 1) := by decide +kernel
theorem dX0_knownBits_23 : decode cX0_knownBits 23 = .ok (.iload_n 2, 1) := by decide +kernel
theorem dX0_knownBits_24 : decode cX0_knownBits 24 = .ok (.ishl, 1) := by decide +kernel
theorem dX0_knownBits_25 : decode cX0_knownBits 25 = .ok (.ior, 1) := by decide +kernel
theorem dX0_knownBits_26 : decode cX0_knownBits 26 = .ok (.istore_n 1, 1) := by decide +kernel
theorem dX0_knownBits_27 : decode cX0_knownBits 27 = .ok (.iinc 2 1, 3) := by decide +kernel
theorem dX0_knownBits_30 : decode cX0_knownBits 30 = .ok (.goto (-26), 3) := by decide +kernel
theorem dX0_knownBits_33 : decode cX0_knownBits 33 = .ok (.iload_n 1, 1) := by decide +kernel
theorem dX0_knownBits_34 : decode cX0_knownBits 34 = .ok (.ireturn, 1) := by decide +kernel
theorem dX1_init_0 : decode cX1_init 0 = .ok (.aload_n 0, 1) := by decide +kernel
theorem dX1_init_1 : decode cX1_init 1 = .ok (.invokespecial 3, 3) := by decide +kernel
theorem dX1_init_4 : decode cX1_init 4 = .ok (.aload_n 0, 1) := by decide +kernel
theorem dX1_init_5 : decode cX1_init 5 = .ok (.iload_n 1, 1) := by decide +kernel
theorem dX1_init_6 : decode cX1_init 6 = .ok (.ifCond .ge 7, 3) := by decide +kernel
theorem dX1_init_9 : decode cX1_init 9 = .ok (.iconst 0, 1) := by decide +kernel
theorem dX1_init_10 : decode cX1_init 10 = .ok (.goto 4, 3) := by decide +kernel
theorem dX1_init_13 : decode cX1_init 13 = .ok (.iload_n 1, 1) := by decide +kernel
theorem dX1_init_14 : decode cX1_init 14 = .ok (.newarray .int, 2) := by decide +kernel
theorem dX1_init_16 : decode cX1_init 16 = .ok (.putfield 9, 3) := by decide +kernel
theorem dX1_init_19 : decode cX1_init 19 = .ok (.return_, 1) := by decide +kernel
theorem dX1_add_0 : decode cX1_add 0 = .ok (.aload_n 0, 1) := by decide +kernel
theorem dX1_add_1 : decode cX1_add 1 = .ok (.getfield 15, 3) := by decide +kernel
theorem dX1_add_4 : decode cX1_add 4 = .ok (.aload_n 0, 1) := by decide +kernel
theorem dX1_add_5 : decode cX1_add 5 = .ok (.getfield 9, 3) := by decide +kernel
theorem dX1_add_8 : decode cX1_add 8 = .ok (.arraylength, 1) := by decide +kernel
theorem dX1_add_9 : decode cX1_add 9 = .ok (.invokestatic 19, 3) := by decide +kernel
theorem dX1_add_12 : decode cX1_add 12 = .ok (.ifCond .ne 5, 3) := by decide +kernel
theorem dX1_add_15 : decode cX1_add 15 = .ok (.iconst 0, 1) := by decide +kernel
theorem dX1_add_16 : decode cX1_add 16 = .ok (.ireturn, 1) := by decide +kernel
theorem dX1_add_17 : decode cX1_add 17 = .ok (.aload_n 0, 1) := by decide +kernel
theorem dX1_add_18 : decode cX1_add 18 = .ok (.getfield 9, 3) := by decide +kernel
theorem dX1_add_21 : decode cX1_add 21 = .ok (.aload_n 0, 1) := by decide +kernel
theorem dX1_add_22 : decode cX1_add 22 = .ok (.getfield 15, 3) := by decide +kernel
theorem dX1_add_25 : decode cX1_add 25 = .ok (.iload_n 1, 1) := by decide +kernel
theorem dX1_add_26 : decode cX1_add 26 = .ok (.iastore, 1) := by decide +kernel
theorem dX1_add_27 : decode cX1_add 27 = .ok (.aload_n 0, 1) := by decide +kernel
theorem dX1_add_28 : decode cX1_add 28 = .ok (.dup, 1) := by decide +kernel
theorem dX1_add_29 : decode cX1_add 29 = .ok (.getfield 15, 3) := by decide +kernel
theorem dX1_add_32 : decode cX1_add 32 = .ok (.iconst 1, 1) := by decide +kernel
theorem dX1_add_33 : decode cX1_add 33 = .ok (.iadd, 1) := by decide +kernel
theorem dX1_add_34 : decode cX1_add 34 = .ok (.putfield 15, 3) := by decide +kernel
theorem dX1_add_37 : decode cX1_add 37 = .ok (.iconst 1, 1) := by decide +kernel
theorem dX1_add_38 : decode cX1_add 38 = .ok (.ireturn, 1) := by decide +kernel
theorem dX1_at_0 : decode cX1_at 0 = .ok (.iload_n 1, 1) := by decide +kernel
theorem dX1_at_1 : decode cX1_at 1 = .ok (.aload_n 0, 1) := by decide +kernel
theorem dX1_at_2 : decode cX1_at 2 = .ok (.getfield 15, 3) := by decide +kernel
theorem dX1_at_5 : decode cX1_at 5 = .ok (.invokestatic 19, 3) := by decide +kernel
theorem dX1_at_8 : decode cX1_at 8 = .ok (.ifCond .eq 24, 3) := by decide +kernel
theorem dX1_at_11 : decode cX1_at 11 = .ok (.iload_n 1, 1) := by decide +kernel
theorem dX1_at_12 : decode cX1_at 12 = .ok (.aload_n 0, 1) := by decide +kernel
theorem dX1_at_13 : decode cX1_at 13 = .ok (.getfield 9, 3) := by decide +kernel
theorem dX1_at_16 : decode cX1_at 16 = .ok (.arraylength, 1) := by decide +kernel
theorem dX1_at_17 : decode cX1_at 17 = .ok (.invokestatic 19, 3) := by decide +kernel
theorem dX1_at_20 : decode cX1_at 20 = .ok (.ifCond .eq 12, 3) := by decide +kernel
theorem dX1_at_23 : decode cX1_at 23 = .ok (.aload_n 0, 1) := by decide +kernel
theorem dX1_at_24 : decode cX1_at 24 = .ok (.getfield 9, 3) := by decide +kernel
theorem dX1_at_27 : decode cX1_at 27 = .ok (.iload_n 1, 1) := by decide +kernel
theorem dX1_at_28 : decode cX1_at 28 = .ok (.iaload, 1) := by decide +kernel
theorem dX1_at_29 : decode cX1_at 29 = .ok (.goto 5, 3) := by decide +kernel
theorem dX1_at_32 : decode cX1_at 32 = .ok (.bipush (-9), 2) := by decide +kernel
theorem dX1_at_34 : decode cX1_at 34 = .ok (.ireturn, 1) := by decide +kernel
theorem dX1_forget_0 : decode cX1_forget 0 = .ok (.aload_n 0, 1) := by decide +kernel
theorem dX1_forget_1 : decode cX1_forget 1 = .ok (.iconst 0, 1) := by decide +kernel
theorem dX1_forget_2 : decode cX1_forget 2 = .ok (.putfield 15, 3) := by decide +kernel
theorem dX1_forget_5 : decode cX1_forget 5 = .ok (.return_, 1) := by decide +kernel
theorem dX2_init_0 : decode cX2_init 0 = .ok (.aload_n 0, 1) := by decide +kernel
theorem dX2_init_1 : decode cX2_init 1 = .ok (.invokespecial 3, 3) := by decide +kernel
theorem dX2_init_4 : decode cX2_init 4 = .ok (.aload_n 0, 1) := by decide +kernel
theorem dX2_init_5 : decode cX2_init 5 = .ok (.bipush 8, 2) := by decide +kernel
theorem dX2_init_7 : decode cX2_init 7 = .ok (.newarray .int, 2) := by decide +kernel
theorem dX2_init_9 : decode cX2_init 9 = .ok (.putfield 9, 3) := by decide +kernel
theorem dX2_init_12 : decode cX2_init 12 = .ok (.return_, 1) := by decide +kernel
theorem dX2_misfitOf_0 : decode cX2_misfitOf 0 = .ok (.iload_n 0, 1) := by decide +kernel
theorem dX2_misfitOf_1 : decode cX2_misfitOf 1 = .ok (.ifCond .eq 16, 3) := by decide +kernel
theorem dX2_misfitOf_4 : decode cX2_misfitOf 4 = .ok (.iload_n 0, 1) := by decide +kernel
theorem dX2_misfitOf_5 : decode cX2_misfitOf 5 = .ok (.iconst 1, 1) := by decide +kernel
theorem dX2_misfitOf_6 : decode cX2_misfitOf 6 = .ok (.if_icmp .eq 11, 3) := by decide +kernel
theorem dX2_misfitOf_9 : decode cX2_misfitOf 9 = .ok (.iload_n 0, 1) := by decide +kernel
theorem dX2_misfitOf_10 : decode cX2_misfitOf 10 = .ok (.iconst 2, 1) := by decide +kernel
theorem dX2_misfitOf_11 : decode cX2_misfitOf 11 = .ok (.if_icmp .eq 6, 3) := by decide +kernel
theorem dX2_misfitOf_14 : decode cX2_misfitOf 14 = .ok (.bipush (-2), 2) := by decide +kernel
theorem dX2_misfitOf_16 : decode cX2_misfitOf 16 = .ok (.ireturn, 1) := by decide +kernel
theorem dX2_misfitOf_17 : decode cX2_misfitOf 17 = .ok (.iload_n 0, 1) := by decide +kernel
theorem dX2_misfitOf_18 : decode cX2_misfitOf 18 = .ok (.ifCond .eq 7, 3) := by decide +kernel
theorem dX2_misfitOf_21 : decode cX2_misfitOf 21 = .ok (.iconst 1, 1) := by decide +kernel
theorem dX2_misfitOf_22 : decode cX2_misfitOf 22 = .ok (.goto 4, 3) := by decide +kernel
theorem dX2_misfitOf_25 : decode cX2_misfitOf 25 = .ok (.iconst 0, 1) := by decide +kernel
theorem dX2_misfitOf_26 : decode cX2_misfitOf 26 = .ok (.istore_n 3, 1) := by decide +kernel
theorem dX2_misfitOf_27 : decode cX2_misfitOf 27 = .ok (.iload_n 1, 1) := by decide +kernel
theorem dX2_misfitOf_28 : decode cX2_misfitOf 28 = .ok (.iconst 1, 1) := by decide +kernel
theorem dX2_misfitOf_29 : decode cX2_misfitOf 29 = .ok (.if_icmp .lt 12, 3) := by decide +kernel
theorem dX2_misfitOf_32 : decode cX2_misfitOf 32 = .ok (.iload_n 3, 1) := by decide +kernel
theorem dX2_misfitOf_33 : decode cX2_misfitOf 33 = .ok (.ifCond .eq 11, 3) := by decide +kernel
theorem dX2_misfitOf_36 : decode cX2_misfitOf 36 = .ok (.iload_n 2, 1) := by decide +kernel
theorem dX2_misfitOf_37 : decode cX2_misfitOf 37 = .ok (.iconst 1, 1) := by decide +kernel
theorem dX2_misfitOf_38 : decode cX2_misfitOf 38 = .ok (.if_icmp .ge 6, 3) := by decide +kernel
theorem dX2_misfitOf_41 : decode cX2_misfitOf 41 = .ok (.bipush (-4), 2) := by decide +kernel
theorem dX2_misfitOf_43 : decode cX2_misfitOf 43 = .ok (.ireturn, 1) := by decide +kernel
theorem dX2_misfitOf_44 : decode cX2_misfitOf 44 = .ok (.iload_n 0, 1) := by decide +kernel
theorem dX2_misfitOf_45 : decode cX2_misfitOf 45 = .ok (.iconst 2, 1) := by decide +kernel
theorem dX2_misfitOf_46 : decode cX2_misfitOf 46 = .ok (.if_icmp .ne 7, 3) := by decide +kernel
theorem dX2_misfitOf_49 : decode cX2_misfitOf 49 = .ok (.iconst 3, 1) := by decide +kernel
theorem dX2_misfitOf_50 : decode cX2_misfitOf 50 = .ok (.goto 6, 3) := by decide +kernel
theorem dX2_misfitOf_53 : decode cX2_misfitOf 53 = .ok (.sipush 255, 3) := by decide +kernel
theorem dX2_misfitOf_56 : decode cX2_misfitOf 56 = .ok (.istore 4, 2) := by decide +kernel
theorem dX2_misfitOf_58 : decode cX2_misfitOf 58 = .ok (.iload_n 1, 1) := by decide +kernel
theorem dX2_misfitOf_59 : decode cX2_misfitOf 59 = .ok (.sipush 255, 3) := by decide +kernel
theorem dX2_misfitOf_62 : decode cX2_misfitOf 62 = .ok (.if_icmp .gt 13, 3) := by decide +kernel
theorem dX2_misfitOf_65 : decode cX2_misfitOf 65 = .ok (.iload_n 3, 1) := by decide +kernel
theorem dX2_misfitOf_66 : decode cX2_misfitOf 66 = .ok (.ifCond .eq 12, 3) := by decide +kernel
theorem dX2_misfitOf_69 : decode cX2_misfitOf 69 = .ok (.iload_n 2, 1) := by decide +kernel
theorem dX2_misfitOf_70 : decode cX2_misfitOf 70 = .ok (.iload 4, 2) := by decide +kernel
theorem dX2_misfitOf_72 : decode cX2_misfitOf 72 = .ok (.if_icmp .le 6, 3) := by decide +kernel
theorem dX2_misfitOf_75 : decode cX2_misfitOf 75 = .ok (.bipush (-6), 2) := by decide +kernel
theorem dX2_misfitOf_77 : decode cX2_misfitOf 77 = .ok (.ireturn, 1) := by decide +kernel
theorem dX2_misfitOf_78 : decode cX2_misfitOf 78 = .ok (.iload_n 0, 1) := by decide +kernel
theorem dX2_misfitOf_79 : decode cX2_misfitOf 79 = .ok (.iconst 1, 1) := by decide +kernel
theorem dX2_misfitOf_80 : decode cX2_misfitOf 80 = .ok (.if_icmp .ne 14, 3) := by decide +kernel
theorem dX2_misfitOf_83 : decode cX2_misfitOf 83 = .ok (.iload_n 1, 1) := by decide +kernel
theorem dX2_misfitOf_84 : decode cX2_misfitOf 84 = .ok (.iload_n 2, 1) := by decide +kernel
theorem dX2_misfitOf_85 : decode cX2_misfitOf 85 = .ok (.iand, 1) := by decide +kernel
theorem dX2_misfitOf_86 : decode cX2_misfitOf 86 = .ok (.ifCond .eq 8, 3) := by decide +kernel
theorem dX2_misfitOf_89 : decode cX2_misfitOf 89 = .ok (.bipush (-3), 2) := by decide +kernel
theorem dX2_misfitOf_91 : decode cX2_misfitOf 91 = .ok (.goto 4, 3) := by decide +kernel
theorem dX2_misfitOf_94 : decode cX2_misfitOf 94 = .ok (.iconst 0, 1) := by decide +kernel
theorem dX2_misfitOf_95 : decode cX2_misfitOf 95 = .ok (.ireturn, 1) := by decide +kernel
theorem dX2_make_0 : decode cX2_make 0 = .ok (.iconst 0, 1) := by decide +kernel
theorem dX2_make_1 : decode cX2_make 1 = .ok (.istore 4, 2) := by decide +kernel
theorem dX2_make_3 : decode cX2_make 3 = .ok (.iload 4, 2) := by decide +kernel
theorem dX2_make_5 : decode cX2_make 5 = .ok (.bipush 8, 2) := by decide +kernel
theorem dX2_make_7 : decode cX2_make 7 = .ok (.if_icmp .ge 73, 3) := by decide +kernel
theorem dX2_make_10 : decode cX2_make 10 = .ok (.iload_n 2, 1) := by decide +kernel
theorem dX2_make_11 : decode cX2_make 11 = .ok (.iload 4, 2) := by decide +kernel
theorem dX2_make_13 : decode cX2_make 13 = .ok (.ishr, 1) := by decide +kernel
theorem dX2_make_14 : decode cX2_make 14 = .ok (.iconst 1, 1) := by decide +kernel
theorem dX2_make_15 : decode cX2_make 15 = .ok (.iand, 1) := by decide +kernel
theorem dX2_make_16 : decode cX2_make 16 = .ok (.istore 5, 2) := by decide +kernel
theorem dX2_make_18 : decode cX2_make 18 = .ok (.iload_n 3, 1) := by decide +kernel
theorem dX2_make_19 : decode cX2_make 19 = .ok (.iload 4, 2) := by decide +kernel
theorem dX2_make_21 : decode cX2_make 21 = .ok (.ishr, 1) := by decide +kernel
theorem dX2_make_22 : decode cX2_make 22 = .ok (.iconst 1, 1) := by decide +kernel
theorem dX2_make_23 : decode cX2_make 23 = .ok (.iand, 1) := by decide +kernel
theorem dX2_make_24 : decode cX2_make 24 = .ok (.istore 6, 2) := by decide +kernel
theorem dX2_make_26 : decode cX2_make 26 = .ok (.iload 5, 2) := by decide +kernel
theorem dX2_make_28 : decode cX2_make 28 = .ok (.istore 7, 2) := by decide +kernel
theorem dX2_make_30 : decode cX2_make 30 = .ok (.iload_n 1, 1) := by decide +kernel
theorem dX2_make_31 : decode cX2_make 31 = .ok (.iconst 1, 1) := by decide +kernel
theorem dX2_make_32 : decode cX2_make 32 = .ok (.if_icmp .ne 13, 3) := by decide +kernel
theorem dX2_make_35 : decode cX2_make 35 = .ok (.iload 5, 2) := by decide +kernel
theorem dX2_make_37 : decode cX2_make 37 = .ok (.iload 6, 2) := by decide +kernel
theorem dX2_make_39 : decode cX2_make 39 = .ok (.isub, 1) := by decide +kernel
theorem dX2_make_40 : decode cX2_make 40 = .ok (.istore 7, 2) := by decide +kernel
theorem dX2_make_42 : decode cX2_make 42 = .ok (.goto 23, 3) := by decide +kernel
theorem dX2_make_45 : decode cX2_make 45 = .ok (.iload_n 1, 1) := by decide +kernel
theorem dX2_make_46 : decode cX2_make 46 = .ok (.iconst 2, 1) := by decide +kernel
theorem dX2_make_47 : decode cX2_make 47 = .ok (.if_icmp .ne 18, 3) := by decide +kernel
theorem dX2_make_50 : decode cX2_make 50 = .ok (.iload_n 3, 1) := by decide +kernel
theorem dX2_make_51 : decode cX2_make 51 = .ok (.ifCond .eq 14, 3) := by decide +kernel
theorem dX2_make_54 : decode cX2_make 54 = .ok (.iload 5, 2) := by decide +kernel
theorem dX2_make_56 : decode cX2_make 56 = .ok (.iconst 1, 1) := by decide +kernel
theorem dX2_make_57 : decode cX2_make 57 = .ok (.iload 4, 2) := by decide +kernel
theorem dX2_make_59 : decode cX2_make 59 = .ok (.iload_n 3, 1) := by decide +kernel
theorem dX2_make_60 : decode cX2_make 60 = .ok (.irem, 1) := by decide +kernel
theorem dX2_make_61 : decode cX2_make 61 = .ok (.iadd, 1) := by decide +kernel
theorem dX2_make_62 : decode cX2_make 62 = .ok (.imul, 1) := by decide +kernel
theorem dX2_make_63 : decode cX2_make 63 = .ok (.istore 7, 2) := by decide +kernel
theorem dX2_make_65 : decode cX2_make 65 = .ok (.aload_n 0, 1) := by decide +kernel
theorem dX2_make_66 : decode cX2_make 66 = .ok (.getfield 9, 3) := by decide +kernel
theorem dX2_make_69 : decode cX2_make 69 = .ok (.iload 4, 2) := by decide +kernel
theorem dX2_make_71 : decode cX2_make 71 = .ok (.iload 7, 2) := by decide +kernel
theorem dX2_make_73 : decode cX2_make 73 = .ok (.iastore, 1) := by decide +kernel
theorem dX2_make_74 : decode cX2_make 74 = .ok (.iinc 4 1, 3) := by decide +kernel
theorem dX2_make_77 : decode cX2_make 77 = .ok (.goto (-74), 3) := by decide +kernel
theorem dX2_make_80 : decode cX2_make 80 = .ok (.return_, 1) := by decide +kernel
theorem dX2_size_0 : decode cX2_size 0 = .ok (.iconst 0, 1) := by decide +kernel
theorem dX2_size_1 : decode cX2_size 1 = .ok (.istore_n 1, 1) := by decide +kernel
theorem dX2_size_2 : decode cX2_size 2 = .ok (.iconst 0, 1) := by decide +kernel
theorem dX2_size_3 : decode cX2_size 3 = .ok (.istore_n 2, 1) := by decide +kernel
theorem dX2_size_4 : decode cX2_size 4 = .ok (.iload_n 2, 1) := by decide +kernel
theorem dX2_size_5 : decode cX2_size 5 = .ok (.bipush 8, 2) := by decide +kernel
theorem dX2_size_7 : decode cX2_size 7 = .ok (.if_icmp .ge 21, 3) := by decide +kernel
theorem dX2_size_10 : decode cX2_size 10 = .ok (.aload_n 0, 1) := by decide +kernel
theorem dX2_size_11 : decode cX2_size 11 = .ok (.getfield 9, 3) := by decide +kernel
theorem dX2_size_14 : decode cX2_size 14 = .ok (.iload_n 2, 1) := by decide +kernel
theorem dX2_size_15 : decode cX2_size 15 = .ok (.iaload, 1) := by decide +kernel
theorem dX2_size_16 : decode cX2_size 16 = .ok (.ifCond .eq 6, 3) := by decide +kernel
theorem dX2_size_19 : decode cX2_size 19 = .ok (.iinc 1 1, 3) := by decide +kernel
theorem dX2_size_22 : decode cX2_size 22 = .ok (.iinc 2 1, 3) := by decide +kernel
theorem dX2_size_25 : decode cX2_size 25 = .ok (.goto (-21), 3) := by decide +kernel
theorem dX2_size_28 : decode cX2_size 28 = .ok (.iload_n 1, 1) := by decide +kernel
theorem dX2_size_29 : decode cX2_size 29 = .ok (.ireturn, 1) := by decide +kernel
theorem dX3_perform_0 : decode cX3_perform 0 = .ok (.aload_n 0, 1) := by decide +kernel
theorem dX3_perform_1 : decode cX3_perform 1 = .ok (.invokestatic 9, 3) := by decide +kernel
theorem dX3_perform_4 : decode cX3_perform 4 = .ok (.istore_n 3, 1) := by decide +kernel
theorem dX3_perform_5 : decode cX3_perform 5 = .ok (.iload_n 3, 1) := by decide +kernel
theorem dX3_perform_6 : decode cX3_perform 6 = .ok (.ifCond .lt 9, 3) := by decide +kernel
theorem dX3_perform_9 : decode cX3_perform 9 = .ok (.sipush (-1000), 3) := by decide +kernel
theorem dX3_perform_12 : decode cX3_perform 12 = .ok (.iload_n 3, 1) := by decide +kernel
theorem dX3_perform_13 : decode cX3_perform 13 = .ok (.isub, 1) := by decide +kernel
theorem dX3_perform_14 : decode cX3_perform 14 = .ok (.ireturn, 1) := by decide +kernel
theorem dX3_perform_15 : decode cX3_perform 15 = .ok (.iconst 0, 1) := by decide +kernel
theorem dX3_perform_16 : decode cX3_perform 16 = .ok (.istore 4, 2) := by decide +kernel
theorem dX3_perform_18 : decode cX3_perform 18 = .ok (.iconst 0, 1) := by decide +kernel
theorem dX3_perform_19 : decode cX3_perform 19 = .ok (.istore 5, 2) := by decide +kernel
theorem dX3_perform_21 : decode cX3_perform 21 = .ok (.iconst 0, 1) := by decide +kernel
theorem dX3_perform_22 : decode cX3_perform 22 = .ok (.istore 6, 2) := by decide +kernel
theorem dX3_perform_24 : decode cX3_perform 24 = .ok (.iload 6, 2) := by decide +kernel
theorem dX3_perform_26 : decode cX3_perform 26 = .ok (.bipush 96, 2) := by decide +kernel
theorem dX3_perform_28 : decode cX3_perform 28 = .ok (.if_icmp .ge 55, 3) := by decide +kernel
theorem dX3_perform_31 : decode cX3_perform 31 = .ok (.iload 4, 2) := by decide +kernel
theorem dX3_perform_33 : decode cX3_perform 33 = .ok (.aload_n 0, 1) := by decide +kernel
theorem dX3_perform_34 : decode cX3_perform 34 = .ok (.getfield 15, 3) := by decide +kernel
theorem dX3_perform_37 : decode cX3_perform 37 = .ok (.if_icmp .ge 46, 3) := by decide +kernel
theorem dX3_perform_40 : decode cX3_perform 40 = .ok (.aload_n 0, 1) := by decide +kernel
theorem dX3_perform_41 : decode cX3_perform 41 = .ok (.iload 4, 2) := by decide +kernel
theorem dX3_perform_43 : decode cX3_perform 43 = .ok (.aload_n 1, 1) := by decide +kernel
theorem dX3_perform_44 : decode cX3_perform 44 = .ok (.aload_n 2, 1) := by decide +kernel
theorem dX3_perform_45 : decode cX3_perform 45 = .ok (.invokestatic 21, 3) := by decide +kernel
theorem dX3_perform_48 : decode cX3_perform 48 = .ok (.ifCond .ne 10, 3) := by decide +kernel
theorem dX3_perform_51 : decode cX3_perform 51 = .ok (.sipush (-2000), 3) := by decide +kernel
theorem dX3_perform_54 : decode cX3_perform 54 = .ok (.iload 4, 2) := by decide +kernel
theorem dX3_perform_56 : decode cX3_perform 56 = .ok (.isub, 1) := by decide +kernel
theorem dX3_perform_57 : decode cX3_perform 57 = .ok (.ireturn, 1) := by decide +kernel
theorem dX3_perform_58 : decode cX3_perform 58 = .ok (.iload 4, 2) := by decide +kernel
theorem dX3_perform_60 : decode cX3_perform 60 = .ok (.aload_n 0, 1) := by decide +kernel
theorem dX3_perform_61 : decode cX3_perform 61 = .ok (.iload 4, 2) := by decide +kernel
theorem dX3_perform_63 : decode cX3_perform 63 = .ok (.invokevirtual 25, 3) := by decide +kernel
theorem dX3_perform_66 : decode cX3_perform 66 = .ok (.invokestatic 29, 3) := by decide +kernel
theorem dX3_perform_69 : decode cX3_perform 69 = .ok (.iconst 2, 1) := by decide +kernel
theorem dX3_perform_70 : decode cX3_perform 70 = .ok (.iadd, 1) := by decide +kernel
theorem dX3_perform_71 : decode cX3_perform 71 = .ok (.iadd, 1) := by decide +kernel
theorem dX3_perform_72 : decode cX3_perform 72 = .ok (.istore 4, 2) := by decide +kernel
theorem dX3_perform_74 : decode cX3_perform 74 = .ok (.iinc 5 1, 3) := by decide +kernel
theorem dX3_perform_77 : decode cX3_perform 77 = .ok (.iinc 6 1, 3) := by decide +kernel
theorem dX3_perform_80 : decode cX3_perform 80 = .ok (.goto (-56), 3) := by decide +kernel
theorem dX3_perform_83 : decode cX3_perform 83 = .ok (.iload 5, 2) := by decide +kernel
theorem dX3_perform_85 : decode cX3_perform 85 = .ok (.ireturn, 1) := by decide +kernel
theorem dX3_firstMisfit_0 : decode cX3_firstMisfit 0 = .ok (.iconst 0, 1) := by decide +kernel
theorem dX3_firstMisfit_1 : decode cX3_firstMisfit 1 = .ok (.istore_n 1, 1) := by decide +kernel
theorem dX3_firstMisfit_2 : decode cX3_firstMisfit 2 = .ok (.iconst 0, 1) := by decide +kernel
theorem dX3_firstMisfit_3 : decode cX3_firstMisfit 3 = .ok (.istore_n 2, 1) := by decide +kernel
theorem dX3_firstMisfit_4 : decode cX3_firstMisfit 4 = .ok (.iconst 0, 1) := by decide +kernel
theorem dX3_firstMisfit_5 : decode cX3_firstMisfit 5 = .ok (.istore_n 3, 1) := by decide +kernel
theorem dX3_firstMisfit_6 : decode cX3_firstMisfit 6 = .ok (.iload_n 3, 1) := by decide +kernel
theorem dX3_firstMisfit_7 : decode cX3_firstMisfit 7 = .ok (.aload_n 0, 1) := by decide +kernel
theorem dX3_firstMisfit_8 : decode cX3_firstMisfit 8 = .ok (.getfield 15, 3) := by decide +kernel
theorem dX3_firstMisfit_11 : decode cX3_firstMisfit 11 = .ok (.if_icmp .ge 74, 3) := by decide +kernel
theorem dX3_firstMisfit_14 : decode cX3_firstMisfit 14 = .ok (.aload_n 0, 1) := by decide +kernel
theorem dX3_firstMisfit_15 : decode cX3_firstMisfit 15 = .ok (.iload_n 3, 1) := by decide +kernel
theorem dX3_firstMisfit_16 : decode cX3_firstMisfit 16 = .ok (.invokevirtual 25, 3) := by decide +kernel
theorem dX3_firstMisfit_19 : decode cX3_firstMisfit 19 = .ok (.istore 4, 2) := by decide +kernel
theorem dX3_firstMisfit_21 : decode cX3_firstMisfit 21 = .ok (.iload_n 2, 1) := by decide +kernel
theorem dX3_firstMisfit_22 : decode cX3_firstMisfit 22 = .ok (.ifCond .ne 20, 3) := by decide +kernel
theorem dX3_firstMisfit_25 : decode cX3_firstMisfit 25 = .ok (.iload 4, 2) := by decide +kernel
theorem dX3_firstMisfit_27 : decode cX3_firstMisfit 27 = .ok (.invokestatic 29, 3) := by decide +kernel
theorem dX3_firstMisfit_30 : decode cX3_firstMisfit 30 = .ok (.istore_n 1, 1) := by decide +kernel
theorem dX3_firstMisfit_31 : decode cX3_firstMisfit 31 = .ok (.iload_n 1, 1) := by decide +kernel
theorem dX3_firstMisfit_32 : decode cX3_firstMisfit 32 = .ok (.ifCond .ne 5, 3) := by decide +kernel
theorem dX3_firstMisfit_35 : decode cX3_firstMisfit 35 = .ok (.iload_n 3, 1) := by decide +kernel
theorem dX3_firstMisfit_36 : decode cX3_firstMisfit 36 = .ok (.ireturn, 1) := by decide +kernel
theorem dX3_firstMisfit_37 : decode cX3_firstMisfit 37 = .ok (.iconst 1, 1) := by decide +kernel
theorem dX3_firstMisfit_38 : decode cX3_firstMisfit 38 = .ok (.istore_n 2, 1) := by decide +kernel
theorem dX3_firstMisfit_39 : decode cX3_firstMisfit 39 = .ok (.goto 40, 3) := by decide +kernel
theorem dX3_firstMisfit_42 : decode cX3_firstMisfit 42 = .ok (.iload_n 1, 1) := by decide +kernel
theorem dX3_firstMisfit_43 : decode cX3_firstMisfit 43 = .ok (.ifCond .le 25, 3) := by decide +kernel
theorem dX3_firstMisfit_46 : decode cX3_firstMisfit 46 = .ok (.iload 4, 2) := by decide +kernel
theorem dX3_firstMisfit_48 : decode cX3_firstMisfit 48 = .ok (.bipush 48, 2) := by decide +kernel
theorem dX3_firstMisfit_50 : decode cX3_firstMisfit 50 = .ok (.if_icmp .lt 10, 3) := by decide +kernel
theorem dX3_firstMisfit_53 : decode cX3_firstMisfit 53 = .ok (.iload 4, 2) := by decide +kernel
theorem dX3_firstMisfit_55 : decode cX3_firstMisfit 55 = .ok (.bipush 57, 2) := by decide +kernel
theorem dX3_firstMisfit_57 : decode cX3_firstMisfit 57 = .ok (.if_icmp .le 5, 3) := by decide +kernel
theorem dX3_firstMisfit_60 : decode cX3_firstMisfit 60 = .ok (.iload_n 3, 1) := by decide +kernel
theorem dX3_firstMisfit_61 : decode cX3_firstMisfit 61 = .ok (.ireturn, 1) := by decide +kernel
theorem dX3_firstMisfit_62 : decode cX3_firstMisfit 62 = .ok (.iinc 1 (-1), 3) := by decide +kernel
theorem dX3_firstMisfit_65 : decode cX3_firstMisfit 65 = .ok (.goto 14, 3) := by decide +kernel
theorem dX3_firstMisfit_68 : decode cX3_firstMisfit 68 = .ok (.iload 4, 2) := by decide +kernel
theorem dX3_firstMisfit_70 : decode cX3_firstMisfit 70 = .ok (.bipush 59, 2) := by decide +kernel
theorem dX3_firstMisfit_72 : decode cX3_firstMisfit 72 = .ok (.if_icmp .eq 5, 3) := by decide +kernel
theorem dX3_firstMisfit_75 : decode cX3_firstMisfit 75 = .ok (.iload_n 3, 1) := by decide +kernel
theorem dX3_firstMisfit_76 : decode cX3_firstMisfit 76 = .ok (.ireturn, 1) := by decide +kernel
theorem dX3_firstMisfit_77 : decode cX3_firstMisfit 77 = .ok (.iconst 0, 1) := by decide +kernel
theorem dX3_firstMisfit_78 : decode cX3_firstMisfit 78 = .ok (.istore_n 2, 1) := by decide +kernel
theorem dX3_firstMisfit_79 : decode cX3_firstMisfit 79 = .ok (.iinc 3 1, 3) := by decide +kernel
theorem dX3_firstMisfit_82 : decode cX3_firstMisfit 82 = .ok (.goto (-76), 3) := by decide +kernel
theorem dX3_firstMisfit_85 : decode cX3_firstMisfit 85 = .ok (.iload_n 2, 1) := by decide +kernel
theorem dX3_firstMisfit_86 : decode cX3_firstMisfit 86 = .ok (.ifCond .ne 10, 3) := by decide +kernel
theorem dX3_firstMisfit_89 : decode cX3_firstMisfit 89 = .ok (.aload_n 0, 1) := by decide +kernel
theorem dX3_firstMisfit_90 : decode cX3_firstMisfit 90 = .ok (.getfield 15, 3) := by decide +kernel
theorem dX3_firstMisfit_93 : decode cX3_firstMisfit 93 = .ok (.ifCond .ne 10, 3) := by decide +kernel
theorem dX3_firstMisfit_96 : decode cX3_firstMisfit 96 = .ok (.aload_n 0, 1) := by decide +kernel
theorem dX3_firstMisfit_97 : decode cX3_firstMisfit 97 = .ok (.getfield 15, 3) := by decide +kernel
theorem dX3_firstMisfit_100 : decode cX3_firstMisfit 100 = .ok (.goto 5, 3) := by decide +kernel
theorem dX3_firstMisfit_103 : decode cX3_firstMisfit 103 = .ok (.bipush (-9), 2) := by decide +kernel
theorem dX3_firstMisfit_105 : decode cX3_firstMisfit 105 = .ok (.ireturn, 1) := by decide +kernel
theorem dX3_digitsBehind_0 : decode cX3_digitsBehind 0 = .ok (.iload_n 0, 1) := by decide +kernel
theorem dX3_digitsBehind_1 : decode cX3_digitsBehind 1 = .ok (.tableswitch 118 98 119 #[109, 107, 112, 118, 118, 118, 118, 118, 118, 118, 105, 118, 118, 118, 118, 118, 103, 112, 118, 118, 107, 115], 103) := by decide +kernel
theorem dX3_digitsBehind_104 : decode cX3_digitsBehind 104 = .ok (.iconst 1, 1) := by decide +kernel
theorem dX3_digitsBehind_105 : decode cX3_digitsBehind 105 = .ok (.ireturn, 1) := by decide +kernel
theorem dX3_digitsBehind_106 : decode cX3_digitsBehind 106 = .ok (.iconst 2, 1) := by decide +kernel
theorem dX3_digitsBehind_107 : decode cX3_digitsBehind 107 = .ok (.ireturn, 1) := by decide +kernel
theorem dX3_digitsBehind_108 : decode cX3_digitsBehind 108 = .ok (.iconst 3, 1) := by decide +kernel
theorem dX3_digitsBehind_109 : decode cX3_digitsBehind 109 = .ok (.ireturn, 1) := by decide +kernel
theorem dX3_digitsBehind_110 : decode cX3_digitsBehind 110 = .ok (.bipush 6, 2) := by decide +kernel
theorem dX3_digitsBehind_112 : decode cX3_digitsBehind 112 = .ok (.ireturn, 1) := by decide +kernel
theorem dX3_digitsBehind_113 : decode cX3_digitsBehind 113 = .ok (.bipush 8, 2) := by decide +kernel
theorem dX3_digitsBehind_115 : decode cX3_digitsBehind 115 = .ok (.ireturn, 1) := by decide +kernel
theorem dX3_digitsBehind_116 : decode cX3_digitsBehind 116 = .ok (.bipush 9, 2) := by decide +kernel
theorem dX3_digitsBehind_118 : decode cX3_digitsBehind 118 = .ok (.ireturn, 1) := by decide +kernel
theorem dX3_digitsBehind_119 : decode cX3_digitsBehind 119 = .ok (.iconst 0, 1) := by decide +kernel
theorem dX3_digitsBehind_120 : decode cX3_digitsBehind 120 = .ok (.ireturn, 1) := by decide +kernel
theorem dX3_performOne_0 : decode cX3_performOne 0 = .ok (.aload_n 0, 1) := by decide +kernel
theorem dX3_performOne_1 : decode cX3_performOne 1 = .ok (.iload_n 1, 1) := by decide +kernel
theorem dX3_performOne_2 : decode cX3_performOne 2 = .ok (.invokevirtual 25, 3) := by decide +kernel
theorem dX3_performOne_5 : decode cX3_performOne 5 = .ok (.lookupswitch 139 #[(98, 89), (99, 70), (108, 127), (114, 115), (118, 51)], 51) := by decide +kernel
theorem dX3_performOne_56 : decode cX3_performOne 56 = .ok (.aload_n 2, 1) := by decide +kernel
theorem dX3_performOne_57 : decode cX3_performOne 57 = .ok (.aload_n 0, 1) := by decide +kernel
theorem dX3_performOne_58 : decode cX3_performOne 58 = .ok (.iload_n 1, 1) := by decide +kernel
theorem dX3_performOne_59 : decode cX3_performOne 59 = .ok (.iconst 1, 1) := by decide +kernel
theorem dX3_performOne_60 : decode cX3_performOne 60 = .ok (.iadd, 1) := by decide +kernel
theorem dX3_performOne_61 : decode cX3_performOne 61 = .ok (.invokestatic 32, 3) := by decide +kernel
theorem dX3_performOne_64 : decode cX3_performOne 64 = .ok (.aload_n 0, 1) := by decide +kernel
theorem dX3_performOne_65 : decode cX3_performOne 65 = .ok (.iload_n 1, 1) := by decide +kernel
theorem dX3_performOne_66 : decode cX3_performOne 66 = .ok (.iconst 2, 1) := by decide +kernel
theorem dX3_performOne_67 : decode cX3_performOne 67 = .ok (.iadd, 1) := by decide +kernel
theorem dX3_performOne_68 : decode cX3_performOne 68 = .ok (.invokestatic 36, 3) := by decide +kernel
theorem dX3_performOne_71 : decode cX3_performOne 71 = .ok (.invokevirtual 39, 3) := by decide +kernel
theorem dX3_performOne_74 : decode cX3_performOne 74 = .ok (.ireturn, 1) := by decide +kernel
theorem dX3_performOne_75 : decode cX3_performOne 75 = .ok (.aload_n 2, 1) := by decide +kernel
theorem dX3_performOne_76 : decode cX3_performOne 76 = .ok (.aload_n 0, 1) := by decide +kernel
theorem dX3_performOne_77 : decode cX3_performOne 77 = .ok (.iload_n 1, 1) := by decide +kernel
theorem dX3_performOne_78 : decode cX3_performOne 78 = .ok (.iconst 1, 1) := by decide +kernel
theorem dX3_performOne_79 : decode cX3_performOne 79 = .ok (.iadd, 1) := by decide +kernel
theorem dX3_performOne_80 : decode cX3_performOne 80 = .ok (.invokestatic 32, 3) := by decide +kernel
theorem dX3_performOne_83 : decode cX3_performOne 83 = .ok (.aload_n 0, 1) := by decide +kernel
theorem dX3_performOne_84 : decode cX3_performOne 84 = .ok (.iload_n 1, 1) := by decide +kernel
theorem dX3_performOne_85 : decode cX3_performOne 85 = .ok (.iconst 2, 1) := by decide +kernel
theorem dX3_performOne_86 : decode cX3_performOne 86 = .ok (.iadd, 1) := by decide +kernel
theorem dX3_performOne_87 : decode cX3_performOne 87 = .ok (.invokestatic 36, 3) := by decide +kernel
theorem dX3_performOne_90 : decode cX3_performOne 90 = .ok (.invokevirtual 45, 3) := by decide +kernel
theorem dX3_performOne_93 : decode cX3_performOne 93 = .ok (.ireturn, 1) := by decide +kernel
theorem dX3_performOne_94 : decode cX3_performOne 94 = .ok (.aload_n 2, 1) := by decide +kernel
theorem dX3_performOne_95 : decode cX3_performOne 95 = .ok (.aload_n 0, 1) := by decide +kernel
theorem dX3_performOne_96 : decode cX3_performOne 96 = .ok (.iload_n 1, 1) := by decide +kernel
theorem dX3_performOne_97 : decode cX3_performOne 97 = .ok (.iconst 1, 1) := by decide +kernel
theorem dX3_performOne_98 : decode cX3_performOne 98 = .ok (.iadd, 1) := by decide +kernel
theorem dX3_performOne_99 : decode cX3_performOne 99 = .ok (.invokestatic 36, 3) := by decide +kernel
theorem dX3_performOne_102 : decode cX3_performOne 102 = .ok (.aload_n 0, 1) := by decide +kernel
theorem dX3_performOne_103 : decode cX3_performOne 103 = .ok (.iload_n 1, 1) := by decide +kernel
theorem dX3_performOne_104 : decode cX3_performOne 104 = .ok (.iconst 3, 1) := by decide +kernel
theorem dX3_performOne_105 : decode cX3_performOne 105 = .ok (.iadd, 1) := by decide +kernel
theorem dX3_performOne_106 : decode cX3_performOne 106 = .ok (.invokestatic 36, 3) := by decide +kernel
theorem dX3_performOne_109 : decode cX3_performOne 109 = .ok (.aload_n 0, 1) := by decide +kernel
theorem dX3_performOne_110 : decode cX3_performOne 110 = .ok (.iload_n 1, 1) := by decide +kernel
theorem dX3_performOne_111 : decode cX3_performOne 111 = .ok (.iconst 5, 1) := by decide +kernel
theorem dX3_performOne_112 : decode cX3_performOne 112 = .ok (.iadd, 1) := by decide +kernel
theorem dX3_performOne_113 : decode cX3_performOne 113 = .ok (.invokestatic 36, 3) := by decide +kernel
theorem dX3_performOne_116 : decode cX3_performOne 116 = .ok (.invokevirtual 48, 3) := by decide +kernel
theorem dX3_performOne_119 : decode cX3_performOne 119 = .ok (.ireturn, 1) := by decide +kernel
theorem dX3_performOne_120 : decode cX3_performOne 120 = .ok (.aload_n 2, 1) := by decide +kernel
theorem dX3_performOne_121 : decode cX3_performOne 121 = .ok (.aload_n 0, 1) := by decide +kernel
theorem dX3_performOne_122 : decode cX3_performOne 122 = .ok (.iload_n 1, 1) := by decide +kernel
theorem dX3_performOne_123 : decode cX3_performOne 123 = .ok (.iconst 1, 1) := by decide +kernel
theorem dX3_performOne_124 : decode cX3_performOne 124 = .ok (.iadd, 1) := by decide +kernel
theorem dX3_performOne_125 : decode cX3_performOne 125 = .ok (.invokestatic 32, 3) := by decide +kernel
theorem dX3_performOne_128 : decode cX3_performOne 128 = .ok (.invokevirtual 52, 3) := by decide +kernel
theorem dX3_performOne_131 : decode cX3_performOne 131 = .ok (.ireturn, 1) := by decide +kernel
theorem dX3_performOne_132 : decode cX3_performOne 132 = .ok (.aload_n 2, 1) := by decide +kernel
theorem dX3_performOne_133 : decode cX3_performOne 133 = .ok (.aload_n 0, 1) := by decide +kernel
theorem dX3_performOne_134 : decode cX3_performOne 134 = .ok (.iload_n 1, 1) := by decide +kernel
theorem dX3_performOne_135 : decode cX3_performOne 135 = .ok (.iconst 1, 1) := by decide +kernel
theorem dX3_performOne_136 : decode cX3_performOne 136 = .ok (.iadd, 1) := by decide +kernel
theorem dX3_performOne_137 : decode cX3_performOne 137 = .ok (.invokestatic 36, 3) := by decide +kernel
theorem dX3_performOne_140 : decode cX3_performOne 140 = .ok (.invokevirtual 56, 3) := by decide +kernel
theorem dX3_performOne_143 : decode cX3_performOne 143 = .ok (.ireturn, 1) := by decide +kernel
theorem dX3_performOne_144 : decode cX3_performOne 144 = .ok (.aload_n 0, 1) := by decide +kernel
theorem dX3_performOne_145 : decode cX3_performOne 145 = .ok (.iload_n 1, 1) := by decide +kernel
theorem dX3_performOne_146 : decode cX3_performOne 146 = .ok (.aload_n 3, 1) := by decide +kernel
theorem dX3_performOne_147 : decode cX3_performOne 147 = .ok (.invokestatic 59, 3) := by decide +kernel
theorem dX3_performOne_150 : decode cX3_performOne 150 = .ok (.ifCond .eq 16, 3) := by decide +kernel
theorem dX3_performOne_153 : decode cX3_performOne 153 = .ok (.aload_n 2, 1) := by decide +kernel
theorem dX3_performOne_154 : decode cX3_performOne 154 = .ok (.aload_n 3, 1) := by decide +kernel
theorem dX3_performOne_155 : decode cX3_performOne 155 = .ok (.invokevirtual 63, 3) := by decide +kernel
theorem dX3_performOne_158 : decode cX3_performOne 158 = .ok (.iconst 2, 1) := by decide +kernel
theorem dX3_performOne_159 : decode cX3_performOne 159 = .ok (.if_icmp .eq 7, 3) := by decide +kernel
theorem dX3_performOne_162 : decode cX3_performOne 162 = .ok (.iconst 1, 1) := by decide +kernel
theorem dX3_performOne_163 : decode cX3_performOne 163 = .ok (.goto 4, 3) := by decide +kernel
theorem dX3_performOne_166 : decode cX3_performOne 166 = .ok (.iconst 0, 1) := by decide +kernel
theorem dX3_performOne_167 : decode cX3_performOne 167 = .ok (.ireturn, 1) := by decide +kernel
theorem dX3_readQuestion_0 : decode cX3_readQuestion 0 = .ok (.aload_n 0, 1) := by decide +kernel
theorem dX3_readQuestion_1 : decode cX3_readQuestion 1 = .ok (.iload_n 1, 1) := by decide +kernel
theorem dX3_readQuestion_2 : decode cX3_readQuestion 2 = .ok (.invokevirtual 25, 3) := by decide +kernel
theorem dX3_readQuestion_5 : decode cX3_readQuestion 5 = .ok (.istore_n 3, 1) := by decide +kernel
theorem dX3_readQuestion_6 : decode cX3_readQuestion 6 = .ok (.iload_n 3, 1) := by decide +kernel
theorem dX3_readQuestion_7 : decode cX3_readQuestion 7 = .ok (.bipush 115, 2) := by decide +kernel
theorem dX3_readQuestion_9 : decode cX3_readQuestion 9 = .ok (.if_icmp .ne 7, 3) := by decide +kernel
theorem dX3_readQuestion_12 : decode cX3_readQuestion 12 = .ok (.iconst 0, 1) := by decide +kernel
theorem dX3_readQuestion_13 : decode cX3_readQuestion 13 = .ok (.goto 14, 3) := by decide +kernel
theorem dX3_readQuestion_16 : decode cX3_readQuestion 16 = .ok (.iload_n 3, 1) := by decide +kernel
theorem dX3_readQuestion_17 : decode cX3_readQuestion 17 = .ok (.bipush 100, 2) := by decide +kernel
theorem dX3_readQuestion_19 : decode cX3_readQuestion 19 = .ok (.if_icmp .ne 7, 3) := by decide +kernel
theorem dX3_readQuestion_22 : decode cX3_readQuestion 22 = .ok (.iconst 1, 1) := by decide +kernel
theorem dX3_readQuestion_23 : decode cX3_readQuestion 23 = .ok (.goto 4, 3) := by decide +kernel
theorem dX3_readQuestion_26 : decode cX3_readQuestion 26 = .ok (.iconst 2, 1) := by decide +kernel
theorem dX3_readQuestion_27 : decode cX3_readQuestion 27 = .ok (.istore 4, 2) := by decide +kernel
theorem dX3_readQuestion_29 : decode cX3_readQuestion 29 = .ok (.iconst 0, 1) := by decide +kernel
theorem dX3_readQuestion_30 : decode cX3_readQuestion 30 = .ok (.istore 5, 2) := by decide +kernel
theorem dX3_readQuestion_32 : decode cX3_readQuestion 32 = .ok (.iconst 0, 1) := by decide +kernel
theorem dX3_readQuestion_33 : decode cX3_readQuestion 33 = .ok (.istore 6, 2) := by decide +kernel
theorem dX3_readQuestion_35 : decode cX3_readQuestion 35 = .ok (.iconst 0, 1) := by decide +kernel
theorem dX3_readQuestion_36 : decode cX3_readQuestion 36 = .ok (.istore 7, 2) := by decide +kernel
theorem dX3_readQuestion_38 : decode cX3_readQuestion 38 = .ok (.iload 7, 2) := by decide +kernel
theorem dX3_readQuestion_40 : decode cX3_readQuestion 40 = .ok (.bipush 8, 2) := by decide +kernel
theorem dX3_readQuestion_42 : decode cX3_readQuestion 42 = .ok (.if_icmp .ge 73, 3) := by decide +kernel
theorem dX3_readQuestion_45 : decode cX3_readQuestion 45 = .ok (.aload_n 0, 1) := by decide +kernel
theorem dX3_readQuestion_46 : decode cX3_readQuestion 46 = .ok (.iload_n 1, 1) := by decide +kernel
theorem dX3_readQuestion_47 : decode cX3_readQuestion 47 = .ok (.iconst 1, 1) := by decide +kernel
theorem dX3_readQuestion_48 : decode cX3_readQuestion 48 = .ok (.iadd, 1) := by decide +kernel
theorem dX3_readQuestion_49 : decode cX3_readQuestion 49 = .ok (.iload 7, 2) := by decide +kernel
theorem dX3_readQuestion_51 : decode cX3_readQuestion 51 = .ok (.iadd, 1) := by decide +kernel
theorem dX3_readQuestion_52 : decode cX3_readQuestion 52 = .ok (.invokestatic 32, 3) := by decide +kernel
theorem dX3_readQuestion_55 : decode cX3_readQuestion 55 = .ok (.istore 8, 2) := by decide +kernel
theorem dX3_readQuestion_57 : decode cX3_readQuestion 57 = .ok (.iload 4, 2) := by decide +kernel
theorem dX3_readQuestion_59 : decode cX3_readQuestion 59 = .ok (.iconst 1, 1) := by decide +kernel
theorem dX3_readQuestion_60 : decode cX3_readQuestion 60 = .ok (.if_icmp .ne 11, 3) := by decide +kernel
theorem dX3_readQuestion_63 : decode cX3_readQuestion 63 = .ok (.iload 8, 2) := by decide +kernel
theorem dX3_readQuestion_65 : decode cX3_readQuestion 65 = .ok (.iconst 2, 1) := by decide +kernel
theorem dX3_readQuestion_66 : decode cX3_readQuestion 66 = .ok (.if_icmp .le 5, 3) := by decide +kernel
theorem dX3_readQuestion_69 : decode cX3_readQuestion 69 = .ok (.iconst 0, 1) := by decide +kernel
theorem dX3_readQuestion_70 : decode cX3_readQuestion 70 = .ok (.ireturn, 1) := by decide +kernel
theorem dX3_readQuestion_71 : decode cX3_readQuestion 71 = .ok (.iload 4, 2) := by decide +kernel
theorem dX3_readQuestion_73 : decode cX3_readQuestion 73 = .ok (.iconst 1, 1) := by decide +kernel
theorem dX3_readQuestion_74 : decode cX3_readQuestion 74 = .ok (.if_icmp .ne 21, 3) := by decide +kernel
theorem dX3_readQuestion_77 : decode cX3_readQuestion 77 = .ok (.iload 8, 2) := by decide +kernel
theorem dX3_readQuestion_79 : decode cX3_readQuestion 79 = .ok (.iconst 2, 1) := by decide +kernel
theorem dX3_readQuestion_80 : decode cX3_readQuestion 80 = .ok (.if_icmp .ne 15, 3) := by decide +kernel
theorem dX3_readQuestion_83 : decode cX3_readQuestion 83 = .ok (.iload 6, 2) := by decide +kernel
theorem dX3_readQuestion_85 : decode cX3_readQuestion 85 = .ok (.iconst 1, 1) := by decide +kernel
theorem dX3_readQuestion_86 : decode cX3_readQuestion 86 = .ok (.iload 7, 2) := by decide +kernel
theorem dX3_readQuestion_88 : decode cX3_readQuestion 88 = .ok (.ishl, 1) := by decide +kernel
theorem dX3_readQuestion_89 : decode cX3_readQuestion 89 = .ok (.ior, 1) := by decide +kernel
theorem dX3_readQuestion_90 : decode cX3_readQuestion 90 = .ok (.istore 6, 2) := by decide +kernel
theorem dX3_readQuestion_92 : decode cX3_readQuestion 92 = .ok (.goto 17, 3) := by decide +kernel
theorem dX3_readQuestion_95 : decode cX3_readQuestion 95 = .ok (.iload 8, 2) := by decide +kernel
theorem dX3_readQuestion_97 : decode cX3_readQuestion 97 = .ok (.ifCond .eq 12, 3) := by decide +kernel
theorem dX3_readQuestion_100 : decode cX3_readQuestion 100 = .ok (.iload 5, 2) := by decide +kernel
theorem dX3_readQuestion_102 : decode cX3_readQuestion 102 = .ok (.iconst 1, 1) := by decide +kernel
theorem dX3_readQuestion_103 : decode cX3_readQuestion 103 = .ok (.iload 7, 2) := by decide +kernel
theorem dX3_readQuestion_105 : decode cX3_readQuestion 105 = .ok (.ishl, 1) := by decide +kernel
theorem dX3_readQuestion_106 : decode cX3_readQuestion 106 = .ok (.ior, 1) := by decide +kernel
theorem dX3_readQuestion_107 : decode cX3_readQuestion 107 = .ok (.istore 5, 2) := by decide +kernel
theorem dX3_readQuestion_109 : decode cX3_readQuestion 109 = .ok (.iinc 7 1, 3) := by decide +kernel
theorem dX3_readQuestion_112 : decode cX3_readQuestion 112 = .ok (.goto (-74), 3) := by decide +kernel
theorem dX3_readQuestion_115 : decode cX3_readQuestion 115 = .ok (.iload 4, 2) := by decide +kernel
theorem dX3_readQuestion_117 : decode cX3_readQuestion 117 = .ok (.iconst 2, 1) := by decide +kernel
theorem dX3_readQuestion_118 : decode cX3_readQuestion 118 = .ok (.if_icmp .ne 15, 3) := by decide +kernel
theorem dX3_readQuestion_121 : decode cX3_readQuestion 121 = .ok (.aload_n 0, 1) := by decide +kernel
theorem dX3_readQuestion_122 : decode cX3_readQuestion 122 = .ok (.iload_n 1, 1) := by decide +kernel
theorem dX3_readQuestion_123 : decode cX3_readQuestion 123 = .ok (.iconst 1, 1) := by decide +kernel
theorem dX3_readQuestion_124 : decode cX3_readQuestion 124 = .ok (.iadd, 1) := by decide +kernel
theorem dX3_readQuestion_125 : decode cX3_readQuestion 125 = .ok (.bipush 8, 2) := by decide +kernel
theorem dX3_readQuestion_127 : decode cX3_readQuestion 127 = .ok (.iadd, 1) := by decide +kernel
theorem dX3_readQuestion_128 : decode cX3_readQuestion 128 = .ok (.invokestatic 32, 3) := by decide +kernel
theorem dX3_readQuestion_131 : decode cX3_readQuestion 131 = .ok (.istore 6, 2) := by decide +kernel
theorem dX3_readQuestion_133 : decode cX3_readQuestion 133 = .ok (.iload 4, 2) := by decide +kernel
theorem dX3_readQuestion_135 : decode cX3_readQuestion 135 = .ok (.iload 5, 2) := by decide +kernel
theorem dX3_readQuestion_137 : decode cX3_readQuestion 137 = .ok (.iload 6, 2) := by decide +kernel
theorem dX3_readQuestion_139 : decode cX3_readQuestion 139 = .ok (.invokestatic 67, 3) := by decide +kernel
theorem dX3_readQuestion_142 : decode cX3_readQuestion 142 = .ok (.ifCond .eq 5, 3) := by decide +kernel
theorem dX3_readQuestion_145 : decode cX3_readQuestion 145 = .ok (.iconst 0, 1) := by decide +kernel
theorem dX3_readQuestion_146 : decode cX3_readQuestion 146 = .ok (.ireturn, 1) := by decide +kernel
theorem dX3_readQuestion_147 : decode cX3_readQuestion 147 = .ok (.aload_n 2, 1) := by decide +kernel
theorem dX3_readQuestion_148 : decode cX3_readQuestion 148 = .ok (.iload 4, 2) := by decide +kernel
theorem dX3_readQuestion_150 : decode cX3_readQuestion 150 = .ok (.iload 5, 2) := by decide +kernel
theorem dX3_readQuestion_152 : decode cX3_readQuestion 152 = .ok (.iload 6, 2) := by decide +kernel
theorem dX3_readQuestion_154 : decode cX3_readQuestion 154 = .ok (.invokevirtual 73, 3) := by decide +kernel
theorem dX3_readQuestion_157 : decode cX3_readQuestion 157 = .ok (.iconst 1, 1) := by decide +kernel
theorem dX3_readQuestion_158 : decode cX3_readQuestion 158 = .ok (.ireturn, 1) := by decide +kernel
theorem dX3_digit_0 : decode cX3_digit 0 = .ok (.aload_n 0, 1) := by decide +kernel
theorem dX3_digit_1 : decode cX3_digit 1 = .ok (.iload_n 1, 1) := by decide +kernel
theorem dX3_digit_2 : decode cX3_digit 2 = .ok (.invokevirtual 25, 3) := by decide +kernel
theorem dX3_digit_5 : decode cX3_digit 5 = .ok (.bipush 48, 2) := by decide +kernel
theorem dX3_digit_7 : decode cX3_digit 7 = .ok (.isub, 1) := by decide +kernel
theorem dX3_digit_8 : decode cX3_digit 8 = .ok (.ireturn, 1) := by decide +kernel
theorem dX3_pair_0 : decode cX3_pair 0 = .ok (.bipush 10, 2) := by decide +kernel
theorem dX3_pair_2 : decode cX3_pair 2 = .ok (.aload_n 0, 1) := by decide +kernel
theorem dX3_pair_3 : decode cX3_pair 3 = .ok (.iload_n 1, 1) := by decide +kernel
theorem dX3_pair_4 : decode cX3_pair 4 = .ok (.invokestatic 32, 3) := by decide +kernel
theorem dX3_pair_7 : decode cX3_pair 7 = .ok (.imul, 1) := by decide +kernel
theorem dX3_pair_8 : decode cX3_pair 8 = .ok (.aload_n 0, 1) := by decide +kernel
theorem dX3_pair_9 : decode cX3_pair 9 = .ok (.iload_n 1, 1) := by decide +kernel
theorem dX3_pair_10 : decode cX3_pair 10 = .ok (.iconst 1, 1) := by decide +kernel
theorem dX3_pair_11 : decode cX3_pair 11 = .ok (.iadd, 1) := by decide +kernel
theorem dX3_pair_12 : decode cX3_pair 12 = .ok (.invokestatic 32, 3) := by decide +kernel
theorem dX3_pair_15 : decode cX3_pair 15 = .ok (.iadd, 1) := by decide +kernel
theorem dX3_pair_16 : decode cX3_pair 16 = .ok (.ireturn, 1) := by decide +kernel
theorem dX4_init_0 : decode cX4_init 0 = .ok (.aload_n 0, 1) := by decide +kernel
theorem dX4_init_1 : decode cX4_init 1 = .ok (.invokespecial 3, 3) := by decide +kernel
theorem dX4_init_4 : decode cX4_init 4 = .ok (.aload_n 0, 1) := by decide +kernel
theorem dX4_init_5 : decode cX4_init 5 = .ok (.bipush 10, 2) := by decide +kernel
theorem dX4_init_7 : decode cX4_init 7 = .ok (.bipush 10, 2) := by decide +kernel
theorem dX4_init_9 : decode cX4_init 9 = .ok (.multianewarray 9 2, 4) := by decide +kernel
theorem dX4_init_13 : decode cX4_init 13 = .ok (.putfield 11, 3) := by decide +kernel
theorem dX4_init_16 : decode cX4_init 16 = .ok (.aload_n 0, 1) := by decide +kernel
theorem dX4_init_17 : decode cX4_init 17 = .ok (.lconst 1, 1) := by decide +kernel
theorem dX4_init_18 : decode cX4_init 18 = .ok (.putfield 16, 3) := by decide +kernel
theorem dX4_init_21 : decode cX4_init 21 = .ok (.iconst 0, 1) := by decide +kernel
theorem dX4_init_22 : decode cX4_init 22 = .ok (.istore_n 1, 1) := by decide +kernel
theorem dX4_init_23 : decode cX4_init 23 = .ok (.iload_n 1, 1) := by decide +kernel
theorem dX4_init_24 : decode cX4_init 24 = .ok (.bipush 10, 2) := by decide +kernel
theorem dX4_init_26 : decode cX4_init 26 = .ok (.if_icmp .ge 18, 3) := by decide +kernel
theorem dX4_init_29 : decode cX4_init 29 = .ok (.aload_n 0, 1) := by decide +kernel
theorem dX4_init_30 : decode cX4_init 30 = .ok (.getfield 11, 3) := by decide +kernel
theorem dX4_init_33 : decode cX4_init 33 = .ok (.iload_n 1, 1) := by decide +kernel
theorem dX4_init_34 : decode cX4_init 34 = .ok (.aaload, 1) := by decide +kernel
theorem dX4_init_35 : decode cX4_init 35 = .ok (.iload_n 1, 1) := by decide +kernel
theorem dX4_init_36 : decode cX4_init 36 = .ok (.lconst 1, 1) := by decide +kernel
theorem dX4_init_37 : decode cX4_init 37 = .ok (.lastore, 1) := by decide +kernel
theorem dX4_init_38 : decode cX4_init 38 = .ok (.iinc 1 1, 3) := by decide +kernel
theorem dX4_init_41 : decode cX4_init 41 = .ok (.goto (-18), 3) := by decide +kernel
theorem dX4_init_44 : decode cX4_init 44 = .ok (.return_, 1) := by decide +kernel
theorem dX4_copyFrom_0 : decode cX4_copyFrom 0 = .ok (.iconst 0, 1) := by decide +kernel
theorem dX4_copyFrom_1 : decode cX4_copyFrom 1 = .ok (.istore_n 2, 1) := by decide +kernel
theorem dX4_copyFrom_2 : decode cX4_copyFrom 2 = .ok (.iload_n 2, 1) := by decide +kernel
theorem dX4_copyFrom_3 : decode cX4_copyFrom 3 = .ok (.bipush 10, 2) := by decide +kernel
theorem dX4_copyFrom_5 : decode cX4_copyFrom 5 = .ok (.if_icmp .ge 28, 3) := by decide +kernel
theorem dX4_copyFrom_8 : decode cX4_copyFrom 8 = .ok (.aload_n 1, 1) := by decide +kernel
theorem dX4_copyFrom_9 : decode cX4_copyFrom 9 = .ok (.getfield 11, 3) := by decide +kernel
theorem dX4_copyFrom_12 : decode cX4_copyFrom 12 = .ok (.iload_n 2, 1) := by decide +kernel
theorem dX4_copyFrom_13 : decode cX4_copyFrom 13 = .ok (.aaload, 1) := by decide +kernel
theorem dX4_copyFrom_14 : decode cX4_copyFrom 14 = .ok (.iconst 0, 1) := by decide +kernel
theorem dX4_copyFrom_15 : decode cX4_copyFrom 15 = .ok (.aload_n 0, 1) := by decide +kernel
theorem dX4_copyFrom_16 : decode cX4_copyFrom 16 = .ok (.getfield 11, 3) := by decide +kernel
theorem dX4_copyFrom_19 : decode cX4_copyFrom 19 = .ok (.iload_n 2, 1) := by decide +kernel
theorem dX4_copyFrom_20 : decode cX4_copyFrom 20 = .ok (.aaload, 1) := by decide +kernel
theorem dX4_copyFrom_21 : decode cX4_copyFrom 21 = .ok (.iconst 0, 1) := by decide +kernel
theorem dX4_copyFrom_22 : decode cX4_copyFrom 22 = .ok (.bipush 10, 2) := by decide +kernel
theorem dX4_copyFrom_24 : decode cX4_copyFrom 24 = .ok (.invokestatic 20, 3) := by decide +kernel
theorem dX4_copyFrom_27 : decode cX4_copyFrom 27 = .ok (.iinc 2 1, 3) := by decide +kernel
theorem dX4_copyFrom_30 : decode cX4_copyFrom 30 = .ok (.goto (-28), 3) := by decide +kernel
theorem dX4_copyFrom_33 : decode cX4_copyFrom 33 = .ok (.aload_n 0, 1) := by decide +kernel
theorem dX4_copyFrom_34 : decode cX4_copyFrom 34 = .ok (.aload_n 1, 1) := by decide +kernel
theorem dX4_copyFrom_35 : decode cX4_copyFrom 35 = .ok (.getfield 16, 3) := by decide +kernel
theorem dX4_copyFrom_38 : decode cX4_copyFrom 38 = .ok (.putfield 16, 3) := by decide +kernel
theorem dX4_copyFrom_41 : decode cX4_copyFrom 41 = .ok (.aload_n 0, 1) := by decide +kernel
theorem dX4_copyFrom_42 : decode cX4_copyFrom 42 = .ok (.aload_n 1, 1) := by decide +kernel
theorem dX4_copyFrom_43 : decode cX4_copyFrom 43 = .ok (.getfield 26, 3) := by decide +kernel
theorem dX4_copyFrom_46 : decode cX4_copyFrom 46 = .ok (.putfield 26, 3) := by decide +kernel
theorem dX4_copyFrom_49 : decode cX4_copyFrom 49 = .ok (.return_, 1) := by decide +kernel
theorem dX4_leave_0 : decode cX4_leave 0 = .ok (.iconst 0, 1) := by decide +kernel
theorem dX4_leave_1 : decode cX4_leave 1 = .ok (.istore_n 3, 1) := by decide +kernel
theorem dX4_leave_2 : decode cX4_leave 2 = .ok (.iload_n 3, 1) := by decide +kernel
theorem dX4_leave_3 : decode cX4_leave 3 = .ok (.bipush 10, 2) := by decide +kernel
theorem dX4_leave_5 : decode cX4_leave 5 = .ok (.if_icmp .ge 13, 3) := by decide +kernel
theorem dX4_leave_8 : decode cX4_leave 8 = .ok (.aload_n 2, 1) := by decide +kernel
theorem dX4_leave_9 : decode cX4_leave 9 = .ok (.iload_n 3, 1) := by decide +kernel
theorem dX4_leave_10 : decode cX4_leave 10 = .ok (.lconst 0, 1) := by decide +kernel
theorem dX4_leave_11 : decode cX4_leave 11 = .ok (.lastore, 1) := by decide +kernel
theorem dX4_leave_12 : decode cX4_leave 12 = .ok (.iinc 3 1, 3) := by decide +kernel
theorem dX4_leave_15 : decode cX4_leave 15 = .ok (.goto (-13), 3) := by decide +kernel
theorem dX4_leave_18 : decode cX4_leave 18 = .ok (.iconst 0, 1) := by decide +kernel
theorem dX4_leave_19 : decode cX4_leave 19 = .ok (.istore_n 3, 1) := by decide +kernel
theorem dX4_leave_20 : decode cX4_leave 20 = .ok (.iload_n 3, 1) := by decide +kernel
theorem dX4_leave_21 : decode cX4_leave 21 = .ok (.bipush 10, 2) := by decide +kernel
theorem dX4_leave_23 : decode cX4_leave 23 = .ok (.if_icmp .ge 58, 3) := by decide +kernel
theorem dX4_leave_26 : decode cX4_leave 26 = .ok (.aload_n 1, 1) := by decide +kernel
theorem dX4_leave_27 : decode cX4_leave 27 = .ok (.iload_n 3, 1) := by decide +kernel
theorem dX4_leave_28 : decode cX4_leave 28 = .ok (.iaload, 1) := by decide +kernel
theorem dX4_leave_29 : decode cX4_leave 29 = .ok (.istore 4, 2) := by decide +kernel
theorem dX4_leave_31 : decode cX4_leave 31 = .ok (.iload 4, 2) := by decide +kernel
theorem dX4_leave_33 : decode cX4_leave 33 = .ok (.ifCond .ne 6, 3) := by decide +kernel
theorem dX4_leave_36 : decode cX4_leave 36 = .ok (.goto 39, 3) := by decide +kernel
theorem dX4_leave_39 : decode cX4_leave 39 = .ok (.iconst 0, 1) := by decide +kernel
theorem dX4_leave_40 : decode cX4_leave 40 = .ok (.istore 5, 2) := by decide +kernel
theorem dX4_leave_42 : decode cX4_leave 42 = .ok (.iload 5, 2) := by decide +kernel
theorem dX4_leave_44 : decode cX4_leave 44 = .ok (.bipush 10, 2) := by decide +kernel
theorem dX4_leave_46 : decode cX4_leave 46 = .ok (.if_icmp .ge 29, 3) := by decide +kernel
theorem dX4_leave_49 : decode cX4_leave 49 = .ok (.aload_n 2, 1) := by decide +kernel
theorem dX4_leave_50 : decode cX4_leave 50 = .ok (.iload 5, 2) := by decide +kernel
theorem dX4_leave_52 : decode cX4_leave 52 = .ok (.dup2, 1) := by decide +kernel
theorem dX4_leave_53 : decode cX4_leave 53 = .ok (.laload, 1) := by decide +kernel
theorem dX4_leave_54 : decode cX4_leave 54 = .ok (.iload 4, 2) := by decide +kernel
theorem dX4_leave_56 : decode cX4_leave 56 = .ok (.i2l, 1) := by decide +kernel
theorem dX4_leave_57 : decode cX4_leave 57 = .ok (.aload_n 0, 1) := by decide +kernel
theorem dX4_leave_58 : decode cX4_leave 58 = .ok (.getfield 11, 3) := by decide +kernel
theorem dX4_leave_61 : decode cX4_leave 61 = .ok (.iload_n 3, 1) := by decide +kernel
theorem dX4_leave_62 : decode cX4_leave 62 = .ok (.aaload, 1) := by decide +kernel
theorem dX4_leave_63 : decode cX4_leave 63 = .ok (.iload 5, 2) := by decide +kernel
theorem dX4_leave_65 : decode cX4_leave 65 = .ok (.laload, 1) := by decide +kernel
theorem dX4_leave_66 : decode cX4_leave 66 = .ok (.lmul, 1) := by decide +kernel
theorem dX4_leave_67 : decode cX4_leave 67 = .ok (.ladd, 1) := by decide +kernel
theorem dX4_leave_68 : decode cX4_leave 68 = .ok (.lastore, 1) := by decide +kernel
theorem dX4_leave_69 : decode cX4_leave 69 = .ok (.iinc 5 1, 3) := by decide +kernel
theorem dX4_leave_72 : decode cX4_leave 72 = .ok (.goto (-30), 3) := by decide +kernel
theorem dX4_leave_75 : decode cX4_leave 75 = .ok (.iinc 3 1, 3) := by decide +kernel
theorem dX4_leave_78 : decode cX4_leave 78 = .ok (.goto (-58), 3) := by decide +kernel
theorem dX4_leave_81 : decode cX4_leave 81 = .ok (.return_, 1) := by decide +kernel
theorem dX4_join_0 : decode cX4_join 0 = .ok (.aload_n 1, 1) := by decide +kernel
theorem dX4_join_1 : decode cX4_join 1 = .ok (.invokestatic 30, 3) := by decide +kernel
theorem dX4_join_4 : decode cX4_join 4 = .ok (.istore_n 2, 1) := by decide +kernel
theorem dX4_join_5 : decode cX4_join 5 = .ok (.iload_n 2, 1) := by decide +kernel
theorem dX4_join_6 : decode cX4_join 6 = .ok (.bipush 10, 2) := by decide +kernel
theorem dX4_join_8 : decode cX4_join 8 = .ok (.invokestatic 34, 3) := by decide +kernel
theorem dX4_join_11 : decode cX4_join 11 = .ok (.ifCond .eq 12, 3) := by decide +kernel
theorem dX4_join_14 : decode cX4_join 14 = .ok (.aload_n 0, 1) := by decide +kernel
theorem dX4_join_15 : decode cX4_join 15 = .ok (.getfield 16, 3) := by decide +kernel
theorem dX4_join_18 : decode cX4_join 18 = .ok (.lconst 0, 1) := by decide +kernel
theorem dX4_join_19 : decode cX4_join 19 = .ok (.lcmp, 1) := by decide +kernel
theorem dX4_join_20 : decode cX4_join 20 = .ok (.ifCond .ne 4, 3) := by decide +kernel
theorem dX4_join_23 : decode cX4_join 23 = .ok (.return_, 1) := by decide +kernel
theorem dX4_join_24 : decode cX4_join 24 = .ok (.aload_n 1, 1) := by decide +kernel
theorem dX4_join_25 : decode cX4_join 25 = .ok (.iload_n 2, 1) := by decide +kernel
theorem dX4_join_26 : decode cX4_join 26 = .ok (.laload, 1) := by decide +kernel
theorem dX4_join_27 : decode cX4_join 27 = .ok (.lstore_n 3, 1) := by decide +kernel
theorem dX4_join_28 : decode cX4_join 28 = .ok (.iconst 0, 1) := by decide +kernel
theorem dX4_join_29 : decode cX4_join 29 = .ok (.istore 5, 2) := by decide +kernel
theorem dX4_join_31 : decode cX4_join 31 = .ok (.iload 5, 2) := by decide +kernel
theorem dX4_join_33 : decode cX4_join 33 = .ok (.bipush 10, 2) := by decide +kernel
theorem dX4_join_35 : decode cX4_join 35 = .ok (.if_icmp .ge 71, 3) := by decide +kernel
theorem dX4_join_38 : decode cX4_join 38 = .ok (.aload_n 0, 1) := by decide +kernel
theorem dX4_join_39 : decode cX4_join 39 = .ok (.getfield 11, 3) := by decide +kernel
theorem dX4_join_42 : decode cX4_join 42 = .ok (.iload 5, 2) := by decide +kernel
theorem dX4_join_44 : decode cX4_join 44 = .ok (.aaload, 1) := by decide +kernel
theorem dX4_join_45 : decode cX4_join 45 = .ok (.iload_n 2, 1) := by decide +kernel
theorem dX4_join_46 : decode cX4_join 46 = .ok (.laload, 1) := by decide +kernel
theorem dX4_join_47 : decode cX4_join 47 = .ok (.lstore 6, 2) := by decide +kernel
theorem dX4_join_49 : decode cX4_join 49 = .ok (.iconst 0, 1) := by decide +kernel
theorem dX4_join_50 : decode cX4_join 50 = .ok (.istore 8, 2) := by decide +kernel
theorem dX4_join_52 : decode cX4_join 52 = .ok (.iload 8, 2) := by decide +kernel
theorem dX4_join_54 : decode cX4_join 54 = .ok (.bipush 10, 2) := by decide +kernel
theorem dX4_join_56 : decode cX4_join 56 = .ok (.if_icmp .ge 44, 3) := by decide +kernel
theorem dX4_join_59 : decode cX4_join 59 = .ok (.aload_n 0, 1) := by decide +kernel
theorem dX4_join_60 : decode cX4_join 60 = .ok (.getfield 11, 3) := by decide +kernel
theorem dX4_join_63 : decode cX4_join 63 = .ok (.iload 5, 2) := by decide +kernel
theorem dX4_join_65 : decode cX4_join 65 = .ok (.aaload, 1) := by decide +kernel
theorem dX4_join_66 : decode cX4_join 66 = .ok (.iload 8, 2) := by decide +kernel
theorem dX4_join_68 : decode cX4_join 68 = .ok (.aload_n 0, 1) := by decide +kernel
theorem dX4_join_69 : decode cX4_join 69 = .ok (.getfield 11, 3) := by decide +kernel
theorem dX4_join_72 : decode cX4_join 72 = .ok (.iload 5, 2) := by decide +kernel
theorem dX4_join_74 : decode cX4_join 74 = .ok (.aaload, 1) := by decide +kernel
theorem dX4_join_75 : decode cX4_join 75 = .ok (.iload 8, 2) := by decide +kernel
theorem dX4_join_77 : decode cX4_join 77 = .ok (.laload, 1) := by decide +kernel
theorem dX4_join_78 : decode cX4_join 78 = .ok (.lload_n 3, 1) := by decide +kernel
theorem dX4_join_79 : decode cX4_join 79 = .ok (.lmul, 1) := by decide +kernel
theorem dX4_join_80 : decode cX4_join 80 = .ok (.lload 6, 2) := by decide +kernel
theorem dX4_join_82 : decode cX4_join 82 = .ok (.aload_n 1, 1) := by decide +kernel
theorem dX4_join_83 : decode cX4_join 83 = .ok (.iload 8, 2) := by decide +kernel
theorem dX4_join_85 : decode cX4_join 85 = .ok (.laload, 1) := by decide +kernel
theorem dX4_join_86 : decode cX4_join 86 = .ok (.lmul, 1) := by decide +kernel
theorem dX4_join_87 : decode cX4_join 87 = .ok (.lsub, 1) := by decide +kernel
theorem dX4_join_88 : decode cX4_join 88 = .ok (.aload_n 0, 1) := by decide +kernel
theorem dX4_join_89 : decode cX4_join 89 = .ok (.getfield 16, 3) := by decide +kernel
theorem dX4_join_92 : decode cX4_join 92 = .ok (.ldiv, 1) := by decide +kernel
theorem dX4_join_93 : decode cX4_join 93 = .ok (.lastore, 1) := by decide +kernel
theorem dX4_join_94 : decode cX4_join 94 = .ok (.iinc 8 1, 3) := by decide +kernel
theorem dX4_join_97 : decode cX4_join 97 = .ok (.goto (-45), 3) := by decide +kernel
theorem dX4_join_100 : decode cX4_join 100 = .ok (.iinc 5 1, 3) := by decide +kernel
theorem dX4_join_103 : decode cX4_join 103 = .ok (.goto (-72), 3) := by decide +kernel
theorem dX4_join_106 : decode cX4_join 106 = .ok (.aload_n 0, 1) := by decide +kernel
theorem dX4_join_107 : decode cX4_join 107 = .ok (.lload_n 3, 1) := by decide +kernel
theorem dX4_join_108 : decode cX4_join 108 = .ok (.putfield 16, 3) := by decide +kernel
theorem dX4_join_111 : decode cX4_join 111 = .ok (.aload_n 0, 1) := by decide +kernel
theorem dX4_join_112 : decode cX4_join 112 = .ok (.dup, 1) := by decide +kernel
theorem dX4_join_113 : decode cX4_join 113 = .ok (.getfield 26, 3) := by decide +kernel
theorem dX4_join_116 : decode cX4_join 116 = .ok (.iconst 1, 1) := by decide +kernel
theorem dX4_join_117 : decode cX4_join 117 = .ok (.iload_n 2, 1) := by decide +kernel
theorem dX4_join_118 : decode cX4_join 118 = .ok (.ishl, 1) := by decide +kernel
theorem dX4_join_119 : decode cX4_join 119 = .ok (.ior, 1) := by decide +kernel
theorem dX4_join_120 : decode cX4_join 120 = .ok (.putfield 26, 3) := by decide +kernel
theorem dX4_join_123 : decode cX4_join 123 = .ok (.return_, 1) := by decide +kernel
theorem dX4_fixedBitsWith_0 : decode cX4_fixedBitsWith 0 = .ok (.iconst 0, 1) := by decide +kernel
theorem dX4_fixedBitsWith_1 : decode cX4_fixedBitsWith 1 = .ok (.istore_n 2, 1) := by decide +kernel
theorem dX4_fixedBitsWith_2 : decode cX4_fixedBitsWith 2 = .ok (.iconst 0, 1) := by decide +kernel
theorem dX4_fixedBitsWith_3 : decode cX4_fixedBitsWith 3 = .ok (.istore_n 3, 1) := by decide +kernel
theorem dX4_fixedBitsWith_4 : decode cX4_fixedBitsWith 4 = .ok (.iload_n 3, 1) := by decide +kernel
theorem dX4_fixedBitsWith_5 : decode cX4_fixedBitsWith 5 = .ok (.bipush 10, 2) := by decide +kernel
theorem dX4_fixedBitsWith_7 : decode cX4_fixedBitsWith 7 = .ok (.if_icmp .ge 46, 3) := by decide +kernel
theorem dX4_fixedBitsWith_10 : decode cX4_fixedBitsWith 10 = .ok (.aload_n 0, 1) := by decide +kernel
theorem dX4_fixedBitsWith_11 : decode cX4_fixedBitsWith 11 = .ok (.getfield 11, 3) := by decide +kernel
theorem dX4_fixedBitsWith_14 : decode cX4_fixedBitsWith 14 = .ok (.iload_n 3, 1) := by decide +kernel
theorem dX4_fixedBitsWith_15 : decode cX4_fixedBitsWith 15 = .ok (.aaload, 1) := by decide +kernel
theorem dX4_fixedBitsWith_16 : decode cX4_fixedBitsWith 16 = .ok (.invokestatic 30, 3) := by decide +kernel
theorem dX4_fixedBitsWith_19 : decode cX4_fixedBitsWith 19 = .ok (.istore 4, 2) := by decide +kernel
theorem dX4_fixedBitsWith_21 : decode cX4_fixedBitsWith 21 = .ok (.iload 4, 2) := by decide +kernel
theorem dX4_fixedBitsWith_23 : decode cX4_fixedBitsWith 23 = .ok (.ifCond .lt 18, 3) := by decide +kernel
theorem dX4_fixedBitsWith_26 : decode cX4_fixedBitsWith 26 = .ok (.aload_n 0, 1) := by decide +kernel
theorem dX4_fixedBitsWith_27 : decode cX4_fixedBitsWith 27 = .ok (.getfield 11, 3) := by decide +kernel
theorem dX4_fixedBitsWith_30 : decode cX4_fixedBitsWith 30 = .ok (.iload_n 3, 1) := by decide +kernel
theorem dX4_fixedBitsWith_31 : decode cX4_fixedBitsWith 31 = .ok (.aaload, 1) := by decide +kernel
theorem dX4_fixedBitsWith_32 : decode cX4_fixedBitsWith 32 = .ok (.aload_n 1, 1) := by decide +kernel
theorem dX4_fixedBitsWith_33 : decode cX4_fixedBitsWith 33 = .ok (.iload 4, 2) := by decide +kernel
theorem dX4_fixedBitsWith_35 : decode cX4_fixedBitsWith 35 = .ok (.invokestatic 38, 3) := by decide +kernel
theorem dX4_fixedBitsWith_38 : decode cX4_fixedBitsWith 38 = .ok (.ifCond .eq 9, 3) := by decide +kernel
theorem dX4_fixedBitsWith_41 : decode cX4_fixedBitsWith 41 = .ok (.iload_n 2, 1) := by decide +kernel
theorem dX4_fixedBitsWith_42 : decode cX4_fixedBitsWith 42 = .ok (.iconst 1, 1) := by decide +kernel
theorem dX4_fixedBitsWith_43 : decode cX4_fixedBitsWith 43 = .ok (.iload_n 3, 1) := by decide +kernel
theorem dX4_fixedBitsWith_44 : decode cX4_fixedBitsWith 44 = .ok (.ishl, 1) := by decide +kernel
theorem dX4_fixedBitsWith_45 : decode cX4_fixedBitsWith 45 = .ok (.ior, 1) := by decide +kernel
theorem dX4_fixedBitsWith_46 : decode cX4_fixedBitsWith 46 = .ok (.istore_n 2, 1) := by decide +kernel
theorem dX4_fixedBitsWith_47 : decode cX4_fixedBitsWith 47 = .ok (.iinc 3 1, 3) := by decide +kernel
theorem dX4_fixedBitsWith_50 : decode cX4_fixedBitsWith 50 = .ok (.goto (-46), 3) := by decide +kernel
theorem dX4_fixedBitsWith_53 : decode cX4_fixedBitsWith 53 = .ok (.iload_n 2, 1) := by decide +kernel
theorem dX4_fixedBitsWith_54 : decode cX4_fixedBitsWith 54 = .ok (.ireturn, 1) := by decide +kernel
theorem dX4_hasPair_0 : decode cX4_hasPair 0 = .ok (.iconst 0, 1) := by decide +kernel
theorem dX4_hasPair_1 : decode cX4_hasPair 1 = .ok (.istore_n 1, 1) := by decide +kernel
theorem dX4_hasPair_2 : decode cX4_hasPair 2 = .ok (.iload_n 1, 1) := by decide +kernel
theorem dX4_hasPair_3 : decode cX4_hasPair 3 = .ok (.bipush 10, 2) := by decide +kernel
theorem dX4_hasPair_5 : decode cX4_hasPair 5 = .ok (.if_icmp .ge 56, 3) := by decide +kernel
theorem dX4_hasPair_8 : decode cX4_hasPair 8 = .ok (.aload_n 0, 1) := by decide +kernel
theorem dX4_hasPair_9 : decode cX4_hasPair 9 = .ok (.getfield 11, 3) := by decide +kernel
theorem dX4_hasPair_12 : decode cX4_hasPair 12 = .ok (.iload_n 1, 1) := by decide +kernel
theorem dX4_hasPair_13 : decode cX4_hasPair 13 = .ok (.aaload, 1) := by decide +kernel
theorem dX4_hasPair_14 : decode cX4_hasPair 14 = .ok (.invokestatic 30, 3) := by decide +kernel
theorem dX4_hasPair_17 : decode cX4_hasPair 17 = .ok (.istore_n 2, 1) := by decide +kernel
theorem dX4_hasPair_18 : decode cX4_hasPair 18 = .ok (.iload_n 1, 1) := by decide +kernel
theorem dX4_hasPair_19 : decode cX4_hasPair 19 = .ok (.iconst 1, 1) := by decide +kernel
theorem dX4_hasPair_20 : decode cX4_hasPair 20 = .ok (.iadd, 1) := by decide +kernel
theorem dX4_hasPair_21 : decode cX4_hasPair 21 = .ok (.istore_n 3, 1) := by decide +kernel
theorem dX4_hasPair_22 : decode cX4_hasPair 22 = .ok (.iload_n 3, 1) := by decide +kernel
theorem dX4_hasPair_23 : decode cX4_hasPair 23 = .ok (.bipush 10, 2) := by decide +kernel
theorem dX4_hasPair_25 : decode cX4_hasPair 25 = .ok (.if_icmp .ge 30, 3) := by decide +kernel
theorem dX4_hasPair_28 : decode cX4_hasPair 28 = .ok (.aload_n 0, 1) := by decide +kernel
theorem dX4_hasPair_29 : decode cX4_hasPair 29 = .ok (.getfield 11, 3) := by decide +kernel
theorem dX4_hasPair_32 : decode cX4_hasPair 32 = .ok (.iload_n 1, 1) := by decide +kernel
theorem dX4_hasPair_33 : decode cX4_hasPair 33 = .ok (.aaload, 1) := by decide +kernel
theorem dX4_hasPair_34 : decode cX4_hasPair 34 = .ok (.aload_n 0, 1) := by decide +kernel
theorem dX4_hasPair_35 : decode cX4_hasPair 35 = .ok (.getfield 11, 3) := by decide +kernel
theorem dX4_hasPair_38 : decode cX4_hasPair 38 = .ok (.iload_n 3, 1) := by decide +kernel
theorem dX4_hasPair_39 : decode cX4_hasPair 39 = .ok (.aaload, 1) := by decide +kernel
theorem dX4_hasPair_40 : decode cX4_hasPair 40 = .ok (.iload_n 2, 1) := by decide +kernel
theorem dX4_hasPair_41 : decode cX4_hasPair 41 = .ok (.invokestatic 38, 3) := by decide +kernel
theorem dX4_hasPair_44 : decode cX4_hasPair 44 = .ok (.ifCond .eq 5, 3) := by decide +kernel
theorem dX4_hasPair_47 : decode cX4_hasPair 47 = .ok (.iconst 1, 1) := by decide +kernel
theorem dX4_hasPair_48 : decode cX4_hasPair 48 = .ok (.ireturn, 1) := by decide +kernel
theorem dX4_hasPair_49 : decode cX4_hasPair 49 = .ok (.iinc 3 1, 3) := by decide +kernel
theorem dX4_hasPair_52 : decode cX4_hasPair 52 = .ok (.goto (-30), 3) := by decide +kernel
theorem dX4_hasPair_55 : decode cX4_hasPair 55 = .ok (.iinc 1 1, 3) := by decide +kernel
theorem dX4_hasPair_58 : decode cX4_hasPair 58 = .ok (.goto (-56), 3) := by decide +kernel
theorem dX4_hasPair_61 : decode cX4_hasPair 61 = .ok (.iconst 0, 1) := by decide +kernel
theorem dX4_hasPair_62 : decode cX4_hasPair 62 = .ok (.ireturn, 1) := by decide +kernel
theorem dX4_reducedPart_0 : decode cX4_reducedPart 0 = .ok (.aload_n 0, 1) := by decide +kernel
theorem dX4_reducedPart_1 : decode cX4_reducedPart 1 = .ok (.iload_n 1, 1) := by decide +kernel
theorem dX4_reducedPart_2 : decode cX4_reducedPart 2 = .ok (.invokevirtual 42, 3) := by decide +kernel
theorem dX4_reducedPart_5 : decode cX4_reducedPart 5 = .ok (.istore 4, 2) := by decide +kernel
theorem dX4_reducedPart_7 : decode cX4_reducedPart 7 = .ok (.iload 4, 2) := by decide +kernel
theorem dX4_reducedPart_9 : decode cX4_reducedPart 9 = .ok (.bipush 10, 2) := by decide +kernel
theorem dX4_reducedPart_11 : decode cX4_reducedPart 11 = .ok (.invokestatic 34, 3) := by decide +kernel
theorem dX4_reducedPart_14 : decode cX4_reducedPart 14 = .ok (.ifCond .eq 12, 3) := by decide +kernel
theorem dX4_reducedPart_17 : decode cX4_reducedPart 17 = .ok (.iload_n 2, 1) := by decide +kernel
theorem dX4_reducedPart_18 : decode cX4_reducedPart 18 = .ok (.bipush 10, 2) := by decide +kernel
theorem dX4_reducedPart_20 : decode cX4_reducedPart 20 = .ok (.invokestatic 34, 3) := by decide +kernel
theorem dX4_reducedPart_23 : decode cX4_reducedPart 23 = .ok (.ifCond .ne 5, 3) := by decide +kernel
theorem dX4_reducedPart_26 : decode cX4_reducedPart 26 = .ok (.lconst 0, 1) := by decide +kernel
theorem dX4_reducedPart_27 : decode cX4_reducedPart 27 = .ok (.lreturn, 1) := by decide +kernel
theorem dX4_reducedPart_28 : decode cX4_reducedPart 28 = .ok (.aload_n 0, 1) := by decide +kernel
theorem dX4_reducedPart_29 : decode cX4_reducedPart 29 = .ok (.getfield 26, 3) := by decide +kernel
theorem dX4_reducedPart_32 : decode cX4_reducedPart 32 = .ok (.iload_n 2, 1) := by decide +kernel
theorem dX4_reducedPart_33 : decode cX4_reducedPart 33 = .ok (.ishr, 1) := by decide +kernel
theorem dX4_reducedPart_34 : decode cX4_reducedPart 34 = .ok (.iconst 1, 1) := by decide +kernel
theorem dX4_reducedPart_35 : decode cX4_reducedPart 35 = .ok (.iand, 1) := by decide +kernel
theorem dX4_reducedPart_36 : decode cX4_reducedPart 36 = .ok (.iconst 1, 1) := by decide +kernel
theorem dX4_reducedPart_37 : decode cX4_reducedPart 37 = .ok (.if_icmp .ne 24, 3) := by decide +kernel
theorem dX4_reducedPart_40 : decode cX4_reducedPart 40 = .ok (.iload_n 2, 1) := by decide +kernel
theorem dX4_reducedPart_41 : decode cX4_reducedPart 41 = .ok (.iload 4, 2) := by decide +kernel
theorem dX4_reducedPart_43 : decode cX4_reducedPart 43 = .ok (.if_icmp .ne 7, 3) := by decide +kernel
theorem dX4_reducedPart_46 : decode cX4_reducedPart 46 = .ok (.iconst 1, 1) := by decide +kernel
theorem dX4_reducedPart_47 : decode cX4_reducedPart 47 = .ok (.goto 4, 3) := by decide +kernel
theorem dX4_reducedPart_50 : decode cX4_reducedPart 50 = .ok (.iconst 0, 1) := by decide +kernel
theorem dX4_reducedPart_51 : decode cX4_reducedPart 51 = .ok (.invokestatic 46, 3) := by decide +kernel
theorem dX4_reducedPart_54 : decode cX4_reducedPart 54 = .ok (.i2l, 1) := by decide +kernel
theorem dX4_reducedPart_55 : decode cX4_reducedPart 55 = .ok (.lconst 1, 1) := by decide +kernel
theorem dX4_reducedPart_56 : decode cX4_reducedPart 56 = .ok (.iload_n 3, 1) := by decide +kernel
theorem dX4_reducedPart_57 : decode cX4_reducedPart 57 = .ok (.invokestatic 50, 3) := by decide +kernel
theorem dX4_reducedPart_60 : decode cX4_reducedPart 60 = .ok (.lreturn, 1) := by decide +kernel
theorem dX4_reducedPart_61 : decode cX4_reducedPart 61 = .ok (.aload_n 0, 1) := by decide +kernel
theorem dX4_reducedPart_62 : decode cX4_reducedPart 62 = .ok (.getfield 11, 3) := by decide +kernel
theorem dX4_reducedPart_65 : decode cX4_reducedPart 65 = .ok (.iload 4, 2) := by decide +kernel
theorem dX4_reducedPart_67 : decode cX4_reducedPart 67 = .ok (.aaload, 1) := by decide +kernel
theorem dX4_reducedPart_68 : decode cX4_reducedPart 68 = .ok (.iload_n 2, 1) := by decide +kernel
theorem dX4_reducedPart_69 : decode cX4_reducedPart 69 = .ok (.laload, 1) := by decide +kernel
theorem dX4_reducedPart_70 : decode cX4_reducedPart 70 = .ok (.lneg, 1) := by decide +kernel
theorem dX4_reducedPart_71 : decode cX4_reducedPart 71 = .ok (.aload_n 0, 1) := by decide +kernel
theorem dX4_reducedPart_72 : decode cX4_reducedPart 72 = .ok (.getfield 16, 3) := by decide +kernel
theorem dX4_reducedPart_75 : decode cX4_reducedPart 75 = .ok (.iload_n 3, 1) := by decide +kernel
theorem dX4_reducedPart_76 : decode cX4_reducedPart 76 = .ok (.invokestatic 50, 3) := by decide +kernel
theorem dX4_reducedPart_79 : decode cX4_reducedPart 79 = .ok (.lreturn, 1) := by decide +kernel
theorem dX4_pivotOf_0 : decode cX4_pivotOf 0 = .ok (.iconst 0, 1) := by decide +kernel
theorem dX4_pivotOf_1 : decode cX4_pivotOf 1 = .ok (.istore_n 2, 1) := by decide +kernel
theorem dX4_pivotOf_2 : decode cX4_pivotOf 2 = .ok (.iconst 0, 1) := by decide +kernel
theorem dX4_pivotOf_3 : decode cX4_pivotOf 3 = .ok (.istore_n 3, 1) := by decide +kernel
theorem dX4_pivotOf_4 : decode cX4_pivotOf 4 = .ok (.iload_n 3, 1) := by decide +kernel
theorem dX4_pivotOf_5 : decode cX4_pivotOf 5 = .ok (.bipush 10, 2) := by decide +kernel
theorem dX4_pivotOf_7 : decode cX4_pivotOf 7 = .ok (.if_icmp .ge 31, 3) := by decide +kernel
theorem dX4_pivotOf_10 : decode cX4_pivotOf 10 = .ok (.aload_n 0, 1) := by decide +kernel
theorem dX4_pivotOf_11 : decode cX4_pivotOf 11 = .ok (.getfield 26, 3) := by decide +kernel
theorem dX4_pivotOf_14 : decode cX4_pivotOf 14 = .ok (.iload_n 3, 1) := by decide +kernel
theorem dX4_pivotOf_15 : decode cX4_pivotOf 15 = .ok (.ishr, 1) := by decide +kernel
theorem dX4_pivotOf_16 : decode cX4_pivotOf 16 = .ok (.iconst 1, 1) := by decide +kernel
theorem dX4_pivotOf_17 : decode cX4_pivotOf 17 = .ok (.iand, 1) := by decide +kernel
theorem dX4_pivotOf_18 : decode cX4_pivotOf 18 = .ok (.iconst 1, 1) := by decide +kernel
theorem dX4_pivotOf_19 : decode cX4_pivotOf 19 = .ok (.if_icmp .ne 13, 3) := by decide +kernel
theorem dX4_pivotOf_22 : decode cX4_pivotOf 22 = .ok (.iload_n 2, 1) := by decide +kernel
theorem dX4_pivotOf_23 : decode cX4_pivotOf 23 = .ok (.iload_n 1, 1) := by decide +kernel
theorem dX4_pivotOf_24 : decode cX4_pivotOf 24 = .ok (.if_icmp .ne 5, 3) := by decide +kernel
theorem dX4_pivotOf_27 : decode cX4_pivotOf 27 = .ok (.iload_n 3, 1) := by decide +kernel
theorem dX4_pivotOf_28 : decode cX4_pivotOf 28 = .ok (.ireturn, 1) := by decide +kernel
theorem dX4_pivotOf_29 : decode cX4_pivotOf 29 = .ok (.iinc 2 1, 3) := by decide +kernel
theorem dX4_pivotOf_32 : decode cX4_pivotOf 32 = .ok (.iinc 3 1, 3) := by decide +kernel
theorem dX4_pivotOf_35 : decode cX4_pivotOf 35 = .ok (.goto (-31), 3) := by decide +kernel
theorem dX4_pivotOf_38 : decode cX4_pivotOf 38 = .ok (.bipush (-9), 2) := by decide +kernel
theorem dX4_pivotOf_40 : decode cX4_pivotOf 40 = .ok (.ireturn, 1) := by decide +kernel
theorem dX4_firstIn_0 : decode cX4_firstIn 0 = .ok (.iconst 0, 1) := by decide +kernel
theorem dX4_firstIn_1 : decode cX4_firstIn 1 = .ok (.istore_n 1, 1) := by decide +kernel
theorem dX4_firstIn_2 : decode cX4_firstIn 2 = .ok (.iload_n 1, 1) := by decide +kernel
theorem dX4_firstIn_3 : decode cX4_firstIn 3 = .ok (.bipush 10, 2) := by decide +kernel
theorem dX4_firstIn_5 : decode cX4_firstIn 5 = .ok (.if_icmp .ge 19, 3) := by decide +kernel
theorem dX4_firstIn_8 : decode cX4_firstIn 8 = .ok (.aload_n 0, 1) := by decide +kernel
theorem dX4_firstIn_9 : decode cX4_firstIn 9 = .ok (.iload_n 1, 1) := by decide +kernel
theorem dX4_firstIn_10 : decode cX4_firstIn 10 = .ok (.laload, 1) := by decide +kernel
theorem dX4_firstIn_11 : decode cX4_firstIn 11 = .ok (.lconst 0, 1) := by decide +kernel
theorem dX4_firstIn_12 : decode cX4_firstIn 12 = .ok (.lcmp, 1) := by decide +kernel
theorem dX4_firstIn_13 : decode cX4_firstIn 13 = .ok (.ifCond .eq 5, 3) := by decide +kernel
theorem dX4_firstIn_16 : decode cX4_firstIn 16 = .ok (.iload_n 1, 1) := by decide +kernel
theorem dX4_firstIn_17 : decode cX4_firstIn 17 = .ok (.ireturn, 1) := by decide +kernel
theorem dX4_firstIn_18 : decode cX4_firstIn 18 = .ok (.iinc 1 1, 3) := by decide +kernel
theorem dX4_firstIn_21 : decode cX4_firstIn 21 = .ok (.goto (-19), 3) := by decide +kernel
theorem dX4_firstIn_24 : decode cX4_firstIn 24 = .ok (.bipush (-9), 2) := by decide +kernel
theorem dX4_firstIn_26 : decode cX4_firstIn 26 = .ok (.ireturn, 1) := by decide +kernel
theorem dX4_isOneLine_0 : decode cX4_isOneLine 0 = .ok (.iload_n 2, 1) := by decide +kernel
theorem dX4_isOneLine_1 : decode cX4_isOneLine 1 = .ok (.ifCond .lt 17, 3) := by decide +kernel
theorem dX4_isOneLine_4 : decode cX4_isOneLine 4 = .ok (.iload_n 2, 1) := by decide +kernel
theorem dX4_isOneLine_5 : decode cX4_isOneLine 5 = .ok (.bipush 10, 2) := by decide +kernel
theorem dX4_isOneLine_7 : decode cX4_isOneLine 7 = .ok (.if_icmp .ge 11, 3) := by decide +kernel
theorem dX4_isOneLine_10 : decode cX4_isOneLine 10 = .ok (.aload_n 1, 1) := by decide +kernel
theorem dX4_isOneLine_11 : decode cX4_isOneLine 11 = .ok (.iload_n 2, 1) := by decide +kernel
theorem dX4_isOneLine_12 : decode cX4_isOneLine 12 = .ok (.laload, 1) := by decide +kernel
theorem dX4_isOneLine_13 : decode cX4_isOneLine 13 = .ok (.lconst 0, 1) := by decide +kernel
theorem dX4_isOneLine_14 : decode cX4_isOneLine 14 = .ok (.lcmp, 1) := by decide +kernel
theorem dX4_isOneLine_15 : decode cX4_isOneLine 15 = .ok (.ifCond .ne 5, 3) := by decide +kernel
theorem dX4_isOneLine_18 : decode cX4_isOneLine 18 = .ok (.iconst 0, 1) := by decide +kernel
theorem dX4_isOneLine_19 : decode cX4_isOneLine 19 = .ok (.ireturn, 1) := by decide +kernel
theorem dX4_isOneLine_20 : decode cX4_isOneLine 20 = .ok (.iconst 0, 1) := by decide +kernel
theorem dX4_isOneLine_21 : decode cX4_isOneLine 21 = .ok (.istore_n 3, 1) := by decide +kernel
theorem dX4_isOneLine_22 : decode cX4_isOneLine 22 = .ok (.iload_n 3, 1) := by decide +kernel
theorem dX4_isOneLine_23 : decode cX4_isOneLine 23 = .ok (.bipush 10, 2) := by decide +kernel
theorem dX4_isOneLine_25 : decode cX4_isOneLine 25 = .ok (.if_icmp .ge 29, 3) := by decide +kernel
theorem dX4_isOneLine_28 : decode cX4_isOneLine 28 = .ok (.aload_n 0, 1) := by decide +kernel
theorem dX4_isOneLine_29 : decode cX4_isOneLine 29 = .ok (.iload_n 3, 1) := by decide +kernel
theorem dX4_isOneLine_30 : decode cX4_isOneLine 30 = .ok (.laload, 1) := by decide +kernel
theorem dX4_isOneLine_31 : decode cX4_isOneLine 31 = .ok (.aload_n 1, 1) := by decide +kernel
theorem dX4_isOneLine_32 : decode cX4_isOneLine 32 = .ok (.iload_n 2, 1) := by decide +kernel
theorem dX4_isOneLine_33 : decode cX4_isOneLine 33 = .ok (.laload, 1) := by decide +kernel
theorem dX4_isOneLine_34 : decode cX4_isOneLine 34 = .ok (.lmul, 1) := by decide +kernel
theorem dX4_isOneLine_35 : decode cX4_isOneLine 35 = .ok (.aload_n 1, 1) := by decide +kernel
theorem dX4_isOneLine_36 : decode cX4_isOneLine 36 = .ok (.iload_n 3, 1) := by decide +kernel
theorem dX4_isOneLine_37 : decode cX4_isOneLine 37 = .ok (.laload, 1) := by decide +kernel
theorem dX4_isOneLine_38 : decode cX4_isOneLine 38 = .ok (.aload_n 0, 1) := by decide +kernel
theorem dX4_isOneLine_39 : decode cX4_isOneLine 39 = .ok (.iload_n 2, 1) := by decide +kernel
theorem dX4_isOneLine_40 : decode cX4_isOneLine 40 = .ok (.laload, 1) := by decide +kernel
theorem dX4_isOneLine_41 : decode cX4_isOneLine 41 = .ok (.lmul, 1) := by decide +kernel
theorem dX4_isOneLine_42 : decode cX4_isOneLine 42 = .ok (.lcmp, 1) := by decide +kernel
theorem dX4_isOneLine_43 : decode cX4_isOneLine 43 = .ok (.ifCond .eq 5, 3) := by decide +kernel
theorem dX4_isOneLine_46 : decode cX4_isOneLine 46 = .ok (.iconst 0, 1) := by decide +kernel
theorem dX4_isOneLine_47 : decode cX4_isOneLine 47 = .ok (.ireturn, 1) := by decide +kernel
theorem dX4_isOneLine_48 : decode cX4_isOneLine 48 = .ok (.iinc 3 1, 3) := by decide +kernel
theorem dX4_isOneLine_51 : decode cX4_isOneLine 51 = .ok (.goto (-29), 3) := by decide +kernel
theorem dX4_isOneLine_54 : decode cX4_isOneLine 54 = .ok (.iconst 1, 1) := by decide +kernel
theorem dX4_isOneLine_55 : decode cX4_isOneLine 55 = .ok (.ireturn, 1) := by decide +kernel
theorem dX5_init_0 : decode cX5_init 0 = .ok (.aload_n 0, 1) := by decide +kernel
theorem dX5_init_1 : decode cX5_init 1 = .ok (.invokespecial 3, 3) := by decide +kernel
theorem dX5_init_4 : decode cX5_init 4 = .ok (.aload_n 0, 1) := by decide +kernel
theorem dX5_init_5 : decode cX5_init 5 = .ok (.bipush 8, 2) := by decide +kernel
theorem dX5_init_7 : decode cX5_init 7 = .ok (.newarray .int, 2) := by decide +kernel
theorem dX5_init_9 : decode cX5_init 9 = .ok (.putfield 9, 3) := by decide +kernel
theorem dX5_init_12 : decode cX5_init 12 = .ok (.aload_n 0, 1) := by decide +kernel
theorem dX5_init_13 : decode cX5_init 13 = .ok (.bipush 10, 2) := by decide +kernel
theorem dX5_init_15 : decode cX5_init 15 = .ok (.newarray .int, 2) := by decide +kernel
theorem dX5_init_17 : decode cX5_init 17 = .ok (.putfield 15, 3) := by decide +kernel
theorem dX5_init_20 : decode cX5_init 20 = .ok (.aload_n 0, 1) := by decide +kernel
theorem dX5_init_21 : decode cX5_init 21 = .ok (.bipush 10, 2) := by decide +kernel
theorem dX5_init_23 : decode cX5_init 23 = .ok (.newarray .int, 2) := by decide +kernel
theorem dX5_init_25 : decode cX5_init 25 = .ok (.putfield 18, 3) := by decide +kernel
theorem dX5_init_28 : decode cX5_init 28 = .ok (.aload_n 0, 1) := by decide +kernel
theorem dX5_init_29 : decode cX5_init 29 = .ok (.bipush 10, 2) := by decide +kernel
theorem dX5_init_31 : decode cX5_init 31 = .ok (.newarray .int, 2) := by decide +kernel
theorem dX5_init_33 : decode cX5_init 33 = .ok (.putfield 21, 3) := by decide +kernel
theorem dX5_init_36 : decode cX5_init 36 = .ok (.aload_n 0, 1) := by decide +kernel
theorem dX5_init_37 : decode cX5_init 37 = .ok (.bipush 8, 2) := by decide +kernel
theorem dX5_init_39 : decode cX5_init 39 = .ok (.putfield 24, 3) := by decide +kernel
theorem dX5_init_42 : decode cX5_init 42 = .ok (.aload_n 0, 1) := by decide +kernel
theorem dX5_init_43 : decode cX5_init 43 = .ok (.iconst 4, 1) := by decide +kernel
theorem dX5_init_44 : decode cX5_init 44 = .ok (.putfield 28, 3) := by decide +kernel
theorem dX5_init_47 : decode cX5_init 47 = .ok (.aload_n 0, 1) := by decide +kernel
theorem dX5_init_48 : decode cX5_init 48 = .ok (.bipush 10, 2) := by decide +kernel
theorem dX5_init_50 : decode cX5_init 50 = .ok (.bipush 10, 2) := by decide +kernel
theorem dX5_init_52 : decode cX5_init 52 = .ok (.multianewarray 31 2, 4) := by decide +kernel
theorem dX5_init_56 : decode cX5_init 56 = .ok (.putfield 33, 3) := by decide +kernel
theorem dX5_init_59 : decode cX5_init 59 = .ok (.aload_n 0, 1) := by decide +kernel
theorem dX5_init_60 : decode cX5_init 60 = .ok (.bipush 10, 2) := by decide +kernel
theorem dX5_init_62 : decode cX5_init 62 = .ok (.newarray .int, 2) := by decide +kernel
theorem dX5_init_64 : decode cX5_init 64 = .ok (.putfield 36, 3) := by decide +kernel
theorem dX5_init_67 : decode cX5_init 67 = .ok (.aload_n 0, 1) := by decide +kernel
theorem dX5_init_68 : decode cX5_init 68 = .ok (.new 39, 3) := by decide +kernel
theorem dX5_init_71 : decode cX5_init 71 = .ok (.dup, 1) := by decide +kernel
theorem dX5_init_72 : decode cX5_init 72 = .ok (.invokespecial 41, 3) := by decide +kernel
theorem dX5_init_75 : decode cX5_init 75 = .ok (.putfield 42, 3) := by decide +kernel
theorem dX5_init_78 : decode cX5_init 78 = .ok (.aload_n 0, 1) := by decide +kernel
theorem dX5_init_79 : decode cX5_init 79 = .ok (.new 39, 3) := by decide +kernel
theorem dX5_init_82 : decode cX5_init 82 = .ok (.dup, 1) := by decide +kernel
theorem dX5_init_83 : decode cX5_init 83 = .ok (.invokespecial 41, 3) := by decide +kernel
theorem dX5_init_86 : decode cX5_init 86 = .ok (.putfield 46, 3) := by decide +kernel
theorem dX5_init_89 : decode cX5_init 89 = .ok (.aload_n 0, 1) := by decide +kernel
theorem dX5_init_90 : decode cX5_init 90 = .ok (.bipush 10, 2) := by decide +kernel
theorem dX5_init_92 : decode cX5_init 92 = .ok (.newarray .int, 2) := by decide +kernel
theorem dX5_init_94 : decode cX5_init 94 = .ok (.putfield 49, 3) := by decide +kernel
theorem dX5_init_97 : decode cX5_init 97 = .ok (.aload_n 0, 1) := by decide +kernel
theorem dX5_init_98 : decode cX5_init 98 = .ok (.bipush 10, 2) := by decide +kernel
theorem dX5_init_100 : decode cX5_init 100 = .ok (.newarray .long, 2) := by decide +kernel
theorem dX5_init_102 : decode cX5_init 102 = .ok (.putfield 52, 3) := by decide +kernel
theorem dX5_init_105 : decode cX5_init 105 = .ok (.iconst 0, 1) := by decide +kernel
theorem dX5_init_106 : decode cX5_init 106 = .ok (.istore_n 1, 1) := by decide +kernel
theorem dX5_init_107 : decode cX5_init 107 = .ok (.iload_n 1, 1) := by decide +kernel
theorem dX5_init_108 : decode cX5_init 108 = .ok (.bipush 8, 2) := by decide +kernel
theorem dX5_init_110 : decode cX5_init 110 = .ok (.if_icmp .ge 16, 3) := by decide +kernel
theorem dX5_init_113 : decode cX5_init 113 = .ok (.aload_n 0, 1) := by decide +kernel
theorem dX5_init_114 : decode cX5_init 114 = .ok (.getfield 9, 3) := by decide +kernel
theorem dX5_init_117 : decode cX5_init 117 = .ok (.iload_n 1, 1) := by decide +kernel
theorem dX5_init_118 : decode cX5_init 118 = .ok (.iload_n 1, 1) := by decide +kernel
theorem dX5_init_119 : decode cX5_init 119 = .ok (.iastore, 1) := by decide +kernel
theorem dX5_init_120 : decode cX5_init 120 = .ok (.iinc 1 1, 3) := by decide +kernel
theorem dX5_init_123 : decode cX5_init 123 = .ok (.goto (-16), 3) := by decide +kernel
theorem dX5_init_126 : decode cX5_init 126 = .ok (.iconst 0, 1) := by decide +kernel
theorem dX5_init_127 : decode cX5_init 127 = .ok (.istore_n 1, 1) := by decide +kernel
theorem dX5_init_128 : decode cX5_init 128 = .ok (.iload_n 1, 1) := by decide +kernel
theorem dX5_init_129 : decode cX5_init 129 = .ok (.bipush 10, 2) := by decide +kernel
theorem dX5_init_131 : decode cX5_init 131 = .ok (.if_icmp .ge 17, 3) := by decide +kernel
theorem dX5_init_134 : decode cX5_init 134 = .ok (.aload_n 0, 1) := by decide +kernel
theorem dX5_init_135 : decode cX5_init 135 = .ok (.getfield 21, 3) := by decide +kernel
theorem dX5_init_138 : decode cX5_init 138 = .ok (.iload_n 1, 1) := by decide +kernel
theorem dX5_init_139 : decode cX5_init 139 = .ok (.bipush 99, 2) := by decide +kernel
theorem dX5_init_141 : decode cX5_init 141 = .ok (.iastore, 1) := by decide +kernel
theorem dX5_init_142 : decode cX5_init 142 = .ok (.iinc 1 1, 3) := by decide +kernel
theorem dX5_init_145 : decode cX5_init 145 = .ok (.goto (-17), 3) := by decide +kernel
theorem dX5_init_148 : decode cX5_init 148 = .ok (.return_, 1) := by decide +kernel
theorem dX5_copyFrom_0 : decode cX5_copyFrom 0 = .ok (.aload_n 1, 1) := by decide +kernel
theorem dX5_copyFrom_1 : decode cX5_copyFrom 1 = .ok (.getfield 9, 3) := by decide +kernel
theorem dX5_copyFrom_4 : decode cX5_copyFrom 4 = .ok (.iconst 0, 1) := by decide +kernel
theorem dX5_copyFrom_5 : decode cX5_copyFrom 5 = .ok (.aload_n 0, 1) := by decide +kernel
theorem dX5_copyFrom_6 : decode cX5_copyFrom 6 = .ok (.getfield 9, 3) := by decide +kernel
theorem dX5_copyFrom_9 : decode cX5_copyFrom 9 = .ok (.iconst 0, 1) := by decide +kernel
theorem dX5_copyFrom_10 : decode cX5_copyFrom 10 = .ok (.bipush 8, 2) := by decide +kernel
theorem dX5_copyFrom_12 : decode cX5_copyFrom 12 = .ok (.invokestatic 56, 3) := by decide +kernel
theorem dX5_copyFrom_15 : decode cX5_copyFrom 15 = .ok (.aload_n 1, 1) := by decide +kernel
theorem dX5_copyFrom_16 : decode cX5_copyFrom 16 = .ok (.getfield 15, 3) := by decide +kernel
theorem dX5_copyFrom_19 : decode cX5_copyFrom 19 = .ok (.iconst 0, 1) := by decide +kernel
theorem dX5_copyFrom_20 : decode cX5_copyFrom 20 = .ok (.aload_n 0, 1) := by decide +kernel
theorem dX5_copyFrom_21 : decode cX5_copyFrom 21 = .ok (.getfield 15, 3) := by decide +kernel
theorem dX5_copyFrom_24 : decode cX5_copyFrom 24 = .ok (.iconst 0, 1) := by decide +kernel
theorem dX5_copyFrom_25 : decode cX5_copyFrom 25 = .ok (.bipush 10, 2) := by decide +kernel
theorem dX5_copyFrom_27 : decode cX5_copyFrom 27 = .ok (.invokestatic 56, 3) := by decide +kernel
theorem dX5_copyFrom_30 : decode cX5_copyFrom 30 = .ok (.aload_n 1, 1) := by decide +kernel
theorem dX5_copyFrom_31 : decode cX5_copyFrom 31 = .ok (.getfield 18, 3) := by decide +kernel
theorem dX5_copyFrom_34 : decode cX5_copyFrom 34 = .ok (.iconst 0, 1) := by decide +kernel
theorem dX5_copyFrom_35 : decode cX5_copyFrom 35 = .ok (.aload_n 0, 1) := by decide +kernel
theorem dX5_copyFrom_36 : decode cX5_copyFrom 36 = .ok (.getfield 18, 3) := by decide +kernel
theorem dX5_copyFrom_39 : decode cX5_copyFrom 39 = .ok (.iconst 0, 1) := by decide +kernel
theorem dX5_copyFrom_40 : decode cX5_copyFrom 40 = .ok (.bipush 10, 2) := by decide +kernel
theorem dX5_copyFrom_42 : decode cX5_copyFrom 42 = .ok (.invokestatic 56, 3) := by decide +kernel
theorem dX5_copyFrom_45 : decode cX5_copyFrom 45 = .ok (.aload_n 1, 1) := by decide +kernel
theorem dX5_copyFrom_46 : decode cX5_copyFrom 46 = .ok (.getfield 21, 3) := by decide +kernel
theorem dX5_copyFrom_49 : decode cX5_copyFrom 49 = .ok (.iconst 0, 1) := by decide +kernel
theorem dX5_copyFrom_50 : decode cX5_copyFrom 50 = .ok (.aload_n 0, 1) := by decide +kernel
theorem dX5_copyFrom_51 : decode cX5_copyFrom 51 = .ok (.getfield 21, 3) := by decide +kernel
theorem dX5_copyFrom_54 : decode cX5_copyFrom 54 = .ok (.iconst 0, 1) := by decide +kernel
theorem dX5_copyFrom_55 : decode cX5_copyFrom 55 = .ok (.bipush 10, 2) := by decide +kernel
theorem dX5_copyFrom_57 : decode cX5_copyFrom 57 = .ok (.invokestatic 56, 3) := by decide +kernel
theorem dX5_copyFrom_60 : decode cX5_copyFrom 60 = .ok (.aload_n 1, 1) := by decide +kernel
theorem dX5_copyFrom_61 : decode cX5_copyFrom 61 = .ok (.getfield 36, 3) := by decide +kernel
theorem dX5_copyFrom_64 : decode cX5_copyFrom 64 = .ok (.iconst 0, 1) := by decide +kernel
theorem dX5_copyFrom_65 : decode cX5_copyFrom 65 = .ok (.aload_n 0, 1) := by decide +kernel
theorem dX5_copyFrom_66 : decode cX5_copyFrom 66 = .ok (.getfield 36, 3) := by decide +kernel
theorem dX5_copyFrom_69 : decode cX5_copyFrom 69 = .ok (.iconst 0, 1) := by decide +kernel
theorem dX5_copyFrom_70 : decode cX5_copyFrom 70 = .ok (.bipush 10, 2) := by decide +kernel
theorem dX5_copyFrom_72 : decode cX5_copyFrom 72 = .ok (.invokestatic 56, 3) := by decide +kernel
theorem dX5_copyFrom_75 : decode cX5_copyFrom 75 = .ok (.iconst 0, 1) := by decide +kernel
theorem dX5_copyFrom_76 : decode cX5_copyFrom 76 = .ok (.istore_n 2, 1) := by decide +kernel
theorem dX5_copyFrom_77 : decode cX5_copyFrom 77 = .ok (.iload_n 2, 1) := by decide +kernel
theorem dX5_copyFrom_78 : decode cX5_copyFrom 78 = .ok (.bipush 10, 2) := by decide +kernel
theorem dX5_copyFrom_80 : decode cX5_copyFrom 80 = .ok (.if_icmp .ge 28, 3) := by decide +kernel
theorem dX5_copyFrom_83 : decode cX5_copyFrom 83 = .ok (.aload_n 1, 1) := by decide +kernel
theorem dX5_copyFrom_84 : decode cX5_copyFrom 84 = .ok (.getfield 33, 3) := by decide +kernel
theorem dX5_copyFrom_87 : decode cX5_copyFrom 87 = .ok (.iload_n 2, 1) := by decide +kernel
theorem dX5_copyFrom_88 : decode cX5_copyFrom 88 = .ok (.aaload, 1) := by decide +kernel
theorem dX5_copyFrom_89 : decode cX5_copyFrom 89 = .ok (.iconst 0, 1) := by decide +kernel
theorem dX5_copyFrom_90 : decode cX5_copyFrom 90 = .ok (.aload_n 0, 1) := by decide +kernel
theorem dX5_copyFrom_91 : decode cX5_copyFrom 91 = .ok (.getfield 33, 3) := by decide +kernel
theorem dX5_copyFrom_94 : decode cX5_copyFrom 94 = .ok (.iload_n 2, 1) := by decide +kernel
theorem dX5_copyFrom_95 : decode cX5_copyFrom 95 = .ok (.aaload, 1) := by decide +kernel
theorem dX5_copyFrom_96 : decode cX5_copyFrom 96 = .ok (.iconst 0, 1) := by decide +kernel
theorem dX5_copyFrom_97 : decode cX5_copyFrom 97 = .ok (.bipush 10, 2) := by decide +kernel
theorem dX5_copyFrom_99 : decode cX5_copyFrom 99 = .ok (.invokestatic 56, 3) := by decide +kernel
theorem dX5_copyFrom_102 : decode cX5_copyFrom 102 = .ok (.iinc 2 1, 3) := by decide +kernel
theorem dX5_copyFrom_105 : decode cX5_copyFrom 105 = .ok (.goto (-28), 3) := by decide +kernel
theorem dX5_copyFrom_108 : decode cX5_copyFrom 108 = .ok (.aload_n 0, 1) := by decide +kernel
theorem dX5_copyFrom_109 : decode cX5_copyFrom 109 = .ok (.aload_n 1, 1) := by decide +kernel
theorem dX5_copyFrom_110 : decode cX5_copyFrom 110 = .ok (.getfield 24, 3) := by decide +kernel
theorem dX5_copyFrom_113 : decode cX5_copyFrom 113 = .ok (.putfield 24, 3) := by decide +kernel
theorem dX5_copyFrom_116 : decode cX5_copyFrom 116 = .ok (.aload_n 0, 1) := by decide +kernel
theorem dX5_copyFrom_117 : decode cX5_copyFrom 117 = .ok (.aload_n 1, 1) := by decide +kernel
theorem dX5_copyFrom_118 : decode cX5_copyFrom 118 = .ok (.getfield 62, 3) := by decide +kernel
theorem dX5_copyFrom_121 : decode cX5_copyFrom 121 = .ok (.putfield 62, 3) := by decide +kernel
theorem dX5_copyFrom_124 : decode cX5_copyFrom 124 = .ok (.aload_n 0, 1) := by decide +kernel
theorem dX5_copyFrom_125 : decode cX5_copyFrom 125 = .ok (.aload_n 1, 1) := by decide +kernel
theorem dX5_copyFrom_126 : decode cX5_copyFrom 126 = .ok (.getfield 28, 3) := by decide +kernel
theorem dX5_copyFrom_129 : decode cX5_copyFrom 129 = .ok (.putfield 28, 3) := by decide +kernel
theorem dX5_copyFrom_132 : decode cX5_copyFrom 132 = .ok (.aload_n 0, 1) := by decide +kernel
theorem dX5_copyFrom_133 : decode cX5_copyFrom 133 = .ok (.aload_n 1, 1) := by decide +kernel
theorem dX5_copyFrom_134 : decode cX5_copyFrom 134 = .ok (.getfield 65, 3) := by decide +kernel
theorem dX5_copyFrom_137 : decode cX5_copyFrom 137 = .ok (.putfield 65, 3) := by decide +kernel
theorem dX5_copyFrom_140 : decode cX5_copyFrom 140 = .ok (.aload_n 0, 1) := by decide +kernel
theorem dX5_copyFrom_141 : decode cX5_copyFrom 141 = .ok (.getfield 42, 3) := by decide +kernel
theorem dX5_copyFrom_144 : decode cX5_copyFrom 144 = .ok (.aload_n 1, 1) := by decide +kernel
theorem dX5_copyFrom_145 : decode cX5_copyFrom 145 = .ok (.getfield 42, 3) := by decide +kernel
theorem dX5_copyFrom_148 : decode cX5_copyFrom 148 = .ok (.invokevirtual 68, 3) := by decide +kernel
theorem dX5_copyFrom_151 : decode cX5_copyFrom 151 = .ok (.return_, 1) := by decide +kernel
theorem dX5_has_0 : decode cX5_has 0 = .ok (.iload_n 1, 1) := by decide +kernel
theorem dX5_has_1 : decode cX5_has 1 = .ok (.aload_n 0, 1) := by decide +kernel
theorem dX5_has_2 : decode cX5_has 2 = .ok (.getfield 24, 3) := by decide +kernel
theorem dX5_has_5 : decode cX5_has 5 = .ok (.invokestatic 72, 3) := by decide +kernel
theorem dX5_has_8 : decode cX5_has 8 = .ok (.ifCond .eq 16, 3) := by decide +kernel
theorem dX5_has_11 : decode cX5_has 11 = .ok (.iload_n 1, 1) := by decide +kernel
theorem dX5_has_12 : decode cX5_has 12 = .ok (.bipush 10, 2) := by decide +kernel
theorem dX5_has_14 : decode cX5_has 14 = .ok (.invokestatic 72, 3) := by decide +kernel
theorem dX5_has_17 : decode cX5_has 17 = .ok (.ifCond .eq 7, 3) := by decide +kernel
theorem dX5_has_20 : decode cX5_has 20 = .ok (.iconst 1, 1) := by decide +kernel
theorem dX5_has_21 : decode cX5_has 21 = .ok (.goto 4, 3) := by decide +kernel
theorem dX5_has_24 : decode cX5_has 24 = .ok (.iconst 0, 1) := by decide +kernel
theorem dX5_has_25 : decode cX5_has 25 = .ok (.ireturn, 1) := by decide +kernel
theorem dX5_variableOf_0 : decode cX5_variableOf 0 = .ok (.iload_n 1, 1) := by decide +kernel
theorem dX5_variableOf_1 : decode cX5_variableOf 1 = .ok (.bipush 8, 2) := by decide +kernel
theorem dX5_variableOf_3 : decode cX5_variableOf 3 = .ok (.invokestatic 72, 3) := by decide +kernel
theorem dX5_variableOf_6 : decode cX5_variableOf 6 = .ok (.ifCond .eq 12, 3) := by decide +kernel
theorem dX5_variableOf_9 : decode cX5_variableOf 9 = .ok (.aload_n 0, 1) := by decide +kernel
theorem dX5_variableOf_10 : decode cX5_variableOf 10 = .ok (.getfield 9, 3) := by decide +kernel
theorem dX5_variableOf_13 : decode cX5_variableOf 13 = .ok (.iload_n 1, 1) := by decide +kernel
theorem dX5_variableOf_14 : decode cX5_variableOf 14 = .ok (.iaload, 1) := by decide +kernel
theorem dX5_variableOf_15 : decode cX5_variableOf 15 = .ok (.goto 5, 3) := by decide +kernel
theorem dX5_variableOf_18 : decode cX5_variableOf 18 = .ok (.bipush (-9), 2) := by decide +kernel
theorem dX5_variableOf_20 : decode cX5_variableOf 20 = .ok (.ireturn, 1) := by decide +kernel
theorem dX5_valueOf_0 : decode cX5_valueOf 0 = .ok (.aload_n 0, 1) := by decide +kernel
theorem dX5_valueOf_1 : decode cX5_valueOf 1 = .ok (.iload_n 1, 1) := by decide +kernel
theorem dX5_valueOf_2 : decode cX5_valueOf 2 = .ok (.invokevirtual 76, 3) := by decide +kernel
theorem dX5_valueOf_5 : decode cX5_valueOf 5 = .ok (.ifCond .eq 12, 3) := by decide +kernel
theorem dX5_valueOf_8 : decode cX5_valueOf 8 = .ok (.aload_n 0, 1) := by decide +kernel
theorem dX5_valueOf_9 : decode cX5_valueOf 9 = .ok (.getfield 15, 3) := by decide +kernel
theorem dX5_valueOf_12 : decode cX5_valueOf 12 = .ok (.iload_n 1, 1) := by decide +kernel
theorem dX5_valueOf_13 : decode cX5_valueOf 13 = .ok (.iaload, 1) := by decide +kernel
theorem dX5_valueOf_14 : decode cX5_valueOf 14 = .ok (.goto 4, 3) := by decide +kernel
theorem dX5_valueOf_17 : decode cX5_valueOf 17 = .ok (.iconst 0, 1) := by decide +kernel
theorem dX5_valueOf_18 : decode cX5_valueOf 18 = .ok (.ireturn, 1) := by decide +kernel
theorem dX5_lowOf_0 : decode cX5_lowOf 0 = .ok (.aload_n 0, 1) := by decide +kernel
theorem dX5_lowOf_1 : decode cX5_lowOf 1 = .ok (.iload_n 1, 1) := by decide +kernel
theorem dX5_lowOf_2 : decode cX5_lowOf 2 = .ok (.invokevirtual 76, 3) := by decide +kernel
theorem dX5_lowOf_5 : decode cX5_lowOf 5 = .ok (.ifCond .eq 12, 3) := by decide +kernel
theorem dX5_lowOf_8 : decode cX5_lowOf 8 = .ok (.aload_n 0, 1) := by decide +kernel
theorem dX5_lowOf_9 : decode cX5_lowOf 9 = .ok (.getfield 18, 3) := by decide +kernel
theorem dX5_lowOf_12 : decode cX5_lowOf 12 = .ok (.iload_n 1, 1) := by decide +kernel
theorem dX5_lowOf_13 : decode cX5_lowOf 13 = .ok (.iaload, 1) := by decide +kernel
theorem dX5_lowOf_14 : decode cX5_lowOf 14 = .ok (.goto 4, 3) := by decide +kernel
theorem dX5_lowOf_17 : decode cX5_lowOf 17 = .ok (.iconst 0, 1) := by decide +kernel
theorem dX5_lowOf_18 : decode cX5_lowOf 18 = .ok (.ireturn, 1) := by decide +kernel
theorem dX5_highOf_0 : decode cX5_highOf 0 = .ok (.aload_n 0, 1) := by decide +kernel
theorem dX5_highOf_1 : decode cX5_highOf 1 = .ok (.iload_n 1, 1) := by decide +kernel
theorem dX5_highOf_2 : decode cX5_highOf 2 = .ok (.invokevirtual 76, 3) := by decide +kernel
theorem dX5_highOf_5 : decode cX5_highOf 5 = .ok (.ifCond .eq 12, 3) := by decide +kernel
theorem dX5_highOf_8 : decode cX5_highOf 8 = .ok (.aload_n 0, 1) := by decide +kernel
theorem dX5_highOf_9 : decode cX5_highOf 9 = .ok (.getfield 21, 3) := by decide +kernel
theorem dX5_highOf_12 : decode cX5_highOf 12 = .ok (.iload_n 1, 1) := by decide +kernel
theorem dX5_highOf_13 : decode cX5_highOf 13 = .ok (.iaload, 1) := by decide +kernel
theorem dX5_highOf_14 : decode cX5_highOf 14 = .ok (.goto 4, 3) := by decide +kernel
theorem dX5_highOf_17 : decode cX5_highOf 17 = .ok (.iconst 0, 1) := by decide +kernel
theorem dX5_highOf_18 : decode cX5_highOf 18 = .ok (.ireturn, 1) := by decide +kernel
theorem dX5_coefficient_0 : decode cX5_coefficient 0 = .ok (.iload_n 1, 1) := by decide +kernel
theorem dX5_coefficient_1 : decode cX5_coefficient 1 = .ok (.bipush 10, 2) := by decide +kernel
theorem dX5_coefficient_3 : decode cX5_coefficient 3 = .ok (.invokestatic 72, 3) := by decide +kernel
theorem dX5_coefficient_6 : decode cX5_coefficient 6 = .ok (.ifCond .eq 23, 3) := by decide +kernel
theorem dX5_coefficient_9 : decode cX5_coefficient 9 = .ok (.iload_n 2, 1) := by decide +kernel
theorem dX5_coefficient_10 : decode cX5_coefficient 10 = .ok (.bipush 10, 2) := by decide +kernel
theorem dX5_coefficient_12 : decode cX5_coefficient 12 = .ok (.invokestatic 72, 3) := by decide +kernel
theorem dX5_coefficient_15 : decode cX5_coefficient 15 = .ok (.ifCond .eq 14, 3) := by decide +kernel
theorem dX5_coefficient_18 : decode cX5_coefficient 18 = .ok (.aload_n 0, 1) := by decide +kernel
theorem dX5_coefficient_19 : decode cX5_coefficient 19 = .ok (.getfield 33, 3) := by decide +kernel
theorem dX5_coefficient_22 : decode cX5_coefficient 22 = .ok (.iload_n 1, 1) := by decide +kernel
theorem dX5_coefficient_23 : decode cX5_coefficient 23 = .ok (.aaload, 1) := by decide +kernel
theorem dX5_coefficient_24 : decode cX5_coefficient 24 = .ok (.iload_n 2, 1) := by decide +kernel
theorem dX5_coefficient_25 : decode cX5_coefficient 25 = .ok (.iaload, 1) := by decide +kernel
theorem dX5_coefficient_26 : decode cX5_coefficient 26 = .ok (.goto 4, 3) := by decide +kernel
theorem dX5_coefficient_29 : decode cX5_coefficient 29 = .ok (.iconst 0, 1) := by decide +kernel
theorem dX5_coefficient_30 : decode cX5_coefficient 30 = .ok (.ireturn, 1) := by decide +kernel
theorem dX5_answerOf_0 : decode cX5_answerOf 0 = .ok (.iload_n 1, 1) := by decide +kernel
theorem dX5_answerOf_1 : decode cX5_answerOf 1 = .ok (.bipush 10, 2) := by decide +kernel
theorem dX5_answerOf_3 : decode cX5_answerOf 3 = .ok (.invokestatic 72, 3) := by decide +kernel
theorem dX5_answerOf_6 : decode cX5_answerOf 6 = .ok (.ifCond .eq 12, 3) := by decide +kernel
theorem dX5_answerOf_9 : decode cX5_answerOf 9 = .ok (.aload_n 0, 1) := by decide +kernel
theorem dX5_answerOf_10 : decode cX5_answerOf 10 = .ok (.getfield 36, 3) := by decide +kernel
theorem dX5_answerOf_13 : decode cX5_answerOf 13 = .ok (.iload_n 1, 1) := by decide +kernel
theorem dX5_answerOf_14 : decode cX5_answerOf 14 = .ok (.iaload, 1) := by decide +kernel
theorem dX5_answerOf_15 : decode cX5_answerOf 15 = .ok (.goto 4, 3) := by decide +kernel
theorem dX5_answerOf_18 : decode cX5_answerOf 18 = .ok (.iconst 0, 1) := by decide +kernel
theorem dX5_answerOf_19 : decode cX5_answerOf 19 = .ok (.ireturn, 1) := by decide +kernel
theorem dX5_isFree_0 : decode cX5_isFree 0 = .ok (.iconst 0, 1) := by decide +kernel
theorem dX5_isFree_1 : decode cX5_isFree 1 = .ok (.istore_n 2, 1) := by decide +kernel
theorem dX5_isFree_2 : decode cX5_isFree 2 = .ok (.iload_n 2, 1) := by decide +kernel
theorem dX5_isFree_3 : decode cX5_isFree 3 = .ok (.aload_n 0, 1) := by decide +kernel
theorem dX5_isFree_4 : decode cX5_isFree 4 = .ok (.getfield 65, 3) := by decide +kernel
theorem dX5_isFree_7 : decode cX5_isFree 7 = .ok (.if_icmp .ge 20, 3) := by decide +kernel
theorem dX5_isFree_10 : decode cX5_isFree 10 = .ok (.aload_n 0, 1) := by decide +kernel
theorem dX5_isFree_11 : decode cX5_isFree 11 = .ok (.iload_n 2, 1) := by decide +kernel
theorem dX5_isFree_12 : decode cX5_isFree 12 = .ok (.iload_n 1, 1) := by decide +kernel
theorem dX5_isFree_13 : decode cX5_isFree 13 = .ok (.invokevirtual 80, 3) := by decide +kernel
theorem dX5_isFree_16 : decode cX5_isFree 16 = .ok (.ifCond .eq 5, 3) := by decide +kernel
theorem dX5_isFree_19 : decode cX5_isFree 19 = .ok (.iconst 0, 1) := by decide +kernel
theorem dX5_isFree_20 : decode cX5_isFree 20 = .ok (.ireturn, 1) := by decide +kernel
theorem dX5_isFree_21 : decode cX5_isFree 21 = .ok (.iinc 2 1, 3) := by decide +kernel
theorem dX5_isFree_24 : decode cX5_isFree 24 = .ok (.goto (-22), 3) := by decide +kernel
theorem dX5_isFree_27 : decode cX5_isFree 27 = .ok (.iconst 1, 1) := by decide +kernel
theorem dX5_isFree_28 : decode cX5_isFree 28 = .ok (.ireturn, 1) := by decide +kernel
theorem dX5_usedBits_0 : decode cX5_usedBits 0 = .ok (.iconst 0, 1) := by decide +kernel
theorem dX5_usedBits_1 : decode cX5_usedBits 1 = .ok (.istore_n 1, 1) := by decide +kernel
theorem dX5_usedBits_2 : decode cX5_usedBits 2 = .ok (.iconst 0, 1) := by decide +kernel
theorem dX5_usedBits_3 : decode cX5_usedBits 3 = .ok (.istore_n 2, 1) := by decide +kernel
theorem dX5_usedBits_4 : decode cX5_usedBits 4 = .ok (.iload_n 2, 1) := by decide +kernel
theorem dX5_usedBits_5 : decode cX5_usedBits 5 = .ok (.bipush 10, 2) := by decide +kernel
theorem dX5_usedBits_7 : decode cX5_usedBits 7 = .ok (.if_icmp .ge 23, 3) := by decide +kernel
theorem dX5_usedBits_10 : decode cX5_usedBits 10 = .ok (.aload_n 0, 1) := by decide +kernel
theorem dX5_usedBits_11 : decode cX5_usedBits 11 = .ok (.iload_n 2, 1) := by decide +kernel
theorem dX5_usedBits_12 : decode cX5_usedBits 12 = .ok (.invokevirtual 84, 3) := by decide +kernel
theorem dX5_usedBits_15 : decode cX5_usedBits 15 = .ok (.ifCond .ne 9, 3) := by decide +kernel
theorem dX5_usedBits_18 : decode cX5_usedBits 18 = .ok (.iload_n 1, 1) := by decide +kernel
theorem dX5_usedBits_19 : decode cX5_usedBits 19 = .ok (.iconst 1, 1) := by decide +kernel
theorem dX5_usedBits_20 : decode cX5_usedBits 20 = .ok (.iload_n 2, 1) := by decide +kernel
theorem dX5_usedBits_21 : decode cX5_usedBits 21 = .ok (.ishl, 1) := by decide +kernel
theorem dX5_usedBits_22 : decode cX5_usedBits 22 = .ok (.ior, 1) := by decide +kernel
theorem dX5_usedBits_23 : decode cX5_usedBits 23 = .ok (.istore_n 1, 1) := by decide +kernel
theorem dX5_usedBits_24 : decode cX5_usedBits 24 = .ok (.iinc 2 1, 3) := by decide +kernel
theorem dX5_usedBits_27 : decode cX5_usedBits 27 = .ok (.goto (-23), 3) := by decide +kernel
theorem dX5_usedBits_30 : decode cX5_usedBits 30 = .ok (.iload_n 1, 1) := by decide +kernel
theorem dX5_usedBits_31 : decode cX5_usedBits 31 = .ok (.ireturn, 1) := by decide +kernel
theorem dX5_valuesOfPeople_0 : decode cX5_valuesOfPeople 0 = .ok (.iconst 0, 1) := by decide +kernel
theorem dX5_valuesOfPeople_1 : decode cX5_valuesOfPeople 1 = .ok (.istore_n 1, 1) := by decide +kernel
theorem dX5_valuesOfPeople_2 : decode cX5_valuesOfPeople 2 = .ok (.iconst 0, 1) := by decide +kernel
theorem dX5_valuesOfPeople_3 : decode cX5_valuesOfPeople 3 = .ok (.istore_n 2, 1) := by decide +kernel
theorem dX5_valuesOfPeople_4 : decode cX5_valuesOfPeople 4 = .ok (.iload_n 2, 1) := by decide +kernel
theorem dX5_valuesOfPeople_5 : decode cX5_valuesOfPeople 5 = .ok (.bipush 8, 2) := by decide +kernel
theorem dX5_valuesOfPeople_7 : decode cX5_valuesOfPeople 7 = .ok (.if_icmp .ge 22, 3) := by decide +kernel
theorem dX5_valuesOfPeople_10 : decode cX5_valuesOfPeople 10 = .ok (.iload_n 1, 1) := by decide +kernel
theorem dX5_valuesOfPeople_11 : decode cX5_valuesOfPeople 11 = .ok (.aload_n 0, 1) := by decide +kernel
theorem dX5_valuesOfPeople_12 : decode cX5_valuesOfPeople 12 = .ok (.aload_n 0, 1) := by decide +kernel
theorem dX5_valuesOfPeople_13 : decode cX5_valuesOfPeople 13 = .ok (.getfield 9, 3) := by decide +kernel
theorem dX5_valuesOfPeople_16 : decode cX5_valuesOfPeople 16 = .ok (.iload_n 2, 1) := by decide +kernel
theorem dX5_valuesOfPeople_17 : decode cX5_valuesOfPeople 17 = .ok (.iaload, 1) := by decide +kernel
theorem dX5_valuesOfPeople_18 : decode cX5_valuesOfPeople 18 = .ok (.invokevirtual 87, 3) := by decide +kernel
theorem dX5_valuesOfPeople_21 : decode cX5_valuesOfPeople 21 = .ok (.iadd, 1) := by decide +kernel
theorem dX5_valuesOfPeople_22 : decode cX5_valuesOfPeople 22 = .ok (.istore_n 1, 1) := by decide +kernel
theorem dX5_valuesOfPeople_23 : decode cX5_valuesOfPeople 23 = .ok (.iinc 2 1, 3) := by decide +kernel
theorem dX5_valuesOfPeople_26 : decode cX5_valuesOfPeople 26 = .ok (.goto (-22), 3) := by decide +kernel
theorem dX5_valuesOfPeople_29 : decode cX5_valuesOfPeople 29 = .ok (.iload_n 1, 1) := by decide +kernel
theorem dX5_valuesOfPeople_30 : decode cX5_valuesOfPeople 30 = .ok (.ireturn, 1) := by decide +kernel
theorem dX5_answerByTold_0 : decode cX5_answerByTold 0 = .ok (.iconst 0, 1) := by decide +kernel
theorem dX5_answerByTold_1 : decode cX5_answerByTold 1 = .ok (.istore_n 3, 1) := by decide +kernel
theorem dX5_answerByTold_2 : decode cX5_answerByTold 2 = .ok (.iconst 0, 1) := by decide +kernel
theorem dX5_answerByTold_3 : decode cX5_answerByTold 3 = .ok (.istore 4, 2) := by decide +kernel
theorem dX5_answerByTold_5 : decode cX5_answerByTold 5 = .ok (.iload 4, 2) := by decide +kernel
theorem dX5_answerByTold_7 : decode cX5_answerByTold 7 = .ok (.aload_n 0, 1) := by decide +kernel
theorem dX5_answerByTold_8 : decode cX5_answerByTold 8 = .ok (.getfield 24, 3) := by decide +kernel
theorem dX5_answerByTold_11 : decode cX5_answerByTold 11 = .ok (.if_icmp .ge 48, 3) := by decide +kernel
theorem dX5_answerByTold_14 : decode cX5_answerByTold 14 = .ok (.iload 4, 2) := by decide +kernel
theorem dX5_answerByTold_16 : decode cX5_answerByTold 16 = .ok (.aload_n 2, 1) := by decide +kernel
theorem dX5_answerByTold_17 : decode cX5_answerByTold 17 = .ok (.getfield 91, 3) := by decide +kernel
theorem dX5_answerByTold_20 : decode cX5_answerByTold 20 = .ok (.if_icmp .ge 12, 3) := by decide +kernel
theorem dX5_answerByTold_23 : decode cX5_answerByTold 23 = .ok (.aload_n 2, 1) := by decide +kernel
theorem dX5_answerByTold_24 : decode cX5_answerByTold 24 = .ok (.iload 4, 2) := by decide +kernel
theorem dX5_answerByTold_26 : decode cX5_answerByTold 26 = .ok (.invokevirtual 96, 3) := by decide +kernel
theorem dX5_answerByTold_29 : decode cX5_answerByTold 29 = .ok (.goto 9, 3) := by decide +kernel
theorem dX5_answerByTold_32 : decode cX5_answerByTold 32 = .ok (.aload_n 0, 1) := by decide +kernel
theorem dX5_answerByTold_33 : decode cX5_answerByTold 33 = .ok (.iload 4, 2) := by decide +kernel
theorem dX5_answerByTold_35 : decode cX5_answerByTold 35 = .ok (.invokevirtual 87, 3) := by decide +kernel
theorem dX5_answerByTold_38 : decode cX5_answerByTold 38 = .ok (.istore 5, 2) := by decide +kernel
theorem dX5_answerByTold_40 : decode cX5_answerByTold 40 = .ok (.iload_n 3, 1) := by decide +kernel
theorem dX5_answerByTold_41 : decode cX5_answerByTold 41 = .ok (.aload_n 0, 1) := by decide +kernel
theorem dX5_answerByTold_42 : decode cX5_answerByTold 42 = .ok (.iload_n 1, 1) := by decide +kernel
theorem dX5_answerByTold_43 : decode cX5_answerByTold 43 = .ok (.iload 4, 2) := by decide +kernel
theorem dX5_answerByTold_45 : decode cX5_answerByTold 45 = .ok (.invokevirtual 80, 3) := by decide +kernel
theorem dX5_answerByTold_48 : decode cX5_answerByTold 48 = .ok (.iload 5, 2) := by decide +kernel
theorem dX5_answerByTold_50 : decode cX5_answerByTold 50 = .ok (.imul, 1) := by decide +kernel
theorem dX5_answerByTold_51 : decode cX5_answerByTold 51 = .ok (.iadd, 1) := by decide +kernel
theorem dX5_answerByTold_52 : decode cX5_answerByTold 52 = .ok (.istore_n 3, 1) := by decide +kernel
theorem dX5_answerByTold_53 : decode cX5_answerByTold 53 = .ok (.iinc 4 1, 3) := by decide +kernel
theorem dX5_answerByTold_56 : decode cX5_answerByTold 56 = .ok (.goto (-51), 3) := by decide +kernel
theorem dX5_answerByTold_59 : decode cX5_answerByTold 59 = .ok (.iload_n 3, 1) := by decide +kernel
theorem dX5_answerByTold_60 : decode cX5_answerByTold 60 = .ok (.ireturn, 1) := by decide +kernel
theorem dX5_takeTold_0 : decode cX5_takeTold 0 = .ok (.aload_n 0, 1) := by decide +kernel
theorem dX5_takeTold_1 : decode cX5_takeTold 1 = .ok (.iload_n 1, 1) := by decide +kernel
theorem dX5_takeTold_2 : decode cX5_takeTold 2 = .ok (.invokevirtual 99, 3) := by decide +kernel
theorem dX5_takeTold_5 : decode cX5_takeTold 5 = .ok (.istore_n 3, 1) := by decide +kernel
theorem dX5_takeTold_6 : decode cX5_takeTold 6 = .ok (.aload_n 0, 1) := by decide +kernel
theorem dX5_takeTold_7 : decode cX5_takeTold 7 = .ok (.iload_n 3, 1) := by decide +kernel
theorem dX5_takeTold_8 : decode cX5_takeTold 8 = .ok (.invokevirtual 76, 3) := by decide +kernel
theorem dX5_takeTold_11 : decode cX5_takeTold 11 = .ok (.ifCond .eq 11, 3) := by decide +kernel
theorem dX5_takeTold_14 : decode cX5_takeTold 14 = .ok (.aload_n 0, 1) := by decide +kernel
theorem dX5_takeTold_15 : decode cX5_takeTold 15 = .ok (.iload_n 3, 1) := by decide +kernel
theorem dX5_takeTold_16 : decode cX5_takeTold 16 = .ok (.invokevirtual 84, 3) := by decide +kernel
theorem dX5_takeTold_19 : decode cX5_takeTold 19 = .ok (.ifCond .ne 5, 3) := by decide +kernel
theorem dX5_takeTold_22 : decode cX5_takeTold 22 = .ok (.iconst 0, 1) := by decide +kernel
theorem dX5_takeTold_23 : decode cX5_takeTold 23 = .ok (.ireturn, 1) := by decide +kernel
theorem dX5_takeTold_24 : decode cX5_takeTold 24 = .ok (.aload_n 0, 1) := by decide +kernel
theorem dX5_takeTold_25 : decode cX5_takeTold 25 = .ok (.iload_n 3, 1) := by decide +kernel
theorem dX5_takeTold_26 : decode cX5_takeTold 26 = .ok (.iload_n 2, 1) := by decide +kernel
theorem dX5_takeTold_27 : decode cX5_takeTold 27 = .ok (.invokevirtual 102, 3) := by decide +kernel
theorem dX5_takeTold_30 : decode cX5_takeTold 30 = .ok (.iconst 1, 1) := by decide +kernel
theorem dX5_takeTold_31 : decode cX5_takeTold 31 = .ok (.ireturn, 1) := by decide +kernel
theorem dX5_takeChange_0 : decode cX5_takeChange 0 = .ok (.iload_n 1, 1) := by decide +kernel
theorem dX5_takeChange_1 : decode cX5_takeChange 1 = .ok (.bipush 8, 2) := by decide +kernel
theorem dX5_takeChange_3 : decode cX5_takeChange 3 = .ok (.invokestatic 72, 3) := by decide +kernel
theorem dX5_takeChange_6 : decode cX5_takeChange 6 = .ok (.ifCond .eq 15, 3) := by decide +kernel
theorem dX5_takeChange_9 : decode cX5_takeChange 9 = .ok (.aload_n 0, 1) := by decide +kernel
theorem dX5_takeChange_10 : decode cX5_takeChange 10 = .ok (.getfield 24, 3) := by decide +kernel
theorem dX5_takeChange_13 : decode cX5_takeChange 13 = .ok (.bipush 10, 2) := by decide +kernel
theorem dX5_takeChange_15 : decode cX5_takeChange 15 = .ok (.invokestatic 72, 3) := by decide +kernel
theorem dX5_takeChange_18 : decode cX5_takeChange 18 = .ok (.ifCond .ne 5, 3) := by decide +kernel
theorem dX5_takeChange_21 : decode cX5_takeChange 21 = .ok (.iconst 0, 1) := by decide +kernel
theorem dX5_takeChange_22 : decode cX5_takeChange 22 = .ok (.ireturn, 1) := by decide +kernel
theorem dX5_takeChange_23 : decode cX5_takeChange 23 = .ok (.aload_n 0, 1) := by decide +kernel
theorem dX5_takeChange_24 : decode cX5_takeChange 24 = .ok (.getfield 9, 3) := by decide +kernel
theorem dX5_takeChange_27 : decode cX5_takeChange 27 = .ok (.iload_n 1, 1) := by decide +kernel
theorem dX5_takeChange_28 : decode cX5_takeChange 28 = .ok (.aload_n 0, 1) := by decide +kernel
theorem dX5_takeChange_29 : decode cX5_takeChange 29 = .ok (.getfield 24, 3) := by decide +kernel
theorem dX5_takeChange_32 : decode cX5_takeChange 32 = .ok (.iastore, 1) := by decide +kernel
theorem dX5_takeChange_33 : decode cX5_takeChange 33 = .ok (.aload_n 0, 1) := by decide +kernel
theorem dX5_takeChange_34 : decode cX5_takeChange 34 = .ok (.aload_n 0, 1) := by decide +kernel
theorem dX5_takeChange_35 : decode cX5_takeChange 35 = .ok (.getfield 24, 3) := by decide +kernel
theorem dX5_takeChange_38 : decode cX5_takeChange 38 = .ok (.iload_n 2, 1) := by decide +kernel
theorem dX5_takeChange_39 : decode cX5_takeChange 39 = .ok (.invokevirtual 102, 3) := by decide +kernel
theorem dX5_takeChange_42 : decode cX5_takeChange 42 = .ok (.aload_n 0, 1) := by decide +kernel
theorem dX5_takeChange_43 : decode cX5_takeChange 43 = .ok (.dup, 1) := by decide +kernel
theorem dX5_takeChange_44 : decode cX5_takeChange 44 = .ok (.getfield 24, 3) := by decide +kernel
theorem dX5_takeChange_47 : decode cX5_takeChange 47 = .ok (.iconst 1, 1) := by decide +kernel
theorem dX5_takeChange_48 : decode cX5_takeChange 48 = .ok (.iadd, 1) := by decide +kernel
theorem dX5_takeChange_49 : decode cX5_takeChange 49 = .ok (.putfield 24, 3) := by decide +kernel
theorem dX5_takeChange_52 : decode cX5_takeChange 52 = .ok (.iconst 1, 1) := by decide +kernel
theorem dX5_takeChange_53 : decode cX5_takeChange 53 = .ok (.ireturn, 1) := by decide +kernel
theorem dX5_set_0 : decode cX5_set 0 = .ok (.iload_n 1, 1) := by decide +kernel
theorem dX5_set_1 : decode cX5_set 1 = .ok (.bipush 10, 2) := by decide +kernel
theorem dX5_set_3 : decode cX5_set 3 = .ok (.invokestatic 72, 3) := by decide +kernel
theorem dX5_set_6 : decode cX5_set 6 = .ok (.ifCond .eq 25, 3) := by decide +kernel
theorem dX5_set_9 : decode cX5_set 9 = .ok (.aload_n 0, 1) := by decide +kernel
theorem dX5_set_10 : decode cX5_set 10 = .ok (.getfield 15, 3) := by decide +kernel
theorem dX5_set_13 : decode cX5_set 13 = .ok (.iload_n 1, 1) := by decide +kernel
theorem dX5_set_14 : decode cX5_set 14 = .ok (.iload_n 2, 1) := by decide +kernel
theorem dX5_set_15 : decode cX5_set 15 = .ok (.iastore, 1) := by decide +kernel
theorem dX5_set_16 : decode cX5_set 16 = .ok (.aload_n 0, 1) := by decide +kernel
theorem dX5_set_17 : decode cX5_set 17 = .ok (.getfield 18, 3) := by decide +kernel
theorem dX5_set_20 : decode cX5_set 20 = .ok (.iload_n 1, 1) := by decide +kernel
theorem dX5_set_21 : decode cX5_set 21 = .ok (.iconst 0, 1) := by decide +kernel
theorem dX5_set_22 : decode cX5_set 22 = .ok (.iastore, 1) := by decide +kernel
theorem dX5_set_23 : decode cX5_set 23 = .ok (.aload_n 0, 1) := by decide +kernel
theorem dX5_set_24 : decode cX5_set 24 = .ok (.getfield 21, 3) := by decide +kernel
theorem dX5_set_27 : decode cX5_set 27 = .ok (.iload_n 1, 1) := by decide +kernel
theorem dX5_set_28 : decode cX5_set 28 = .ok (.bipush 99, 2) := by decide +kernel
theorem dX5_set_30 : decode cX5_set 30 = .ok (.iastore, 1) := by decide +kernel
theorem dX5_set_31 : decode cX5_set 31 = .ok (.return_, 1) := by decide +kernel
end
section
theorem dX5_takeBounds_0 : decode cX5_takeBounds 0 = .ok (.aload_n 0, 1) := by decide +kernel
theorem dX5_takeBounds_1 : decode cX5_takeBounds 1 = .ok (.iload_n 1, 1) := by decide +kernel
theorem dX5_takeBounds_2 : decode cX5_takeBounds 2 = .ok (.invokevirtual 76, 3) := by decide +kernel
theorem dX5_takeBounds_5 : decode cX5_takeBounds 5 = .ok (.ifCond .eq 23, 3) := by decide +kernel
theorem dX5_takeBounds_8 : decode cX5_takeBounds 8 = .ok (.iload_n 2, 1) := by decide +kernel
theorem dX5_takeBounds_9 : decode cX5_takeBounds 9 = .ok (.aload_n 0, 1) := by decide +kernel
theorem dX5_takeBounds_10 : decode cX5_takeBounds 10 = .ok (.getfield 15, 3) := by decide +kernel
theorem dX5_takeBounds_13 : decode cX5_takeBounds 13 = .ok (.iload_n 1, 1) := by decide +kernel
theorem dX5_takeBounds_14 : decode cX5_takeBounds 14 = .ok (.iaload, 1) := by decide +kernel
theorem dX5_takeBounds_15 : decode cX5_takeBounds 15 = .ok (.if_icmp .gt 13, 3) := by decide +kernel
theorem dX5_takeBounds_18 : decode cX5_takeBounds 18 = .ok (.iload_n 3, 1) := by decide +kernel
theorem dX5_takeBounds_19 : decode cX5_takeBounds 19 = .ok (.aload_n 0, 1) := by decide +kernel
theorem dX5_takeBounds_20 : decode cX5_takeBounds 20 = .ok (.getfield 15, 3) := by decide +kernel
theorem dX5_takeBounds_23 : decode cX5_takeBounds 23 = .ok (.iload_n 1, 1) := by decide +kernel
theorem dX5_takeBounds_24 : decode cX5_takeBounds 24 = .ok (.iaload, 1) := by decide +kernel
theorem dX5_takeBounds_25 : decode cX5_takeBounds 25 = .ok (.if_icmp .ge 5, 3) := by decide +kernel
theorem dX5_takeBounds_28 : decode cX5_takeBounds 28 = .ok (.iconst 0, 1) := by decide +kernel
theorem dX5_takeBounds_29 : decode cX5_takeBounds 29 = .ok (.ireturn, 1) := by decide +kernel
theorem dX5_takeBounds_30 : decode cX5_takeBounds 30 = .ok (.aload_n 0, 1) := by decide +kernel
theorem dX5_takeBounds_31 : decode cX5_takeBounds 31 = .ok (.getfield 18, 3) := by decide +kernel
theorem dX5_takeBounds_34 : decode cX5_takeBounds 34 = .ok (.iload_n 1, 1) := by decide +kernel
theorem dX5_takeBounds_35 : decode cX5_takeBounds 35 = .ok (.iload_n 2, 1) := by decide +kernel
theorem dX5_takeBounds_36 : decode cX5_takeBounds 36 = .ok (.iastore, 1) := by decide +kernel
theorem dX5_takeBounds_37 : decode cX5_takeBounds 37 = .ok (.aload_n 0, 1) := by decide +kernel
theorem dX5_takeBounds_38 : decode cX5_takeBounds 38 = .ok (.getfield 21, 3) := by decide +kernel
theorem dX5_takeBounds_41 : decode cX5_takeBounds 41 = .ok (.iload_n 1, 1) := by decide +kernel
theorem dX5_takeBounds_42 : decode cX5_takeBounds 42 = .ok (.iload_n 3, 1) := by decide +kernel
theorem dX5_takeBounds_43 : decode cX5_takeBounds 43 = .ok (.iastore, 1) := by decide +kernel
theorem dX5_takeBounds_44 : decode cX5_takeBounds 44 = .ok (.iconst 1, 1) := by decide +kernel
theorem dX5_takeBounds_45 : decode cX5_takeBounds 45 = .ok (.ireturn, 1) := by decide +kernel
theorem dX5_takeRule_0 : decode cX5_takeRule 0 = .ok (.iload_n 1, 1) := by decide +kernel
theorem dX5_takeRule_1 : decode cX5_takeRule 1 = .ok (.iconst 4, 1) := by decide +kernel
theorem dX5_takeRule_2 : decode cX5_takeRule 2 = .ok (.invokestatic 72, 3) := by decide +kernel
theorem dX5_takeRule_5 : decode cX5_takeRule 5 = .ok (.ifCond .ne 5, 3) := by decide +kernel
theorem dX5_takeRule_8 : decode cX5_takeRule 8 = .ok (.iconst 0, 1) := by decide +kernel
theorem dX5_takeRule_9 : decode cX5_takeRule 9 = .ok (.ireturn, 1) := by decide +kernel
theorem dX5_takeRule_10 : decode cX5_takeRule 10 = .ok (.aload_n 0, 1) := by decide +kernel
theorem dX5_takeRule_11 : decode cX5_takeRule 11 = .ok (.iload_n 1, 1) := by decide +kernel
theorem dX5_takeRule_12 : decode cX5_takeRule 12 = .ok (.putfield 62, 3) := by decide +kernel
theorem dX5_takeRule_15 : decode cX5_takeRule 15 = .ok (.iconst 1, 1) := by decide +kernel
theorem dX5_takeRule_16 : decode cX5_takeRule 16 = .ok (.ireturn, 1) := by decide +kernel
theorem dX5_takeLimit_0 : decode cX5_takeLimit 0 = .ok (.iload_n 1, 1) := by decide +kernel
theorem dX5_takeLimit_1 : decode cX5_takeLimit 1 = .ok (.bipush 11, 2) := by decide +kernel
theorem dX5_takeLimit_3 : decode cX5_takeLimit 3 = .ok (.invokestatic 72, 3) := by decide +kernel
theorem dX5_takeLimit_6 : decode cX5_takeLimit 6 = .ok (.ifCond .ne 5, 3) := by decide +kernel
theorem dX5_takeLimit_9 : decode cX5_takeLimit 9 = .ok (.iconst 0, 1) := by decide +kernel
theorem dX5_takeLimit_10 : decode cX5_takeLimit 10 = .ok (.ireturn, 1) := by decide +kernel
theorem dX5_takeLimit_11 : decode cX5_takeLimit 11 = .ok (.aload_n 0, 1) := by decide +kernel
theorem dX5_takeLimit_12 : decode cX5_takeLimit 12 = .ok (.iload_n 1, 1) := by decide +kernel
theorem dX5_takeLimit_13 : decode cX5_takeLimit 13 = .ok (.putfield 28, 3) := by decide +kernel
theorem dX5_takeLimit_16 : decode cX5_takeLimit 16 = .ok (.iconst 1, 1) := by decide +kernel
theorem dX5_takeLimit_17 : decode cX5_takeLimit 17 = .ok (.ireturn, 1) := by decide +kernel
theorem dX5_takeQuestion_0 : decode cX5_takeQuestion 0 = .ok (.aload_n 0, 1) := by decide +kernel
theorem dX5_takeQuestion_1 : decode cX5_takeQuestion 1 = .ok (.aload_n 1, 1) := by decide +kernel
theorem dX5_takeQuestion_2 : decode cX5_takeQuestion 2 = .ok (.aload_n 0, 1) := by decide +kernel
theorem dX5_takeQuestion_3 : decode cX5_takeQuestion 3 = .ok (.getfield 62, 3) := by decide +kernel
theorem dX5_takeQuestion_6 : decode cX5_takeQuestion 6 = .ok (.aload_n 0, 1) := by decide +kernel
theorem dX5_takeQuestion_7 : decode cX5_takeQuestion 7 = .ok (.getfield 28, 3) := by decide +kernel
theorem dX5_takeQuestion_10 : decode cX5_takeQuestion 10 = .ok (.invokevirtual 106, 3) := by decide +kernel
theorem dX5_takeQuestion_13 : decode cX5_takeQuestion 13 = .ok (.istore_n 2, 1) := by decide +kernel
theorem dX5_takeQuestion_14 : decode cX5_takeQuestion 14 = .ok (.iload_n 2, 1) := by decide +kernel
theorem dX5_takeQuestion_15 : decode cX5_takeQuestion 15 = .ok (.iconst 1, 1) := by decide +kernel
theorem dX5_takeQuestion_16 : decode cX5_takeQuestion 16 = .ok (.if_icmp .ne 8, 3) := by decide +kernel
theorem dX5_takeQuestion_19 : decode cX5_takeQuestion 19 = .ok (.aload_n 0, 1) := by decide +kernel
theorem dX5_takeQuestion_20 : decode cX5_takeQuestion 20 = .ok (.aload_n 1, 1) := by decide +kernel
theorem dX5_takeQuestion_21 : decode cX5_takeQuestion 21 = .ok (.invokevirtual 110, 3) := by decide +kernel
theorem dX5_takeQuestion_24 : decode cX5_takeQuestion 24 = .ok (.iload_n 2, 1) := by decide +kernel
theorem dX5_takeQuestion_25 : decode cX5_takeQuestion 25 = .ok (.ireturn, 1) := by decide +kernel
theorem dX5_meetingBy_0 : decode cX5_meetingBy 0 = .ok (.aload_n 0, 1) := by decide +kernel
theorem dX5_meetingBy_1 : decode cX5_meetingBy 1 = .ok (.aload_n 1, 1) := by decide +kernel
theorem dX5_meetingBy_2 : decode cX5_meetingBy 2 = .ok (.invokevirtual 114, 3) := by decide +kernel
theorem dX5_meetingBy_5 : decode cX5_meetingBy 5 = .ok (.aload_n 0, 1) := by decide +kernel
theorem dX5_meetingBy_6 : decode cX5_meetingBy 6 = .ok (.getfield 52, 3) := by decide +kernel
theorem dX5_meetingBy_9 : decode cX5_meetingBy 9 = .ok (.invokestatic 117, 3) := by decide +kernel
theorem dX5_meetingBy_12 : decode cX5_meetingBy 12 = .ok (.ifCond .ge 5, 3) := by decide +kernel
theorem dX5_meetingBy_15 : decode cX5_meetingBy 15 = .ok (.iconst 0, 1) := by decide +kernel
theorem dX5_meetingBy_16 : decode cX5_meetingBy 16 = .ok (.ireturn, 1) := by decide +kernel
theorem dX5_meetingBy_17 : decode cX5_meetingBy 17 = .ok (.aload_n 0, 1) := by decide +kernel
theorem dX5_meetingBy_18 : decode cX5_meetingBy 18 = .ok (.getfield 42, 3) := by decide +kernel
theorem dX5_meetingBy_21 : decode cX5_meetingBy 21 = .ok (.aload_n 0, 1) := by decide +kernel
theorem dX5_meetingBy_22 : decode cX5_meetingBy 22 = .ok (.getfield 52, 3) := by decide +kernel
theorem dX5_meetingBy_25 : decode cX5_meetingBy 25 = .ok (.invokevirtual 121, 3) := by decide +kernel
theorem dX5_meetingBy_28 : decode cX5_meetingBy 28 = .ok (.ifCond .eq 5, 3) := by decide +kernel
theorem dX5_meetingBy_31 : decode cX5_meetingBy 31 = .ok (.iconst 2, 1) := by decide +kernel
theorem dX5_meetingBy_32 : decode cX5_meetingBy 32 = .ok (.ireturn, 1) := by decide +kernel
theorem dX5_meetingBy_33 : decode cX5_meetingBy 33 = .ok (.iconst 0, 1) := by decide +kernel
theorem dX5_meetingBy_34 : decode cX5_meetingBy 34 = .ok (.istore 4, 2) := by decide +kernel
theorem dX5_meetingBy_36 : decode cX5_meetingBy 36 = .ok (.iload_n 2, 1) := by decide +kernel
theorem dX5_meetingBy_37 : decode cX5_meetingBy 37 = .ok (.iconst 1, 1) := by decide +kernel
theorem dX5_meetingBy_38 : decode cX5_meetingBy 38 = .ok (.if_icmp .ne 32, 3) := by decide +kernel
theorem dX5_meetingBy_41 : decode cX5_meetingBy 41 = .ok (.aload_n 1, 1) := by decide +kernel
theorem dX5_meetingBy_42 : decode cX5_meetingBy 42 = .ok (.invokevirtual 124, 3) := by decide +kernel
theorem dX5_meetingBy_45 : decode cX5_meetingBy 45 = .ok (.istore 5, 2) := by decide +kernel
theorem dX5_meetingBy_47 : decode cX5_meetingBy 47 = .ok (.iload 5, 2) := by decide +kernel
theorem dX5_meetingBy_49 : decode cX5_meetingBy 49 = .ok (.iconst 2, 1) := by decide +kernel
theorem dX5_meetingBy_50 : decode cX5_meetingBy 50 = .ok (.if_icmp .lt 10, 3) := by decide +kernel
theorem dX5_meetingBy_53 : decode cX5_meetingBy 53 = .ok (.iload 5, 2) := by decide +kernel
theorem dX5_meetingBy_55 : decode cX5_meetingBy 55 = .ok (.bipush 6, 2) := by decide +kernel
theorem dX5_meetingBy_57 : decode cX5_meetingBy 57 = .ok (.if_icmp .le 7, 3) := by decide +kernel
theorem dX5_meetingBy_60 : decode cX5_meetingBy 60 = .ok (.iconst 1, 1) := by decide +kernel
theorem dX5_meetingBy_61 : decode cX5_meetingBy 61 = .ok (.goto 4, 3) := by decide +kernel
theorem dX5_meetingBy_64 : decode cX5_meetingBy 64 = .ok (.iconst 0, 1) := by decide +kernel
theorem dX5_meetingBy_65 : decode cX5_meetingBy 65 = .ok (.istore 4, 2) := by decide +kernel
theorem dX5_meetingBy_67 : decode cX5_meetingBy 67 = .ok (.goto 64, 3) := by decide +kernel
theorem dX5_meetingBy_70 : decode cX5_meetingBy 70 = .ok (.iload_n 2, 1) := by decide +kernel
theorem dX5_meetingBy_71 : decode cX5_meetingBy 71 = .ok (.iconst 2, 1) := by decide +kernel
theorem dX5_meetingBy_72 : decode cX5_meetingBy 72 = .ok (.if_icmp .ne 37, 3) := by decide +kernel
theorem dX5_meetingBy_75 : decode cX5_meetingBy 75 = .ok (.aload_n 0, 1) := by decide +kernel
theorem dX5_meetingBy_76 : decode cX5_meetingBy 76 = .ok (.getfield 46, 3) := by decide +kernel
theorem dX5_meetingBy_79 : decode cX5_meetingBy 79 = .ok (.aload_n 0, 1) := by decide +kernel
theorem dX5_meetingBy_80 : decode cX5_meetingBy 80 = .ok (.getfield 42, 3) := by decide +kernel
theorem dX5_meetingBy_83 : decode cX5_meetingBy 83 = .ok (.invokevirtual 68, 3) := by decide +kernel
theorem dX5_meetingBy_86 : decode cX5_meetingBy 86 = .ok (.aload_n 0, 1) := by decide +kernel
theorem dX5_meetingBy_87 : decode cX5_meetingBy 87 = .ok (.getfield 46, 3) := by decide +kernel
theorem dX5_meetingBy_90 : decode cX5_meetingBy 90 = .ok (.aload_n 0, 1) := by decide +kernel
theorem dX5_meetingBy_91 : decode cX5_meetingBy 91 = .ok (.getfield 52, 3) := by decide +kernel
theorem dX5_meetingBy_94 : decode cX5_meetingBy 94 = .ok (.invokevirtual 129, 3) := by decide +kernel
theorem dX5_meetingBy_97 : decode cX5_meetingBy 97 = .ok (.aload_n 0, 1) := by decide +kernel
theorem dX5_meetingBy_98 : decode cX5_meetingBy 98 = .ok (.getfield 46, 3) := by decide +kernel
theorem dX5_meetingBy_101 : decode cX5_meetingBy 101 = .ok (.invokevirtual 132, 3) := by decide +kernel
theorem dX5_meetingBy_104 : decode cX5_meetingBy 104 = .ok (.istore 4, 2) := by decide +kernel
theorem dX5_meetingBy_106 : decode cX5_meetingBy 106 = .ok (.goto 25, 3) := by decide +kernel
theorem dX5_meetingBy_109 : decode cX5_meetingBy 109 = .ok (.iload_n 2, 1) := by decide +kernel
theorem dX5_meetingBy_110 : decode cX5_meetingBy 110 = .ok (.iconst 3, 1) := by decide +kernel
theorem dX5_meetingBy_111 : decode cX5_meetingBy 111 = .ok (.if_icmp .ne 20, 3) := by decide +kernel
theorem dX5_meetingBy_114 : decode cX5_meetingBy 114 = .ok (.aload_n 0, 1) := by decide +kernel
theorem dX5_meetingBy_115 : decode cX5_meetingBy 115 = .ok (.getfield 65, 3) := by decide +kernel
theorem dX5_meetingBy_118 : decode cX5_meetingBy 118 = .ok (.iconst 1, 1) := by decide +kernel
theorem dX5_meetingBy_119 : decode cX5_meetingBy 119 = .ok (.iadd, 1) := by decide +kernel
theorem dX5_meetingBy_120 : decode cX5_meetingBy 120 = .ok (.iload_n 3, 1) := by decide +kernel
theorem dX5_meetingBy_121 : decode cX5_meetingBy 121 = .ok (.if_icmp .le 7, 3) := by decide +kernel
theorem dX5_meetingBy_124 : decode cX5_meetingBy 124 = .ok (.iconst 1, 1) := by decide +kernel
theorem dX5_meetingBy_125 : decode cX5_meetingBy 125 = .ok (.goto 4, 3) := by decide +kernel
theorem dX5_meetingBy_128 : decode cX5_meetingBy 128 = .ok (.iconst 0, 1) := by decide +kernel
theorem dX5_meetingBy_129 : decode cX5_meetingBy 129 = .ok (.istore 4, 2) := by decide +kernel
theorem dX5_meetingBy_131 : decode cX5_meetingBy 131 = .ok (.iload 4, 2) := by decide +kernel
theorem dX5_meetingBy_133 : decode cX5_meetingBy 133 = .ok (.ifCond .eq 7, 3) := by decide +kernel
theorem dX5_meetingBy_136 : decode cX5_meetingBy 136 = .ok (.iconst 2, 1) := by decide +kernel
theorem dX5_meetingBy_137 : decode cX5_meetingBy 137 = .ok (.goto 4, 3) := by decide +kernel
theorem dX5_meetingBy_140 : decode cX5_meetingBy 140 = .ok (.iconst 1, 1) := by decide +kernel
theorem dX5_meetingBy_141 : decode cX5_meetingBy 141 = .ok (.ireturn, 1) := by decide +kernel
theorem dX5_fixedBitsWith_0 : decode cX5_fixedBitsWith 0 = .ok (.aload_n 0, 1) := by decide +kernel
theorem dX5_fixedBitsWith_1 : decode cX5_fixedBitsWith 1 = .ok (.aload_n 1, 1) := by decide +kernel
theorem dX5_fixedBitsWith_2 : decode cX5_fixedBitsWith 2 = .ok (.invokevirtual 114, 3) := by decide +kernel
theorem dX5_fixedBitsWith_5 : decode cX5_fixedBitsWith 5 = .ok (.aload_n 0, 1) := by decide +kernel
theorem dX5_fixedBitsWith_6 : decode cX5_fixedBitsWith 6 = .ok (.getfield 42, 3) := by decide +kernel
theorem dX5_fixedBitsWith_9 : decode cX5_fixedBitsWith 9 = .ok (.aload_n 0, 1) := by decide +kernel
theorem dX5_fixedBitsWith_10 : decode cX5_fixedBitsWith 10 = .ok (.getfield 52, 3) := by decide +kernel
theorem dX5_fixedBitsWith_13 : decode cX5_fixedBitsWith 13 = .ok (.invokevirtual 121, 3) := by decide +kernel
theorem dX5_fixedBitsWith_16 : decode cX5_fixedBitsWith 16 = .ok (.ireturn, 1) := by decide +kernel
theorem dX5_join_0 : decode cX5_join 0 = .ok (.aload_n 0, 1) := by decide +kernel
theorem dX5_join_1 : decode cX5_join 1 = .ok (.aload_n 1, 1) := by decide +kernel
theorem dX5_join_2 : decode cX5_join 2 = .ok (.invokevirtual 114, 3) := by decide +kernel
theorem dX5_join_5 : decode cX5_join 5 = .ok (.aload_n 0, 1) := by decide +kernel
theorem dX5_join_6 : decode cX5_join 6 = .ok (.getfield 52, 3) := by decide +kernel
theorem dX5_join_9 : decode cX5_join 9 = .ok (.invokestatic 117, 3) := by decide +kernel
theorem dX5_join_12 : decode cX5_join 12 = .ok (.ifCond .lt 15, 3) := by decide +kernel
theorem dX5_join_15 : decode cX5_join 15 = .ok (.aload_n 0, 1) := by decide +kernel
theorem dX5_join_16 : decode cX5_join 16 = .ok (.getfield 65, 3) := by decide +kernel
theorem dX5_join_19 : decode cX5_join 19 = .ok (.bipush 10, 2) := by decide +kernel
theorem dX5_join_21 : decode cX5_join 21 = .ok (.invokestatic 72, 3) := by decide +kernel
theorem dX5_join_24 : decode cX5_join 24 = .ok (.ifCond .ne 4, 3) := by decide +kernel
theorem dX5_join_27 : decode cX5_join 27 = .ok (.return_, 1) := by decide +kernel
theorem dX5_join_28 : decode cX5_join 28 = .ok (.aload_n 0, 1) := by decide +kernel
theorem dX5_join_29 : decode cX5_join 29 = .ok (.getfield 49, 3) := by decide +kernel
theorem dX5_join_32 : decode cX5_join 32 = .ok (.iconst 0, 1) := by decide +kernel
theorem dX5_join_33 : decode cX5_join 33 = .ok (.aload_n 0, 1) := by decide +kernel
theorem dX5_join_34 : decode cX5_join 34 = .ok (.getfield 33, 3) := by decide +kernel
theorem dX5_join_37 : decode cX5_join 37 = .ok (.aload_n 0, 1) := by decide +kernel
theorem dX5_join_38 : decode cX5_join 38 = .ok (.getfield 65, 3) := by decide +kernel
theorem dX5_join_41 : decode cX5_join 41 = .ok (.aaload, 1) := by decide +kernel
theorem dX5_join_42 : decode cX5_join 42 = .ok (.iconst 0, 1) := by decide +kernel
theorem dX5_join_43 : decode cX5_join 43 = .ok (.bipush 10, 2) := by decide +kernel
theorem dX5_join_45 : decode cX5_join 45 = .ok (.invokestatic 56, 3) := by decide +kernel
theorem dX5_join_48 : decode cX5_join 48 = .ok (.aload_n 0, 1) := by decide +kernel
theorem dX5_join_49 : decode cX5_join 49 = .ok (.getfield 36, 3) := by decide +kernel
theorem dX5_join_52 : decode cX5_join 52 = .ok (.aload_n 0, 1) := by decide +kernel
theorem dX5_join_53 : decode cX5_join 53 = .ok (.getfield 65, 3) := by decide +kernel
theorem dX5_join_56 : decode cX5_join 56 = .ok (.aload_n 0, 1) := by decide +kernel
theorem dX5_join_57 : decode cX5_join 57 = .ok (.aload_n 1, 1) := by decide +kernel
theorem dX5_join_58 : decode cX5_join 58 = .ok (.invokevirtual 136, 3) := by decide +kernel
theorem dX5_join_61 : decode cX5_join 61 = .ok (.iastore, 1) := by decide +kernel
theorem dX5_join_62 : decode cX5_join 62 = .ok (.aload_n 0, 1) := by decide +kernel
theorem dX5_join_63 : decode cX5_join 63 = .ok (.dup, 1) := by decide +kernel
theorem dX5_join_64 : decode cX5_join 64 = .ok (.getfield 65, 3) := by decide +kernel
theorem dX5_join_67 : decode cX5_join 67 = .ok (.iconst 1, 1) := by decide +kernel
theorem dX5_join_68 : decode cX5_join 68 = .ok (.iadd, 1) := by decide +kernel
theorem dX5_join_69 : decode cX5_join 69 = .ok (.putfield 65, 3) := by decide +kernel
theorem dX5_join_72 : decode cX5_join 72 = .ok (.aload_n 0, 1) := by decide +kernel
theorem dX5_join_73 : decode cX5_join 73 = .ok (.getfield 42, 3) := by decide +kernel
theorem dX5_join_76 : decode cX5_join 76 = .ok (.aload_n 0, 1) := by decide +kernel
theorem dX5_join_77 : decode cX5_join 77 = .ok (.getfield 52, 3) := by decide +kernel
theorem dX5_join_80 : decode cX5_join 80 = .ok (.invokevirtual 129, 3) := by decide +kernel
theorem dX5_join_83 : decode cX5_join 83 = .ok (.return_, 1) := by decide +kernel
theorem dX5_trueAnswer_0 : decode cX5_trueAnswer 0 = .ok (.iconst 0, 1) := by decide +kernel
theorem dX5_trueAnswer_1 : decode cX5_trueAnswer 1 = .ok (.istore_n 2, 1) := by decide +kernel
theorem dX5_trueAnswer_2 : decode cX5_trueAnswer 2 = .ok (.iconst 0, 1) := by decide +kernel
theorem dX5_trueAnswer_3 : decode cX5_trueAnswer 3 = .ok (.istore_n 3, 1) := by decide +kernel
theorem dX5_trueAnswer_4 : decode cX5_trueAnswer 4 = .ok (.iload_n 3, 1) := by decide +kernel
theorem dX5_trueAnswer_5 : decode cX5_trueAnswer 5 = .ok (.bipush 8, 2) := by decide +kernel
theorem dX5_trueAnswer_7 : decode cX5_trueAnswer 7 = .ok (.if_icmp .ge 44, 3) := by decide +kernel
theorem dX5_trueAnswer_10 : decode cX5_trueAnswer 10 = .ok (.aload_n 0, 1) := by decide +kernel
theorem dX5_trueAnswer_11 : decode cX5_trueAnswer 11 = .ok (.getfield 9, 3) := by decide +kernel
theorem dX5_trueAnswer_14 : decode cX5_trueAnswer 14 = .ok (.iload_n 3, 1) := by decide +kernel
theorem dX5_trueAnswer_15 : decode cX5_trueAnswer 15 = .ok (.iaload, 1) := by decide +kernel
theorem dX5_trueAnswer_16 : decode cX5_trueAnswer 16 = .ok (.istore 4, 2) := by decide +kernel
theorem dX5_trueAnswer_18 : decode cX5_trueAnswer 18 = .ok (.iload 4, 2) := by decide +kernel
theorem dX5_trueAnswer_20 : decode cX5_trueAnswer 20 = .ok (.bipush 10, 2) := by decide +kernel
theorem dX5_trueAnswer_22 : decode cX5_trueAnswer 22 = .ok (.invokestatic 72, 3) := by decide +kernel
theorem dX5_trueAnswer_25 : decode cX5_trueAnswer 25 = .ok (.ifCond .eq 20, 3) := by decide +kernel
theorem dX5_trueAnswer_28 : decode cX5_trueAnswer 28 = .ok (.iload_n 2, 1) := by decide +kernel
theorem dX5_trueAnswer_29 : decode cX5_trueAnswer 29 = .ok (.aload_n 1, 1) := by decide +kernel
theorem dX5_trueAnswer_30 : decode cX5_trueAnswer 30 = .ok (.getfield 140, 3) := by decide +kernel
theorem dX5_trueAnswer_33 : decode cX5_trueAnswer 33 = .ok (.iload_n 3, 1) := by decide +kernel
theorem dX5_trueAnswer_34 : decode cX5_trueAnswer 34 = .ok (.iaload, 1) := by decide +kernel
theorem dX5_trueAnswer_35 : decode cX5_trueAnswer 35 = .ok (.aload_n 0, 1) := by decide +kernel
theorem dX5_trueAnswer_36 : decode cX5_trueAnswer 36 = .ok (.getfield 15, 3) := by decide +kernel
theorem dX5_trueAnswer_39 : decode cX5_trueAnswer 39 = .ok (.iload 4, 2) := by decide +kernel
theorem dX5_trueAnswer_41 : decode cX5_trueAnswer 41 = .ok (.iaload, 1) := by decide +kernel
theorem dX5_trueAnswer_42 : decode cX5_trueAnswer 42 = .ok (.imul, 1) := by decide +kernel
theorem dX5_trueAnswer_43 : decode cX5_trueAnswer 43 = .ok (.iadd, 1) := by decide +kernel
theorem dX5_trueAnswer_44 : decode cX5_trueAnswer 44 = .ok (.istore_n 2, 1) := by decide +kernel
theorem dX5_trueAnswer_45 : decode cX5_trueAnswer 45 = .ok (.iinc 3 1, 3) := by decide +kernel
theorem dX5_trueAnswer_48 : decode cX5_trueAnswer 48 = .ok (.goto (-44), 3) := by decide +kernel
theorem dX5_trueAnswer_51 : decode cX5_trueAnswer 51 = .ok (.iload_n 2, 1) := by decide +kernel
theorem dX5_trueAnswer_52 : decode cX5_trueAnswer 52 = .ok (.ireturn, 1) := by decide +kernel
theorem dX5_findRest_0 : decode cX5_findRest 0 = .ok (.iconst 0, 1) := by decide +kernel
theorem dX5_findRest_1 : decode cX5_findRest 1 = .ok (.istore_n 2, 1) := by decide +kernel
theorem dX5_findRest_2 : decode cX5_findRest 2 = .ok (.iload_n 2, 1) := by decide +kernel
theorem dX5_findRest_3 : decode cX5_findRest 3 = .ok (.bipush 10, 2) := by decide +kernel
theorem dX5_findRest_5 : decode cX5_findRest 5 = .ok (.if_icmp .ge 16, 3) := by decide +kernel
theorem dX5_findRest_8 : decode cX5_findRest 8 = .ok (.aload_n 0, 1) := by decide +kernel
theorem dX5_findRest_9 : decode cX5_findRest 9 = .ok (.getfield 49, 3) := by decide +kernel
theorem dX5_findRest_12 : decode cX5_findRest 12 = .ok (.iload_n 2, 1) := by decide +kernel
theorem dX5_findRest_13 : decode cX5_findRest 13 = .ok (.iconst 0, 1) := by decide +kernel
theorem dX5_findRest_14 : decode cX5_findRest 14 = .ok (.iastore, 1) := by decide +kernel
theorem dX5_findRest_15 : decode cX5_findRest 15 = .ok (.iinc 2 1, 3) := by decide +kernel
theorem dX5_findRest_18 : decode cX5_findRest 18 = .ok (.goto (-16), 3) := by decide +kernel
theorem dX5_findRest_21 : decode cX5_findRest 21 = .ok (.iconst 0, 1) := by decide +kernel
theorem dX5_findRest_22 : decode cX5_findRest 22 = .ok (.istore_n 2, 1) := by decide +kernel
theorem dX5_findRest_23 : decode cX5_findRest 23 = .ok (.iload_n 2, 1) := by decide +kernel
theorem dX5_findRest_24 : decode cX5_findRest 24 = .ok (.bipush 8, 2) := by decide +kernel
theorem dX5_findRest_26 : decode cX5_findRest 26 = .ok (.if_icmp .ge 37, 3) := by decide +kernel
theorem dX5_findRest_29 : decode cX5_findRest 29 = .ok (.aload_n 0, 1) := by decide +kernel
theorem dX5_findRest_30 : decode cX5_findRest 30 = .ok (.getfield 9, 3) := by decide +kernel
theorem dX5_findRest_33 : decode cX5_findRest 33 = .ok (.iload_n 2, 1) := by decide +kernel
theorem dX5_findRest_34 : decode cX5_findRest 34 = .ok (.iaload, 1) := by decide +kernel
theorem dX5_findRest_35 : decode cX5_findRest 35 = .ok (.istore_n 3, 1) := by decide +kernel
theorem dX5_findRest_36 : decode cX5_findRest 36 = .ok (.iload_n 3, 1) := by decide +kernel
theorem dX5_findRest_37 : decode cX5_findRest 37 = .ok (.bipush 10, 2) := by decide +kernel
theorem dX5_findRest_39 : decode cX5_findRest 39 = .ok (.invokestatic 72, 3) := by decide +kernel
theorem dX5_findRest_42 : decode cX5_findRest 42 = .ok (.ifCond .eq 15, 3) := by decide +kernel
theorem dX5_findRest_45 : decode cX5_findRest 45 = .ok (.aload_n 0, 1) := by decide +kernel
theorem dX5_findRest_46 : decode cX5_findRest 46 = .ok (.getfield 49, 3) := by decide +kernel
theorem dX5_findRest_49 : decode cX5_findRest 49 = .ok (.iload_n 3, 1) := by decide +kernel
theorem dX5_findRest_50 : decode cX5_findRest 50 = .ok (.aload_n 1, 1) := by decide +kernel
theorem dX5_findRest_51 : decode cX5_findRest 51 = .ok (.getfield 140, 3) := by decide +kernel
theorem dX5_findRest_54 : decode cX5_findRest 54 = .ok (.iload_n 2, 1) := by decide +kernel
theorem dX5_findRest_55 : decode cX5_findRest 55 = .ok (.iaload, 1) := by decide +kernel
theorem dX5_findRest_56 : decode cX5_findRest 56 = .ok (.iastore, 1) := by decide +kernel
theorem dX5_findRest_57 : decode cX5_findRest 57 = .ok (.iinc 2 1, 3) := by decide +kernel
theorem dX5_findRest_60 : decode cX5_findRest 60 = .ok (.goto (-37), 3) := by decide +kernel
theorem dX5_findRest_63 : decode cX5_findRest 63 = .ok (.aload_n 0, 1) := by decide +kernel
theorem dX5_findRest_64 : decode cX5_findRest 64 = .ok (.getfield 42, 3) := by decide +kernel
theorem dX5_findRest_67 : decode cX5_findRest 67 = .ok (.aload_n 0, 1) := by decide +kernel
theorem dX5_findRest_68 : decode cX5_findRest 68 = .ok (.getfield 49, 3) := by decide +kernel
theorem dX5_findRest_71 : decode cX5_findRest 71 = .ok (.aload_n 0, 1) := by decide +kernel
theorem dX5_findRest_72 : decode cX5_findRest 72 = .ok (.getfield 52, 3) := by decide +kernel
theorem dX5_findRest_75 : decode cX5_findRest 75 = .ok (.invokevirtual 143, 3) := by decide +kernel
theorem dX5_findRest_78 : decode cX5_findRest 78 = .ok (.return_, 1) := by decide +kernel
theorem dX6_init_0 : decode cX6_init 0 = .ok (.aload_n 0, 1) := by decide +kernel
theorem dX6_init_1 : decode cX6_init 1 = .ok (.invokespecial 1, 3) := by decide +kernel
theorem dX6_init_4 : decode cX6_init 4 = .ok (.aload_n 0, 1) := by decide +kernel
theorem dX6_init_5 : decode cX6_init 5 = .ok (.new 7, 3) := by decide +kernel
theorem dX6_init_8 : decode cX6_init 8 = .ok (.dup, 1) := by decide +kernel
theorem dX6_init_9 : decode cX6_init 9 = .ok (.invokespecial 9, 3) := by decide +kernel
theorem dX6_init_12 : decode cX6_init 12 = .ok (.putfield 10, 3) := by decide +kernel
theorem dX6_init_15 : decode cX6_init 15 = .ok (.aload_n 0, 1) := by decide +kernel
theorem dX6_init_16 : decode cX6_init 16 = .ok (.new 7, 3) := by decide +kernel
theorem dX6_init_19 : decode cX6_init 19 = .ok (.dup, 1) := by decide +kernel
theorem dX6_init_20 : decode cX6_init 20 = .ok (.invokespecial 9, 3) := by decide +kernel
theorem dX6_init_23 : decode cX6_init 23 = .ok (.putfield 16, 3) := by decide +kernel
theorem dX6_init_26 : decode cX6_init 26 = .ok (.aload_n 0, 1) := by decide +kernel
theorem dX6_init_27 : decode cX6_init 27 = .ok (.new 7, 3) := by decide +kernel
theorem dX6_init_30 : decode cX6_init 30 = .ok (.dup, 1) := by decide +kernel
theorem dX6_init_31 : decode cX6_init 31 = .ok (.invokespecial 9, 3) := by decide +kernel
theorem dX6_init_34 : decode cX6_init 34 = .ok (.putfield 19, 3) := by decide +kernel
theorem dX6_init_37 : decode cX6_init 37 = .ok (.aload_n 0, 1) := by decide +kernel
theorem dX6_init_38 : decode cX6_init 38 = .ok (.new 22, 3) := by decide +kernel
theorem dX6_init_41 : decode cX6_init 41 = .ok (.dup, 1) := by decide +kernel
theorem dX6_init_42 : decode cX6_init 42 = .ok (.invokespecial 24, 3) := by decide +kernel
theorem dX6_init_45 : decode cX6_init 45 = .ok (.putfield 25, 3) := by decide +kernel
theorem dX6_init_48 : decode cX6_init 48 = .ok (.aload_n 0, 1) := by decide +kernel
theorem dX6_init_49 : decode cX6_init 49 = .ok (.new 29, 3) := by decide +kernel
theorem dX6_init_52 : decode cX6_init 52 = .ok (.dup, 1) := by decide +kernel
theorem dX6_init_53 : decode cX6_init 53 = .ok (.invokespecial 31, 3) := by decide +kernel
theorem dX6_init_56 : decode cX6_init 56 = .ok (.putfield 32, 3) := by decide +kernel
theorem dX6_init_59 : decode cX6_init 59 = .ok (.aload_n 0, 1) := by decide +kernel
theorem dX6_init_60 : decode cX6_init 60 = .ok (.new 36, 3) := by decide +kernel
theorem dX6_init_63 : decode cX6_init 63 = .ok (.dup, 1) := by decide +kernel
theorem dX6_init_64 : decode cX6_init 64 = .ok (.bipush 96, 2) := by decide +kernel
theorem dX6_init_66 : decode cX6_init 66 = .ok (.invokespecial 38, 3) := by decide +kernel
theorem dX6_init_69 : decode cX6_init 69 = .ok (.putfield 41, 3) := by decide +kernel
theorem dX6_init_72 : decode cX6_init 72 = .ok (.aload_n 0, 1) := by decide +kernel
theorem dX6_init_73 : decode cX6_init 73 = .ok (.new 36, 3) := by decide +kernel
theorem dX6_init_76 : decode cX6_init 76 = .ok (.dup, 1) := by decide +kernel
theorem dX6_init_77 : decode cX6_init 77 = .ok (.bipush 32, 2) := by decide +kernel
theorem dX6_init_79 : decode cX6_init 79 = .ok (.invokespecial 38, 3) := by decide +kernel
theorem dX6_init_82 : decode cX6_init 82 = .ok (.putfield 45, 3) := by decide +kernel
theorem dX6_init_85 : decode cX6_init 85 = .ok (.aload_n 0, 1) := by decide +kernel
theorem dX6_init_86 : decode cX6_init 86 = .ok (.bipush 6, 2) := by decide +kernel
theorem dX6_init_88 : decode cX6_init 88 = .ok (.newarray .int, 2) := by decide +kernel
theorem dX6_init_90 : decode cX6_init 90 = .ok (.putfield 48, 3) := by decide +kernel
theorem dX6_init_93 : decode cX6_init 93 = .ok (.return_, 1) := by decide +kernel
theorem dX6_letter_0 : decode cX6_letter 0 = .ok (.aload_n 0, 1) := by decide +kernel
theorem dX6_letter_1 : decode cX6_letter 1 = .ok (.aload_n 0, 1) := by decide +kernel
theorem dX6_letter_2 : decode cX6_letter 2 = .ok (.getfield 41, 3) := by decide +kernel
theorem dX6_letter_5 : decode cX6_letter 5 = .ok (.iload_n 1, 1) := by decide +kernel
theorem dX6_letter_6 : decode cX6_letter 6 = .ok (.invokevirtual 52, 3) := by decide +kernel
theorem dX6_letter_9 : decode cX6_letter 9 = .ok (.ireturn, 1) := by decide +kernel
theorem dX6_guard_0 : decode cX6_guard 0 = .ok (.aload_n 0, 1) := by decide +kernel
theorem dX6_guard_1 : decode cX6_guard 1 = .ok (.getfield 16, 3) := by decide +kernel
theorem dX6_guard_4 : decode cX6_guard 4 = .ok (.aload_n 0, 1) := by decide +kernel
theorem dX6_guard_5 : decode cX6_guard 5 = .ok (.getfield 10, 3) := by decide +kernel
theorem dX6_guard_8 : decode cX6_guard 8 = .ok (.invokevirtual 56, 3) := by decide +kernel
theorem dX6_guard_11 : decode cX6_guard 11 = .ok (.aload_n 0, 1) := by decide +kernel
theorem dX6_guard_12 : decode cX6_guard 12 = .ok (.getfield 41, 3) := by decide +kernel
theorem dX6_guard_15 : decode cX6_guard 15 = .ok (.aload_n 0, 1) := by decide +kernel
theorem dX6_guard_16 : decode cX6_guard 16 = .ok (.getfield 16, 3) := by decide +kernel
theorem dX6_guard_19 : decode cX6_guard 19 = .ok (.aload_n 0, 1) := by decide +kernel
theorem dX6_guard_20 : decode cX6_guard 20 = .ok (.getfield 25, 3) := by decide +kernel
theorem dX6_guard_23 : decode cX6_guard 23 = .ok (.invokestatic 60, 3) := by decide +kernel
theorem dX6_guard_26 : decode cX6_guard 26 = .ok (.istore_n 1, 1) := by decide +kernel
theorem dX6_guard_27 : decode cX6_guard 27 = .ok (.aload_n 0, 1) := by decide +kernel
theorem dX6_guard_28 : decode cX6_guard 28 = .ok (.getfield 41, 3) := by decide +kernel
theorem dX6_guard_31 : decode cX6_guard 31 = .ok (.invokevirtual 66, 3) := by decide +kernel
theorem dX6_guard_34 : decode cX6_guard 34 = .ok (.iload_n 1, 1) := by decide +kernel
theorem dX6_guard_35 : decode cX6_guard 35 = .ok (.ifCond .lt 14, 3) := by decide +kernel
theorem dX6_guard_38 : decode cX6_guard 38 = .ok (.aload_n 0, 1) := by decide +kernel
theorem dX6_guard_39 : decode cX6_guard 39 = .ok (.getfield 10, 3) := by decide +kernel
theorem dX6_guard_42 : decode cX6_guard 42 = .ok (.aload_n 0, 1) := by decide +kernel
theorem dX6_guard_43 : decode cX6_guard 43 = .ok (.getfield 16, 3) := by decide +kernel
theorem dX6_guard_46 : decode cX6_guard 46 = .ok (.invokevirtual 56, 3) := by decide +kernel
theorem dX6_guard_49 : decode cX6_guard 49 = .ok (.iload_n 1, 1) := by decide +kernel
theorem dX6_guard_50 : decode cX6_guard 50 = .ok (.ireturn, 1) := by decide +kernel
theorem dX6_person_0 : decode cX6_person 0 = .ok (.iload_n 1, 1) := by decide +kernel
theorem dX6_person_1 : decode cX6_person 1 = .ok (.bipush 8, 2) := by decide +kernel
theorem dX6_person_3 : decode cX6_person 3 = .ok (.invokestatic 69, 3) := by decide +kernel
theorem dX6_person_6 : decode cX6_person 6 = .ok (.ifCond .ne 9, 3) := by decide +kernel
theorem dX6_person_9 : decode cX6_person 9 = .ok (.aload_n 0, 1) := by decide +kernel
theorem dX6_person_10 : decode cX6_person 10 = .ok (.iconst (-1), 1) := by decide +kernel
theorem dX6_person_11 : decode cX6_person 11 = .ok (.invokevirtual 73, 3) := by decide +kernel
theorem dX6_person_14 : decode cX6_person 14 = .ok (.ireturn, 1) := by decide +kernel
theorem dX6_person_15 : decode cX6_person 15 = .ok (.iload_n 2, 1) := by decide +kernel
theorem dX6_person_16 : decode cX6_person 16 = .ok (.iconst 3, 1) := by decide +kernel
theorem dX6_person_17 : decode cX6_person 17 = .ok (.invokestatic 69, 3) := by decide +kernel
theorem dX6_person_20 : decode cX6_person 20 = .ok (.ifCond .ne 10, 3) := by decide +kernel
theorem dX6_person_23 : decode cX6_person 23 = .ok (.aload_n 0, 1) := by decide +kernel
theorem dX6_person_24 : decode cX6_person 24 = .ok (.bipush (-2), 2) := by decide +kernel
theorem dX6_person_26 : decode cX6_person 26 = .ok (.invokevirtual 73, 3) := by decide +kernel
theorem dX6_person_29 : decode cX6_person 29 = .ok (.ireturn, 1) := by decide +kernel
theorem dX6_person_30 : decode cX6_person 30 = .ok (.aload_n 0, 1) := by decide +kernel
theorem dX6_person_31 : decode cX6_person 31 = .ok (.getfield 10, 3) := by decide +kernel
theorem dX6_person_34 : decode cX6_person 34 = .ok (.iload_n 1, 1) := by decide +kernel
theorem dX6_person_35 : decode cX6_person 35 = .ok (.invokevirtual 77, 3) := by decide +kernel
theorem dX6_person_38 : decode cX6_person 38 = .ok (.istore_n 3, 1) := by decide +kernel
theorem dX6_person_39 : decode cX6_person 39 = .ok (.iload_n 2, 1) := by decide +kernel
theorem dX6_person_40 : decode cX6_person 40 = .ok (.ifCond .ne 14, 3) := by decide +kernel
theorem dX6_person_43 : decode cX6_person 43 = .ok (.aload_n 0, 1) := by decide +kernel
theorem dX6_person_44 : decode cX6_person 44 = .ok (.getfield 10, 3) := by decide +kernel
theorem dX6_person_47 : decode cX6_person 47 = .ok (.iload_n 3, 1) := by decide +kernel
theorem dX6_person_48 : decode cX6_person 48 = .ok (.invokevirtual 80, 3) := by decide +kernel
theorem dX6_person_51 : decode cX6_person 51 = .ok (.goto 23, 3) := by decide +kernel
theorem dX6_person_54 : decode cX6_person 54 = .ok (.iload_n 2, 1) := by decide +kernel
theorem dX6_person_55 : decode cX6_person 55 = .ok (.iconst 1, 1) := by decide +kernel
theorem dX6_person_56 : decode cX6_person 56 = .ok (.if_icmp .ne 7, 3) := by decide +kernel
theorem dX6_person_59 : decode cX6_person 59 = .ok (.iload_n 3, 1) := by decide +kernel
theorem dX6_person_60 : decode cX6_person 60 = .ok (.goto 14, 3) := by decide +kernel
theorem dX6_person_63 : decode cX6_person 63 = .ok (.aload_n 0, 1) := by decide +kernel
theorem dX6_person_64 : decode cX6_person 64 = .ok (.getfield 10, 3) := by decide +kernel
theorem dX6_person_67 : decode cX6_person 67 = .ok (.iload_n 3, 1) := by decide +kernel
theorem dX6_person_68 : decode cX6_person 68 = .ok (.invokevirtual 83, 3) := by decide +kernel
theorem dX6_person_71 : decode cX6_person 71 = .ok (.invokestatic 87, 3) := by decide +kernel
theorem dX6_person_74 : decode cX6_person 74 = .ok (.ireturn, 1) := by decide +kernel
theorem dX6_variable_0 : decode cX6_variable 0 = .ok (.aload_n 0, 1) := by decide +kernel
theorem dX6_variable_1 : decode cX6_variable 1 = .ok (.getfield 10, 3) := by decide +kernel
theorem dX6_variable_4 : decode cX6_variable 4 = .ok (.iload_n 1, 1) := by decide +kernel
theorem dX6_variable_5 : decode cX6_variable 5 = .ok (.invokevirtual 91, 3) := by decide +kernel
theorem dX6_variable_8 : decode cX6_variable 8 = .ok (.ifCond .ne 9, 3) := by decide +kernel
theorem dX6_variable_11 : decode cX6_variable 11 = .ok (.aload_n 0, 1) := by decide +kernel
theorem dX6_variable_12 : decode cX6_variable 12 = .ok (.iconst (-1), 1) := by decide +kernel
theorem dX6_variable_13 : decode cX6_variable 13 = .ok (.invokevirtual 73, 3) := by decide +kernel
theorem dX6_variable_16 : decode cX6_variable 16 = .ok (.ireturn, 1) := by decide +kernel
theorem dX6_variable_17 : decode cX6_variable 17 = .ok (.iload_n 2, 1) := by decide +kernel
theorem dX6_variable_18 : decode cX6_variable 18 = .ok (.bipush 7, 2) := by decide +kernel
theorem dX6_variable_20 : decode cX6_variable 20 = .ok (.invokestatic 69, 3) := by decide +kernel
theorem dX6_variable_23 : decode cX6_variable 23 = .ok (.ifCond .ne 10, 3) := by decide +kernel
theorem dX6_variable_26 : decode cX6_variable 26 = .ok (.aload_n 0, 1) := by decide +kernel
theorem dX6_variable_27 : decode cX6_variable 27 = .ok (.bipush (-2), 2) := by decide +kernel
theorem dX6_variable_29 : decode cX6_variable 29 = .ok (.invokevirtual 73, 3) := by decide +kernel
theorem dX6_variable_32 : decode cX6_variable 32 = .ok (.ireturn, 1) := by decide +kernel
theorem dX6_variable_33 : decode cX6_variable 33 = .ok (.iload_n 2, 1) := by decide +kernel
theorem dX6_variable_34 : decode cX6_variable 34 = .ok (.tableswitch 81 0 6 #[42, 51, 60, 81, 81, 81, 69], 42) := by decide +kernel
theorem dX6_variable_76 : decode cX6_variable 76 = .ok (.aload_n 0, 1) := by decide +kernel
theorem dX6_variable_77 : decode cX6_variable 77 = .ok (.getfield 10, 3) := by decide +kernel
theorem dX6_variable_80 : decode cX6_variable 80 = .ok (.iload_n 1, 1) := by decide +kernel
theorem dX6_variable_81 : decode cX6_variable 81 = .ok (.invokevirtual 80, 3) := by decide +kernel
theorem dX6_variable_84 : decode cX6_variable 84 = .ok (.ireturn, 1) := by decide +kernel
theorem dX6_variable_85 : decode cX6_variable 85 = .ok (.aload_n 0, 1) := by decide +kernel
theorem dX6_variable_86 : decode cX6_variable 86 = .ok (.getfield 10, 3) := by decide +kernel
theorem dX6_variable_89 : decode cX6_variable 89 = .ok (.iload_n 1, 1) := by decide +kernel
theorem dX6_variable_90 : decode cX6_variable 90 = .ok (.invokevirtual 94, 3) := by decide +kernel
theorem dX6_variable_93 : decode cX6_variable 93 = .ok (.ireturn, 1) := by decide +kernel
theorem dX6_variable_94 : decode cX6_variable 94 = .ok (.aload_n 0, 1) := by decide +kernel
theorem dX6_variable_95 : decode cX6_variable 95 = .ok (.getfield 10, 3) := by decide +kernel
theorem dX6_variable_98 : decode cX6_variable 98 = .ok (.iload_n 1, 1) := by decide +kernel
theorem dX6_variable_99 : decode cX6_variable 99 = .ok (.invokevirtual 97, 3) := by decide +kernel
theorem dX6_variable_102 : decode cX6_variable 102 = .ok (.ireturn, 1) := by decide +kernel
theorem dX6_variable_103 : decode cX6_variable 103 = .ok (.aload_n 0, 1) := by decide +kernel
theorem dX6_variable_104 : decode cX6_variable 104 = .ok (.getfield 10, 3) := by decide +kernel
theorem dX6_variable_107 : decode cX6_variable 107 = .ok (.iload_n 1, 1) := by decide +kernel
theorem dX6_variable_108 : decode cX6_variable 108 = .ok (.invokevirtual 83, 3) := by decide +kernel
theorem dX6_variable_111 : decode cX6_variable 111 = .ok (.invokestatic 87, 3) := by decide +kernel
theorem dX6_variable_114 : decode cX6_variable 114 = .ok (.ireturn, 1) := by decide +kernel
theorem dX6_variable_115 : decode cX6_variable 115 = .ok (.aload_n 0, 1) := by decide +kernel
theorem dX6_variable_116 : decode cX6_variable 116 = .ok (.iload_n 1, 1) := by decide +kernel
theorem dX6_variable_117 : decode cX6_variable 117 = .ok (.iload_n 2, 1) := by decide +kernel
theorem dX6_variable_118 : decode cX6_variable 118 = .ok (.invokevirtual 100, 3) := by decide +kernel
theorem dX6_variable_121 : decode cX6_variable 121 = .ok (.ireturn, 1) := by decide +kernel
theorem dX6_narrowed_0 : decode cX6_narrowed 0 = .ok (.aload_n 0, 1) := by decide +kernel
theorem dX6_narrowed_1 : decode cX6_narrowed 1 = .ok (.getfield 32, 3) := by decide +kernel
theorem dX6_narrowed_4 : decode cX6_narrowed 4 = .ok (.aload_n 0, 1) := by decide +kernel
theorem dX6_narrowed_5 : decode cX6_narrowed 5 = .ok (.getfield 10, 3) := by decide +kernel
theorem dX6_narrowed_8 : decode cX6_narrowed 8 = .ok (.invokevirtual 104, 3) := by decide +kernel
theorem dX6_narrowed_11 : decode cX6_narrowed 11 = .ok (.iload_n 2, 1) := by decide +kernel
theorem dX6_narrowed_12 : decode cX6_narrowed 12 = .ok (.iconst 3, 1) := by decide +kernel
theorem dX6_narrowed_13 : decode cX6_narrowed 13 = .ok (.if_icmp .ne 14, 3) := by decide +kernel
theorem dX6_narrowed_16 : decode cX6_narrowed 16 = .ok (.aload_n 0, 1) := by decide +kernel
theorem dX6_narrowed_17 : decode cX6_narrowed 17 = .ok (.getfield 32, 3) := by decide +kernel
theorem dX6_narrowed_20 : decode cX6_narrowed 20 = .ok (.iload_n 1, 1) := by decide +kernel
theorem dX6_narrowed_21 : decode cX6_narrowed 21 = .ok (.invokevirtual 107, 3) := by decide +kernel
theorem dX6_narrowed_24 : decode cX6_narrowed 24 = .ok (.goto 27, 3) := by decide +kernel
theorem dX6_narrowed_27 : decode cX6_narrowed 27 = .ok (.iload_n 2, 1) := by decide +kernel
theorem dX6_narrowed_28 : decode cX6_narrowed 28 = .ok (.iconst 4, 1) := by decide +kernel
theorem dX6_narrowed_29 : decode cX6_narrowed 29 = .ok (.if_icmp .ne 14, 3) := by decide +kernel
theorem dX6_narrowed_32 : decode cX6_narrowed 32 = .ok (.aload_n 0, 1) := by decide +kernel
theorem dX6_narrowed_33 : decode cX6_narrowed 33 = .ok (.getfield 32, 3) := by decide +kernel
theorem dX6_narrowed_36 : decode cX6_narrowed 36 = .ok (.iload_n 1, 1) := by decide +kernel
theorem dX6_narrowed_37 : decode cX6_narrowed 37 = .ok (.invokevirtual 110, 3) := by decide +kernel
theorem dX6_narrowed_40 : decode cX6_narrowed 40 = .ok (.goto 11, 3) := by decide +kernel
theorem dX6_narrowed_43 : decode cX6_narrowed 43 = .ok (.aload_n 0, 1) := by decide +kernel
theorem dX6_narrowed_44 : decode cX6_narrowed 44 = .ok (.getfield 32, 3) := by decide +kernel
theorem dX6_narrowed_47 : decode cX6_narrowed 47 = .ok (.iload_n 1, 1) := by decide +kernel
theorem dX6_narrowed_48 : decode cX6_narrowed 48 = .ok (.invokevirtual 113, 3) := by decide +kernel
theorem dX6_narrowed_51 : decode cX6_narrowed 51 = .ok (.ireturn, 1) := by decide +kernel
theorem dX6_tells_0 : decode cX6_tells 0 = .ok (.iload_n 1, 1) := by decide +kernel
theorem dX6_tells_1 : decode cX6_tells 1 = .ok (.iload_n 2, 1) := by decide +kernel
theorem dX6_tells_2 : decode cX6_tells 2 = .ok (.invokestatic 116, 3) := by decide +kernel
theorem dX6_tells_5 : decode cX6_tells 5 = .ok (.istore_n 3, 1) := by decide +kernel
theorem dX6_tells_6 : decode cX6_tells 6 = .ok (.iload_n 3, 1) := by decide +kernel
theorem dX6_tells_7 : decode cX6_tells 7 = .ok (.ifCond .eq 9, 3) := by decide +kernel
theorem dX6_tells_10 : decode cX6_tells 10 = .ok (.aload_n 0, 1) := by decide +kernel
theorem dX6_tells_11 : decode cX6_tells 11 = .ok (.iload_n 3, 1) := by decide +kernel
theorem dX6_tells_12 : decode cX6_tells 12 = .ok (.invokevirtual 73, 3) := by decide +kernel
theorem dX6_tells_15 : decode cX6_tells 15 = .ok (.ireturn, 1) := by decide +kernel
theorem dX6_tells_16 : decode cX6_tells 16 = .ok (.aload_n 0, 1) := by decide +kernel
theorem dX6_tells_17 : decode cX6_tells 17 = .ok (.getfield 10, 3) := by decide +kernel
theorem dX6_tells_20 : decode cX6_tells 20 = .ok (.aload_n 0, 1) := by decide +kernel
theorem dX6_tells_21 : decode cX6_tells 21 = .ok (.getfield 10, 3) := by decide +kernel
theorem dX6_tells_24 : decode cX6_tells 24 = .ok (.iload_n 1, 1) := by decide +kernel
theorem dX6_tells_25 : decode cX6_tells 25 = .ok (.invokevirtual 77, 3) := by decide +kernel
theorem dX6_tells_28 : decode cX6_tells 28 = .ok (.invokevirtual 80, 3) := by decide +kernel
theorem dX6_tells_31 : decode cX6_tells 31 = .ok (.istore 4, 2) := by decide +kernel
theorem dX6_tells_33 : decode cX6_tells 33 = .ok (.aload_n 0, 1) := by decide +kernel
theorem dX6_tells_34 : decode cX6_tells 34 = .ok (.getfield 10, 3) := by decide +kernel
theorem dX6_tells_37 : decode cX6_tells 37 = .ok (.iload_n 1, 1) := by decide +kernel
theorem dX6_tells_38 : decode cX6_tells 38 = .ok (.iload_n 2, 1) := by decide +kernel
theorem dX6_tells_39 : decode cX6_tells 39 = .ok (.invokevirtual 119, 3) := by decide +kernel
theorem dX6_tells_42 : decode cX6_tells 42 = .ok (.ifCond .eq 8, 3) := by decide +kernel
theorem dX6_tells_45 : decode cX6_tells 45 = .ok (.iload 4, 2) := by decide +kernel
theorem dX6_tells_47 : decode cX6_tells 47 = .ok (.goto 9, 3) := by decide +kernel
theorem dX6_tells_50 : decode cX6_tells 50 = .ok (.aload_n 0, 1) := by decide +kernel
theorem dX6_tells_51 : decode cX6_tells 51 = .ok (.bipush (-3), 2) := by decide +kernel
theorem dX6_tells_53 : decode cX6_tells 53 = .ok (.invokevirtual 73, 3) := by decide +kernel
theorem dX6_tells_56 : decode cX6_tells 56 = .ok (.ireturn, 1) := by decide +kernel
theorem dX6_changes_0 : decode cX6_changes 0 = .ok (.iload_n 1, 1) := by decide +kernel
theorem dX6_changes_1 : decode cX6_changes 1 = .ok (.iload_n 2, 1) := by decide +kernel
theorem dX6_changes_2 : decode cX6_changes 2 = .ok (.invokestatic 116, 3) := by decide +kernel
theorem dX6_changes_5 : decode cX6_changes 5 = .ok (.istore_n 3, 1) := by decide +kernel
theorem dX6_changes_6 : decode cX6_changes 6 = .ok (.iload_n 3, 1) := by decide +kernel
theorem dX6_changes_7 : decode cX6_changes 7 = .ok (.ifCond .eq 9, 3) := by decide +kernel
theorem dX6_changes_10 : decode cX6_changes 10 = .ok (.aload_n 0, 1) := by decide +kernel
theorem dX6_changes_11 : decode cX6_changes 11 = .ok (.iload_n 3, 1) := by decide +kernel
theorem dX6_changes_12 : decode cX6_changes 12 = .ok (.invokevirtual 73, 3) := by decide +kernel
theorem dX6_changes_15 : decode cX6_changes 15 = .ok (.ireturn, 1) := by decide +kernel
theorem dX6_changes_16 : decode cX6_changes 16 = .ok (.aload_n 0, 1) := by decide +kernel
theorem dX6_changes_17 : decode cX6_changes 17 = .ok (.getfield 10, 3) := by decide +kernel
theorem dX6_changes_20 : decode cX6_changes 20 = .ok (.iload_n 1, 1) := by decide +kernel
theorem dX6_changes_21 : decode cX6_changes 21 = .ok (.iload_n 2, 1) := by decide +kernel
theorem dX6_changes_22 : decode cX6_changes 22 = .ok (.invokevirtual 122, 3) := by decide +kernel
theorem dX6_changes_25 : decode cX6_changes 25 = .ok (.ifCond .eq 14, 3) := by decide +kernel
theorem dX6_changes_28 : decode cX6_changes 28 = .ok (.aload_n 0, 1) := by decide +kernel
theorem dX6_changes_29 : decode cX6_changes 29 = .ok (.getfield 10, 3) := by decide +kernel
theorem dX6_changes_32 : decode cX6_changes 32 = .ok (.iload_n 1, 1) := by decide +kernel
theorem dX6_changes_33 : decode cX6_changes 33 = .ok (.invokevirtual 77, 3) := by decide +kernel
theorem dX6_changes_36 : decode cX6_changes 36 = .ok (.goto 9, 3) := by decide +kernel
theorem dX6_changes_39 : decode cX6_changes 39 = .ok (.aload_n 0, 1) := by decide +kernel
theorem dX6_changes_40 : decode cX6_changes 40 = .ok (.bipush (-6), 2) := by decide +kernel
theorem dX6_changes_42 : decode cX6_changes 42 = .ok (.invokevirtual 73, 3) := by decide +kernel
theorem dX6_changes_45 : decode cX6_changes 45 = .ok (.ireturn, 1) := by decide +kernel
theorem dX6_misfitOfValue_0 : decode cX6_misfitOfValue 0 = .ok (.iload_n 0, 1) := by decide +kernel
theorem dX6_misfitOfValue_1 : decode cX6_misfitOfValue 1 = .ok (.bipush 8, 2) := by decide +kernel
theorem dX6_misfitOfValue_3 : decode cX6_misfitOfValue 3 = .ok (.invokestatic 69, 3) := by decide +kernel
theorem dX6_misfitOfValue_6 : decode cX6_misfitOfValue 6 = .ok (.ifCond .ne 5, 3) := by decide +kernel
theorem dX6_misfitOfValue_9 : decode cX6_misfitOfValue 9 = .ok (.iconst (-1), 1) := by decide +kernel
theorem dX6_misfitOfValue_10 : decode cX6_misfitOfValue 10 = .ok (.ireturn, 1) := by decide +kernel
theorem dX6_misfitOfValue_11 : decode cX6_misfitOfValue 11 = .ok (.iload_n 1, 1) := by decide +kernel
theorem dX6_misfitOfValue_12 : decode cX6_misfitOfValue 12 = .ok (.iconst 0, 1) := by decide +kernel
theorem dX6_misfitOfValue_13 : decode cX6_misfitOfValue 13 = .ok (.bipush 99, 2) := by decide +kernel
theorem dX6_misfitOfValue_15 : decode cX6_misfitOfValue 15 = .ok (.invokestatic 125, 3) := by decide +kernel
theorem dX6_misfitOfValue_18 : decode cX6_misfitOfValue 18 = .ok (.ireturn, 1) := by decide +kernel
theorem dX6_bounds_0 : decode cX6_bounds 0 = .ok (.aload_n 0, 1) := by decide +kernel
theorem dX6_bounds_1 : decode cX6_bounds 1 = .ok (.getfield 10, 3) := by decide +kernel
theorem dX6_bounds_4 : decode cX6_bounds 4 = .ok (.iload_n 1, 1) := by decide +kernel
theorem dX6_bounds_5 : decode cX6_bounds 5 = .ok (.invokevirtual 91, 3) := by decide +kernel
theorem dX6_bounds_8 : decode cX6_bounds 8 = .ok (.ifCond .ne 9, 3) := by decide +kernel
theorem dX6_bounds_11 : decode cX6_bounds 11 = .ok (.aload_n 0, 1) := by decide +kernel
theorem dX6_bounds_12 : decode cX6_bounds 12 = .ok (.iconst (-1), 1) := by decide +kernel
theorem dX6_bounds_13 : decode cX6_bounds 13 = .ok (.invokevirtual 73, 3) := by decide +kernel
theorem dX6_bounds_16 : decode cX6_bounds 16 = .ok (.ireturn, 1) := by decide +kernel
theorem dX6_bounds_17 : decode cX6_bounds 17 = .ok (.iload_n 2, 1) := by decide +kernel
theorem dX6_bounds_18 : decode cX6_bounds 18 = .ok (.ifCond .lt 7, 3) := by decide +kernel
theorem dX6_bounds_21 : decode cX6_bounds 21 = .ok (.iload_n 3, 1) := by decide +kernel
theorem dX6_bounds_22 : decode cX6_bounds 22 = .ok (.ifCond .ge 10, 3) := by decide +kernel
theorem dX6_bounds_25 : decode cX6_bounds 25 = .ok (.aload_n 0, 1) := by decide +kernel
theorem dX6_bounds_26 : decode cX6_bounds 26 = .ok (.bipush (-4), 2) := by decide +kernel
theorem dX6_bounds_28 : decode cX6_bounds 28 = .ok (.invokevirtual 73, 3) := by decide +kernel
theorem dX6_bounds_31 : decode cX6_bounds 31 = .ok (.ireturn, 1) := by decide +kernel
theorem dX6_bounds_32 : decode cX6_bounds 32 = .ok (.iload_n 2, 1) := by decide +kernel
theorem dX6_bounds_33 : decode cX6_bounds 33 = .ok (.bipush 99, 2) := by decide +kernel
theorem dX6_bounds_35 : decode cX6_bounds 35 = .ok (.if_icmp .gt 9, 3) := by decide +kernel
theorem dX6_bounds_38 : decode cX6_bounds 38 = .ok (.iload_n 3, 1) := by decide +kernel
theorem dX6_bounds_39 : decode cX6_bounds 39 = .ok (.bipush 99, 2) := by decide +kernel
theorem dX6_bounds_41 : decode cX6_bounds 41 = .ok (.if_icmp .le 10, 3) := by decide +kernel
theorem dX6_bounds_44 : decode cX6_bounds 44 = .ok (.aload_n 0, 1) := by decide +kernel
theorem dX6_bounds_45 : decode cX6_bounds 45 = .ok (.bipush (-6), 2) := by decide +kernel
theorem dX6_bounds_47 : decode cX6_bounds 47 = .ok (.invokevirtual 73, 3) := by decide +kernel
theorem dX6_bounds_50 : decode cX6_bounds 50 = .ok (.ireturn, 1) := by decide +kernel
theorem dX6_bounds_51 : decode cX6_bounds 51 = .ok (.aload_n 0, 1) := by decide +kernel
theorem dX6_bounds_52 : decode cX6_bounds 52 = .ok (.getfield 10, 3) := by decide +kernel
theorem dX6_bounds_55 : decode cX6_bounds 55 = .ok (.iload_n 1, 1) := by decide +kernel
theorem dX6_bounds_56 : decode cX6_bounds 56 = .ok (.iload_n 2, 1) := by decide +kernel
theorem dX6_bounds_57 : decode cX6_bounds 57 = .ok (.iload_n 3, 1) := by decide +kernel
theorem dX6_bounds_58 : decode cX6_bounds 58 = .ok (.invokevirtual 129, 3) := by decide +kernel
theorem dX6_bounds_61 : decode cX6_bounds 61 = .ok (.ifCond .eq 7, 3) := by decide +kernel
theorem dX6_bounds_64 : decode cX6_bounds 64 = .ok (.iconst 1, 1) := by decide +kernel
theorem dX6_bounds_65 : decode cX6_bounds 65 = .ok (.goto 9, 3) := by decide +kernel
theorem dX6_bounds_68 : decode cX6_bounds 68 = .ok (.aload_n 0, 1) := by decide +kernel
theorem dX6_bounds_69 : decode cX6_bounds 69 = .ok (.bipush (-3), 2) := by decide +kernel
theorem dX6_bounds_71 : decode cX6_bounds 71 = .ok (.invokevirtual 73, 3) := by decide +kernel
theorem dX6_bounds_74 : decode cX6_bounds 74 = .ok (.ireturn, 1) := by decide +kernel
theorem dX6_rule_0 : decode cX6_rule 0 = .ok (.aload_n 0, 1) := by decide +kernel
theorem dX6_rule_1 : decode cX6_rule 1 = .ok (.getfield 10, 3) := by decide +kernel
theorem dX6_rule_4 : decode cX6_rule 4 = .ok (.getfield 133, 3) := by decide +kernel
theorem dX6_rule_7 : decode cX6_rule 7 = .ok (.istore_n 2, 1) := by decide +kernel
theorem dX6_rule_8 : decode cX6_rule 8 = .ok (.aload_n 0, 1) := by decide +kernel
theorem dX6_rule_9 : decode cX6_rule 9 = .ok (.getfield 10, 3) := by decide +kernel
theorem dX6_rule_12 : decode cX6_rule 12 = .ok (.iload_n 1, 1) := by decide +kernel
theorem dX6_rule_13 : decode cX6_rule 13 = .ok (.invokevirtual 137, 3) := by decide +kernel
theorem dX6_rule_16 : decode cX6_rule 16 = .ok (.ifCond .eq 7, 3) := by decide +kernel
theorem dX6_rule_19 : decode cX6_rule 19 = .ok (.iload_n 2, 1) := by decide +kernel
theorem dX6_rule_20 : decode cX6_rule 20 = .ok (.goto 9, 3) := by decide +kernel
theorem dX6_rule_23 : decode cX6_rule 23 = .ok (.aload_n 0, 1) := by decide +kernel
theorem dX6_rule_24 : decode cX6_rule 24 = .ok (.bipush (-2), 2) := by decide +kernel
theorem dX6_rule_26 : decode cX6_rule 26 = .ok (.invokevirtual 73, 3) := by decide +kernel
theorem dX6_rule_29 : decode cX6_rule 29 = .ok (.ireturn, 1) := by decide +kernel
theorem dX6_limit_0 : decode cX6_limit 0 = .ok (.iload_n 1, 1) := by decide +kernel
theorem dX6_limit_1 : decode cX6_limit 1 = .ok (.iconst 0, 1) := by decide +kernel
theorem dX6_limit_2 : decode cX6_limit 2 = .ok (.bipush 10, 2) := by decide +kernel
theorem dX6_limit_4 : decode cX6_limit 4 = .ok (.invokestatic 125, 3) := by decide +kernel
theorem dX6_limit_7 : decode cX6_limit 7 = .ok (.istore_n 2, 1) := by decide +kernel
theorem dX6_limit_8 : decode cX6_limit 8 = .ok (.iload_n 2, 1) := by decide +kernel
theorem dX6_limit_9 : decode cX6_limit 9 = .ok (.ifCond .eq 9, 3) := by decide +kernel
theorem dX6_limit_12 : decode cX6_limit 12 = .ok (.aload_n 0, 1) := by decide +kernel
theorem dX6_limit_13 : decode cX6_limit 13 = .ok (.iload_n 2, 1) := by decide +kernel
theorem dX6_limit_14 : decode cX6_limit 14 = .ok (.invokevirtual 73, 3) := by decide +kernel
theorem dX6_limit_17 : decode cX6_limit 17 = .ok (.ireturn, 1) := by decide +kernel
theorem dX6_limit_18 : decode cX6_limit 18 = .ok (.aload_n 0, 1) := by decide +kernel
theorem dX6_limit_19 : decode cX6_limit 19 = .ok (.getfield 10, 3) := by decide +kernel
theorem dX6_limit_22 : decode cX6_limit 22 = .ok (.getfield 140, 3) := by decide +kernel
theorem dX6_limit_25 : decode cX6_limit 25 = .ok (.istore_n 3, 1) := by decide +kernel
theorem dX6_limit_26 : decode cX6_limit 26 = .ok (.aload_n 0, 1) := by decide +kernel
theorem dX6_limit_27 : decode cX6_limit 27 = .ok (.getfield 10, 3) := by decide +kernel
theorem dX6_limit_30 : decode cX6_limit 30 = .ok (.iload_n 1, 1) := by decide +kernel
theorem dX6_limit_31 : decode cX6_limit 31 = .ok (.invokevirtual 143, 3) := by decide +kernel
theorem dX6_limit_34 : decode cX6_limit 34 = .ok (.pop, 1) := by decide +kernel
theorem dX6_limit_35 : decode cX6_limit 35 = .ok (.iload_n 3, 1) := by decide +kernel
theorem dX6_limit_36 : decode cX6_limit 36 = .ok (.ireturn, 1) := by decide +kernel
theorem dX6_ask_0 : decode cX6_ask 0 = .ok (.iload_n 1, 1) := by decide +kernel
theorem dX6_ask_1 : decode cX6_ask 1 = .ok (.iload_n 2, 1) := by decide +kernel
theorem dX6_ask_2 : decode cX6_ask 2 = .ok (.iload_n 3, 1) := by decide +kernel
theorem dX6_ask_3 : decode cX6_ask 3 = .ok (.invokestatic 146, 3) := by decide +kernel
theorem dX6_ask_6 : decode cX6_ask 6 = .ok (.istore 4, 2) := by decide +kernel
theorem dX6_ask_8 : decode cX6_ask 8 = .ok (.iload 4, 2) := by decide +kernel
theorem dX6_ask_10 : decode cX6_ask 10 = .ok (.ifCond .eq 13, 3) := by decide +kernel
theorem dX6_ask_13 : decode cX6_ask 13 = .ok (.ldc 149, 2) := by decide +kernel
theorem dX6_ask_15 : decode cX6_ask 15 = .ok (.aload_n 0, 1) := by decide +kernel
theorem dX6_ask_16 : decode cX6_ask 16 = .ok (.iload 4, 2) := by decide +kernel
theorem dX6_ask_18 : decode cX6_ask 18 = .ok (.invokevirtual 73, 3) := by decide +kernel
theorem dX6_ask_21 : decode cX6_ask 21 = .ok (.isub, 1) := by decide +kernel
theorem dX6_ask_22 : decode cX6_ask 22 = .ok (.ireturn, 1) := by decide +kernel
theorem dX6_ask_23 : decode cX6_ask 23 = .ok (.aload_n 0, 1) := by decide +kernel
theorem dX6_ask_24 : decode cX6_ask 24 = .ok (.getfield 25, 3) := by decide +kernel
theorem dX6_ask_27 : decode cX6_ask 27 = .ok (.iload_n 1, 1) := by decide +kernel
theorem dX6_ask_28 : decode cX6_ask 28 = .ok (.iload_n 2, 1) := by decide +kernel
theorem dX6_ask_29 : decode cX6_ask 29 = .ok (.iload_n 3, 1) := by decide +kernel
theorem dX6_ask_30 : decode cX6_ask 30 = .ok (.invokevirtual 150, 3) := by decide +kernel
theorem dX6_ask_33 : decode cX6_ask 33 = .ok (.aload_n 0, 1) := by decide +kernel
theorem dX6_ask_34 : decode cX6_ask 34 = .ok (.getfield 10, 3) := by decide +kernel
theorem dX6_ask_37 : decode cX6_ask 37 = .ok (.aload_n 0, 1) := by decide +kernel
theorem dX6_ask_38 : decode cX6_ask 38 = .ok (.getfield 25, 3) := by decide +kernel
theorem dX6_ask_41 : decode cX6_ask 41 = .ok (.invokevirtual 154, 3) := by decide +kernel
theorem dX6_ask_44 : decode cX6_ask 44 = .ok (.iconst 2, 1) := by decide +kernel
theorem dX6_ask_45 : decode cX6_ask 45 = .ok (.if_icmp .ne 13, 3) := by decide +kernel
theorem dX6_ask_48 : decode cX6_ask 48 = .ok (.ldc 149, 2) := by decide +kernel
theorem dX6_ask_50 : decode cX6_ask 50 = .ok (.aload_n 0, 1) := by decide +kernel
theorem dX6_ask_51 : decode cX6_ask 51 = .ok (.bipush (-5), 2) := by decide +kernel
theorem dX6_ask_53 : decode cX6_ask 53 = .ok (.invokevirtual 73, 3) := by decide +kernel
theorem dX6_ask_56 : decode cX6_ask 56 = .ok (.isub, 1) := by decide +kernel
theorem dX6_ask_57 : decode cX6_ask 57 = .ok (.ireturn, 1) := by decide +kernel
theorem dX6_ask_58 : decode cX6_ask 58 = .ok (.aload_n 0, 1) := by decide +kernel
theorem dX6_ask_59 : decode cX6_ask 59 = .ok (.getfield 10, 3) := by decide +kernel
theorem dX6_ask_62 : decode cX6_ask 62 = .ok (.aload_n 0, 1) := by decide +kernel
theorem dX6_ask_63 : decode cX6_ask 63 = .ok (.getfield 25, 3) := by decide +kernel
theorem dX6_ask_66 : decode cX6_ask 66 = .ok (.invokevirtual 158, 3) := by decide +kernel
theorem dX6_ask_69 : decode cX6_ask 69 = .ok (.ireturn, 1) := by decide +kernel
theorem dX6_would_0 : decode cX6_would 0 = .ok (.iload_n 1, 1) := by decide +kernel
theorem dX6_would_1 : decode cX6_would 1 = .ok (.iload_n 2, 1) := by decide +kernel
theorem dX6_would_2 : decode cX6_would 2 = .ok (.iload_n 3, 1) := by decide +kernel
theorem dX6_would_3 : decode cX6_would 3 = .ok (.invokestatic 146, 3) := by decide +kernel
theorem dX6_would_6 : decode cX6_would 6 = .ok (.istore 4, 2) := by decide +kernel
theorem dX6_would_8 : decode cX6_would 8 = .ok (.iload 4, 2) := by decide +kernel
theorem dX6_would_10 : decode cX6_would 10 = .ok (.ifCond .eq 10, 3) := by decide +kernel
theorem dX6_would_13 : decode cX6_would 13 = .ok (.aload_n 0, 1) := by decide +kernel
theorem dX6_would_14 : decode cX6_would 14 = .ok (.iload 4, 2) := by decide +kernel
theorem dX6_would_16 : decode cX6_would 16 = .ok (.invokevirtual 73, 3) := by decide +kernel
theorem dX6_would_19 : decode cX6_would 19 = .ok (.ireturn, 1) := by decide +kernel
theorem dX6_would_20 : decode cX6_would 20 = .ok (.aload_n 0, 1) := by decide +kernel
theorem dX6_would_21 : decode cX6_would 21 = .ok (.getfield 25, 3) := by decide +kernel
theorem dX6_would_24 : decode cX6_would 24 = .ok (.iload_n 1, 1) := by decide +kernel
theorem dX6_would_25 : decode cX6_would 25 = .ok (.iload_n 2, 1) := by decide +kernel
theorem dX6_would_26 : decode cX6_would 26 = .ok (.iload_n 3, 1) := by decide +kernel
theorem dX6_would_27 : decode cX6_would 27 = .ok (.invokevirtual 150, 3) := by decide +kernel
theorem dX6_would_30 : decode cX6_would 30 = .ok (.aload_n 0, 1) := by decide +kernel
theorem dX6_would_31 : decode cX6_would 31 = .ok (.getfield 10, 3) := by decide +kernel
theorem dX6_would_34 : decode cX6_would 34 = .ok (.aload_n 0, 1) := by decide +kernel
theorem dX6_would_35 : decode cX6_would 35 = .ok (.getfield 25, 3) := by decide +kernel
theorem dX6_would_38 : decode cX6_would 38 = .ok (.aload_n 0, 1) := by decide +kernel
theorem dX6_would_39 : decode cX6_would 39 = .ok (.getfield 10, 3) := by decide +kernel
theorem dX6_would_42 : decode cX6_would 42 = .ok (.getfield 133, 3) := by decide +kernel
theorem dX6_would_45 : decode cX6_would 45 = .ok (.aload_n 0, 1) := by decide +kernel
theorem dX6_would_46 : decode cX6_would 46 = .ok (.getfield 10, 3) := by decide +kernel
theorem dX6_would_49 : decode cX6_would 49 = .ok (.getfield 140, 3) := by decide +kernel
theorem dX6_would_52 : decode cX6_would 52 = .ok (.invokevirtual 161, 3) := by decide +kernel
theorem dX6_would_55 : decode cX6_would 55 = .ok (.ireturn, 1) := by decide +kernel
theorem dX6_sums_0 : decode cX6_sums 0 = .ok (.iload_n 1, 1) := by decide +kernel
theorem dX6_sums_1 : decode cX6_sums 1 = .ok (.tableswitch 54 0 3 #[31, 36, 42, 48], 31) := by decide +kernel
theorem dX6_sums_32 : decode cX6_sums 32 = .ok (.aload_n 0, 1) := by decide +kernel
theorem dX6_sums_33 : decode cX6_sums 33 = .ok (.invokevirtual 165, 3) := by decide +kernel
theorem dX6_sums_36 : decode cX6_sums 36 = .ok (.ireturn, 1) := by decide +kernel
theorem dX6_sums_37 : decode cX6_sums 37 = .ok (.aload_n 0, 1) := by decide +kernel
theorem dX6_sums_38 : decode cX6_sums 38 = .ok (.iconst 1, 1) := by decide +kernel
theorem dX6_sums_39 : decode cX6_sums 39 = .ok (.invokevirtual 169, 3) := by decide +kernel
theorem dX6_sums_42 : decode cX6_sums 42 = .ok (.ireturn, 1) := by decide +kernel
theorem dX6_sums_43 : decode cX6_sums 43 = .ok (.aload_n 0, 1) := by decide +kernel
theorem dX6_sums_44 : decode cX6_sums 44 = .ok (.iconst 2, 1) := by decide +kernel
theorem dX6_sums_45 : decode cX6_sums 45 = .ok (.invokevirtual 169, 3) := by decide +kernel
theorem dX6_sums_48 : decode cX6_sums 48 = .ok (.ireturn, 1) := by decide +kernel
theorem dX6_sums_49 : decode cX6_sums 49 = .ok (.aload_n 0, 1) := by decide +kernel
theorem dX6_sums_50 : decode cX6_sums 50 = .ok (.iconst 0, 1) := by decide +kernel
theorem dX6_sums_51 : decode cX6_sums 51 = .ok (.invokevirtual 169, 3) := by decide +kernel
theorem dX6_sums_54 : decode cX6_sums 54 = .ok (.ireturn, 1) := by decide +kernel
theorem dX6_sums_55 : decode cX6_sums 55 = .ok (.aload_n 0, 1) := by decide +kernel
theorem dX6_sums_56 : decode cX6_sums 56 = .ok (.bipush (-2), 2) := by decide +kernel
theorem dX6_sums_58 : decode cX6_sums 58 = .ok (.invokevirtual 73, 3) := by decide +kernel
theorem dX6_sums_61 : decode cX6_sums 61 = .ok (.ireturn, 1) := by decide +kernel
theorem dX6_leastJoining_0 : decode cX6_leastJoining 0 = .ok (.iconst 1, 1) := by decide +kernel
theorem dX6_leastJoining_1 : decode cX6_leastJoining 1 = .ok (.istore_n 1, 1) := by decide +kernel
theorem dX6_leastJoining_2 : decode cX6_leastJoining 2 = .ok (.iload_n 1, 1) := by decide +kernel
theorem dX6_leastJoining_3 : decode cX6_leastJoining 3 = .ok (.sipush 255, 3) := by decide +kernel
theorem dX6_leastJoining_6 : decode cX6_leastJoining 6 = .ok (.if_icmp .gt 24, 3) := by decide +kernel
theorem dX6_leastJoining_9 : decode cX6_leastJoining 9 = .ok (.aload_n 0, 1) := by decide +kernel
theorem dX6_leastJoining_10 : decode cX6_leastJoining 10 = .ok (.aload_n 0, 1) := by decide +kernel
theorem dX6_leastJoining_11 : decode cX6_leastJoining 11 = .ok (.getfield 10, 3) := by decide +kernel
theorem dX6_leastJoining_14 : decode cX6_leastJoining 14 = .ok (.iload_n 1, 1) := by decide +kernel
theorem dX6_leastJoining_15 : decode cX6_leastJoining 15 = .ok (.invokevirtual 172, 3) := by decide +kernel
theorem dX6_leastJoining_18 : decode cX6_leastJoining 18 = .ok (.iconst 1, 1) := by decide +kernel
theorem dX6_leastJoining_19 : decode cX6_leastJoining 19 = .ok (.if_icmp .ne 5, 3) := by decide +kernel
theorem dX6_leastJoining_22 : decode cX6_leastJoining 22 = .ok (.iload_n 1, 1) := by decide +kernel
theorem dX6_leastJoining_23 : decode cX6_leastJoining 23 = .ok (.ireturn, 1) := by decide +kernel
theorem dX6_leastJoining_24 : decode cX6_leastJoining 24 = .ok (.iinc 1 1, 3) := by decide +kernel
theorem dX6_leastJoining_27 : decode cX6_leastJoining 27 = .ok (.goto (-25), 3) := by decide +kernel
theorem dX6_leastJoining_30 : decode cX6_leastJoining 30 = .ok (.bipush (-9), 2) := by decide +kernel
theorem dX6_leastJoining_32 : decode cX6_leastJoining 32 = .ok (.ireturn, 1) := by decide +kernel
theorem dX6_howMany_0 : decode cX6_howMany 0 = .ok (.iconst 0, 1) := by decide +kernel
theorem dX6_howMany_1 : decode cX6_howMany 1 = .ok (.istore_n 2, 1) := by decide +kernel
theorem dX6_howMany_2 : decode cX6_howMany 2 = .ok (.iconst 1, 1) := by decide +kernel
theorem dX6_howMany_3 : decode cX6_howMany 3 = .ok (.istore_n 3, 1) := by decide +kernel
theorem dX6_howMany_4 : decode cX6_howMany 4 = .ok (.iload_n 3, 1) := by decide +kernel
theorem dX6_howMany_5 : decode cX6_howMany 5 = .ok (.sipush 255, 3) := by decide +kernel
theorem dX6_howMany_8 : decode cX6_howMany 8 = .ok (.if_icmp .gt 25, 3) := by decide +kernel
theorem dX6_howMany_11 : decode cX6_howMany 11 = .ok (.aload_n 0, 1) := by decide +kernel
theorem dX6_howMany_12 : decode cX6_howMany 12 = .ok (.aload_n 0, 1) := by decide +kernel
theorem dX6_howMany_13 : decode cX6_howMany 13 = .ok (.getfield 10, 3) := by decide +kernel
theorem dX6_howMany_16 : decode cX6_howMany 16 = .ok (.iload_n 3, 1) := by decide +kernel
theorem dX6_howMany_17 : decode cX6_howMany 17 = .ok (.invokevirtual 172, 3) := by decide +kernel
theorem dX6_howMany_20 : decode cX6_howMany 20 = .ok (.iload_n 1, 1) := by decide +kernel
theorem dX6_howMany_21 : decode cX6_howMany 21 = .ok (.if_icmp .ne 6, 3) := by decide +kernel
theorem dX6_howMany_24 : decode cX6_howMany 24 = .ok (.iinc 2 1, 3) := by decide +kernel
theorem dX6_howMany_27 : decode cX6_howMany 27 = .ok (.iinc 3 1, 3) := by decide +kernel
theorem dX6_howMany_30 : decode cX6_howMany 30 = .ok (.goto (-26), 3) := by decide +kernel
theorem dX6_howMany_33 : decode cX6_howMany 33 = .ok (.iload_n 2, 1) := by decide +kernel
theorem dX6_howMany_34 : decode cX6_howMany 34 = .ok (.ireturn, 1) := by decide +kernel
theorem dX6_meetingOfSum_0 : decode cX6_meetingOfSum 0 = .ok (.aload_n 0, 1) := by decide +kernel
theorem dX6_meetingOfSum_1 : decode cX6_meetingOfSum 1 = .ok (.getfield 25, 3) := by decide +kernel
theorem dX6_meetingOfSum_4 : decode cX6_meetingOfSum 4 = .ok (.iconst 0, 1) := by decide +kernel
theorem dX6_meetingOfSum_5 : decode cX6_meetingOfSum 5 = .ok (.iload_n 2, 1) := by decide +kernel
theorem dX6_meetingOfSum_6 : decode cX6_meetingOfSum 6 = .ok (.iconst 0, 1) := by decide +kernel
theorem dX6_meetingOfSum_7 : decode cX6_meetingOfSum 7 = .ok (.invokevirtual 150, 3) := by decide +kernel
theorem dX6_meetingOfSum_10 : decode cX6_meetingOfSum 10 = .ok (.aload_n 1, 1) := by decide +kernel
theorem dX6_meetingOfSum_11 : decode cX6_meetingOfSum 11 = .ok (.aload_n 0, 1) := by decide +kernel
theorem dX6_meetingOfSum_12 : decode cX6_meetingOfSum 12 = .ok (.getfield 25, 3) := by decide +kernel
theorem dX6_meetingOfSum_15 : decode cX6_meetingOfSum 15 = .ok (.aload_n 1, 1) := by decide +kernel
theorem dX6_meetingOfSum_16 : decode cX6_meetingOfSum 16 = .ok (.getfield 133, 3) := by decide +kernel
theorem dX6_meetingOfSum_19 : decode cX6_meetingOfSum 19 = .ok (.aload_n 1, 1) := by decide +kernel
theorem dX6_meetingOfSum_20 : decode cX6_meetingOfSum 20 = .ok (.getfield 140, 3) := by decide +kernel
theorem dX6_meetingOfSum_23 : decode cX6_meetingOfSum 23 = .ok (.invokevirtual 161, 3) := by decide +kernel
theorem dX6_meetingOfSum_26 : decode cX6_meetingOfSum 26 = .ok (.ireturn, 1) := by decide +kernel
theorem dX6_takeSum_0 : decode cX6_takeSum 0 = .ok (.aload_n 0, 1) := by decide +kernel
theorem dX6_takeSum_1 : decode cX6_takeSum 1 = .ok (.getfield 25, 3) := by decide +kernel
theorem dX6_takeSum_4 : decode cX6_takeSum 4 = .ok (.iconst 0, 1) := by decide +kernel
theorem dX6_takeSum_5 : decode cX6_takeSum 5 = .ok (.iload_n 2, 1) := by decide +kernel
theorem dX6_takeSum_6 : decode cX6_takeSum 6 = .ok (.iconst 0, 1) := by decide +kernel
theorem dX6_takeSum_7 : decode cX6_takeSum 7 = .ok (.invokevirtual 150, 3) := by decide +kernel
theorem dX6_takeSum_10 : decode cX6_takeSum 10 = .ok (.aload_n 1, 1) := by decide +kernel
theorem dX6_takeSum_11 : decode cX6_takeSum 11 = .ok (.aload_n 0, 1) := by decide +kernel
theorem dX6_takeSum_12 : decode cX6_takeSum 12 = .ok (.getfield 25, 3) := by decide +kernel
theorem dX6_takeSum_15 : decode cX6_takeSum 15 = .ok (.invokevirtual 154, 3) := by decide +kernel
theorem dX6_takeSum_18 : decode cX6_takeSum 18 = .ok (.ireturn, 1) := by decide +kernel
theorem dX6_ledger_0 : decode cX6_ledger 0 = .ok (.iload_n 1, 1) := by decide +kernel
theorem dX6_ledger_1 : decode cX6_ledger 1 = .ok (.aload_n 0, 1) := by decide +kernel
theorem dX6_ledger_2 : decode cX6_ledger 2 = .ok (.getfield 10, 3) := by decide +kernel
theorem dX6_ledger_5 : decode cX6_ledger 5 = .ok (.getfield 176, 3) := by decide +kernel
theorem dX6_ledger_8 : decode cX6_ledger 8 = .ok (.invokestatic 69, 3) := by decide +kernel
theorem dX6_ledger_11 : decode cX6_ledger 11 = .ok (.ifCond .eq 14, 3) := by decide +kernel
theorem dX6_ledger_14 : decode cX6_ledger 14 = .ok (.aload_n 0, 1) := by decide +kernel
theorem dX6_ledger_15 : decode cX6_ledger 15 = .ok (.getfield 10, 3) := by decide +kernel
theorem dX6_ledger_18 : decode cX6_ledger 18 = .ok (.iload_n 2, 1) := by decide +kernel
theorem dX6_ledger_19 : decode cX6_ledger 19 = .ok (.invokevirtual 91, 3) := by decide +kernel
theorem dX6_ledger_22 : decode cX6_ledger 22 = .ok (.ifCond .ne 9, 3) := by decide +kernel
theorem dX6_ledger_25 : decode cX6_ledger 25 = .ok (.aload_n 0, 1) := by decide +kernel
theorem dX6_ledger_26 : decode cX6_ledger 26 = .ok (.iconst (-1), 1) := by decide +kernel
theorem dX6_ledger_27 : decode cX6_ledger 27 = .ok (.invokevirtual 73, 3) := by decide +kernel
theorem dX6_ledger_30 : decode cX6_ledger 30 = .ok (.ireturn, 1) := by decide +kernel
theorem dX6_ledger_31 : decode cX6_ledger 31 = .ok (.bipush 100, 2) := by decide +kernel
theorem dX6_ledger_33 : decode cX6_ledger 33 = .ok (.aload_n 0, 1) := by decide +kernel
theorem dX6_ledger_34 : decode cX6_ledger 34 = .ok (.getfield 10, 3) := by decide +kernel
theorem dX6_ledger_37 : decode cX6_ledger 37 = .ok (.iload_n 1, 1) := by decide +kernel
theorem dX6_ledger_38 : decode cX6_ledger 38 = .ok (.iload_n 2, 1) := by decide +kernel
theorem dX6_ledger_39 : decode cX6_ledger 39 = .ok (.invokevirtual 179, 3) := by decide +kernel
theorem dX6_ledger_42 : decode cX6_ledger 42 = .ok (.iadd, 1) := by decide +kernel
theorem dX6_ledger_43 : decode cX6_ledger 43 = .ok (.ireturn, 1) := by decide +kernel
theorem dX6_answer_0 : decode cX6_answer 0 = .ok (.iload_n 1, 1) := by decide +kernel
theorem dX6_answer_1 : decode cX6_answer 1 = .ok (.aload_n 0, 1) := by decide +kernel
theorem dX6_answer_2 : decode cX6_answer 2 = .ok (.getfield 10, 3) := by decide +kernel
theorem dX6_answer_5 : decode cX6_answer 5 = .ok (.getfield 176, 3) := by decide +kernel
theorem dX6_answer_8 : decode cX6_answer 8 = .ok (.invokestatic 69, 3) := by decide +kernel
theorem dX6_answer_11 : decode cX6_answer 11 = .ok (.ifCond .ne 14, 3) := by decide +kernel
theorem dX6_answer_14 : decode cX6_answer 14 = .ok (.ldc2_w 182, 3) := by decide +kernel
theorem dX6_answer_17 : decode cX6_answer 17 = .ok (.aload_n 0, 1) := by decide +kernel
theorem dX6_answer_18 : decode cX6_answer 18 = .ok (.iconst (-1), 1) := by decide +kernel
theorem dX6_answer_19 : decode cX6_answer 19 = .ok (.invokevirtual 73, 3) := by decide +kernel
theorem dX6_answer_22 : decode cX6_answer 22 = .ok (.i2l, 1) := by decide +kernel
theorem dX6_answer_23 : decode cX6_answer 23 = .ok (.lsub, 1) := by decide +kernel
theorem dX6_answer_24 : decode cX6_answer 24 = .ok (.lreturn, 1) := by decide +kernel
theorem dX6_answer_25 : decode cX6_answer 25 = .ok (.aload_n 0, 1) := by decide +kernel
theorem dX6_answer_26 : decode cX6_answer 26 = .ok (.getfield 10, 3) := by decide +kernel
theorem dX6_answer_29 : decode cX6_answer 29 = .ok (.iload_n 1, 1) := by decide +kernel
theorem dX6_answer_30 : decode cX6_answer 30 = .ok (.invokevirtual 184, 3) := by decide +kernel
theorem dX6_answer_33 : decode cX6_answer 33 = .ok (.i2l, 1) := by decide +kernel
theorem dX6_answer_34 : decode cX6_answer 34 = .ok (.lreturn, 1) := by decide +kernel
theorem dX6_reduced_0 : decode cX6_reduced 0 = .ok (.iload_n 1, 1) := by decide +kernel
theorem dX6_reduced_1 : decode cX6_reduced 1 = .ok (.aload_n 0, 1) := by decide +kernel
theorem dX6_reduced_2 : decode cX6_reduced 2 = .ok (.getfield 10, 3) := by decide +kernel
theorem dX6_reduced_5 : decode cX6_reduced 5 = .ok (.getfield 176, 3) := by decide +kernel
theorem dX6_reduced_8 : decode cX6_reduced 8 = .ok (.invokestatic 69, 3) := by decide +kernel
theorem dX6_reduced_11 : decode cX6_reduced 11 = .ok (.ifCond .eq 14, 3) := by decide +kernel
theorem dX6_reduced_14 : decode cX6_reduced 14 = .ok (.aload_n 0, 1) := by decide +kernel
theorem dX6_reduced_15 : decode cX6_reduced 15 = .ok (.getfield 10, 3) := by decide +kernel
theorem dX6_reduced_18 : decode cX6_reduced 18 = .ok (.iload_n 2, 1) := by decide +kernel
theorem dX6_reduced_19 : decode cX6_reduced 19 = .ok (.invokevirtual 91, 3) := by decide +kernel
theorem dX6_reduced_22 : decode cX6_reduced 22 = .ok (.ifCond .ne 14, 3) := by decide +kernel
theorem dX6_reduced_25 : decode cX6_reduced 25 = .ok (.ldc2_w 182, 3) := by decide +kernel
theorem dX6_reduced_28 : decode cX6_reduced 28 = .ok (.aload_n 0, 1) := by decide +kernel
theorem dX6_reduced_29 : decode cX6_reduced 29 = .ok (.iconst (-1), 1) := by decide +kernel
theorem dX6_reduced_30 : decode cX6_reduced 30 = .ok (.invokevirtual 73, 3) := by decide +kernel
theorem dX6_reduced_33 : decode cX6_reduced 33 = .ok (.i2l, 1) := by decide +kernel
theorem dX6_reduced_34 : decode cX6_reduced 34 = .ok (.lsub, 1) := by decide +kernel
theorem dX6_reduced_35 : decode cX6_reduced 35 = .ok (.lreturn, 1) := by decide +kernel
theorem dX6_reduced_36 : decode cX6_reduced 36 = .ok (.iload_n 3, 1) := by decide +kernel
theorem dX6_reduced_37 : decode cX6_reduced 37 = .ok (.iconst 2, 1) := by decide +kernel
theorem dX6_reduced_38 : decode cX6_reduced 38 = .ok (.invokestatic 69, 3) := by decide +kernel
theorem dX6_reduced_41 : decode cX6_reduced 41 = .ok (.ifCond .ne 15, 3) := by decide +kernel
theorem dX6_reduced_44 : decode cX6_reduced 44 = .ok (.ldc2_w 182, 3) := by decide +kernel
theorem dX6_reduced_47 : decode cX6_reduced 47 = .ok (.aload_n 0, 1) := by decide +kernel
theorem dX6_reduced_48 : decode cX6_reduced 48 = .ok (.bipush (-2), 2) := by decide +kernel
theorem dX6_reduced_50 : decode cX6_reduced 50 = .ok (.invokevirtual 73, 3) := by decide +kernel
theorem dX6_reduced_53 : decode cX6_reduced 53 = .ok (.i2l, 1) := by decide +kernel
theorem dX6_reduced_54 : decode cX6_reduced 54 = .ok (.lsub, 1) := by decide +kernel
theorem dX6_reduced_55 : decode cX6_reduced 55 = .ok (.lreturn, 1) := by decide +kernel
theorem dX6_reduced_56 : decode cX6_reduced 56 = .ok (.aload_n 0, 1) := by decide +kernel
theorem dX6_reduced_57 : decode cX6_reduced 57 = .ok (.getfield 10, 3) := by decide +kernel
theorem dX6_reduced_60 : decode cX6_reduced 60 = .ok (.getfield 187, 3) := by decide +kernel
theorem dX6_reduced_63 : decode cX6_reduced 63 = .ok (.iload_n 1, 1) := by decide +kernel
theorem dX6_reduced_64 : decode cX6_reduced 64 = .ok (.iload_n 2, 1) := by decide +kernel
theorem dX6_reduced_65 : decode cX6_reduced 65 = .ok (.iload_n 3, 1) := by decide +kernel
theorem dX6_reduced_66 : decode cX6_reduced 66 = .ok (.invokevirtual 191, 3) := by decide +kernel
theorem dX6_reduced_69 : decode cX6_reduced 69 = .ok (.lreturn, 1) := by decide +kernel
theorem dX6_pivots_0 : decode cX6_pivots 0 = .ok (.aload_n 0, 1) := by decide +kernel
theorem dX6_pivots_1 : decode cX6_pivots 1 = .ok (.getfield 10, 3) := by decide +kernel
theorem dX6_pivots_4 : decode cX6_pivots 4 = .ok (.getfield 187, 3) := by decide +kernel
theorem dX6_pivots_7 : decode cX6_pivots 7 = .ok (.getfield 197, 3) := by decide +kernel
theorem dX6_pivots_10 : decode cX6_pivots 10 = .ok (.ireturn, 1) := by decide +kernel
theorem dX6_attack_0 : decode cX6_attack 0 = .ok (.aload_n 0, 1) := by decide +kernel
theorem dX6_attack_1 : decode cX6_attack 1 = .ok (.getfield 10, 3) := by decide +kernel
theorem dX6_attack_4 : decode cX6_attack 4 = .ok (.iload_n 1, 1) := by decide +kernel
theorem dX6_attack_5 : decode cX6_attack 5 = .ok (.invokevirtual 91, 3) := by decide +kernel
theorem dX6_attack_8 : decode cX6_attack 8 = .ok (.ifCond .ne 9, 3) := by decide +kernel
theorem dX6_attack_11 : decode cX6_attack 11 = .ok (.aload_n 0, 1) := by decide +kernel
theorem dX6_attack_12 : decode cX6_attack 12 = .ok (.iconst (-1), 1) := by decide +kernel
theorem dX6_attack_13 : decode cX6_attack 13 = .ok (.invokevirtual 73, 3) := by decide +kernel
theorem dX6_attack_16 : decode cX6_attack 16 = .ok (.ireturn, 1) := by decide +kernel
theorem dX6_attack_17 : decode cX6_attack 17 = .ok (.iload_n 2, 1) := by decide +kernel
theorem dX6_attack_18 : decode cX6_attack 18 = .ok (.iconst 2, 1) := by decide +kernel
theorem dX6_attack_19 : decode cX6_attack 19 = .ok (.invokestatic 69, 3) := by decide +kernel
theorem dX6_attack_22 : decode cX6_attack 22 = .ok (.ifCond .ne 10, 3) := by decide +kernel
theorem dX6_attack_25 : decode cX6_attack 25 = .ok (.aload_n 0, 1) := by decide +kernel
theorem dX6_attack_26 : decode cX6_attack 26 = .ok (.bipush (-2), 2) := by decide +kernel
theorem dX6_attack_28 : decode cX6_attack 28 = .ok (.invokevirtual 73, 3) := by decide +kernel
theorem dX6_attack_31 : decode cX6_attack 31 = .ok (.ireturn, 1) := by decide +kernel
theorem dX6_attack_32 : decode cX6_attack 32 = .ok (.bipush (-9), 2) := by decide +kernel
theorem dX6_attack_34 : decode cX6_attack 34 = .ok (.istore_n 3, 1) := by decide +kernel
theorem dX6_attack_35 : decode cX6_attack 35 = .ok (.iconst 0, 1) := by decide +kernel
theorem dX6_attack_36 : decode cX6_attack 36 = .ok (.istore 4, 2) := by decide +kernel
theorem dX6_attack_38 : decode cX6_attack 38 = .ok (.sipush 255, 3) := by decide +kernel
theorem dX6_attack_41 : decode cX6_attack 41 = .ok (.istore 5, 2) := by decide +kernel
theorem dX6_attack_43 : decode cX6_attack 43 = .ok (.iload 5, 2) := by decide +kernel
theorem dX6_attack_45 : decode cX6_attack 45 = .ok (.iconst 1, 1) := by decide +kernel
theorem dX6_attack_46 : decode cX6_attack 46 = .ok (.if_icmp .lt 45, 3) := by decide +kernel
theorem dX6_attack_49 : decode cX6_attack 49 = .ok (.aload_n 0, 1) := by decide +kernel
theorem dX6_attack_50 : decode cX6_attack 50 = .ok (.getfield 25, 3) := by decide +kernel
theorem dX6_attack_53 : decode cX6_attack 53 = .ok (.iconst 0, 1) := by decide +kernel
theorem dX6_attack_54 : decode cX6_attack 54 = .ok (.iload 5, 2) := by decide +kernel
theorem dX6_attack_56 : decode cX6_attack 56 = .ok (.iconst 0, 1) := by decide +kernel
theorem dX6_attack_57 : decode cX6_attack 57 = .ok (.invokevirtual 150, 3) := by decide +kernel
theorem dX6_attack_60 : decode cX6_attack 60 = .ok (.aload_n 0, 1) := by decide +kernel
theorem dX6_attack_61 : decode cX6_attack 61 = .ok (.getfield 10, 3) := by decide +kernel
theorem dX6_attack_64 : decode cX6_attack 64 = .ok (.aload_n 0, 1) := by decide +kernel
theorem dX6_attack_65 : decode cX6_attack 65 = .ok (.getfield 25, 3) := by decide +kernel
theorem dX6_attack_68 : decode cX6_attack 68 = .ok (.invokevirtual 200, 3) := by decide +kernel
theorem dX6_attack_71 : decode cX6_attack 71 = .ok (.iload_n 1, 1) := by decide +kernel
theorem dX6_attack_72 : decode cX6_attack 72 = .ok (.ishr, 1) := by decide +kernel
theorem dX6_attack_73 : decode cX6_attack 73 = .ok (.iconst 1, 1) := by decide +kernel
theorem dX6_attack_74 : decode cX6_attack 74 = .ok (.iand, 1) := by decide +kernel
theorem dX6_attack_75 : decode cX6_attack 75 = .ok (.iconst 1, 1) := by decide +kernel
theorem dX6_attack_76 : decode cX6_attack 76 = .ok (.if_icmp .ne 9, 3) := by decide +kernel
theorem dX6_attack_79 : decode cX6_attack 79 = .ok (.iload 5, 2) := by decide +kernel
theorem dX6_attack_81 : decode cX6_attack 81 = .ok (.istore_n 3, 1) := by decide +kernel
theorem dX6_attack_82 : decode cX6_attack 82 = .ok (.iinc 4 1, 3) := by decide +kernel
theorem dX6_attack_85 : decode cX6_attack 85 = .ok (.iinc 5 (-1), 3) := by decide +kernel
theorem dX6_attack_88 : decode cX6_attack 88 = .ok (.goto (-45), 3) := by decide +kernel
theorem dX6_attack_91 : decode cX6_attack 91 = .ok (.iload_n 2, 1) := by decide +kernel
theorem dX6_attack_92 : decode cX6_attack 92 = .ok (.ifCond .ne 7, 3) := by decide +kernel
theorem dX6_attack_95 : decode cX6_attack 95 = .ok (.iload_n 3, 1) := by decide +kernel
theorem dX6_attack_96 : decode cX6_attack 96 = .ok (.goto 5, 3) := by decide +kernel
theorem dX6_attack_99 : decode cX6_attack 99 = .ok (.iload 4, 2) := by decide +kernel
theorem dX6_attack_101 : decode cX6_attack 101 = .ok (.ireturn, 1) := by decide +kernel
theorem dX6_known_0 : decode cX6_known 0 = .ok (.aload_n 0, 1) := by decide +kernel
theorem dX6_known_1 : decode cX6_known 1 = .ok (.getfield 32, 3) := by decide +kernel
theorem dX6_known_4 : decode cX6_known 4 = .ok (.aload_n 0, 1) := by decide +kernel
theorem dX6_known_5 : decode cX6_known 5 = .ok (.getfield 10, 3) := by decide +kernel
theorem dX6_known_8 : decode cX6_known 8 = .ok (.invokevirtual 104, 3) := by decide +kernel
theorem dX6_known_11 : decode cX6_known 11 = .ok (.aload_n 0, 1) := by decide +kernel
theorem dX6_known_12 : decode cX6_known 12 = .ok (.getfield 32, 3) := by decide +kernel
theorem dX6_known_15 : decode cX6_known 15 = .ok (.invokevirtual 203, 3) := by decide +kernel
theorem dX6_known_18 : decode cX6_known 18 = .ok (.ireturn, 1) := by decide +kernel
theorem dX6_learns_0 : decode cX6_learns 0 = .ok (.iload_n 1, 1) := by decide +kernel
theorem dX6_learns_1 : decode cX6_learns 1 = .ok (.iload_n 2, 1) := by decide +kernel
theorem dX6_learns_2 : decode cX6_learns 2 = .ok (.iload_n 3, 1) := by decide +kernel
theorem dX6_learns_3 : decode cX6_learns 3 = .ok (.invokestatic 146, 3) := by decide +kernel
theorem dX6_learns_6 : decode cX6_learns 6 = .ok (.istore 5, 2) := by decide +kernel
theorem dX6_learns_8 : decode cX6_learns 8 = .ok (.iload 5, 2) := by decide +kernel
theorem dX6_learns_10 : decode cX6_learns 10 = .ok (.ifCond .eq 10, 3) := by decide +kernel
theorem dX6_learns_13 : decode cX6_learns 13 = .ok (.aload_n 0, 1) := by decide +kernel
theorem dX6_learns_14 : decode cX6_learns 14 = .ok (.iload 5, 2) := by decide +kernel
theorem dX6_learns_16 : decode cX6_learns 16 = .ok (.invokevirtual 73, 3) := by decide +kernel
theorem dX6_learns_19 : decode cX6_learns 19 = .ok (.ireturn, 1) := by decide +kernel
theorem dX6_learns_20 : decode cX6_learns 20 = .ok (.iload 4, 2) := by decide +kernel
theorem dX6_learns_22 : decode cX6_learns 22 = .ok (.iconst 3, 1) := by decide +kernel
theorem dX6_learns_23 : decode cX6_learns 23 = .ok (.invokestatic 69, 3) := by decide +kernel
theorem dX6_learns_26 : decode cX6_learns 26 = .ok (.ifCond .ne 10, 3) := by decide +kernel
theorem dX6_learns_29 : decode cX6_learns 29 = .ok (.aload_n 0, 1) := by decide +kernel
theorem dX6_learns_30 : decode cX6_learns 30 = .ok (.bipush (-2), 2) := by decide +kernel
theorem dX6_learns_32 : decode cX6_learns 32 = .ok (.invokevirtual 73, 3) := by decide +kernel
theorem dX6_learns_35 : decode cX6_learns 35 = .ok (.ireturn, 1) := by decide +kernel
theorem dX6_learns_36 : decode cX6_learns 36 = .ok (.aload_n 0, 1) := by decide +kernel
theorem dX6_learns_37 : decode cX6_learns 37 = .ok (.getfield 16, 3) := by decide +kernel
theorem dX6_learns_40 : decode cX6_learns 40 = .ok (.aload_n 0, 1) := by decide +kernel
theorem dX6_learns_41 : decode cX6_learns 41 = .ok (.getfield 10, 3) := by decide +kernel
theorem dX6_learns_44 : decode cX6_learns 44 = .ok (.invokevirtual 56, 3) := by decide +kernel
theorem dX6_learns_47 : decode cX6_learns 47 = .ok (.aload_n 0, 1) := by decide +kernel
theorem dX6_learns_48 : decode cX6_learns 48 = .ok (.getfield 25, 3) := by decide +kernel
theorem dX6_learns_51 : decode cX6_learns 51 = .ok (.iload_n 1, 1) := by decide +kernel
theorem dX6_learns_52 : decode cX6_learns 52 = .ok (.iload_n 2, 1) := by decide +kernel
theorem dX6_learns_53 : decode cX6_learns 53 = .ok (.iload_n 3, 1) := by decide +kernel
theorem dX6_learns_54 : decode cX6_learns 54 = .ok (.invokevirtual 150, 3) := by decide +kernel
theorem dX6_learns_57 : decode cX6_learns 57 = .ok (.aload_n 0, 1) := by decide +kernel
theorem dX6_learns_58 : decode cX6_learns 58 = .ok (.getfield 16, 3) := by decide +kernel
theorem dX6_learns_61 : decode cX6_learns 61 = .ok (.aload_n 0, 1) := by decide +kernel
theorem dX6_learns_62 : decode cX6_learns 62 = .ok (.getfield 25, 3) := by decide +kernel
theorem dX6_learns_65 : decode cX6_learns 65 = .ok (.invokevirtual 206, 3) := by decide +kernel
theorem dX6_learns_68 : decode cX6_learns 68 = .ok (.aload_n 0, 1) := by decide +kernel
theorem dX6_learns_69 : decode cX6_learns 69 = .ok (.getfield 32, 3) := by decide +kernel
theorem dX6_learns_72 : decode cX6_learns 72 = .ok (.aload_n 0, 1) := by decide +kernel
theorem dX6_learns_73 : decode cX6_learns 73 = .ok (.getfield 16, 3) := by decide +kernel
theorem dX6_learns_76 : decode cX6_learns 76 = .ok (.invokevirtual 104, 3) := by decide +kernel
theorem dX6_learns_79 : decode cX6_learns 79 = .ok (.aload_n 0, 1) := by decide +kernel
theorem dX6_learns_80 : decode cX6_learns 80 = .ok (.getfield 32, 3) := by decide +kernel
theorem dX6_learns_83 : decode cX6_learns 83 = .ok (.invokevirtual 210, 3) := by decide +kernel
theorem dX6_learns_86 : decode cX6_learns 86 = .ok (.istore 6, 2) := by decide +kernel
theorem dX6_learns_88 : decode cX6_learns 88 = .ok (.iload 4, 2) := by decide +kernel
theorem dX6_learns_90 : decode cX6_learns 90 = .ok (.ifCond .ne 15, 3) := by decide +kernel
theorem dX6_learns_93 : decode cX6_learns 93 = .ok (.aload_n 0, 1) := by decide +kernel
theorem dX6_learns_94 : decode cX6_learns 94 = .ok (.getfield 32, 3) := by decide +kernel
theorem dX6_learns_97 : decode cX6_learns 97 = .ok (.iload 6, 2) := by decide +kernel
theorem dX6_learns_99 : decode cX6_learns 99 = .ok (.invokevirtual 113, 3) := by decide +kernel
theorem dX6_learns_102 : decode cX6_learns 102 = .ok (.goto 24, 3) := by decide +kernel
theorem dX6_learns_105 : decode cX6_learns 105 = .ok (.iload 4, 2) := by decide +kernel
theorem dX6_learns_107 : decode cX6_learns 107 = .ok (.iconst 1, 1) := by decide +kernel
theorem dX6_learns_108 : decode cX6_learns 108 = .ok (.if_icmp .ne 8, 3) := by decide +kernel
theorem dX6_learns_111 : decode cX6_learns 111 = .ok (.iload 6, 2) := by decide +kernel
theorem dX6_learns_113 : decode cX6_learns 113 = .ok (.goto 13, 3) := by decide +kernel
theorem dX6_learns_116 : decode cX6_learns 116 = .ok (.aload_n 0, 1) := by decide +kernel
theorem dX6_learns_117 : decode cX6_learns 117 = .ok (.getfield 32, 3) := by decide +kernel
theorem dX6_learns_120 : decode cX6_learns 120 = .ok (.invokevirtual 203, 3) := by decide +kernel
theorem dX6_learns_123 : decode cX6_learns 123 = .ok (.invokestatic 213, 3) := by decide +kernel
theorem dX6_learns_126 : decode cX6_learns 126 = .ok (.ireturn, 1) := by decide +kernel
theorem dX6_mean_0 : decode cX6_mean 0 = .ok (.iload_n 1, 1) := by decide +kernel
theorem dX6_mean_1 : decode cX6_mean 1 = .ok (.iconst 2, 1) := by decide +kernel
theorem dX6_mean_2 : decode cX6_mean 2 = .ok (.invokestatic 69, 3) := by decide +kernel
theorem dX6_mean_5 : decode cX6_mean 5 = .ok (.ifCond .ne 15, 3) := by decide +kernel
theorem dX6_mean_8 : decode cX6_mean 8 = .ok (.ldc2_w 182, 3) := by decide +kernel
theorem dX6_mean_11 : decode cX6_mean 11 = .ok (.aload_n 0, 1) := by decide +kernel
theorem dX6_mean_12 : decode cX6_mean 12 = .ok (.bipush (-2), 2) := by decide +kernel
theorem dX6_mean_14 : decode cX6_mean 14 = .ok (.invokevirtual 73, 3) := by decide +kernel
theorem dX6_mean_17 : decode cX6_mean 17 = .ok (.i2l, 1) := by decide +kernel
theorem dX6_mean_18 : decode cX6_mean 18 = .ok (.lsub, 1) := by decide +kernel
theorem dX6_mean_19 : decode cX6_mean 19 = .ok (.lreturn, 1) := by decide +kernel
theorem dX6_mean_20 : decode cX6_mean 20 = .ok (.aload_n 0, 1) := by decide +kernel
theorem dX6_mean_21 : decode cX6_mean 21 = .ok (.getfield 32, 3) := by decide +kernel
theorem dX6_mean_24 : decode cX6_mean 24 = .ok (.aload_n 0, 1) := by decide +kernel
theorem dX6_mean_25 : decode cX6_mean 25 = .ok (.getfield 10, 3) := by decide +kernel
theorem dX6_mean_28 : decode cX6_mean 28 = .ok (.invokevirtual 104, 3) := by decide +kernel
theorem dX6_mean_31 : decode cX6_mean 31 = .ok (.aload_n 0, 1) := by decide +kernel
theorem dX6_mean_32 : decode cX6_mean 32 = .ok (.getfield 32, 3) := by decide +kernel
theorem dX6_mean_35 : decode cX6_mean 35 = .ok (.invokevirtual 218, 3) := by decide +kernel
theorem dX6_mean_38 : decode cX6_mean 38 = .ok (.i2l, 1) := by decide +kernel
theorem dX6_mean_39 : decode cX6_mean 39 = .ok (.aload_n 0, 1) := by decide +kernel
theorem dX6_mean_40 : decode cX6_mean 40 = .ok (.getfield 10, 3) := by decide +kernel
theorem dX6_mean_43 : decode cX6_mean 43 = .ok (.getfield 221, 3) := by decide +kernel
theorem dX6_mean_46 : decode cX6_mean 46 = .ok (.i2l, 1) := by decide +kernel
theorem dX6_mean_47 : decode cX6_mean 47 = .ok (.iload_n 1, 1) := by decide +kernel
theorem dX6_mean_48 : decode cX6_mean 48 = .ok (.invokestatic 224, 3) := by decide +kernel
theorem dX6_mean_51 : decode cX6_mean 51 = .ok (.lreturn, 1) := by decide +kernel
theorem dX6_order_0 : decode cX6_order 0 = .ok (.iload_n 1, 1) := by decide +kernel
theorem dX6_order_1 : decode cX6_order 1 = .ok (.iload_n 2, 1) := by decide +kernel
theorem dX6_order_2 : decode cX6_order 2 = .ok (.iload_n 3, 1) := by decide +kernel
theorem dX6_order_3 : decode cX6_order 3 = .ok (.invokestatic 228, 3) := by decide +kernel
theorem dX6_order_6 : decode cX6_order 6 = .ok (.invokestatic 228, 3) := by decide +kernel
theorem dX6_order_9 : decode cX6_order 9 = .ok (.iload_n 1, 1) := by decide +kernel
theorem dX6_order_10 : decode cX6_order 10 = .ok (.iload_n 2, 1) := by decide +kernel
theorem dX6_order_11 : decode cX6_order 11 = .ok (.iload_n 3, 1) := by decide +kernel
theorem dX6_order_12 : decode cX6_order 12 = .ok (.invokestatic 233, 3) := by decide +kernel
theorem dX6_order_15 : decode cX6_order 15 = .ok (.invokestatic 233, 3) := by decide +kernel
theorem dX6_order_18 : decode cX6_order 18 = .ok (.invokestatic 236, 3) := by decide +kernel
theorem dX6_order_21 : decode cX6_order 21 = .ok (.istore 5, 2) := by decide +kernel
theorem dX6_order_23 : decode cX6_order 23 = .ok (.iload 5, 2) := by decide +kernel
theorem dX6_order_25 : decode cX6_order 25 = .ok (.ifCond .eq 10, 3) := by decide +kernel
theorem dX6_order_28 : decode cX6_order 28 = .ok (.aload_n 0, 1) := by decide +kernel
theorem dX6_order_29 : decode cX6_order 29 = .ok (.iload 5, 2) := by decide +kernel
theorem dX6_order_31 : decode cX6_order 31 = .ok (.invokevirtual 73, 3) := by decide +kernel
theorem dX6_order_34 : decode cX6_order 34 = .ok (.ireturn, 1) := by decide +kernel
theorem dX6_order_35 : decode cX6_order 35 = .ok (.iload 4, 2) := by decide +kernel
theorem dX6_order_37 : decode cX6_order 37 = .ok (.iconst 2, 1) := by decide +kernel
theorem dX6_order_38 : decode cX6_order 38 = .ok (.invokestatic 69, 3) := by decide +kernel
theorem dX6_order_41 : decode cX6_order 41 = .ok (.ifCond .ne 10, 3) := by decide +kernel
theorem dX6_order_44 : decode cX6_order 44 = .ok (.aload_n 0, 1) := by decide +kernel
theorem dX6_order_45 : decode cX6_order 45 = .ok (.bipush (-2), 2) := by decide +kernel
theorem dX6_order_47 : decode cX6_order 47 = .ok (.invokevirtual 73, 3) := by decide +kernel
theorem dX6_order_50 : decode cX6_order 50 = .ok (.ireturn, 1) := by decide +kernel
theorem dX6_order_51 : decode cX6_order 51 = .ok (.iconst 0, 1) := by decide +kernel
theorem dX6_order_52 : decode cX6_order 52 = .ok (.istore 6, 2) := by decide +kernel
theorem dX6_order_54 : decode cX6_order 54 = .ok (.iconst (-1), 1) := by decide +kernel
theorem dX6_order_55 : decode cX6_order 55 = .ok (.istore 7, 2) := by decide +kernel
theorem dX6_order_57 : decode cX6_order 57 = .ok (.iconst 0, 1) := by decide +kernel
theorem dX6_order_58 : decode cX6_order 58 = .ok (.istore 8, 2) := by decide +kernel
theorem dX6_order_60 : decode cX6_order 60 = .ok (.iload 8, 2) := by decide +kernel
theorem dX6_order_62 : decode cX6_order 62 = .ok (.iconst 3, 1) := by decide +kernel
theorem dX6_order_63 : decode cX6_order 63 = .ok (.if_icmp .ge 100, 3) := by decide +kernel
theorem dX6_order_66 : decode cX6_order 66 = .ok (.iconst 0, 1) := by decide +kernel
theorem dX6_order_67 : decode cX6_order 67 = .ok (.istore 9, 2) := by decide +kernel
theorem dX6_order_69 : decode cX6_order 69 = .ok (.iload 9, 2) := by decide +kernel
theorem dX6_order_71 : decode cX6_order 71 = .ok (.iconst 3, 1) := by decide +kernel
theorem dX6_order_72 : decode cX6_order 72 = .ok (.if_icmp .ge 85, 3) := by decide +kernel
theorem dX6_order_75 : decode cX6_order 75 = .ok (.iload 9, 2) := by decide +kernel
theorem dX6_order_77 : decode cX6_order 77 = .ok (.iload 8, 2) := by decide +kernel
theorem dX6_order_79 : decode cX6_order 79 = .ok (.if_icmp .ne 6, 3) := by decide +kernel
theorem dX6_order_82 : decode cX6_order 82 = .ok (.goto 69, 3) := by decide +kernel
theorem dX6_order_85 : decode cX6_order 85 = .ok (.iconst 3, 1) := by decide +kernel
theorem dX6_order_86 : decode cX6_order 86 = .ok (.iload 8, 2) := by decide +kernel
theorem dX6_order_88 : decode cX6_order 88 = .ok (.isub, 1) := by decide +kernel
theorem dX6_order_89 : decode cX6_order 89 = .ok (.iload 9, 2) := by decide +kernel
theorem dX6_order_91 : decode cX6_order 91 = .ok (.isub, 1) := by decide +kernel
theorem dX6_order_92 : decode cX6_order 92 = .ok (.istore 10, 2) := by decide +kernel
theorem dX6_order_94 : decode cX6_order 94 = .ok (.aload_n 0, 1) := by decide +kernel
theorem dX6_order_95 : decode cX6_order 95 = .ok (.iload 8, 2) := by decide +kernel
theorem dX6_order_97 : decode cX6_order 97 = .ok (.iload_n 1, 1) := by decide +kernel
theorem dX6_order_98 : decode cX6_order 98 = .ok (.iload_n 2, 1) := by decide +kernel
theorem dX6_order_99 : decode cX6_order 99 = .ok (.iload_n 3, 1) := by decide +kernel
theorem dX6_order_100 : decode cX6_order 100 = .ok (.invokestatic 239, 3) := by decide +kernel
theorem dX6_order_103 : decode cX6_order 103 = .ok (.iload 9, 2) := by decide +kernel
theorem dX6_order_105 : decode cX6_order 105 = .ok (.iload_n 1, 1) := by decide +kernel
theorem dX6_order_106 : decode cX6_order 106 = .ok (.iload_n 2, 1) := by decide +kernel
theorem dX6_order_107 : decode cX6_order 107 = .ok (.iload_n 3, 1) := by decide +kernel
theorem dX6_order_108 : decode cX6_order 108 = .ok (.invokestatic 239, 3) := by decide +kernel
theorem dX6_order_111 : decode cX6_order 111 = .ok (.iload 10, 2) := by decide +kernel
theorem dX6_order_113 : decode cX6_order 113 = .ok (.iload_n 1, 1) := by decide +kernel
theorem dX6_order_114 : decode cX6_order 114 = .ok (.iload_n 2, 1) := by decide +kernel
theorem dX6_order_115 : decode cX6_order 115 = .ok (.iload_n 3, 1) := by decide +kernel
theorem dX6_order_116 : decode cX6_order 116 = .ok (.invokestatic 239, 3) := by decide +kernel
theorem dX6_order_119 : decode cX6_order 119 = .ok (.invokevirtual 243, 3) := by decide +kernel
theorem dX6_order_122 : decode cX6_order 122 = .ok (.istore 11, 2) := by decide +kernel
theorem dX6_order_124 : decode cX6_order 124 = .ok (.iload 11, 2) := by decide +kernel
theorem dX6_order_126 : decode cX6_order 126 = .ok (.iload 7, 2) := by decide +kernel
theorem dX6_order_128 : decode cX6_order 128 = .ok (.if_icmp .le 23, 3) := by decide +kernel
theorem dX6_order_131 : decode cX6_order 131 = .ok (.iload 11, 2) := by decide +kernel
theorem dX6_order_133 : decode cX6_order 133 = .ok (.istore 7, 2) := by decide +kernel
theorem dX6_order_135 : decode cX6_order 135 = .ok (.bipush 100, 2) := by decide +kernel
theorem dX6_order_137 : decode cX6_order 137 = .ok (.iload 8, 2) := by decide +kernel
theorem dX6_order_139 : decode cX6_order 139 = .ok (.imul, 1) := by decide +kernel
theorem dX6_order_140 : decode cX6_order 140 = .ok (.bipush 10, 2) := by decide +kernel
theorem dX6_order_142 : decode cX6_order 142 = .ok (.iload 9, 2) := by decide +kernel
theorem dX6_order_144 : decode cX6_order 144 = .ok (.imul, 1) := by decide +kernel
theorem dX6_order_145 : decode cX6_order 145 = .ok (.iadd, 1) := by decide +kernel
theorem dX6_order_146 : decode cX6_order 146 = .ok (.iload 10, 2) := by decide +kernel
theorem dX6_order_148 : decode cX6_order 148 = .ok (.iadd, 1) := by decide +kernel
theorem dX6_order_149 : decode cX6_order 149 = .ok (.istore 6, 2) := by decide +kernel
theorem dX6_order_151 : decode cX6_order 151 = .ok (.iinc 9 1, 3) := by decide +kernel
theorem dX6_order_154 : decode cX6_order 154 = .ok (.goto (-85), 3) := by decide +kernel
theorem dX6_order_157 : decode cX6_order 157 = .ok (.iinc 8 1, 3) := by decide +kernel
theorem dX6_order_160 : decode cX6_order 160 = .ok (.goto (-100), 3) := by decide +kernel
theorem dX6_order_163 : decode cX6_order 163 = .ok (.iload 4, 2) := by decide +kernel
theorem dX6_order_165 : decode cX6_order 165 = .ok (.ifCond .ne 8, 3) := by decide +kernel
theorem dX6_order_168 : decode cX6_order 168 = .ok (.iload 6, 2) := by decide +kernel
theorem dX6_order_170 : decode cX6_order 170 = .ok (.goto 5, 3) := by decide +kernel
theorem dX6_order_173 : decode cX6_order 173 = .ok (.iload 7, 2) := by decide +kernel
theorem dX6_order_175 : decode cX6_order 175 = .ok (.ireturn, 1) := by decide +kernel
theorem dX6_pick_0 : decode cX6_pick 0 = .ok (.iload_n 0, 1) := by decide +kernel
theorem dX6_pick_1 : decode cX6_pick 1 = .ok (.ifCond .ne 7, 3) := by decide +kernel
theorem dX6_pick_4 : decode cX6_pick 4 = .ok (.iload_n 1, 1) := by decide +kernel
theorem dX6_pick_5 : decode cX6_pick 5 = .ok (.goto 13, 3) := by decide +kernel
theorem dX6_pick_8 : decode cX6_pick 8 = .ok (.iload_n 0, 1) := by decide +kernel
theorem dX6_pick_9 : decode cX6_pick 9 = .ok (.iconst 1, 1) := by decide +kernel
theorem dX6_pick_10 : decode cX6_pick 10 = .ok (.if_icmp .ne 7, 3) := by decide +kernel
theorem dX6_pick_13 : decode cX6_pick 13 = .ok (.iload_n 2, 1) := by decide +kernel
theorem dX6_pick_14 : decode cX6_pick 14 = .ok (.goto 4, 3) := by decide +kernel
theorem dX6_pick_17 : decode cX6_pick 17 = .ok (.iload_n 3, 1) := by decide +kernel
theorem dX6_pick_18 : decode cX6_pick 18 = .ok (.ireturn, 1) := by decide +kernel
theorem dX6_joinedInTurn_0 : decode cX6_joinedInTurn 0 = .ok (.aload_n 0, 1) := by decide +kernel
theorem dX6_joinedInTurn_1 : decode cX6_joinedInTurn 1 = .ok (.getfield 16, 3) := by decide +kernel
theorem dX6_joinedInTurn_4 : decode cX6_joinedInTurn 4 = .ok (.aload_n 0, 1) := by decide +kernel
theorem dX6_joinedInTurn_5 : decode cX6_joinedInTurn 5 = .ok (.getfield 10, 3) := by decide +kernel
theorem dX6_joinedInTurn_8 : decode cX6_joinedInTurn 8 = .ok (.invokevirtual 56, 3) := by decide +kernel
theorem dX6_joinedInTurn_11 : decode cX6_joinedInTurn 11 = .ok (.aload_n 0, 1) := by decide +kernel
theorem dX6_joinedInTurn_12 : decode cX6_joinedInTurn 12 = .ok (.aload_n 0, 1) := by decide +kernel
theorem dX6_joinedInTurn_13 : decode cX6_joinedInTurn 13 = .ok (.getfield 16, 3) := by decide +kernel
theorem dX6_joinedInTurn_16 : decode cX6_joinedInTurn 16 = .ok (.iload_n 1, 1) := by decide +kernel
theorem dX6_joinedInTurn_17 : decode cX6_joinedInTurn 17 = .ok (.invokevirtual 246, 3) := by decide +kernel
theorem dX6_joinedInTurn_20 : decode cX6_joinedInTurn 20 = .ok (.iconst 1, 1) := by decide +kernel
theorem dX6_joinedInTurn_21 : decode cX6_joinedInTurn 21 = .ok (.if_icmp .ne 7, 3) := by decide +kernel
theorem dX6_joinedInTurn_24 : decode cX6_joinedInTurn 24 = .ok (.iconst 1, 1) := by decide +kernel
theorem dX6_joinedInTurn_25 : decode cX6_joinedInTurn 25 = .ok (.goto 4, 3) := by decide +kernel
theorem dX6_joinedInTurn_28 : decode cX6_joinedInTurn 28 = .ok (.iconst 0, 1) := by decide +kernel
theorem dX6_joinedInTurn_29 : decode cX6_joinedInTurn 29 = .ok (.invokestatic 87, 3) := by decide +kernel
theorem dX6_joinedInTurn_32 : decode cX6_joinedInTurn 32 = .ok (.aload_n 0, 1) := by decide +kernel
theorem dX6_joinedInTurn_33 : decode cX6_joinedInTurn 33 = .ok (.aload_n 0, 1) := by decide +kernel
theorem dX6_joinedInTurn_34 : decode cX6_joinedInTurn 34 = .ok (.getfield 16, 3) := by decide +kernel
theorem dX6_joinedInTurn_37 : decode cX6_joinedInTurn 37 = .ok (.iload_n 2, 1) := by decide +kernel
theorem dX6_joinedInTurn_38 : decode cX6_joinedInTurn 38 = .ok (.invokevirtual 246, 3) := by decide +kernel
theorem dX6_joinedInTurn_41 : decode cX6_joinedInTurn 41 = .ok (.iconst 1, 1) := by decide +kernel
theorem dX6_joinedInTurn_42 : decode cX6_joinedInTurn 42 = .ok (.if_icmp .ne 7, 3) := by decide +kernel
theorem dX6_joinedInTurn_45 : decode cX6_joinedInTurn 45 = .ok (.iconst 1, 1) := by decide +kernel
theorem dX6_joinedInTurn_46 : decode cX6_joinedInTurn 46 = .ok (.goto 4, 3) := by decide +kernel
theorem dX6_joinedInTurn_49 : decode cX6_joinedInTurn 49 = .ok (.iconst 0, 1) := by decide +kernel
theorem dX6_joinedInTurn_50 : decode cX6_joinedInTurn 50 = .ok (.invokestatic 87, 3) := by decide +kernel
theorem dX6_joinedInTurn_53 : decode cX6_joinedInTurn 53 = .ok (.iadd, 1) := by decide +kernel
theorem dX6_joinedInTurn_54 : decode cX6_joinedInTurn 54 = .ok (.aload_n 0, 1) := by decide +kernel
theorem dX6_joinedInTurn_55 : decode cX6_joinedInTurn 55 = .ok (.aload_n 0, 1) := by decide +kernel
theorem dX6_joinedInTurn_56 : decode cX6_joinedInTurn 56 = .ok (.getfield 16, 3) := by decide +kernel
theorem dX6_joinedInTurn_59 : decode cX6_joinedInTurn 59 = .ok (.iload_n 3, 1) := by decide +kernel
theorem dX6_joinedInTurn_60 : decode cX6_joinedInTurn 60 = .ok (.invokevirtual 246, 3) := by decide +kernel
theorem dX6_joinedInTurn_63 : decode cX6_joinedInTurn 63 = .ok (.iconst 1, 1) := by decide +kernel
theorem dX6_joinedInTurn_64 : decode cX6_joinedInTurn 64 = .ok (.if_icmp .ne 7, 3) := by decide +kernel
theorem dX6_joinedInTurn_67 : decode cX6_joinedInTurn 67 = .ok (.iconst 1, 1) := by decide +kernel
theorem dX6_joinedInTurn_68 : decode cX6_joinedInTurn 68 = .ok (.goto 4, 3) := by decide +kernel
theorem dX6_joinedInTurn_71 : decode cX6_joinedInTurn 71 = .ok (.iconst 0, 1) := by decide +kernel
theorem dX6_joinedInTurn_72 : decode cX6_joinedInTurn 72 = .ok (.invokestatic 87, 3) := by decide +kernel
theorem dX6_joinedInTurn_75 : decode cX6_joinedInTurn 75 = .ok (.iadd, 1) := by decide +kernel
theorem dX6_joinedInTurn_76 : decode cX6_joinedInTurn 76 = .ok (.ireturn, 1) := by decide +kernel
theorem dX6_two_0 : decode cX6_two 0 = .ok (.iload_n 1, 1) := by decide +kernel
theorem dX6_two_1 : decode cX6_two 1 = .ok (.iload_n 2, 1) := by decide +kernel
theorem dX6_two_2 : decode cX6_two 2 = .ok (.invokestatic 228, 3) := by decide +kernel
theorem dX6_two_5 : decode cX6_two 5 = .ok (.iload_n 1, 1) := by decide +kernel
theorem dX6_two_6 : decode cX6_two 6 = .ok (.iload_n 2, 1) := by decide +kernel
theorem dX6_two_7 : decode cX6_two 7 = .ok (.invokestatic 233, 3) := by decide +kernel
theorem dX6_two_10 : decode cX6_two 10 = .ok (.invokestatic 236, 3) := by decide +kernel
theorem dX6_two_13 : decode cX6_two 13 = .ok (.istore_n 3, 1) := by decide +kernel
theorem dX6_two_14 : decode cX6_two 14 = .ok (.iload_n 3, 1) := by decide +kernel
theorem dX6_two_15 : decode cX6_two 15 = .ok (.ifCond .eq 9, 3) := by decide +kernel
theorem dX6_two_18 : decode cX6_two 18 = .ok (.aload_n 0, 1) := by decide +kernel
theorem dX6_two_19 : decode cX6_two 19 = .ok (.iload_n 3, 1) := by decide +kernel
theorem dX6_two_20 : decode cX6_two 20 = .ok (.invokevirtual 73, 3) := by decide +kernel
theorem dX6_two_23 : decode cX6_two 23 = .ok (.ireturn, 1) := by decide +kernel
theorem dX6_two_24 : decode cX6_two 24 = .ok (.aload_n 0, 1) := by decide +kernel
theorem dX6_two_25 : decode cX6_two 25 = .ok (.aload_n 0, 1) := by decide +kernel
theorem dX6_two_26 : decode cX6_two 26 = .ok (.getfield 10, 3) := by decide +kernel
theorem dX6_two_29 : decode cX6_two 29 = .ok (.iload_n 2, 1) := by decide +kernel
theorem dX6_two_30 : decode cX6_two 30 = .ok (.invokevirtual 172, 3) := by decide +kernel
theorem dX6_two_33 : decode cX6_two 33 = .ok (.invokestatic 249, 3) := by decide +kernel
theorem dX6_two_36 : decode cX6_two 36 = .ok (.istore 4, 2) := by decide +kernel
theorem dX6_two_38 : decode cX6_two 38 = .ok (.aload_n 0, 1) := by decide +kernel
theorem dX6_two_39 : decode cX6_two 39 = .ok (.getfield 16, 3) := by decide +kernel
theorem dX6_two_42 : decode cX6_two 42 = .ok (.aload_n 0, 1) := by decide +kernel
theorem dX6_two_43 : decode cX6_two 43 = .ok (.getfield 10, 3) := by decide +kernel
theorem dX6_two_46 : decode cX6_two 46 = .ok (.invokevirtual 56, 3) := by decide +kernel
theorem dX6_two_49 : decode cX6_two 49 = .ok (.aload_n 0, 1) := by decide +kernel
theorem dX6_two_50 : decode cX6_two 50 = .ok (.aload_n 0, 1) := by decide +kernel
theorem dX6_two_51 : decode cX6_two 51 = .ok (.getfield 16, 3) := by decide +kernel
theorem dX6_two_54 : decode cX6_two 54 = .ok (.iload_n 1, 1) := by decide +kernel
theorem dX6_two_55 : decode cX6_two 55 = .ok (.invokevirtual 246, 3) := by decide +kernel
theorem dX6_two_58 : decode cX6_two 58 = .ok (.invokestatic 249, 3) := by decide +kernel
theorem dX6_two_61 : decode cX6_two 61 = .ok (.istore 5, 2) := by decide +kernel
theorem dX6_two_63 : decode cX6_two 63 = .ok (.aload_n 0, 1) := by decide +kernel
theorem dX6_two_64 : decode cX6_two 64 = .ok (.aload_n 0, 1) := by decide +kernel
theorem dX6_two_65 : decode cX6_two 65 = .ok (.getfield 16, 3) := by decide +kernel
theorem dX6_two_68 : decode cX6_two 68 = .ok (.iload_n 2, 1) := by decide +kernel
theorem dX6_two_69 : decode cX6_two 69 = .ok (.invokevirtual 172, 3) := by decide +kernel
theorem dX6_two_72 : decode cX6_two 72 = .ok (.invokestatic 249, 3) := by decide +kernel
theorem dX6_two_75 : decode cX6_two 75 = .ok (.istore 6, 2) := by decide +kernel
theorem dX6_two_77 : decode cX6_two 77 = .ok (.iconst 0, 1) := by decide +kernel
theorem dX6_two_78 : decode cX6_two 78 = .ok (.istore 7, 2) := by decide +kernel
theorem dX6_two_80 : decode cX6_two 80 = .ok (.iload 7, 2) := by decide +kernel
theorem dX6_two_82 : decode cX6_two 82 = .ok (.iconst 2, 1) := by decide +kernel
theorem dX6_two_83 : decode cX6_two 83 = .ok (.if_icmp .ge 120, 3) := by decide +kernel
theorem dX6_two_86 : decode cX6_two 86 = .ok (.iload 7, 2) := by decide +kernel
theorem dX6_two_88 : decode cX6_two 88 = .ok (.iconst 1, 1) := by decide +kernel
theorem dX6_two_89 : decode cX6_two 89 = .ok (.if_icmp .ne 16, 3) := by decide +kernel
theorem dX6_two_92 : decode cX6_two 92 = .ok (.iload 5, 2) := by decide +kernel
theorem dX6_two_94 : decode cX6_two 94 = .ok (.ifCond .lt 7, 3) := by decide +kernel
theorem dX6_two_97 : decode cX6_two 97 = .ok (.iconst 1, 1) := by decide +kernel
theorem dX6_two_98 : decode cX6_two 98 = .ok (.goto 17, 3) := by decide +kernel
theorem dX6_two_101 : decode cX6_two 101 = .ok (.iconst 0, 1) := by decide +kernel
theorem dX6_two_102 : decode cX6_two 102 = .ok (.goto 13, 3) := by decide +kernel
theorem dX6_two_105 : decode cX6_two 105 = .ok (.iload 5, 2) := by decide +kernel
theorem dX6_two_107 : decode cX6_two 107 = .ok (.ifCond .gt 7, 3) := by decide +kernel
theorem dX6_two_110 : decode cX6_two 110 = .ok (.iconst 1, 1) := by decide +kernel
theorem dX6_two_111 : decode cX6_two 111 = .ok (.goto 4, 3) := by decide +kernel
theorem dX6_two_114 : decode cX6_two 114 = .ok (.iconst 0, 1) := by decide +kernel
theorem dX6_two_115 : decode cX6_two 115 = .ok (.istore 8, 2) := by decide +kernel
theorem dX6_two_117 : decode cX6_two 117 = .ok (.iload 7, 2) := by decide +kernel
theorem dX6_two_119 : decode cX6_two 119 = .ok (.iconst 1, 1) := by decide +kernel
theorem dX6_two_120 : decode cX6_two 120 = .ok (.if_icmp .ne 8, 3) := by decide +kernel
theorem dX6_two_123 : decode cX6_two 123 = .ok (.iload 6, 2) := by decide +kernel
theorem dX6_two_125 : decode cX6_two 125 = .ok (.goto 5, 3) := by decide +kernel
theorem dX6_two_128 : decode cX6_two 128 = .ok (.iload 4, 2) := by decide +kernel
theorem dX6_two_130 : decode cX6_two 130 = .ok (.istore 9, 2) := by decide +kernel
theorem dX6_two_132 : decode cX6_two 132 = .ok (.iconst 0, 1) := by decide +kernel
theorem dX6_two_133 : decode cX6_two 133 = .ok (.istore 10, 2) := by decide +kernel
theorem dX6_two_135 : decode cX6_two 135 = .ok (.iload 10, 2) := by decide +kernel
theorem dX6_two_137 : decode cX6_two 137 = .ok (.iconst 2, 1) := by decide +kernel
theorem dX6_two_138 : decode cX6_two 138 = .ok (.if_icmp .ge 59, 3) := by decide +kernel
theorem dX6_two_141 : decode cX6_two 141 = .ok (.iload 10, 2) := by decide +kernel
theorem dX6_two_143 : decode cX6_two 143 = .ok (.iconst 1, 1) := by decide +kernel
theorem dX6_two_144 : decode cX6_two 144 = .ok (.if_icmp .ne 16, 3) := by decide +kernel
theorem dX6_two_147 : decode cX6_two 147 = .ok (.iload 9, 2) := by decide +kernel
theorem dX6_two_149 : decode cX6_two 149 = .ok (.ifCond .lt 7, 3) := by decide +kernel
theorem dX6_two_152 : decode cX6_two 152 = .ok (.iconst 1, 1) := by decide +kernel
theorem dX6_two_153 : decode cX6_two 153 = .ok (.goto 17, 3) := by decide +kernel
theorem dX6_two_156 : decode cX6_two 156 = .ok (.iconst 0, 1) := by decide +kernel
theorem dX6_two_157 : decode cX6_two 157 = .ok (.goto 13, 3) := by decide +kernel
theorem dX6_two_160 : decode cX6_two 160 = .ok (.iload 9, 2) := by decide +kernel
theorem dX6_two_162 : decode cX6_two 162 = .ok (.ifCond .gt 7, 3) := by decide +kernel
theorem dX6_two_165 : decode cX6_two 165 = .ok (.iconst 1, 1) := by decide +kernel
theorem dX6_two_166 : decode cX6_two 166 = .ok (.goto 4, 3) := by decide +kernel
theorem dX6_two_169 : decode cX6_two 169 = .ok (.iconst 0, 1) := by decide +kernel
theorem dX6_two_170 : decode cX6_two 170 = .ok (.istore 11, 2) := by decide +kernel
theorem dX6_two_172 : decode cX6_two 172 = .ok (.iload 8, 2) := by decide +kernel
theorem dX6_two_174 : decode cX6_two 174 = .ok (.ifCond .eq 17, 3) := by decide +kernel
theorem dX6_two_177 : decode cX6_two 177 = .ok (.iload 11, 2) := by decide +kernel
theorem dX6_two_179 : decode cX6_two 179 = .ok (.ifCond .eq 12, 3) := by decide +kernel
theorem dX6_two_182 : decode cX6_two 182 = .ok (.bipush 10, 2) := by decide +kernel
theorem dX6_two_184 : decode cX6_two 184 = .ok (.iload 7, 2) := by decide +kernel
theorem dX6_two_186 : decode cX6_two 186 = .ok (.imul, 1) := by decide +kernel
theorem dX6_two_187 : decode cX6_two 187 = .ok (.iload 10, 2) := by decide +kernel
theorem dX6_two_189 : decode cX6_two 189 = .ok (.iadd, 1) := by decide +kernel
theorem dX6_two_190 : decode cX6_two 190 = .ok (.ireturn, 1) := by decide +kernel
theorem dX6_two_191 : decode cX6_two 191 = .ok (.iinc 10 1, 3) := by decide +kernel
theorem dX6_two_194 : decode cX6_two 194 = .ok (.goto (-59), 3) := by decide +kernel
theorem dX6_two_197 : decode cX6_two 197 = .ok (.iinc 7 1, 3) := by decide +kernel
theorem dX6_two_200 : decode cX6_two 200 = .ok (.goto (-120), 3) := by decide +kernel
theorem dX6_two_203 : decode cX6_two 203 = .ok (.bipush (-9), 2) := by decide +kernel
theorem dX6_two_205 : decode cX6_two 205 = .ok (.ireturn, 1) := by decide +kernel
theorem dX6_gain_0 : decode cX6_gain 0 = .ok (.iload_n 0, 1) := by decide +kernel
theorem dX6_gain_1 : decode cX6_gain 1 = .ok (.iconst 1, 1) := by decide +kernel
theorem dX6_gain_2 : decode cX6_gain 2 = .ok (.if_icmp .ne 7, 3) := by decide +kernel
theorem dX6_gain_5 : decode cX6_gain 5 = .ok (.iconst 3, 1) := by decide +kernel
theorem dX6_gain_6 : decode cX6_gain 6 = .ok (.goto 12, 3) := by decide +kernel
theorem dX6_gain_9 : decode cX6_gain 9 = .ok (.iload_n 0, 1) := by decide +kernel
theorem dX6_gain_10 : decode cX6_gain 10 = .ok (.ifCond .ne 7, 3) := by decide +kernel
theorem dX6_gain_13 : decode cX6_gain 13 = .ok (.iconst 1, 1) := by decide +kernel
theorem dX6_gain_14 : decode cX6_gain 14 = .ok (.goto 4, 3) := by decide +kernel
theorem dX6_gain_17 : decode cX6_gain 17 = .ok (.iconst (-1), 1) := by decide +kernel
theorem dX6_gain_18 : decode cX6_gain 18 = .ok (.ireturn, 1) := by decide +kernel
theorem dX6_cheapest_0 : decode cX6_cheapest 0 = .ok (.iload_n 1, 1) := by decide +kernel
theorem dX6_cheapest_1 : decode cX6_cheapest 1 = .ok (.iconst 2, 1) := by decide +kernel
theorem dX6_cheapest_2 : decode cX6_cheapest 2 = .ok (.invokestatic 69, 3) := by decide +kernel
theorem dX6_cheapest_5 : decode cX6_cheapest 5 = .ok (.ifCond .ne 10, 3) := by decide +kernel
theorem dX6_cheapest_8 : decode cX6_cheapest 8 = .ok (.aload_n 0, 1) := by decide +kernel
theorem dX6_cheapest_9 : decode cX6_cheapest 9 = .ok (.bipush (-2), 2) := by decide +kernel
theorem dX6_cheapest_11 : decode cX6_cheapest 11 = .ok (.invokevirtual 73, 3) := by decide +kernel
theorem dX6_cheapest_14 : decode cX6_cheapest 14 = .ok (.ireturn, 1) := by decide +kernel
theorem dX6_cheapest_15 : decode cX6_cheapest 15 = .ok (.bipush (-9), 2) := by decide +kernel
theorem dX6_cheapest_17 : decode cX6_cheapest 17 = .ok (.istore_n 2, 1) := by decide +kernel
theorem dX6_cheapest_18 : decode cX6_cheapest 18 = .ok (.bipush 9, 2) := by decide +kernel
theorem dX6_cheapest_20 : decode cX6_cheapest 20 = .ok (.istore_n 3, 1) := by decide +kernel
theorem dX6_cheapest_21 : decode cX6_cheapest 21 = .ok (.iconst 1, 1) := by decide +kernel
theorem dX6_cheapest_22 : decode cX6_cheapest 22 = .ok (.istore 4, 2) := by decide +kernel
theorem dX6_cheapest_24 : decode cX6_cheapest 24 = .ok (.iload 4, 2) := by decide +kernel
theorem dX6_cheapest_26 : decode cX6_cheapest 26 = .ok (.sipush 255, 3) := by decide +kernel
theorem dX6_cheapest_29 : decode cX6_cheapest 29 = .ok (.if_icmp .gt 42, 3) := by decide +kernel
theorem dX6_cheapest_32 : decode cX6_cheapest 32 = .ok (.iload 4, 2) := by decide +kernel
theorem dX6_cheapest_34 : decode cX6_cheapest 34 = .ok (.invokestatic 213, 3) := by decide +kernel
theorem dX6_cheapest_37 : decode cX6_cheapest 37 = .ok (.istore 5, 2) := by decide +kernel
theorem dX6_cheapest_39 : decode cX6_cheapest 39 = .ok (.iload 5, 2) := by decide +kernel
theorem dX6_cheapest_41 : decode cX6_cheapest 41 = .ok (.iload_n 3, 1) := by decide +kernel
theorem dX6_cheapest_42 : decode cX6_cheapest 42 = .ok (.if_icmp .ge 23, 3) := by decide +kernel
theorem dX6_cheapest_45 : decode cX6_cheapest 45 = .ok (.aload_n 0, 1) := by decide +kernel
theorem dX6_cheapest_46 : decode cX6_cheapest 46 = .ok (.aload_n 0, 1) := by decide +kernel
theorem dX6_cheapest_47 : decode cX6_cheapest 47 = .ok (.getfield 10, 3) := by decide +kernel
theorem dX6_cheapest_50 : decode cX6_cheapest 50 = .ok (.iload 4, 2) := by decide +kernel
theorem dX6_cheapest_52 : decode cX6_cheapest 52 = .ok (.invokevirtual 172, 3) := by decide +kernel
theorem dX6_cheapest_55 : decode cX6_cheapest 55 = .ok (.iconst 1, 1) := by decide +kernel
theorem dX6_cheapest_56 : decode cX6_cheapest 56 = .ok (.if_icmp .ne 9, 3) := by decide +kernel
theorem dX6_cheapest_59 : decode cX6_cheapest 59 = .ok (.iload 4, 2) := by decide +kernel
theorem dX6_cheapest_61 : decode cX6_cheapest 61 = .ok (.istore_n 2, 1) := by decide +kernel
theorem dX6_cheapest_62 : decode cX6_cheapest 62 = .ok (.iload 5, 2) := by decide +kernel
theorem dX6_cheapest_64 : decode cX6_cheapest 64 = .ok (.istore_n 3, 1) := by decide +kernel
theorem dX6_cheapest_65 : decode cX6_cheapest 65 = .ok (.iinc 4 1, 3) := by decide +kernel
theorem dX6_cheapest_68 : decode cX6_cheapest 68 = .ok (.goto (-44), 3) := by decide +kernel
theorem dX6_cheapest_71 : decode cX6_cheapest 71 = .ok (.iload_n 1, 1) := by decide +kernel
theorem dX6_cheapest_72 : decode cX6_cheapest 72 = .ok (.ifCond .eq 9, 3) := by decide +kernel
theorem dX6_cheapest_75 : decode cX6_cheapest 75 = .ok (.iload_n 2, 1) := by decide +kernel
theorem dX6_cheapest_76 : decode cX6_cheapest 76 = .ok (.bipush (-9), 2) := by decide +kernel
theorem dX6_cheapest_78 : decode cX6_cheapest 78 = .ok (.if_icmp .ne 7, 3) := by decide +kernel
theorem dX6_cheapest_81 : decode cX6_cheapest 81 = .ok (.iload_n 2, 1) := by decide +kernel
theorem dX6_cheapest_82 : decode cX6_cheapest 82 = .ok (.goto 4, 3) := by decide +kernel
theorem dX6_cheapest_85 : decode cX6_cheapest 85 = .ok (.iload_n 3, 1) := by decide +kernel
theorem dX6_cheapest_86 : decode cX6_cheapest 86 = .ok (.ireturn, 1) := by decide +kernel
theorem dX6_share_0 : decode cX6_share 0 = .ok (.iload_n 1, 1) := by decide +kernel
theorem dX6_share_1 : decode cX6_share 1 = .ok (.iconst 2, 1) := by decide +kernel
theorem dX6_share_2 : decode cX6_share 2 = .ok (.invokestatic 69, 3) := by decide +kernel
theorem dX6_share_5 : decode cX6_share 5 = .ok (.ifCond .ne 15, 3) := by decide +kernel
theorem dX6_share_8 : decode cX6_share 8 = .ok (.ldc2_w 182, 3) := by decide +kernel
theorem dX6_share_11 : decode cX6_share 11 = .ok (.aload_n 0, 1) := by decide +kernel
theorem dX6_share_12 : decode cX6_share 12 = .ok (.bipush (-2), 2) := by decide +kernel
theorem dX6_share_14 : decode cX6_share 14 = .ok (.invokevirtual 73, 3) := by decide +kernel
theorem dX6_share_17 : decode cX6_share 17 = .ok (.i2l, 1) := by decide +kernel
theorem dX6_share_18 : decode cX6_share 18 = .ok (.lsub, 1) := by decide +kernel
theorem dX6_share_19 : decode cX6_share 19 = .ok (.lreturn, 1) := by decide +kernel
theorem dX6_share_20 : decode cX6_share 20 = .ok (.sipush 255, 3) := by decide +kernel
theorem dX6_share_23 : decode cX6_share 23 = .ok (.aload_n 0, 1) := by decide +kernel
theorem dX6_share_24 : decode cX6_share 24 = .ok (.iconst 2, 1) := by decide +kernel
theorem dX6_share_25 : decode cX6_share 25 = .ok (.invokevirtual 169, 3) := by decide +kernel
theorem dX6_share_28 : decode cX6_share 28 = .ok (.isub, 1) := by decide +kernel
theorem dX6_share_29 : decode cX6_share 29 = .ok (.i2l, 1) := by decide +kernel
theorem dX6_share_30 : decode cX6_share 30 = .ok (.ldc2_w 252, 3) := by decide +kernel
theorem dX6_share_33 : decode cX6_share 33 = .ok (.iload_n 1, 1) := by decide +kernel
theorem dX6_share_34 : decode cX6_share 34 = .ok (.invokestatic 224, 3) := by decide +kernel
theorem dX6_share_37 : decode cX6_share 37 = .ok (.lreturn, 1) := by decide +kernel
theorem dX6_lots_0 : decode cX6_lots 0 = .ok (.iload_n 1, 1) := by decide +kernel
theorem dX6_lots_1 : decode cX6_lots 1 = .ok (.iconst 1, 1) := by decide +kernel
theorem dX6_lots_2 : decode cX6_lots 2 = .ok (.bipush 20, 2) := by decide +kernel
theorem dX6_lots_4 : decode cX6_lots 4 = .ok (.invokestatic 125, 3) := by decide +kernel
theorem dX6_lots_7 : decode cX6_lots 7 = .ok (.istore 4, 2) := by decide +kernel
theorem dX6_lots_9 : decode cX6_lots 9 = .ok (.iload 4, 2) := by decide +kernel
theorem dX6_lots_11 : decode cX6_lots 11 = .ok (.ifCond .eq 10, 3) := by decide +kernel
theorem dX6_lots_14 : decode cX6_lots 14 = .ok (.aload_n 0, 1) := by decide +kernel
theorem dX6_lots_15 : decode cX6_lots 15 = .ok (.iload 4, 2) := by decide +kernel
theorem dX6_lots_17 : decode cX6_lots 17 = .ok (.invokevirtual 73, 3) := by decide +kernel
theorem dX6_lots_20 : decode cX6_lots 20 = .ok (.ireturn, 1) := by decide +kernel
theorem dX6_lots_21 : decode cX6_lots 21 = .ok (.iload_n 3, 1) := by decide +kernel
theorem dX6_lots_22 : decode cX6_lots 22 = .ok (.iconst 2, 1) := by decide +kernel
theorem dX6_lots_23 : decode cX6_lots 23 = .ok (.invokestatic 69, 3) := by decide +kernel
theorem dX6_lots_26 : decode cX6_lots 26 = .ok (.ifCond .ne 10, 3) := by decide +kernel
theorem dX6_lots_29 : decode cX6_lots 29 = .ok (.aload_n 0, 1) := by decide +kernel
theorem dX6_lots_30 : decode cX6_lots 30 = .ok (.bipush (-2), 2) := by decide +kernel
theorem dX6_lots_32 : decode cX6_lots 32 = .ok (.invokevirtual 73, 3) := by decide +kernel
theorem dX6_lots_35 : decode cX6_lots 35 = .ok (.ireturn, 1) := by decide +kernel
theorem dX6_lots_36 : decode cX6_lots 36 = .ok (.iload_n 3, 1) := by decide +kernel
theorem dX6_lots_37 : decode cX6_lots 37 = .ok (.ifCond .ne 7, 3) := by decide +kernel
theorem dX6_lots_40 : decode cX6_lots 40 = .ok (.iconst 1, 1) := by decide +kernel
theorem dX6_lots_41 : decode cX6_lots 41 = .ok (.goto 4, 3) := by decide +kernel
theorem dX6_lots_44 : decode cX6_lots 44 = .ok (.iconst 2, 1) := by decide +kernel
theorem dX6_lots_45 : decode cX6_lots 45 = .ok (.istore 5, 2) := by decide +kernel
theorem dX6_lots_47 : decode cX6_lots 47 = .ok (.iload_n 2, 1) := by decide +kernel
theorem dX6_lots_48 : decode cX6_lots 48 = .ok (.istore 6, 2) := by decide +kernel
theorem dX6_lots_50 : decode cX6_lots 50 = .ok (.iconst 0, 1) := by decide +kernel
theorem dX6_lots_51 : decode cX6_lots 51 = .ok (.istore 7, 2) := by decide +kernel
theorem dX6_lots_53 : decode cX6_lots 53 = .ok (.iconst 0, 1) := by decide +kernel
theorem dX6_lots_54 : decode cX6_lots 54 = .ok (.istore 8, 2) := by decide +kernel
theorem dX6_lots_56 : decode cX6_lots 56 = .ok (.iload 8, 2) := by decide +kernel
theorem dX6_lots_58 : decode cX6_lots 58 = .ok (.iload_n 1, 1) := by decide +kernel
theorem dX6_lots_59 : decode cX6_lots 59 = .ok (.if_icmp .ge 82, 3) := by decide +kernel
theorem dX6_lots_62 : decode cX6_lots 62 = .ok (.aload_n 0, 1) := by decide +kernel
theorem dX6_lots_63 : decode cX6_lots 63 = .ok (.getfield 16, 3) := by decide +kernel
theorem dX6_lots_66 : decode cX6_lots 66 = .ok (.aload_n 0, 1) := by decide +kernel
theorem dX6_lots_67 : decode cX6_lots 67 = .ok (.getfield 10, 3) := by decide +kernel
theorem dX6_lots_70 : decode cX6_lots 70 = .ok (.invokevirtual 56, 3) := by decide +kernel
theorem dX6_lots_73 : decode cX6_lots 73 = .ok (.iconst 0, 1) := by decide +kernel
theorem dX6_lots_74 : decode cX6_lots 74 = .ok (.istore 9, 2) := by decide +kernel
theorem dX6_lots_76 : decode cX6_lots 76 = .ok (.iload 9, 2) := by decide +kernel
theorem dX6_lots_78 : decode cX6_lots 78 = .ok (.bipush 8, 2) := by decide +kernel
theorem dX6_lots_80 : decode cX6_lots 80 = .ok (.if_icmp .ge 55, 3) := by decide +kernel
theorem dX6_lots_83 : decode cX6_lots 83 = .ok (.iload 6, 2) := by decide +kernel
theorem dX6_lots_85 : decode cX6_lots 85 = .ok (.ldc 254, 2) := by decide +kernel
theorem dX6_lots_87 : decode cX6_lots 87 = .ok (.imul, 1) := by decide +kernel
theorem dX6_lots_88 : decode cX6_lots 88 = .ok (.ldc 255, 2) := by decide +kernel
theorem dX6_lots_90 : decode cX6_lots 90 = .ok (.iadd, 1) := by decide +kernel
theorem dX6_lots_91 : decode cX6_lots 91 = .ok (.istore 6, 2) := by decide +kernel
theorem dX6_lots_93 : decode cX6_lots 93 = .ok (.iload 6, 2) := by decide +kernel
theorem dX6_lots_95 : decode cX6_lots 95 = .ok (.ldc_w 256, 3) := by decide +kernel
theorem dX6_lots_98 : decode cX6_lots 98 = .ok (.iand, 1) := by decide +kernel
theorem dX6_lots_99 : decode cX6_lots 99 = .ok (.sipush 256, 3) := by decide +kernel
theorem dX6_lots_102 : decode cX6_lots 102 = .ok (.idiv, 1) := by decide +kernel
theorem dX6_lots_103 : decode cX6_lots 103 = .ok (.sipush 255, 3) := by decide +kernel
theorem dX6_lots_106 : decode cX6_lots 106 = .ok (.irem, 1) := by decide +kernel
theorem dX6_lots_107 : decode cX6_lots 107 = .ok (.istore 10, 2) := by decide +kernel
theorem dX6_lots_109 : decode cX6_lots 109 = .ok (.aload_n 0, 1) := by decide +kernel
theorem dX6_lots_110 : decode cX6_lots 110 = .ok (.aload_n 0, 1) := by decide +kernel
theorem dX6_lots_111 : decode cX6_lots 111 = .ok (.getfield 16, 3) := by decide +kernel
theorem dX6_lots_114 : decode cX6_lots 114 = .ok (.iconst 1, 1) := by decide +kernel
theorem dX6_lots_115 : decode cX6_lots 115 = .ok (.iload 10, 2) := by decide +kernel
theorem dX6_lots_117 : decode cX6_lots 117 = .ok (.iadd, 1) := by decide +kernel
theorem dX6_lots_118 : decode cX6_lots 118 = .ok (.invokevirtual 246, 3) := by decide +kernel
theorem dX6_lots_121 : decode cX6_lots 121 = .ok (.iload 5, 2) := by decide +kernel
theorem dX6_lots_123 : decode cX6_lots 123 = .ok (.if_icmp .ne 6, 3) := by decide +kernel
theorem dX6_lots_126 : decode cX6_lots 126 = .ok (.iinc 7 1, 3) := by decide +kernel
theorem dX6_lots_129 : decode cX6_lots 129 = .ok (.iinc 9 1, 3) := by decide +kernel
theorem dX6_lots_132 : decode cX6_lots 132 = .ok (.goto (-56), 3) := by decide +kernel
theorem dX6_lots_135 : decode cX6_lots 135 = .ok (.iinc 8 1, 3) := by decide +kernel
theorem dX6_lots_138 : decode cX6_lots 138 = .ok (.goto (-82), 3) := by decide +kernel
theorem dX6_lots_141 : decode cX6_lots 141 = .ok (.iload 7, 2) := by decide +kernel
theorem dX6_lots_143 : decode cX6_lots 143 = .ok (.ireturn, 1) := by decide +kernel
theorem dX6_row_0 : decode cX6_row 0 = .ok (.aload_n 0, 1) := by decide +kernel
theorem dX6_row_1 : decode cX6_row 1 = .ok (.aload_n 0, 1) := by decide +kernel
theorem dX6_row_2 : decode cX6_row 2 = .ok (.getfield 45, 3) := by decide +kernel
theorem dX6_row_5 : decode cX6_row 5 = .ok (.iload_n 1, 1) := by decide +kernel
theorem dX6_row_6 : decode cX6_row 6 = .ok (.invokevirtual 52, 3) := by decide +kernel
theorem dX6_row_9 : decode cX6_row 9 = .ok (.ireturn, 1) := by decide +kernel
theorem dX6_clear_0 : decode cX6_clear 0 = .ok (.aload_n 0, 1) := by decide +kernel
theorem dX6_clear_1 : decode cX6_clear 1 = .ok (.getfield 45, 3) := by decide +kernel
theorem dX6_clear_4 : decode cX6_clear 4 = .ok (.getfield 257, 3) := by decide +kernel
theorem dX6_clear_7 : decode cX6_clear 7 = .ok (.istore_n 1, 1) := by decide +kernel
theorem dX6_clear_8 : decode cX6_clear 8 = .ok (.aload_n 0, 1) := by decide +kernel
theorem dX6_clear_9 : decode cX6_clear 9 = .ok (.getfield 45, 3) := by decide +kernel
theorem dX6_clear_12 : decode cX6_clear 12 = .ok (.invokevirtual 66, 3) := by decide +kernel
theorem dX6_clear_15 : decode cX6_clear 15 = .ok (.iload_n 1, 1) := by decide +kernel
theorem dX6_clear_16 : decode cX6_clear 16 = .ok (.ireturn, 1) := by decide +kernel
theorem dX6_which_0 : decode cX6_which 0 = .ok (.iload_n 1, 1) := by decide +kernel
theorem dX6_which_1 : decode cX6_which 1 = .ok (.iconst 2, 1) := by decide +kernel
theorem dX6_which_2 : decode cX6_which 2 = .ok (.invokestatic 69, 3) := by decide +kernel
theorem dX6_which_5 : decode cX6_which 5 = .ok (.ifCond .ne 10, 3) := by decide +kernel
theorem dX6_which_8 : decode cX6_which 8 = .ok (.aload_n 0, 1) := by decide +kernel
theorem dX6_which_9 : decode cX6_which 9 = .ok (.bipush (-2), 2) := by decide +kernel
theorem dX6_which_11 : decode cX6_which 11 = .ok (.invokevirtual 73, 3) := by decide +kernel
theorem dX6_which_14 : decode cX6_which 14 = .ok (.ireturn, 1) := by decide +kernel
theorem dX6_which_15 : decode cX6_which 15 = .ok (.aload_n 0, 1) := by decide +kernel
theorem dX6_which_16 : decode cX6_which 16 = .ok (.invokevirtual 260, 3) := by decide +kernel
theorem dX6_which_19 : decode cX6_which 19 = .ok (.ifCond .ne 10, 3) := by decide +kernel
theorem dX6_which_22 : decode cX6_which 22 = .ok (.aload_n 0, 1) := by decide +kernel
theorem dX6_which_23 : decode cX6_which 23 = .ok (.bipush (-3), 2) := by decide +kernel
theorem dX6_which_25 : decode cX6_which 25 = .ok (.invokevirtual 73, 3) := by decide +kernel
theorem dX6_which_28 : decode cX6_which 28 = .ok (.ireturn, 1) := by decide +kernel
theorem dX6_which_29 : decode cX6_which 29 = .ok (.iconst 0, 1) := by decide +kernel
theorem dX6_which_30 : decode cX6_which 30 = .ok (.istore_n 2, 1) := by decide +kernel
theorem dX6_which_31 : decode cX6_which 31 = .ok (.iload_n 1, 1) := by decide +kernel
theorem dX6_which_32 : decode cX6_which 32 = .ok (.ifCond .ne 7, 3) := by decide +kernel
theorem dX6_which_35 : decode cX6_which 35 = .ok (.iconst 4, 1) := by decide +kernel
theorem dX6_which_36 : decode cX6_which 36 = .ok (.goto 5, 3) := by decide +kernel
theorem dX6_which_39 : decode cX6_which 39 = .ok (.bipush 11, 2) := by decide +kernel
theorem dX6_which_41 : decode cX6_which 41 = .ok (.istore_n 3, 1) := by decide +kernel
theorem dX6_which_42 : decode cX6_which 42 = .ok (.iconst 0, 1) := by decide +kernel
theorem dX6_which_43 : decode cX6_which 43 = .ok (.istore 4, 2) := by decide +kernel
theorem dX6_which_45 : decode cX6_which 45 = .ok (.iload 4, 2) := by decide +kernel
theorem dX6_which_47 : decode cX6_which 47 = .ok (.iload_n 3, 1) := by decide +kernel
theorem dX6_which_48 : decode cX6_which 48 = .ok (.if_icmp .ge 56, 3) := by decide +kernel
theorem dX6_which_51 : decode cX6_which 51 = .ok (.iload_n 1, 1) := by decide +kernel
theorem dX6_which_52 : decode cX6_which 52 = .ok (.ifCond .ne 19, 3) := by decide +kernel
theorem dX6_which_55 : decode cX6_which 55 = .ok (.aload_n 0, 1) := by decide +kernel
theorem dX6_which_56 : decode cX6_which 56 = .ok (.iload 4, 2) := by decide +kernel
theorem dX6_which_58 : decode cX6_which 58 = .ok (.aload_n 0, 1) := by decide +kernel
theorem dX6_which_59 : decode cX6_which 59 = .ok (.getfield 10, 3) := by decide +kernel
theorem dX6_which_62 : decode cX6_which 62 = .ok (.getfield 140, 3) := by decide +kernel
theorem dX6_which_65 : decode cX6_which 65 = .ok (.invokevirtual 264, 3) := by decide +kernel
theorem dX6_which_68 : decode cX6_which 68 = .ok (.goto 16, 3) := by decide +kernel
theorem dX6_which_71 : decode cX6_which 71 = .ok (.aload_n 0, 1) := by decide +kernel
theorem dX6_which_72 : decode cX6_which 72 = .ok (.aload_n 0, 1) := by decide +kernel
theorem dX6_which_73 : decode cX6_which 73 = .ok (.getfield 10, 3) := by decide +kernel
theorem dX6_which_76 : decode cX6_which 76 = .ok (.getfield 133, 3) := by decide +kernel
theorem dX6_which_79 : decode cX6_which 79 = .ok (.iload 4, 2) := by decide +kernel
theorem dX6_which_81 : decode cX6_which 81 = .ok (.invokevirtual 264, 3) := by decide +kernel
theorem dX6_which_84 : decode cX6_which 84 = .ok (.istore 5, 2) := by decide +kernel
theorem dX6_which_86 : decode cX6_which 86 = .ok (.iload 5, 2) := by decide +kernel
theorem dX6_which_88 : decode cX6_which 88 = .ok (.ifCond .eq 10, 3) := by decide +kernel
theorem dX6_which_91 : decode cX6_which 91 = .ok (.iload_n 2, 1) := by decide +kernel
theorem dX6_which_92 : decode cX6_which 92 = .ok (.iconst 1, 1) := by decide +kernel
theorem dX6_which_93 : decode cX6_which 93 = .ok (.iload 4, 2) := by decide +kernel
theorem dX6_which_95 : decode cX6_which 95 = .ok (.ishl, 1) := by decide +kernel
theorem dX6_which_96 : decode cX6_which 96 = .ok (.ior, 1) := by decide +kernel
theorem dX6_which_97 : decode cX6_which 97 = .ok (.istore_n 2, 1) := by decide +kernel
theorem dX6_which_98 : decode cX6_which 98 = .ok (.iinc 4 1, 3) := by decide +kernel
theorem dX6_which_101 : decode cX6_which 101 = .ok (.goto (-56), 3) := by decide +kernel
theorem dX6_which_104 : decode cX6_which 104 = .ok (.iload_n 2, 1) := by decide +kernel
theorem dX6_which_105 : decode cX6_which 105 = .ok (.ireturn, 1) := by decide +kernel
theorem dX6_isRowOfPairs_0 : decode cX6_isRowOfPairs 0 = .ok (.iconst 0, 1) := by decide +kernel
theorem dX6_isRowOfPairs_1 : decode cX6_isRowOfPairs 1 = .ok (.istore_n 1, 1) := by decide +kernel
theorem dX6_isRowOfPairs_2 : decode cX6_isRowOfPairs 2 = .ok (.iload_n 1, 1) := by decide +kernel
theorem dX6_isRowOfPairs_3 : decode cX6_isRowOfPairs 3 = .ok (.aload_n 0, 1) := by decide +kernel
theorem dX6_isRowOfPairs_4 : decode cX6_isRowOfPairs 4 = .ok (.getfield 45, 3) := by decide +kernel
theorem dX6_isRowOfPairs_7 : decode cX6_isRowOfPairs 7 = .ok (.getfield 257, 3) := by decide +kernel
theorem dX6_isRowOfPairs_10 : decode cX6_isRowOfPairs 10 = .ok (.if_icmp .ge 22, 3) := by decide +kernel
theorem dX6_isRowOfPairs_13 : decode cX6_isRowOfPairs 13 = .ok (.aload_n 0, 1) := by decide +kernel
theorem dX6_isRowOfPairs_14 : decode cX6_isRowOfPairs 14 = .ok (.getfield 45, 3) := by decide +kernel
theorem dX6_isRowOfPairs_17 : decode cX6_isRowOfPairs 17 = .ok (.iload_n 1, 1) := by decide +kernel
theorem dX6_isRowOfPairs_18 : decode cX6_isRowOfPairs 18 = .ok (.invokevirtual 267, 3) := by decide +kernel
theorem dX6_isRowOfPairs_21 : decode cX6_isRowOfPairs 21 = .ok (.ifCond .ne 5, 3) := by decide +kernel
theorem dX6_isRowOfPairs_24 : decode cX6_isRowOfPairs 24 = .ok (.iconst 0, 1) := by decide +kernel
theorem dX6_isRowOfPairs_25 : decode cX6_isRowOfPairs 25 = .ok (.ireturn, 1) := by decide +kernel
theorem dX6_isRowOfPairs_26 : decode cX6_isRowOfPairs 26 = .ok (.iinc 1 2, 3) := by decide +kernel
theorem dX6_isRowOfPairs_29 : decode cX6_isRowOfPairs 29 = .ok (.goto (-27), 3) := by decide +kernel
theorem dX6_isRowOfPairs_32 : decode cX6_isRowOfPairs 32 = .ok (.aload_n 0, 1) := by decide +kernel
theorem dX6_isRowOfPairs_33 : decode cX6_isRowOfPairs 33 = .ok (.getfield 45, 3) := by decide +kernel
theorem dX6_isRowOfPairs_36 : decode cX6_isRowOfPairs 36 = .ok (.getfield 257, 3) := by decide +kernel
theorem dX6_isRowOfPairs_39 : decode cX6_isRowOfPairs 39 = .ok (.iconst 2, 1) := by decide +kernel
theorem dX6_isRowOfPairs_40 : decode cX6_isRowOfPairs 40 = .ok (.irem, 1) := by decide +kernel
theorem dX6_isRowOfPairs_41 : decode cX6_isRowOfPairs 41 = .ok (.ifCond .ne 7, 3) := by decide +kernel
theorem dX6_isRowOfPairs_44 : decode cX6_isRowOfPairs 44 = .ok (.iconst 1, 1) := by decide +kernel
theorem dX6_isRowOfPairs_45 : decode cX6_isRowOfPairs 45 = .ok (.goto 4, 3) := by decide +kernel
theorem dX6_isRowOfPairs_48 : decode cX6_isRowOfPairs 48 = .ok (.iconst 0, 1) := by decide +kernel
theorem dX6_isRowOfPairs_49 : decode cX6_isRowOfPairs 49 = .ok (.ireturn, 1) := by decide +kernel
theorem dX6_isMetBy_0 : decode cX6_isMetBy 0 = .ok (.iconst 0, 1) := by decide +kernel
theorem dX6_isMetBy_1 : decode cX6_isMetBy 1 = .ok (.istore_n 3, 1) := by decide +kernel
theorem dX6_isMetBy_2 : decode cX6_isMetBy 2 = .ok (.iload_n 3, 1) := by decide +kernel
theorem dX6_isMetBy_3 : decode cX6_isMetBy 3 = .ok (.aload_n 0, 1) := by decide +kernel
theorem dX6_isMetBy_4 : decode cX6_isMetBy 4 = .ok (.getfield 45, 3) := by decide +kernel
theorem dX6_isMetBy_7 : decode cX6_isMetBy 7 = .ok (.getfield 257, 3) := by decide +kernel
theorem dX6_isMetBy_10 : decode cX6_isMetBy 10 = .ok (.if_icmp .ge 54, 3) := by decide +kernel
theorem dX6_isMetBy_13 : decode cX6_isMetBy 13 = .ok (.aload_n 0, 1) := by decide +kernel
theorem dX6_isMetBy_14 : decode cX6_isMetBy 14 = .ok (.getfield 25, 3) := by decide +kernel
theorem dX6_isMetBy_17 : decode cX6_isMetBy 17 = .ok (.iconst 0, 1) := by decide +kernel
theorem dX6_isMetBy_18 : decode cX6_isMetBy 18 = .ok (.aload_n 0, 1) := by decide +kernel
theorem dX6_isMetBy_19 : decode cX6_isMetBy 19 = .ok (.getfield 45, 3) := by decide +kernel
theorem dX6_isMetBy_22 : decode cX6_isMetBy 22 = .ok (.iload_n 3, 1) := by decide +kernel
theorem dX6_isMetBy_23 : decode cX6_isMetBy 23 = .ok (.invokevirtual 267, 3) := by decide +kernel
theorem dX6_isMetBy_26 : decode cX6_isMetBy 26 = .ok (.iconst 0, 1) := by decide +kernel
theorem dX6_isMetBy_27 : decode cX6_isMetBy 27 = .ok (.invokevirtual 150, 3) := by decide +kernel
theorem dX6_isMetBy_30 : decode cX6_isMetBy 30 = .ok (.aload_n 0, 1) := by decide +kernel
theorem dX6_isMetBy_31 : decode cX6_isMetBy 31 = .ok (.getfield 10, 3) := by decide +kernel
theorem dX6_isMetBy_34 : decode cX6_isMetBy 34 = .ok (.aload_n 0, 1) := by decide +kernel
theorem dX6_isMetBy_35 : decode cX6_isMetBy 35 = .ok (.getfield 25, 3) := by decide +kernel
theorem dX6_isMetBy_38 : decode cX6_isMetBy 38 = .ok (.iload_n 1, 1) := by decide +kernel
theorem dX6_isMetBy_39 : decode cX6_isMetBy 39 = .ok (.iload_n 2, 1) := by decide +kernel
theorem dX6_isMetBy_40 : decode cX6_isMetBy 40 = .ok (.invokevirtual 161, 3) := by decide +kernel
theorem dX6_isMetBy_43 : decode cX6_isMetBy 43 = .ok (.aload_n 0, 1) := by decide +kernel
theorem dX6_isMetBy_44 : decode cX6_isMetBy 44 = .ok (.getfield 45, 3) := by decide +kernel
theorem dX6_isMetBy_47 : decode cX6_isMetBy 47 = .ok (.iload_n 3, 1) := by decide +kernel
theorem dX6_isMetBy_48 : decode cX6_isMetBy 48 = .ok (.iconst 1, 1) := by decide +kernel
theorem dX6_isMetBy_49 : decode cX6_isMetBy 49 = .ok (.iadd, 1) := by decide +kernel
theorem dX6_isMetBy_50 : decode cX6_isMetBy 50 = .ok (.invokevirtual 267, 3) := by decide +kernel
theorem dX6_isMetBy_53 : decode cX6_isMetBy 53 = .ok (.if_icmp .eq 5, 3) := by decide +kernel
theorem dX6_isMetBy_56 : decode cX6_isMetBy 56 = .ok (.iconst 0, 1) := by decide +kernel
theorem dX6_isMetBy_57 : decode cX6_isMetBy 57 = .ok (.ireturn, 1) := by decide +kernel
theorem dX6_isMetBy_58 : decode cX6_isMetBy 58 = .ok (.iinc 3 2, 3) := by decide +kernel
theorem dX6_isMetBy_61 : decode cX6_isMetBy 61 = .ok (.goto (-59), 3) := by decide +kernel
theorem dX6_isMetBy_64 : decode cX6_isMetBy 64 = .ok (.iconst 1, 1) := by decide +kernel
theorem dX6_isMetBy_65 : decode cX6_isMetBy 65 = .ok (.ireturn, 1) := by decide +kernel
theorem dX6_judge_0 : decode cX6_judge 0 = .ok (.bipush (-9), 2) := by decide +kernel
theorem dX6_judge_2 : decode cX6_judge 2 = .ok (.istore_n 1, 1) := by decide +kernel
theorem dX6_judge_3 : decode cX6_judge 3 = .ok (.aload_n 0, 1) := by decide +kernel
theorem dX6_judge_4 : decode cX6_judge 4 = .ok (.getfield 10, 3) := by decide +kernel
theorem dX6_judge_7 : decode cX6_judge 7 = .ok (.getfield 176, 3) := by decide +kernel
theorem dX6_judge_10 : decode cX6_judge 10 = .ok (.iconst 1, 1) := by decide +kernel
theorem dX6_judge_11 : decode cX6_judge 11 = .ok (.isub, 1) := by decide +kernel
theorem dX6_judge_12 : decode cX6_judge 12 = .ok (.istore_n 2, 1) := by decide +kernel
theorem dX6_judge_13 : decode cX6_judge 13 = .ok (.iload_n 2, 1) := by decide +kernel
theorem dX6_judge_14 : decode cX6_judge 14 = .ok (.ifCond .lt 34, 3) := by decide +kernel
theorem dX6_judge_17 : decode cX6_judge 17 = .ok (.aload_n 0, 1) := by decide +kernel
theorem dX6_judge_18 : decode cX6_judge 18 = .ok (.getfield 10, 3) := by decide +kernel
theorem dX6_judge_21 : decode cX6_judge 21 = .ok (.iload_n 2, 1) := by decide +kernel
theorem dX6_judge_22 : decode cX6_judge 22 = .ok (.aload_n 0, 1) := by decide +kernel
theorem dX6_judge_23 : decode cX6_judge 23 = .ok (.getfield 45, 3) := by decide +kernel
theorem dX6_judge_26 : decode cX6_judge 26 = .ok (.invokevirtual 270, 3) := by decide +kernel
theorem dX6_judge_29 : decode cX6_judge 29 = .ok (.aload_n 0, 1) := by decide +kernel
theorem dX6_judge_30 : decode cX6_judge 30 = .ok (.getfield 10, 3) := by decide +kernel
theorem dX6_judge_33 : decode cX6_judge 33 = .ok (.iload_n 2, 1) := by decide +kernel
theorem dX6_judge_34 : decode cX6_judge 34 = .ok (.invokevirtual 184, 3) := by decide +kernel
theorem dX6_judge_37 : decode cX6_judge 37 = .ok (.if_icmp .eq 5, 3) := by decide +kernel
theorem dX6_judge_40 : decode cX6_judge 40 = .ok (.iload_n 2, 1) := by decide +kernel
theorem dX6_judge_41 : decode cX6_judge 41 = .ok (.istore_n 1, 1) := by decide +kernel
theorem dX6_judge_42 : decode cX6_judge 42 = .ok (.iinc 2 (-1), 3) := by decide +kernel
theorem dX6_judge_45 : decode cX6_judge 45 = .ok (.goto (-32), 3) := by decide +kernel
theorem dX6_judge_48 : decode cX6_judge 48 = .ok (.aload_n 0, 1) := by decide +kernel
theorem dX6_judge_49 : decode cX6_judge 49 = .ok (.getfield 45, 3) := by decide +kernel
theorem dX6_judge_52 : decode cX6_judge 52 = .ok (.invokevirtual 66, 3) := by decide +kernel
theorem dX6_judge_55 : decode cX6_judge 55 = .ok (.iload_n 1, 1) := by decide +kernel
theorem dX6_judge_56 : decode cX6_judge 56 = .ok (.ireturn, 1) := by decide +kernel
theorem dX6_image_0 : decode cX6_image 0 = .ok (.aload_n 0, 1) := by decide +kernel
theorem dX6_image_1 : decode cX6_image 1 = .ok (.getfield 19, 3) := by decide +kernel
theorem dX6_image_4 : decode cX6_image 4 = .ok (.aload_n 0, 1) := by decide +kernel
theorem dX6_image_5 : decode cX6_image 5 = .ok (.getfield 10, 3) := by decide +kernel
theorem dX6_image_8 : decode cX6_image 8 = .ok (.invokevirtual 56, 3) := by decide +kernel
theorem dX6_image_11 : decode cX6_image 11 = .ok (.aload_n 0, 1) := by decide +kernel
theorem dX6_image_12 : decode cX6_image 12 = .ok (.iconst 1, 1) := by decide +kernel
theorem dX6_image_13 : decode cX6_image 13 = .ok (.putfield 274, 3) := by decide +kernel
theorem dX6_image_16 : decode cX6_image 16 = .ok (.aload_n 0, 1) := by decide +kernel
theorem dX6_image_17 : decode cX6_image 17 = .ok (.getfield 10, 3) := by decide +kernel
theorem dX6_image_20 : decode cX6_image 20 = .ok (.getfield 176, 3) := by decide +kernel
theorem dX6_image_23 : decode cX6_image 23 = .ok (.ireturn, 1) := by decide +kernel
theorem dX6_on_0 : decode cX6_on 0 = .ok (.aload_n 0, 1) := by decide +kernel
theorem dX6_on_1 : decode cX6_on 1 = .ok (.getfield 274, 3) := by decide +kernel
theorem dX6_on_4 : decode cX6_on 4 = .ok (.ifCond .ne 10, 3) := by decide +kernel
theorem dX6_on_7 : decode cX6_on 7 = .ok (.aload_n 0, 1) := by decide +kernel
theorem dX6_on_8 : decode cX6_on 8 = .ok (.bipush (-3), 2) := by decide +kernel
theorem dX6_on_10 : decode cX6_on 10 = .ok (.invokevirtual 73, 3) := by decide +kernel
theorem dX6_on_13 : decode cX6_on 13 = .ok (.ireturn, 1) := by decide +kernel
theorem dX6_on_14 : decode cX6_on 14 = .ok (.aload_n 0, 1) := by decide +kernel
theorem dX6_on_15 : decode cX6_on 15 = .ok (.getfield 10, 3) := by decide +kernel
theorem dX6_on_18 : decode cX6_on 18 = .ok (.aload_n 0, 1) := by decide +kernel
theorem dX6_on_19 : decode cX6_on 19 = .ok (.getfield 19, 3) := by decide +kernel
theorem dX6_on_22 : decode cX6_on 22 = .ok (.invokevirtual 56, 3) := by decide +kernel
theorem dX6_on_25 : decode cX6_on 25 = .ok (.aload_n 0, 1) := by decide +kernel
theorem dX6_on_26 : decode cX6_on 26 = .ok (.getfield 10, 3) := by decide +kernel
theorem dX6_on_29 : decode cX6_on 29 = .ok (.getfield 176, 3) := by decide +kernel
theorem dX6_on_32 : decode cX6_on 32 = .ok (.ireturn, 1) := by decide +kernel
theorem dX6_count_0 : decode cX6_count 0 = .ok (.iload_n 1, 1) := by decide +kernel
theorem dX6_count_1 : decode cX6_count 1 = .ok (.tableswitch 111 0 7 #[47, 55, 63, 71, 79, 87, 95, 103], 47) := by decide +kernel
theorem dX6_count_48 : decode cX6_count 48 = .ok (.aload_n 0, 1) := by decide +kernel
theorem dX6_count_49 : decode cX6_count 49 = .ok (.getfield 10, 3) := by decide +kernel
theorem dX6_count_52 : decode cX6_count 52 = .ok (.getfield 176, 3) := by decide +kernel
theorem dX6_count_55 : decode cX6_count 55 = .ok (.ireturn, 1) := by decide +kernel
theorem dX6_count_56 : decode cX6_count 56 = .ok (.aload_n 0, 1) := by decide +kernel
theorem dX6_count_57 : decode cX6_count 57 = .ok (.getfield 10, 3) := by decide +kernel
theorem dX6_count_60 : decode cX6_count 60 = .ok (.getfield 221, 3) := by decide +kernel
theorem dX6_count_63 : decode cX6_count 63 = .ok (.ireturn, 1) := by decide +kernel
theorem dX6_count_64 : decode cX6_count 64 = .ok (.aload_n 0, 1) := by decide +kernel
theorem dX6_count_65 : decode cX6_count 65 = .ok (.getfield 10, 3) := by decide +kernel
theorem dX6_count_68 : decode cX6_count 68 = .ok (.getfield 133, 3) := by decide +kernel
theorem dX6_count_71 : decode cX6_count 71 = .ok (.ireturn, 1) := by decide +kernel
theorem dX6_count_72 : decode cX6_count 72 = .ok (.aload_n 0, 1) := by decide +kernel
theorem dX6_count_73 : decode cX6_count 73 = .ok (.getfield 10, 3) := by decide +kernel
theorem dX6_count_76 : decode cX6_count 76 = .ok (.getfield 140, 3) := by decide +kernel
theorem dX6_count_79 : decode cX6_count 79 = .ok (.ireturn, 1) := by decide +kernel
theorem dX6_count_80 : decode cX6_count 80 = .ok (.aload_n 0, 1) := by decide +kernel
theorem dX6_count_81 : decode cX6_count 81 = .ok (.getfield 10, 3) := by decide +kernel
theorem dX6_count_84 : decode cX6_count 84 = .ok (.invokevirtual 278, 3) := by decide +kernel
theorem dX6_count_87 : decode cX6_count 87 = .ok (.ireturn, 1) := by decide +kernel
theorem dX6_count_88 : decode cX6_count 88 = .ok (.aload_n 0, 1) := by decide +kernel
theorem dX6_count_89 : decode cX6_count 89 = .ok (.getfield 10, 3) := by decide +kernel
theorem dX6_count_92 : decode cX6_count 92 = .ok (.invokevirtual 281, 3) := by decide +kernel
theorem dX6_count_95 : decode cX6_count 95 = .ok (.ireturn, 1) := by decide +kernel
end
section
theorem dX6_count_96 : decode cX6_count 96 = .ok (.aload_n 0, 1) := by decide +kernel
theorem dX6_count_97 : decode cX6_count 97 = .ok (.getfield 45, 3) := by decide +kernel
theorem dX6_count_100 : decode cX6_count 100 = .ok (.getfield 257, 3) := by decide +kernel
theorem dX6_count_103 : decode cX6_count 103 = .ok (.ireturn, 1) := by decide +kernel
theorem dX6_count_104 : decode cX6_count 104 = .ok (.aload_n 0, 1) := by decide +kernel
theorem dX6_count_105 : decode cX6_count 105 = .ok (.getfield 41, 3) := by decide +kernel
theorem dX6_count_108 : decode cX6_count 108 = .ok (.getfield 257, 3) := by decide +kernel
theorem dX6_count_111 : decode cX6_count 111 = .ok (.ireturn, 1) := by decide +kernel
theorem dX6_count_112 : decode cX6_count 112 = .ok (.iload_n 1, 1) := by decide +kernel
theorem dX6_count_113 : decode cX6_count 113 = .ok (.bipush 11, 2) := by decide +kernel
theorem dX6_count_115 : decode cX6_count 115 = .ok (.isub, 1) := by decide +kernel
theorem dX6_count_116 : decode cX6_count 116 = .ok (.bipush 6, 2) := by decide +kernel
theorem dX6_count_118 : decode cX6_count 118 = .ok (.invokestatic 69, 3) := by decide +kernel
theorem dX6_count_121 : decode cX6_count 121 = .ok (.ifCond .eq 15, 3) := by decide +kernel
theorem dX6_count_124 : decode cX6_count 124 = .ok (.aload_n 0, 1) := by decide +kernel
theorem dX6_count_125 : decode cX6_count 125 = .ok (.getfield 48, 3) := by decide +kernel
theorem dX6_count_128 : decode cX6_count 128 = .ok (.iload_n 1, 1) := by decide +kernel
theorem dX6_count_129 : decode cX6_count 129 = .ok (.bipush 11, 2) := by decide +kernel
theorem dX6_count_131 : decode cX6_count 131 = .ok (.isub, 1) := by decide +kernel
theorem dX6_count_132 : decode cX6_count 132 = .ok (.iaload, 1) := by decide +kernel
theorem dX6_count_133 : decode cX6_count 133 = .ok (.goto 5, 3) := by decide +kernel
theorem dX6_count_136 : decode cX6_count 136 = .ok (.bipush (-9), 2) := by decide +kernel
theorem dX6_count_138 : decode cX6_count 138 = .ok (.ireturn, 1) := by decide +kernel
theorem dX6_refuse_0 : decode cX6_refuse 0 = .ok (.iconst (-1), 1) := by decide +kernel
theorem dX6_refuse_1 : decode cX6_refuse 1 = .ok (.iload_n 1, 1) := by decide +kernel
theorem dX6_refuse_2 : decode cX6_refuse 2 = .ok (.isub, 1) := by decide +kernel
theorem dX6_refuse_3 : decode cX6_refuse 3 = .ok (.istore_n 2, 1) := by decide +kernel
theorem dX6_refuse_4 : decode cX6_refuse 4 = .ok (.iload_n 2, 1) := by decide +kernel
theorem dX6_refuse_5 : decode cX6_refuse 5 = .ok (.bipush 6, 2) := by decide +kernel
theorem dX6_refuse_7 : decode cX6_refuse 7 = .ok (.invokestatic 69, 3) := by decide +kernel
theorem dX6_refuse_10 : decode cX6_refuse 10 = .ok (.ifCond .eq 13, 3) := by decide +kernel
theorem dX6_refuse_13 : decode cX6_refuse 13 = .ok (.aload_n 0, 1) := by decide +kernel
theorem dX6_refuse_14 : decode cX6_refuse 14 = .ok (.getfield 48, 3) := by decide +kernel
theorem dX6_refuse_17 : decode cX6_refuse 17 = .ok (.iload_n 2, 1) := by decide +kernel
theorem dX6_refuse_18 : decode cX6_refuse 18 = .ok (.dup2, 1) := by decide +kernel
theorem dX6_refuse_19 : decode cX6_refuse 19 = .ok (.iaload, 1) := by decide +kernel
theorem dX6_refuse_20 : decode cX6_refuse 20 = .ok (.iconst 1, 1) := by decide +kernel
theorem dX6_refuse_21 : decode cX6_refuse 21 = .ok (.iadd, 1) := by decide +kernel
theorem dX6_refuse_22 : decode cX6_refuse 22 = .ok (.iastore, 1) := by decide +kernel
theorem dX6_refuse_23 : decode cX6_refuse 23 = .ok (.iload_n 1, 1) := by decide +kernel
theorem dX6_refuse_24 : decode cX6_refuse 24 = .ok (.ireturn, 1) := by decide +kernel
theorem dX6_append_0 : decode cX6_append 0 = .ok (.iload_n 2, 1) := by decide +kernel
theorem dX6_append_1 : decode cX6_append 1 = .ok (.iconst 0, 1) := by decide +kernel
theorem dX6_append_2 : decode cX6_append 2 = .ok (.sipush 255, 3) := by decide +kernel
theorem dX6_append_5 : decode cX6_append 5 = .ok (.invokestatic 125, 3) := by decide +kernel
theorem dX6_append_8 : decode cX6_append 8 = .ok (.istore_n 3, 1) := by decide +kernel
theorem dX6_append_9 : decode cX6_append 9 = .ok (.iload_n 3, 1) := by decide +kernel
theorem dX6_append_10 : decode cX6_append 10 = .ok (.ifCond .eq 9, 3) := by decide +kernel
theorem dX6_append_13 : decode cX6_append 13 = .ok (.aload_n 0, 1) := by decide +kernel
theorem dX6_append_14 : decode cX6_append 14 = .ok (.iload_n 3, 1) := by decide +kernel
theorem dX6_append_15 : decode cX6_append 15 = .ok (.invokevirtual 73, 3) := by decide +kernel
theorem dX6_append_18 : decode cX6_append 18 = .ok (.ireturn, 1) := by decide +kernel
theorem dX6_append_19 : decode cX6_append 19 = .ok (.aload_n 1, 1) := by decide +kernel
theorem dX6_append_20 : decode cX6_append 20 = .ok (.iload_n 2, 1) := by decide +kernel
theorem dX6_append_21 : decode cX6_append 21 = .ok (.invokevirtual 284, 3) := by decide +kernel
theorem dX6_append_24 : decode cX6_append 24 = .ok (.ifCond .eq 10, 3) := by decide +kernel
theorem dX6_append_27 : decode cX6_append 27 = .ok (.aload_n 1, 1) := by decide +kernel
theorem dX6_append_28 : decode cX6_append 28 = .ok (.getfield 257, 3) := by decide +kernel
theorem dX6_append_31 : decode cX6_append 31 = .ok (.goto 9, 3) := by decide +kernel
theorem dX6_append_34 : decode cX6_append 34 = .ok (.aload_n 0, 1) := by decide +kernel
theorem dX6_append_35 : decode cX6_append 35 = .ok (.bipush (-6), 2) := by decide +kernel
theorem dX6_append_37 : decode cX6_append 37 = .ok (.invokevirtual 73, 3) := by decide +kernel
theorem dX6_append_40 : decode cX6_append 40 = .ok (.ireturn, 1) := by decide +kernel
theorem dX6_misfitOfAll_0 : decode cX6_misfitOfAll 0 = .ok (.iload_n 0, 1) := by decide +kernel
theorem dX6_misfitOfAll_1 : decode cX6_misfitOfAll 1 = .ok (.iconst 1, 1) := by decide +kernel
theorem dX6_misfitOfAll_2 : decode cX6_misfitOfAll 2 = .ok (.if_icmp .ge 8, 3) := by decide +kernel
theorem dX6_misfitOfAll_5 : decode cX6_misfitOfAll 5 = .ok (.bipush (-4), 2) := by decide +kernel
theorem dX6_misfitOfAll_7 : decode cX6_misfitOfAll 7 = .ok (.goto 16, 3) := by decide +kernel
theorem dX6_misfitOfAll_10 : decode cX6_misfitOfAll 10 = .ok (.iload_n 1, 1) := by decide +kernel
theorem dX6_misfitOfAll_11 : decode cX6_misfitOfAll 11 = .ok (.sipush 255, 3) := by decide +kernel
theorem dX6_misfitOfAll_14 : decode cX6_misfitOfAll 14 = .ok (.if_icmp .le 8, 3) := by decide +kernel
theorem dX6_misfitOfAll_17 : decode cX6_misfitOfAll 17 = .ok (.bipush (-6), 2) := by decide +kernel
theorem dX6_misfitOfAll_19 : decode cX6_misfitOfAll 19 = .ok (.goto 4, 3) := by decide +kernel
theorem dX6_misfitOfAll_22 : decode cX6_misfitOfAll 22 = .ok (.iconst 0, 1) := by decide +kernel
theorem dX6_misfitOfAll_23 : decode cX6_misfitOfAll 23 = .ok (.ireturn, 1) := by decide +kernel
theorem dX6_misfit_0 : decode cX6_misfit 0 = .ok (.iload_n 0, 1) := by decide +kernel
theorem dX6_misfit_1 : decode cX6_misfit 1 = .ok (.iload_n 1, 1) := by decide +kernel
theorem dX6_misfit_2 : decode cX6_misfit 2 = .ok (.if_icmp .ge 8, 3) := by decide +kernel
theorem dX6_misfit_5 : decode cX6_misfit 5 = .ok (.bipush (-4), 2) := by decide +kernel
theorem dX6_misfit_7 : decode cX6_misfit 7 = .ok (.goto 14, 3) := by decide +kernel
theorem dX6_misfit_10 : decode cX6_misfit 10 = .ok (.iload_n 0, 1) := by decide +kernel
theorem dX6_misfit_11 : decode cX6_misfit 11 = .ok (.iload_n 2, 1) := by decide +kernel
theorem dX6_misfit_12 : decode cX6_misfit 12 = .ok (.if_icmp .le 8, 3) := by decide +kernel
theorem dX6_misfit_15 : decode cX6_misfit 15 = .ok (.bipush (-6), 2) := by decide +kernel
theorem dX6_misfit_17 : decode cX6_misfit 17 = .ok (.goto 4, 3) := by decide +kernel
theorem dX6_misfit_20 : decode cX6_misfit 20 = .ok (.iconst 0, 1) := by decide +kernel
theorem dX6_misfit_21 : decode cX6_misfit 21 = .ok (.ireturn, 1) := by decide +kernel
theorem dX6_isWithin_0 : decode cX6_isWithin 0 = .ok (.iload_n 0, 1) := by decide +kernel
theorem dX6_isWithin_1 : decode cX6_isWithin 1 = .ok (.ifCond .lt 12, 3) := by decide +kernel
theorem dX6_isWithin_4 : decode cX6_isWithin 4 = .ok (.iload_n 0, 1) := by decide +kernel
theorem dX6_isWithin_5 : decode cX6_isWithin 5 = .ok (.iload_n 1, 1) := by decide +kernel
theorem dX6_isWithin_6 : decode cX6_isWithin 6 = .ok (.if_icmp .ge 7, 3) := by decide +kernel
theorem dX6_isWithin_9 : decode cX6_isWithin 9 = .ok (.iconst 1, 1) := by decide +kernel
theorem dX6_isWithin_10 : decode cX6_isWithin 10 = .ok (.goto 4, 3) := by decide +kernel
theorem dX6_isWithin_13 : decode cX6_isWithin 13 = .ok (.iconst 0, 1) := by decide +kernel
theorem dX6_isWithin_14 : decode cX6_isWithin 14 = .ok (.ireturn, 1) := by decide +kernel
theorem dX6_asNumber_0 : decode cX6_asNumber 0 = .ok (.iload_n 0, 1) := by decide +kernel
theorem dX6_asNumber_1 : decode cX6_asNumber 1 = .ok (.ifCond .eq 7, 3) := by decide +kernel
theorem dX6_asNumber_4 : decode cX6_asNumber 4 = .ok (.iconst 1, 1) := by decide +kernel
theorem dX6_asNumber_5 : decode cX6_asNumber 5 = .ok (.goto 4, 3) := by decide +kernel
theorem dX6_asNumber_8 : decode cX6_asNumber 8 = .ok (.iconst 0, 1) := by decide +kernel
theorem dX6_asNumber_9 : decode cX6_asNumber 9 = .ok (.ireturn, 1) := by decide +kernel
theorem dX6_partInLeastTerms_0 : decode cX6_partInLeastTerms 0 = .ok (.lload_n 0, 1) := by decide +kernel
theorem dX6_partInLeastTerms_1 : decode cX6_partInLeastTerms 1 = .ok (.invokestatic 287, 3) := by decide +kernel
theorem dX6_partInLeastTerms_4 : decode cX6_partInLeastTerms 4 = .ok (.lload_n 2, 1) := by decide +kernel
theorem dX6_partInLeastTerms_5 : decode cX6_partInLeastTerms 5 = .ok (.invokestatic 287, 3) := by decide +kernel
theorem dX6_partInLeastTerms_8 : decode cX6_partInLeastTerms 8 = .ok (.invokestatic 291, 3) := by decide +kernel
theorem dX6_partInLeastTerms_11 : decode cX6_partInLeastTerms 11 = .ok (.lstore 5, 2) := by decide +kernel
theorem dX6_partInLeastTerms_13 : decode cX6_partInLeastTerms 13 = .ok (.lload_n 0, 1) := by decide +kernel
theorem dX6_partInLeastTerms_14 : decode cX6_partInLeastTerms 14 = .ok (.lconst 0, 1) := by decide +kernel
theorem dX6_partInLeastTerms_15 : decode cX6_partInLeastTerms 15 = .ok (.lcmp, 1) := by decide +kernel
theorem dX6_partInLeastTerms_16 : decode cX6_partInLeastTerms 16 = .ok (.ifCond .eq 16, 3) := by decide +kernel
theorem dX6_partInLeastTerms_19 : decode cX6_partInLeastTerms 19 = .ok (.lload_n 2, 1) := by decide +kernel
theorem dX6_partInLeastTerms_20 : decode cX6_partInLeastTerms 20 = .ok (.lconst 0, 1) := by decide +kernel
theorem dX6_partInLeastTerms_21 : decode cX6_partInLeastTerms 21 = .ok (.lcmp, 1) := by decide +kernel
theorem dX6_partInLeastTerms_22 : decode cX6_partInLeastTerms 22 = .ok (.ifCond .eq 10, 3) := by decide +kernel
theorem dX6_partInLeastTerms_25 : decode cX6_partInLeastTerms 25 = .ok (.lload 5, 2) := by decide +kernel
theorem dX6_partInLeastTerms_27 : decode cX6_partInLeastTerms 27 = .ok (.lconst 0, 1) := by decide +kernel
theorem dX6_partInLeastTerms_28 : decode cX6_partInLeastTerms 28 = .ok (.lcmp, 1) := by decide +kernel
theorem dX6_partInLeastTerms_29 : decode cX6_partInLeastTerms 29 = .ok (.ifCond .ne 14, 3) := by decide +kernel
theorem dX6_partInLeastTerms_32 : decode cX6_partInLeastTerms 32 = .ok (.iload 4, 2) := by decide +kernel
theorem dX6_partInLeastTerms_34 : decode cX6_partInLeastTerms 34 = .ok (.ifCond .ne 7, 3) := by decide +kernel
theorem dX6_partInLeastTerms_37 : decode cX6_partInLeastTerms 37 = .ok (.lconst 0, 1) := by decide +kernel
theorem dX6_partInLeastTerms_38 : decode cX6_partInLeastTerms 38 = .ok (.goto 4, 3) := by decide +kernel
theorem dX6_partInLeastTerms_41 : decode cX6_partInLeastTerms 41 = .ok (.lconst 1, 1) := by decide +kernel
theorem dX6_partInLeastTerms_42 : decode cX6_partInLeastTerms 42 = .ok (.lreturn, 1) := by decide +kernel
theorem dX6_partInLeastTerms_43 : decode cX6_partInLeastTerms 43 = .ok (.lload_n 2, 1) := by decide +kernel
theorem dX6_partInLeastTerms_44 : decode cX6_partInLeastTerms 44 = .ok (.lconst 0, 1) := by decide +kernel
theorem dX6_partInLeastTerms_45 : decode cX6_partInLeastTerms 45 = .ok (.lcmp, 1) := by decide +kernel
theorem dX6_partInLeastTerms_46 : decode cX6_partInLeastTerms 46 = .ok (.ifCond .ge 9, 3) := by decide +kernel
theorem dX6_partInLeastTerms_49 : decode cX6_partInLeastTerms 49 = .ok (.lload 5, 2) := by decide +kernel
theorem dX6_partInLeastTerms_51 : decode cX6_partInLeastTerms 51 = .ok (.lneg, 1) := by decide +kernel
theorem dX6_partInLeastTerms_52 : decode cX6_partInLeastTerms 52 = .ok (.goto 5, 3) := by decide +kernel
theorem dX6_partInLeastTerms_55 : decode cX6_partInLeastTerms 55 = .ok (.lload 5, 2) := by decide +kernel
theorem dX6_partInLeastTerms_57 : decode cX6_partInLeastTerms 57 = .ok (.lstore 7, 2) := by decide +kernel
theorem dX6_partInLeastTerms_59 : decode cX6_partInLeastTerms 59 = .ok (.iload 4, 2) := by decide +kernel
theorem dX6_partInLeastTerms_61 : decode cX6_partInLeastTerms 61 = .ok (.ifCond .ne 7, 3) := by decide +kernel
theorem dX6_partInLeastTerms_64 : decode cX6_partInLeastTerms 64 = .ok (.lload_n 0, 1) := by decide +kernel
theorem dX6_partInLeastTerms_65 : decode cX6_partInLeastTerms 65 = .ok (.goto 4, 3) := by decide +kernel
theorem dX6_partInLeastTerms_68 : decode cX6_partInLeastTerms 68 = .ok (.lload_n 2, 1) := by decide +kernel
theorem dX6_partInLeastTerms_69 : decode cX6_partInLeastTerms 69 = .ok (.lload 7, 2) := by decide +kernel
theorem dX6_partInLeastTerms_71 : decode cX6_partInLeastTerms 71 = .ok (.ldiv, 1) := by decide +kernel
theorem dX6_partInLeastTerms_72 : decode cX6_partInLeastTerms 72 = .ok (.lreturn, 1) := by decide +kernel
theorem dX6_greatestDivisor_0 : decode cX6_greatestDivisor 0 = .ok (.lload_n 0, 1) := by decide +kernel
theorem dX6_greatestDivisor_1 : decode cX6_greatestDivisor 1 = .ok (.lstore 4, 2) := by decide +kernel
theorem dX6_greatestDivisor_3 : decode cX6_greatestDivisor 3 = .ok (.lload_n 2, 1) := by decide +kernel
theorem dX6_greatestDivisor_4 : decode cX6_greatestDivisor 4 = .ok (.lstore 6, 2) := by decide +kernel
theorem dX6_greatestDivisor_6 : decode cX6_greatestDivisor 6 = .ok (.iconst 0, 1) := by decide +kernel
theorem dX6_greatestDivisor_7 : decode cX6_greatestDivisor 7 = .ok (.istore 8, 2) := by decide +kernel
theorem dX6_greatestDivisor_9 : decode cX6_greatestDivisor 9 = .ok (.iload 8, 2) := by decide +kernel
theorem dX6_greatestDivisor_11 : decode cX6_greatestDivisor 11 = .ok (.sipush 200, 3) := by decide +kernel
theorem dX6_greatestDivisor_14 : decode cX6_greatestDivisor 14 = .ok (.if_icmp .ge 31, 3) := by decide +kernel
theorem dX6_greatestDivisor_17 : decode cX6_greatestDivisor 17 = .ok (.lload 6, 2) := by decide +kernel
theorem dX6_greatestDivisor_19 : decode cX6_greatestDivisor 19 = .ok (.lconst 0, 1) := by decide +kernel
theorem dX6_greatestDivisor_20 : decode cX6_greatestDivisor 20 = .ok (.lcmp, 1) := by decide +kernel
theorem dX6_greatestDivisor_21 : decode cX6_greatestDivisor 21 = .ok (.ifCond .eq 24, 3) := by decide +kernel
theorem dX6_greatestDivisor_24 : decode cX6_greatestDivisor 24 = .ok (.lload 4, 2) := by decide +kernel
theorem dX6_greatestDivisor_26 : decode cX6_greatestDivisor 26 = .ok (.lload 6, 2) := by decide +kernel
theorem dX6_greatestDivisor_28 : decode cX6_greatestDivisor 28 = .ok (.lrem, 1) := by decide +kernel
theorem dX6_greatestDivisor_29 : decode cX6_greatestDivisor 29 = .ok (.lstore 9, 2) := by decide +kernel
theorem dX6_greatestDivisor_31 : decode cX6_greatestDivisor 31 = .ok (.lload 6, 2) := by decide +kernel
theorem dX6_greatestDivisor_33 : decode cX6_greatestDivisor 33 = .ok (.lstore 4, 2) := by decide +kernel
theorem dX6_greatestDivisor_35 : decode cX6_greatestDivisor 35 = .ok (.lload 9, 2) := by decide +kernel
theorem dX6_greatestDivisor_37 : decode cX6_greatestDivisor 37 = .ok (.lstore 6, 2) := by decide +kernel
theorem dX6_greatestDivisor_39 : decode cX6_greatestDivisor 39 = .ok (.iinc 8 1, 3) := by decide +kernel
theorem dX6_greatestDivisor_42 : decode cX6_greatestDivisor 42 = .ok (.goto (-33), 3) := by decide +kernel
theorem dX6_greatestDivisor_45 : decode cX6_greatestDivisor 45 = .ok (.lload 4, 2) := by decide +kernel
theorem dX6_greatestDivisor_47 : decode cX6_greatestDivisor 47 = .ok (.lreturn, 1) := by decide +kernel
theorem dX7_init_0 : decode cX7_init 0 = .ok (.aload_n 0, 1) := by decide +kernel
theorem dX7_init_1 : decode cX7_init 1 = .ok (.invokespecial 1, 3) := by decide +kernel
theorem dX7_init_4 : decode cX7_init 4 = .ok (.aload_n 0, 1) := by decide +kernel
theorem dX7_init_5 : decode cX7_init 5 = .ok (.bipush 7, 2) := by decide +kernel
theorem dX7_init_7 : decode cX7_init 7 = .ok (.newarray .int, 2) := by decide +kernel
theorem dX7_init_9 : decode cX7_init 9 = .ok (.putfield 7, 3) := by decide +kernel
theorem dX7_init_12 : decode cX7_init 12 = .ok (.aload_n 0, 1) := by decide +kernel
theorem dX7_init_13 : decode cX7_init 13 = .ok (.bipush 10, 2) := by decide +kernel
theorem dX7_init_15 : decode cX7_init 15 = .ok (.newarray .int, 2) := by decide +kernel
theorem dX7_init_17 : decode cX7_init 17 = .ok (.putfield 13, 3) := by decide +kernel
theorem dX7_init_20 : decode cX7_init 20 = .ok (.aload_n 0, 1) := by decide +kernel
theorem dX7_init_21 : decode cX7_init 21 = .ok (.bipush 10, 2) := by decide +kernel
theorem dX7_init_23 : decode cX7_init 23 = .ok (.newarray .int, 2) := by decide +kernel
theorem dX7_init_25 : decode cX7_init 25 = .ok (.putfield 16, 3) := by decide +kernel
theorem dX7_init_28 : decode cX7_init 28 = .ok (.aload_n 0, 1) := by decide +kernel
theorem dX7_init_29 : decode cX7_init 29 = .ok (.bipush 10, 2) := by decide +kernel
theorem dX7_init_31 : decode cX7_init 31 = .ok (.newarray .int, 2) := by decide +kernel
theorem dX7_init_33 : decode cX7_init 33 = .ok (.putfield 19, 3) := by decide +kernel
theorem dX7_init_36 : decode cX7_init 36 = .ok (.aload_n 0, 1) := by decide +kernel
theorem dX7_init_37 : decode cX7_init 37 = .ok (.bipush 8, 2) := by decide +kernel
theorem dX7_init_39 : decode cX7_init 39 = .ok (.newarray .int, 2) := by decide +kernel
theorem dX7_init_41 : decode cX7_init 41 = .ok (.putfield 22, 3) := by decide +kernel
theorem dX7_init_44 : decode cX7_init 44 = .ok (.aload_n 0, 1) := by decide +kernel
theorem dX7_init_45 : decode cX7_init 45 = .ok (.bipush 100, 2) := by decide +kernel
theorem dX7_init_47 : decode cX7_init 47 = .ok (.newarray .int, 2) := by decide +kernel
theorem dX7_init_49 : decode cX7_init 49 = .ok (.putfield 25, 3) := by decide +kernel
theorem dX7_init_52 : decode cX7_init 52 = .ok (.aload_n 0, 1) := by decide +kernel
theorem dX7_init_53 : decode cX7_init 53 = .ok (.bipush 10, 2) := by decide +kernel
theorem dX7_init_55 : decode cX7_init 55 = .ok (.newarray .int, 2) := by decide +kernel
theorem dX7_init_57 : decode cX7_init 57 = .ok (.putfield 28, 3) := by decide +kernel
theorem dX7_init_60 : decode cX7_init 60 = .ok (.aload_n 0, 1) := by decide +kernel
theorem dX7_init_61 : decode cX7_init 61 = .ok (.bipush 10, 2) := by decide +kernel
theorem dX7_init_63 : decode cX7_init 63 = .ok (.newarray .int, 2) := by decide +kernel
theorem dX7_init_65 : decode cX7_init 65 = .ok (.putfield 31, 3) := by decide +kernel
theorem dX7_init_68 : decode cX7_init 68 = .ok (.aload_n 0, 1) := by decide +kernel
theorem dX7_init_69 : decode cX7_init 69 = .ok (.bipush 110, 2) := by decide +kernel
theorem dX7_init_71 : decode cX7_init 71 = .ok (.newarray .long, 2) := by decide +kernel
theorem dX7_init_73 : decode cX7_init 73 = .ok (.putfield 34, 3) := by decide +kernel
theorem dX7_init_76 : decode cX7_init 76 = .ok (.aload_n 0, 1) := by decide +kernel
theorem dX7_init_77 : decode cX7_init 77 = .ok (.bipush 110, 2) := by decide +kernel
theorem dX7_init_79 : decode cX7_init 79 = .ok (.newarray .long, 2) := by decide +kernel
theorem dX7_init_81 : decode cX7_init 81 = .ok (.putfield 38, 3) := by decide +kernel
theorem dX7_init_84 : decode cX7_init 84 = .ok (.aload_n 0, 1) := by decide +kernel
theorem dX7_init_85 : decode cX7_init 85 = .ok (.bipush 10, 2) := by decide +kernel
theorem dX7_init_87 : decode cX7_init 87 = .ok (.newarray .long, 2) := by decide +kernel
theorem dX7_init_89 : decode cX7_init 89 = .ok (.putfield 41, 3) := by decide +kernel
theorem dX7_init_92 : decode cX7_init 92 = .ok (.aload_n 0, 1) := by decide +kernel
theorem dX7_init_93 : decode cX7_init 93 = .ok (.bipush 11, 2) := by decide +kernel
theorem dX7_init_95 : decode cX7_init 95 = .ok (.newarray .int, 2) := by decide +kernel
theorem dX7_init_97 : decode cX7_init 97 = .ok (.putfield 44, 3) := by decide +kernel
theorem dX7_init_100 : decode cX7_init 100 = .ok (.aload_n 0, 1) := by decide +kernel
theorem dX7_init_101 : decode cX7_init 101 = .ok (.bipush 11, 2) := by decide +kernel
theorem dX7_init_103 : decode cX7_init 103 = .ok (.newarray .int, 2) := by decide +kernel
theorem dX7_init_105 : decode cX7_init 105 = .ok (.putfield 47, 3) := by decide +kernel
theorem dX7_init_108 : decode cX7_init 108 = .ok (.aload_n 0, 1) := by decide +kernel
theorem dX7_init_109 : decode cX7_init 109 = .ok (.sipush 456, 3) := by decide +kernel
theorem dX7_init_112 : decode cX7_init 112 = .ok (.newarray .int, 2) := by decide +kernel
theorem dX7_init_114 : decode cX7_init 114 = .ok (.putfield 50, 3) := by decide +kernel
theorem dX7_init_117 : decode cX7_init 117 = .ok (.aload_n 0, 1) := by decide +kernel
theorem dX7_init_118 : decode cX7_init 118 = .ok (.bipush 96, 2) := by decide +kernel
theorem dX7_init_120 : decode cX7_init 120 = .ok (.newarray .int, 2) := by decide +kernel
theorem dX7_init_122 : decode cX7_init 122 = .ok (.putfield 53, 3) := by decide +kernel
theorem dX7_init_125 : decode cX7_init 125 = .ok (.aload_n 0, 1) := by decide +kernel
theorem dX7_init_126 : decode cX7_init 126 = .ok (.bipush 33, 2) := by decide +kernel
theorem dX7_init_128 : decode cX7_init 128 = .ok (.newarray .int, 2) := by decide +kernel
theorem dX7_init_130 : decode cX7_init 130 = .ok (.putfield 56, 3) := by decide +kernel
theorem dX7_init_133 : decode cX7_init 133 = .ok (.aload_n 0, 1) := by decide +kernel
theorem dX7_init_134 : decode cX7_init 134 = .ok (.bipush 33, 2) := by decide +kernel
theorem dX7_init_136 : decode cX7_init 136 = .ok (.newarray .int, 2) := by decide +kernel
theorem dX7_init_138 : decode cX7_init 138 = .ok (.putfield 59, 3) := by decide +kernel
theorem dX7_init_141 : decode cX7_init 141 = .ok (.aload_n 0, 1) := by decide +kernel
theorem dX7_init_142 : decode cX7_init 142 = .ok (.sipush 297, 3) := by decide +kernel
theorem dX7_init_145 : decode cX7_init 145 = .ok (.newarray .int, 2) := by decide +kernel
theorem dX7_init_147 : decode cX7_init 147 = .ok (.putfield 62, 3) := by decide +kernel
theorem dX7_init_150 : decode cX7_init 150 = .ok (.aload_n 0, 1) := by decide +kernel
theorem dX7_init_151 : decode cX7_init 151 = .ok (.sipush 256, 3) := by decide +kernel
theorem dX7_init_154 : decode cX7_init 154 = .ok (.newarray .int, 2) := by decide +kernel
theorem dX7_init_156 : decode cX7_init 156 = .ok (.putfield 65, 3) := by decide +kernel
theorem dX7_init_159 : decode cX7_init 159 = .ok (.aload_n 0, 1) := by decide +kernel
theorem dX7_init_160 : decode cX7_init 160 = .ok (.iconst 3, 1) := by decide +kernel
theorem dX7_init_161 : decode cX7_init 161 = .ok (.newarray .int, 2) := by decide +kernel
theorem dX7_init_163 : decode cX7_init 163 = .ok (.putfield 68, 3) := by decide +kernel
theorem dX7_init_166 : decode cX7_init 166 = .ok (.aload_n 0, 1) := by decide +kernel
theorem dX7_init_167 : decode cX7_init 167 = .ok (.bipush 10, 2) := by decide +kernel
theorem dX7_init_169 : decode cX7_init 169 = .ok (.newarray .int, 2) := by decide +kernel
theorem dX7_init_171 : decode cX7_init 171 = .ok (.putfield 71, 3) := by decide +kernel
theorem dX7_init_174 : decode cX7_init 174 = .ok (.aload_n 0, 1) := by decide +kernel
theorem dX7_init_175 : decode cX7_init 175 = .ok (.bipush 10, 2) := by decide +kernel
theorem dX7_init_177 : decode cX7_init 177 = .ok (.newarray .int, 2) := by decide +kernel
theorem dX7_init_179 : decode cX7_init 179 = .ok (.putfield 74, 3) := by decide +kernel
theorem dX7_init_182 : decode cX7_init 182 = .ok (.aload_n 0, 1) := by decide +kernel
theorem dX7_init_183 : decode cX7_init 183 = .ok (.iconst 3, 1) := by decide +kernel
theorem dX7_init_184 : decode cX7_init 184 = .ok (.newarray .int, 2) := by decide +kernel
theorem dX7_init_186 : decode cX7_init 186 = .ok (.putfield 77, 3) := by decide +kernel
theorem dX7_init_189 : decode cX7_init 189 = .ok (.aload_n 0, 1) := by decide +kernel
theorem dX7_init_190 : decode cX7_init 190 = .ok (.bipush 8, 2) := by decide +kernel
theorem dX7_init_192 : decode cX7_init 192 = .ok (.newarray .int, 2) := by decide +kernel
theorem dX7_init_194 : decode cX7_init 194 = .ok (.putfield 80, 3) := by decide +kernel
theorem dX7_init_197 : decode cX7_init 197 = .ok (.aload_n 0, 1) := by decide +kernel
theorem dX7_init_198 : decode cX7_init 198 = .ok (.bipush 32, 2) := by decide +kernel
theorem dX7_init_200 : decode cX7_init 200 = .ok (.newarray .int, 2) := by decide +kernel
theorem dX7_init_202 : decode cX7_init 202 = .ok (.putfield 83, 3) := by decide +kernel
theorem dX7_init_205 : decode cX7_init 205 = .ok (.iconst 0, 1) := by decide +kernel
theorem dX7_init_206 : decode cX7_init 206 = .ok (.istore_n 1, 1) := by decide +kernel
theorem dX7_init_207 : decode cX7_init 207 = .ok (.iload_n 1, 1) := by decide +kernel
theorem dX7_init_208 : decode cX7_init 208 = .ok (.bipush 8, 2) := by decide +kernel
theorem dX7_init_210 : decode cX7_init 210 = .ok (.if_icmp .ge 16, 3) := by decide +kernel
theorem dX7_init_213 : decode cX7_init 213 = .ok (.aload_n 0, 1) := by decide +kernel
theorem dX7_init_214 : decode cX7_init 214 = .ok (.getfield 22, 3) := by decide +kernel
theorem dX7_init_217 : decode cX7_init 217 = .ok (.iload_n 1, 1) := by decide +kernel
theorem dX7_init_218 : decode cX7_init 218 = .ok (.iload_n 1, 1) := by decide +kernel
theorem dX7_init_219 : decode cX7_init 219 = .ok (.iastore, 1) := by decide +kernel
theorem dX7_init_220 : decode cX7_init 220 = .ok (.iinc 1 1, 3) := by decide +kernel
theorem dX7_init_223 : decode cX7_init 223 = .ok (.goto (-16), 3) := by decide +kernel
theorem dX7_init_226 : decode cX7_init 226 = .ok (.iconst 0, 1) := by decide +kernel
theorem dX7_init_227 : decode cX7_init 227 = .ok (.istore_n 1, 1) := by decide +kernel
theorem dX7_init_228 : decode cX7_init 228 = .ok (.iload_n 1, 1) := by decide +kernel
theorem dX7_init_229 : decode cX7_init 229 = .ok (.bipush 10, 2) := by decide +kernel
theorem dX7_init_231 : decode cX7_init 231 = .ok (.if_icmp .ge 17, 3) := by decide +kernel
theorem dX7_init_234 : decode cX7_init 234 = .ok (.aload_n 0, 1) := by decide +kernel
theorem dX7_init_235 : decode cX7_init 235 = .ok (.getfield 19, 3) := by decide +kernel
theorem dX7_init_238 : decode cX7_init 238 = .ok (.iload_n 1, 1) := by decide +kernel
theorem dX7_init_239 : decode cX7_init 239 = .ok (.bipush 99, 2) := by decide +kernel
theorem dX7_init_241 : decode cX7_init 241 = .ok (.iastore, 1) := by decide +kernel
theorem dX7_init_242 : decode cX7_init 242 = .ok (.iinc 1 1, 3) := by decide +kernel
theorem dX7_init_245 : decode cX7_init 245 = .ok (.goto (-17), 3) := by decide +kernel
theorem dX7_init_248 : decode cX7_init 248 = .ok (.aload_n 0, 1) := by decide +kernel
theorem dX7_init_249 : decode cX7_init 249 = .ok (.bipush 8, 2) := by decide +kernel
theorem dX7_init_251 : decode cX7_init 251 = .ok (.putfield 86, 3) := by decide +kernel
theorem dX7_init_254 : decode cX7_init 254 = .ok (.aload_n 0, 1) := by decide +kernel
theorem dX7_init_255 : decode cX7_init 255 = .ok (.iconst 4, 1) := by decide +kernel
theorem dX7_init_256 : decode cX7_init 256 = .ok (.putfield 90, 3) := by decide +kernel
theorem dX7_init_259 : decode cX7_init 259 = .ok (.return_, 1) := by decide +kernel
theorem dX7_no_0 : decode cX7_no 0 = .ok (.aload_n 0, 1) := by decide +kernel
theorem dX7_no_1 : decode cX7_no 1 = .ok (.getfield 7, 3) := by decide +kernel
theorem dX7_no_4 : decode cX7_no 4 = .ok (.iload_n 1, 1) := by decide +kernel
theorem dX7_no_5 : decode cX7_no 5 = .ok (.ineg, 1) := by decide +kernel
theorem dX7_no_6 : decode cX7_no 6 = .ok (.dup2, 1) := by decide +kernel
theorem dX7_no_7 : decode cX7_no 7 = .ok (.iaload, 1) := by decide +kernel
theorem dX7_no_8 : decode cX7_no 8 = .ok (.iconst 1, 1) := by decide +kernel
theorem dX7_no_9 : decode cX7_no 9 = .ok (.iadd, 1) := by decide +kernel
theorem dX7_no_10 : decode cX7_no 10 = .ok (.iastore, 1) := by decide +kernel
theorem dX7_no_11 : decode cX7_no 11 = .ok (.iload_n 1, 1) := by decide +kernel
theorem dX7_no_12 : decode cX7_no 12 = .ok (.ireturn, 1) := by decide +kernel
theorem dX7_lower_0 : decode cX7_lower 0 = .ok (.aload_n 0, 1) := by decide +kernel
theorem dX7_lower_1 : decode cX7_lower 1 = .ok (.getfield 7, 3) := by decide +kernel
theorem dX7_lower_4 : decode cX7_lower 4 = .ok (.iload_n 1, 1) := by decide +kernel
theorem dX7_lower_5 : decode cX7_lower 5 = .ok (.ineg, 1) := by decide +kernel
theorem dX7_lower_6 : decode cX7_lower 6 = .ok (.dup2, 1) := by decide +kernel
theorem dX7_lower_7 : decode cX7_lower 7 = .ok (.iaload, 1) := by decide +kernel
theorem dX7_lower_8 : decode cX7_lower 8 = .ok (.iconst 1, 1) := by decide +kernel
theorem dX7_lower_9 : decode cX7_lower 9 = .ok (.iadd, 1) := by decide +kernel
theorem dX7_lower_10 : decode cX7_lower 10 = .ok (.iastore, 1) := by decide +kernel
theorem dX7_lower_11 : decode cX7_lower 11 = .ok (.ldc 93, 2) := by decide +kernel
theorem dX7_lower_13 : decode cX7_lower 13 = .ok (.iload_n 1, 1) := by decide +kernel
theorem dX7_lower_14 : decode cX7_lower 14 = .ok (.isub, 1) := by decide +kernel
theorem dX7_lower_15 : decode cX7_lower 15 = .ok (.ireturn, 1) := by decide +kernel
theorem dX7_lowestOf_0 : decode cX7_lowestOf 0 = .ok (.aload_n 0, 1) := by decide +kernel
theorem dX7_lowestOf_1 : decode cX7_lowestOf 1 = .ok (.getfield 7, 3) := by decide +kernel
theorem dX7_lowestOf_4 : decode cX7_lowestOf 4 = .ok (.iload_n 1, 1) := by decide +kernel
theorem dX7_lowestOf_5 : decode cX7_lowestOf 5 = .ok (.ineg, 1) := by decide +kernel
theorem dX7_lowestOf_6 : decode cX7_lowestOf 6 = .ok (.dup2, 1) := by decide +kernel
theorem dX7_lowestOf_7 : decode cX7_lowestOf 7 = .ok (.iaload, 1) := by decide +kernel
theorem dX7_lowestOf_8 : decode cX7_lowestOf 8 = .ok (.iconst 1, 1) := by decide +kernel
theorem dX7_lowestOf_9 : decode cX7_lowestOf 9 = .ok (.iadd, 1) := by decide +kernel
theorem dX7_lowestOf_10 : decode cX7_lowestOf 10 = .ok (.iastore, 1) := by decide +kernel
theorem dX7_lowestOf_11 : decode cX7_lowestOf 11 = .ok (.ldc2_w 94, 3) := by decide +kernel
theorem dX7_lowestOf_14 : decode cX7_lowestOf 14 = .ok (.iload_n 1, 1) := by decide +kernel
theorem dX7_lowestOf_15 : decode cX7_lowestOf 15 = .ok (.i2l, 1) := by decide +kernel
theorem dX7_lowestOf_16 : decode cX7_lowestOf 16 = .ok (.lsub, 1) := by decide +kernel
theorem dX7_lowestOf_17 : decode cX7_lowestOf 17 = .ok (.lreturn, 1) := by decide +kernel
theorem dX7_isIn_0 : decode cX7_isIn 0 = .ok (.iload_n 0, 1) := by decide +kernel
theorem dX7_isIn_1 : decode cX7_isIn 1 = .ok (.iload_n 1, 1) := by decide +kernel
theorem dX7_isIn_2 : decode cX7_isIn 2 = .ok (.if_icmp .lt 12, 3) := by decide +kernel
theorem dX7_isIn_5 : decode cX7_isIn 5 = .ok (.iload_n 0, 1) := by decide +kernel
theorem dX7_isIn_6 : decode cX7_isIn 6 = .ok (.iload_n 2, 1) := by decide +kernel
theorem dX7_isIn_7 : decode cX7_isIn 7 = .ok (.if_icmp .gt 7, 3) := by decide +kernel
theorem dX7_isIn_10 : decode cX7_isIn 10 = .ok (.iconst 1, 1) := by decide +kernel
theorem dX7_isIn_11 : decode cX7_isIn 11 = .ok (.goto 4, 3) := by decide +kernel
theorem dX7_isIn_14 : decode cX7_isIn 14 = .ok (.iconst 0, 1) := by decide +kernel
theorem dX7_isIn_15 : decode cX7_isIn 15 = .ok (.ireturn, 1) := by decide +kernel
theorem dX7_bound_0 : decode cX7_bound 0 = .ok (.iload_n 0, 1) := by decide +kernel
theorem dX7_bound_1 : decode cX7_bound 1 = .ok (.iload_n 1, 1) := by decide +kernel
theorem dX7_bound_2 : decode cX7_bound 2 = .ok (.if_icmp .ge 8, 3) := by decide +kernel
theorem dX7_bound_5 : decode cX7_bound 5 = .ok (.bipush (-4), 2) := by decide +kernel
theorem dX7_bound_7 : decode cX7_bound 7 = .ok (.goto 14, 3) := by decide +kernel
theorem dX7_bound_10 : decode cX7_bound 10 = .ok (.iload_n 0, 1) := by decide +kernel
theorem dX7_bound_11 : decode cX7_bound 11 = .ok (.iload_n 2, 1) := by decide +kernel
theorem dX7_bound_12 : decode cX7_bound 12 = .ok (.if_icmp .le 8, 3) := by decide +kernel
theorem dX7_bound_15 : decode cX7_bound 15 = .ok (.bipush (-6), 2) := by decide +kernel
theorem dX7_bound_17 : decode cX7_bound 17 = .ok (.goto 4, 3) := by decide +kernel
theorem dX7_bound_20 : decode cX7_bound 20 = .ok (.iconst 0, 1) := by decide +kernel
theorem dX7_bound_21 : decode cX7_bound 21 = .ok (.ireturn, 1) := by decide +kernel
theorem dX7_has_0 : decode cX7_has 0 = .ok (.iload_n 0, 1) := by decide +kernel
theorem dX7_has_1 : decode cX7_has 1 = .ok (.iload_n 1, 1) := by decide +kernel
theorem dX7_has_2 : decode cX7_has 2 = .ok (.ishr, 1) := by decide +kernel
theorem dX7_has_3 : decode cX7_has 3 = .ok (.iconst 1, 1) := by decide +kernel
theorem dX7_has_4 : decode cX7_has 4 = .ok (.iand, 1) := by decide +kernel
theorem dX7_has_5 : decode cX7_has 5 = .ok (.iconst 1, 1) := by decide +kernel
theorem dX7_has_6 : decode cX7_has 6 = .ok (.if_icmp .ne 7, 3) := by decide +kernel
theorem dX7_has_9 : decode cX7_has 9 = .ok (.iconst 1, 1) := by decide +kernel
theorem dX7_has_10 : decode cX7_has 10 = .ok (.goto 4, 3) := by decide +kernel
theorem dX7_has_13 : decode cX7_has 13 = .ok (.iconst 0, 1) := by decide +kernel
theorem dX7_has_14 : decode cX7_has 14 = .ok (.ireturn, 1) := by decide +kernel
theorem dX7_bits_0 : decode cX7_bits 0 = .ok (.iconst 0, 1) := by decide +kernel
theorem dX7_bits_1 : decode cX7_bits 1 = .ok (.istore_n 1, 1) := by decide +kernel
theorem dX7_bits_2 : decode cX7_bits 2 = .ok (.iconst 0, 1) := by decide +kernel
theorem dX7_bits_3 : decode cX7_bits 3 = .ok (.istore_n 2, 1) := by decide +kernel
theorem dX7_bits_4 : decode cX7_bits 4 = .ok (.iload_n 2, 1) := by decide +kernel
theorem dX7_bits_5 : decode cX7_bits 5 = .ok (.bipush 31, 2) := by decide +kernel
theorem dX7_bits_7 : decode cX7_bits 7 = .ok (.if_icmp .ge 17, 3) := by decide +kernel
theorem dX7_bits_10 : decode cX7_bits 10 = .ok (.iload_n 1, 1) := by decide +kernel
theorem dX7_bits_11 : decode cX7_bits 11 = .ok (.iload_n 0, 1) := by decide +kernel
theorem dX7_bits_12 : decode cX7_bits 12 = .ok (.iload_n 2, 1) := by decide +kernel
theorem dX7_bits_13 : decode cX7_bits 13 = .ok (.ishr, 1) := by decide +kernel
theorem dX7_bits_14 : decode cX7_bits 14 = .ok (.iconst 1, 1) := by decide +kernel
theorem dX7_bits_15 : decode cX7_bits 15 = .ok (.iand, 1) := by decide +kernel
theorem dX7_bits_16 : decode cX7_bits 16 = .ok (.iadd, 1) := by decide +kernel
theorem dX7_bits_17 : decode cX7_bits 17 = .ok (.istore_n 1, 1) := by decide +kernel
theorem dX7_bits_18 : decode cX7_bits 18 = .ok (.iinc 2 1, 3) := by decide +kernel
theorem dX7_bits_21 : decode cX7_bits 21 = .ok (.goto (-17), 3) := by decide +kernel
theorem dX7_bits_24 : decode cX7_bits 24 = .ok (.iload_n 1, 1) := by decide +kernel
theorem dX7_bits_25 : decode cX7_bits 25 = .ok (.ireturn, 1) := by decide +kernel
theorem dX7_isPerson_0 : decode cX7_isPerson 0 = .ok (.iload_n 0, 1) := by decide +kernel
theorem dX7_isPerson_1 : decode cX7_isPerson 1 = .ok (.iconst 0, 1) := by decide +kernel
theorem dX7_isPerson_2 : decode cX7_isPerson 2 = .ok (.bipush 7, 2) := by decide +kernel
theorem dX7_isPerson_4 : decode cX7_isPerson 4 = .ok (.invokestatic 96, 3) := by decide +kernel
theorem dX7_isPerson_7 : decode cX7_isPerson 7 = .ok (.ireturn, 1) := by decide +kernel
theorem dX7_isVariable_0 : decode cX7_isVariable 0 = .ok (.iload_n 1, 1) := by decide +kernel
theorem dX7_isVariable_1 : decode cX7_isVariable 1 = .ok (.iconst 0, 1) := by decide +kernel
theorem dX7_isVariable_2 : decode cX7_isVariable 2 = .ok (.aload_n 0, 1) := by decide +kernel
theorem dX7_isVariable_3 : decode cX7_isVariable 3 = .ok (.getfield 86, 3) := by decide +kernel
theorem dX7_isVariable_6 : decode cX7_isVariable 6 = .ok (.iconst 1, 1) := by decide +kernel
theorem dX7_isVariable_7 : decode cX7_isVariable 7 = .ok (.isub, 1) := by decide +kernel
theorem dX7_isVariable_8 : decode cX7_isVariable 8 = .ok (.invokestatic 96, 3) := by decide +kernel
theorem dX7_isVariable_11 : decode cX7_isVariable 11 = .ok (.ireturn, 1) := by decide +kernel
theorem dX7_isFree_0 : decode cX7_isFree 0 = .ok (.iconst 0, 1) := by decide +kernel
theorem dX7_isFree_1 : decode cX7_isFree 1 = .ok (.istore_n 2, 1) := by decide +kernel
theorem dX7_isFree_2 : decode cX7_isFree 2 = .ok (.iload_n 2, 1) := by decide +kernel
theorem dX7_isFree_3 : decode cX7_isFree 3 = .ok (.aload_n 0, 1) := by decide +kernel
theorem dX7_isFree_4 : decode cX7_isFree 4 = .ok (.getfield 100, 3) := by decide +kernel
theorem dX7_isFree_7 : decode cX7_isFree 7 = .ok (.if_icmp .ge 25, 3) := by decide +kernel
theorem dX7_isFree_10 : decode cX7_isFree 10 = .ok (.aload_n 0, 1) := by decide +kernel
theorem dX7_isFree_11 : decode cX7_isFree 11 = .ok (.getfield 25, 3) := by decide +kernel
theorem dX7_isFree_14 : decode cX7_isFree 14 = .ok (.bipush 10, 2) := by decide +kernel
theorem dX7_isFree_16 : decode cX7_isFree 16 = .ok (.iload_n 2, 1) := by decide +kernel
theorem dX7_isFree_17 : decode cX7_isFree 17 = .ok (.imul, 1) := by decide +kernel
theorem dX7_isFree_18 : decode cX7_isFree 18 = .ok (.iload_n 1, 1) := by decide +kernel
theorem dX7_isFree_19 : decode cX7_isFree 19 = .ok (.iadd, 1) := by decide +kernel
theorem dX7_isFree_20 : decode cX7_isFree 20 = .ok (.iaload, 1) := by decide +kernel
theorem dX7_isFree_21 : decode cX7_isFree 21 = .ok (.ifCond .eq 5, 3) := by decide +kernel
theorem dX7_isFree_24 : decode cX7_isFree 24 = .ok (.iconst 0, 1) := by decide +kernel
theorem dX7_isFree_25 : decode cX7_isFree 25 = .ok (.ireturn, 1) := by decide +kernel
theorem dX7_isFree_26 : decode cX7_isFree 26 = .ok (.iinc 2 1, 3) := by decide +kernel
theorem dX7_isFree_29 : decode cX7_isFree 29 = .ok (.goto (-27), 3) := by decide +kernel
theorem dX7_isFree_32 : decode cX7_isFree 32 = .ok (.iconst 1, 1) := by decide +kernel
theorem dX7_isFree_33 : decode cX7_isFree 33 = .ok (.ireturn, 1) := by decide +kernel
theorem dX7_notQuestion_0 : decode cX7_notQuestion 0 = .ok (.iload_n 0, 1) := by decide +kernel
theorem dX7_notQuestion_1 : decode cX7_notQuestion 1 = .ok (.iconst 0, 1) := by decide +kernel
theorem dX7_notQuestion_2 : decode cX7_notQuestion 2 = .ok (.iconst 2, 1) := by decide +kernel
theorem dX7_notQuestion_3 : decode cX7_notQuestion 3 = .ok (.invokestatic 96, 3) := by decide +kernel
theorem dX7_notQuestion_6 : decode cX7_notQuestion 6 = .ok (.ifCond .ne 6, 3) := by decide +kernel
theorem dX7_notQuestion_9 : decode cX7_notQuestion 9 = .ok (.bipush (-2), 2) := by decide +kernel
theorem dX7_notQuestion_11 : decode cX7_notQuestion 11 = .ok (.ireturn, 1) := by decide +kernel
theorem dX7_notQuestion_12 : decode cX7_notQuestion 12 = .ok (.iload_n 0, 1) := by decide +kernel
theorem dX7_notQuestion_13 : decode cX7_notQuestion 13 = .ok (.iconst 1, 1) := by decide +kernel
theorem dX7_notQuestion_14 : decode cX7_notQuestion 14 = .ok (.if_icmp .ne 9, 3) := by decide +kernel
theorem dX7_notQuestion_17 : decode cX7_notQuestion 17 = .ok (.sipush 255, 3) := by decide +kernel
theorem dX7_notQuestion_20 : decode cX7_notQuestion 20 = .ok (.goto 4, 3) := by decide +kernel
theorem dX7_notQuestion_23 : decode cX7_notQuestion 23 = .ok (.iconst 3, 1) := by decide +kernel
theorem dX7_notQuestion_24 : decode cX7_notQuestion 24 = .ok (.istore_n 3, 1) := by decide +kernel
theorem dX7_notQuestion_25 : decode cX7_notQuestion 25 = .ok (.iload_n 1, 1) := by decide +kernel
theorem dX7_notQuestion_26 : decode cX7_notQuestion 26 = .ok (.iconst 1, 1) := by decide +kernel
theorem dX7_notQuestion_27 : decode cX7_notQuestion 27 = .ok (.if_icmp .lt 12, 3) := by decide +kernel
theorem dX7_notQuestion_30 : decode cX7_notQuestion 30 = .ok (.iload_n 0, 1) := by decide +kernel
theorem dX7_notQuestion_31 : decode cX7_notQuestion 31 = .ok (.ifCond .eq 11, 3) := by decide +kernel
theorem dX7_notQuestion_34 : decode cX7_notQuestion 34 = .ok (.iload_n 2, 1) := by decide +kernel
theorem dX7_notQuestion_35 : decode cX7_notQuestion 35 = .ok (.iconst 1, 1) := by decide +kernel
theorem dX7_notQuestion_36 : decode cX7_notQuestion 36 = .ok (.if_icmp .ge 6, 3) := by decide +kernel
theorem dX7_notQuestion_39 : decode cX7_notQuestion 39 = .ok (.bipush (-4), 2) := by decide +kernel
theorem dX7_notQuestion_41 : decode cX7_notQuestion 41 = .ok (.ireturn, 1) := by decide +kernel
theorem dX7_notQuestion_42 : decode cX7_notQuestion 42 = .ok (.iload_n 1, 1) := by decide +kernel
theorem dX7_notQuestion_43 : decode cX7_notQuestion 43 = .ok (.sipush 255, 3) := by decide +kernel
theorem dX7_notQuestion_46 : decode cX7_notQuestion 46 = .ok (.if_icmp .gt 12, 3) := by decide +kernel
theorem dX7_notQuestion_49 : decode cX7_notQuestion 49 = .ok (.iload_n 0, 1) := by decide +kernel
theorem dX7_notQuestion_50 : decode cX7_notQuestion 50 = .ok (.ifCond .eq 11, 3) := by decide +kernel
theorem dX7_notQuestion_53 : decode cX7_notQuestion 53 = .ok (.iload_n 2, 1) := by decide +kernel
theorem dX7_notQuestion_54 : decode cX7_notQuestion 54 = .ok (.iload_n 3, 1) := by decide +kernel
theorem dX7_notQuestion_55 : decode cX7_notQuestion 55 = .ok (.if_icmp .le 6, 3) := by decide +kernel
theorem dX7_notQuestion_58 : decode cX7_notQuestion 58 = .ok (.bipush (-6), 2) := by decide +kernel
theorem dX7_notQuestion_60 : decode cX7_notQuestion 60 = .ok (.ireturn, 1) := by decide +kernel
theorem dX7_notQuestion_61 : decode cX7_notQuestion 61 = .ok (.iload_n 0, 1) := by decide +kernel
theorem dX7_notQuestion_62 : decode cX7_notQuestion 62 = .ok (.iconst 1, 1) := by decide +kernel
theorem dX7_notQuestion_63 : decode cX7_notQuestion 63 = .ok (.if_icmp .ne 14, 3) := by decide +kernel
theorem dX7_notQuestion_66 : decode cX7_notQuestion 66 = .ok (.iload_n 1, 1) := by decide +kernel
theorem dX7_notQuestion_67 : decode cX7_notQuestion 67 = .ok (.iload_n 2, 1) := by decide +kernel
theorem dX7_notQuestion_68 : decode cX7_notQuestion 68 = .ok (.iand, 1) := by decide +kernel
theorem dX7_notQuestion_69 : decode cX7_notQuestion 69 = .ok (.ifCond .eq 8, 3) := by decide +kernel
theorem dX7_notQuestion_72 : decode cX7_notQuestion 72 = .ok (.bipush (-3), 2) := by decide +kernel
theorem dX7_notQuestion_74 : decode cX7_notQuestion 74 = .ok (.goto 4, 3) := by decide +kernel
theorem dX7_notQuestion_77 : decode cX7_notQuestion 77 = .ok (.iconst 0, 1) := by decide +kernel
theorem dX7_notQuestion_78 : decode cX7_notQuestion 78 = .ok (.ireturn, 1) := by decide +kernel
theorem dX7_weight_0 : decode cX7_weight 0 = .ok (.iload_n 0, 1) := by decide +kernel
theorem dX7_weight_1 : decode cX7_weight 1 = .ok (.iconst 1, 1) := by decide +kernel
theorem dX7_weight_2 : decode cX7_weight 2 = .ok (.if_icmp .ne 15, 3) := by decide +kernel
theorem dX7_weight_5 : decode cX7_weight 5 = .ok (.iload_n 1, 1) := by decide +kernel
theorem dX7_weight_6 : decode cX7_weight 6 = .ok (.iload_n 3, 1) := by decide +kernel
theorem dX7_weight_7 : decode cX7_weight 7 = .ok (.ishr, 1) := by decide +kernel
theorem dX7_weight_8 : decode cX7_weight 8 = .ok (.iconst 1, 1) := by decide +kernel
theorem dX7_weight_9 : decode cX7_weight 9 = .ok (.iand, 1) := by decide +kernel
theorem dX7_weight_10 : decode cX7_weight 10 = .ok (.iload_n 2, 1) := by decide +kernel
theorem dX7_weight_11 : decode cX7_weight 11 = .ok (.iload_n 3, 1) := by decide +kernel
theorem dX7_weight_12 : decode cX7_weight 12 = .ok (.ishr, 1) := by decide +kernel
theorem dX7_weight_13 : decode cX7_weight 13 = .ok (.iconst 1, 1) := by decide +kernel
theorem dX7_weight_14 : decode cX7_weight 14 = .ok (.iand, 1) := by decide +kernel
theorem dX7_weight_15 : decode cX7_weight 15 = .ok (.isub, 1) := by decide +kernel
theorem dX7_weight_16 : decode cX7_weight 16 = .ok (.ireturn, 1) := by decide +kernel
theorem dX7_weight_17 : decode cX7_weight 17 = .ok (.iload_n 1, 1) := by decide +kernel
theorem dX7_weight_18 : decode cX7_weight 18 = .ok (.iload_n 3, 1) := by decide +kernel
theorem dX7_weight_19 : decode cX7_weight 19 = .ok (.invokestatic 103, 3) := by decide +kernel
theorem dX7_weight_22 : decode cX7_weight 22 = .ok (.ifCond .ne 7, 3) := by decide +kernel
theorem dX7_weight_25 : decode cX7_weight 25 = .ok (.iconst 0, 1) := by decide +kernel
theorem dX7_weight_26 : decode cX7_weight 26 = .ok (.goto 16, 3) := by decide +kernel
theorem dX7_weight_29 : decode cX7_weight 29 = .ok (.iload_n 0, 1) := by decide +kernel
theorem dX7_weight_30 : decode cX7_weight 30 = .ok (.ifCond .ne 7, 3) := by decide +kernel
theorem dX7_weight_33 : decode cX7_weight 33 = .ok (.iconst 1, 1) := by decide +kernel
theorem dX7_weight_34 : decode cX7_weight 34 = .ok (.goto 8, 3) := by decide +kernel
theorem dX7_weight_37 : decode cX7_weight 37 = .ok (.iload_n 3, 1) := by decide +kernel
theorem dX7_weight_38 : decode cX7_weight 38 = .ok (.iload_n 2, 1) := by decide +kernel
theorem dX7_weight_39 : decode cX7_weight 39 = .ok (.irem, 1) := by decide +kernel
theorem dX7_weight_40 : decode cX7_weight 40 = .ok (.iconst 1, 1) := by decide +kernel
theorem dX7_weight_41 : decode cX7_weight 41 = .ok (.iadd, 1) := by decide +kernel
theorem dX7_weight_42 : decode cX7_weight 42 = .ok (.ireturn, 1) := by decide +kernel
theorem dX7_asks_0 : decode cX7_asks 0 = .ok (.aload_n 0, 1) := by decide +kernel
theorem dX7_asks_1 : decode cX7_asks 1 = .ok (.iconst 0, 1) := by decide +kernel
theorem dX7_asks_2 : decode cX7_asks 2 = .ok (.putfield 107, 3) := by decide +kernel
theorem dX7_asks_5 : decode cX7_asks 5 = .ok (.iconst 0, 1) := by decide +kernel
theorem dX7_asks_6 : decode cX7_asks 6 = .ok (.istore 4, 2) := by decide +kernel
theorem dX7_asks_8 : decode cX7_asks 8 = .ok (.iload 4, 2) := by decide +kernel
theorem dX7_asks_10 : decode cX7_asks 10 = .ok (.bipush 10, 2) := by decide +kernel
theorem dX7_asks_12 : decode cX7_asks 12 = .ok (.if_icmp .ge 17, 3) := by decide +kernel
theorem dX7_asks_15 : decode cX7_asks 15 = .ok (.aload_n 0, 1) := by decide +kernel
theorem dX7_asks_16 : decode cX7_asks 16 = .ok (.getfield 31, 3) := by decide +kernel
theorem dX7_asks_19 : decode cX7_asks 19 = .ok (.iload 4, 2) := by decide +kernel
theorem dX7_asks_21 : decode cX7_asks 21 = .ok (.iconst 0, 1) := by decide +kernel
theorem dX7_asks_22 : decode cX7_asks 22 = .ok (.iastore, 1) := by decide +kernel
theorem dX7_asks_23 : decode cX7_asks 23 = .ok (.iinc 4 1, 3) := by decide +kernel
theorem dX7_asks_26 : decode cX7_asks 26 = .ok (.goto (-18), 3) := by decide +kernel
theorem dX7_asks_29 : decode cX7_asks 29 = .ok (.iconst 0, 1) := by decide +kernel
theorem dX7_asks_30 : decode cX7_asks 30 = .ok (.istore 4, 2) := by decide +kernel
theorem dX7_asks_32 : decode cX7_asks 32 = .ok (.iload 4, 2) := by decide +kernel
theorem dX7_asks_34 : decode cX7_asks 34 = .ok (.bipush 8, 2) := by decide +kernel
theorem dX7_asks_36 : decode cX7_asks 36 = .ok (.if_icmp .ge 52, 3) := by decide +kernel
theorem dX7_asks_39 : decode cX7_asks 39 = .ok (.iload_n 1, 1) := by decide +kernel
theorem dX7_asks_40 : decode cX7_asks 40 = .ok (.iload_n 2, 1) := by decide +kernel
theorem dX7_asks_41 : decode cX7_asks 41 = .ok (.iload_n 3, 1) := by decide +kernel
theorem dX7_asks_42 : decode cX7_asks 42 = .ok (.iload 4, 2) := by decide +kernel
theorem dX7_asks_44 : decode cX7_asks 44 = .ok (.invokestatic 110, 3) := by decide +kernel
theorem dX7_asks_47 : decode cX7_asks 47 = .ok (.istore 5, 2) := by decide +kernel
theorem dX7_asks_49 : decode cX7_asks 49 = .ok (.aload_n 0, 1) := by decide +kernel
theorem dX7_asks_50 : decode cX7_asks 50 = .ok (.getfield 31, 3) := by decide +kernel
theorem dX7_asks_53 : decode cX7_asks 53 = .ok (.aload_n 0, 1) := by decide +kernel
theorem dX7_asks_54 : decode cX7_asks 54 = .ok (.getfield 22, 3) := by decide +kernel
theorem dX7_asks_57 : decode cX7_asks 57 = .ok (.iload 4, 2) := by decide +kernel
theorem dX7_asks_59 : decode cX7_asks 59 = .ok (.iaload, 1) := by decide +kernel
theorem dX7_asks_60 : decode cX7_asks 60 = .ok (.iload 5, 2) := by decide +kernel
theorem dX7_asks_62 : decode cX7_asks 62 = .ok (.iastore, 1) := by decide +kernel
theorem dX7_asks_63 : decode cX7_asks 63 = .ok (.aload_n 0, 1) := by decide +kernel
theorem dX7_asks_64 : decode cX7_asks 64 = .ok (.dup, 1) := by decide +kernel
theorem dX7_asks_65 : decode cX7_asks 65 = .ok (.getfield 107, 3) := by decide +kernel
theorem dX7_asks_68 : decode cX7_asks 68 = .ok (.iload 5, 2) := by decide +kernel
theorem dX7_asks_70 : decode cX7_asks 70 = .ok (.ifCond .eq 7, 3) := by decide +kernel
theorem dX7_asks_73 : decode cX7_asks 73 = .ok (.iconst 1, 1) := by decide +kernel
theorem dX7_asks_74 : decode cX7_asks 74 = .ok (.goto 4, 3) := by decide +kernel
theorem dX7_asks_77 : decode cX7_asks 77 = .ok (.iconst 0, 1) := by decide +kernel
theorem dX7_asks_78 : decode cX7_asks 78 = .ok (.iadd, 1) := by decide +kernel
theorem dX7_asks_79 : decode cX7_asks 79 = .ok (.putfield 107, 3) := by decide +kernel
theorem dX7_asks_82 : decode cX7_asks 82 = .ok (.iinc 4 1, 3) := by decide +kernel
theorem dX7_asks_85 : decode cX7_asks 85 = .ok (.goto (-53), 3) := by decide +kernel
theorem dX7_asks_88 : decode cX7_asks 88 = .ok (.return_, 1) := by decide +kernel
theorem dX7_trueAnswer_0 : decode cX7_trueAnswer 0 = .ok (.iconst 0, 1) := by decide +kernel
theorem dX7_trueAnswer_1 : decode cX7_trueAnswer 1 = .ok (.istore_n 1, 1) := by decide +kernel
theorem dX7_trueAnswer_2 : decode cX7_trueAnswer 2 = .ok (.iconst 0, 1) := by decide +kernel
theorem dX7_trueAnswer_3 : decode cX7_trueAnswer 3 = .ok (.istore_n 2, 1) := by decide +kernel
theorem dX7_trueAnswer_4 : decode cX7_trueAnswer 4 = .ok (.iload_n 2, 1) := by decide +kernel
theorem dX7_trueAnswer_5 : decode cX7_trueAnswer 5 = .ok (.bipush 10, 2) := by decide +kernel
theorem dX7_trueAnswer_7 : decode cX7_trueAnswer 7 = .ok (.if_icmp .ge 25, 3) := by decide +kernel
theorem dX7_trueAnswer_10 : decode cX7_trueAnswer 10 = .ok (.iload_n 1, 1) := by decide +kernel
theorem dX7_trueAnswer_11 : decode cX7_trueAnswer 11 = .ok (.aload_n 0, 1) := by decide +kernel
theorem dX7_trueAnswer_12 : decode cX7_trueAnswer 12 = .ok (.getfield 31, 3) := by decide +kernel
theorem dX7_trueAnswer_15 : decode cX7_trueAnswer 15 = .ok (.iload_n 2, 1) := by decide +kernel
theorem dX7_trueAnswer_16 : decode cX7_trueAnswer 16 = .ok (.iaload, 1) := by decide +kernel
theorem dX7_trueAnswer_17 : decode cX7_trueAnswer 17 = .ok (.aload_n 0, 1) := by decide +kernel
theorem dX7_trueAnswer_18 : decode cX7_trueAnswer 18 = .ok (.getfield 13, 3) := by decide +kernel
theorem dX7_trueAnswer_21 : decode cX7_trueAnswer 21 = .ok (.iload_n 2, 1) := by decide +kernel
theorem dX7_trueAnswer_22 : decode cX7_trueAnswer 22 = .ok (.iaload, 1) := by decide +kernel
theorem dX7_trueAnswer_23 : decode cX7_trueAnswer 23 = .ok (.imul, 1) := by decide +kernel
theorem dX7_trueAnswer_24 : decode cX7_trueAnswer 24 = .ok (.iadd, 1) := by decide +kernel
theorem dX7_trueAnswer_25 : decode cX7_trueAnswer 25 = .ok (.istore_n 1, 1) := by decide +kernel
theorem dX7_trueAnswer_26 : decode cX7_trueAnswer 26 = .ok (.iinc 2 1, 3) := by decide +kernel
theorem dX7_trueAnswer_29 : decode cX7_trueAnswer 29 = .ok (.goto (-25), 3) := by decide +kernel
theorem dX7_trueAnswer_32 : decode cX7_trueAnswer 32 = .ok (.iload_n 1, 1) := by decide +kernel
theorem dX7_trueAnswer_33 : decode cX7_trueAnswer 33 = .ok (.ireturn, 1) := by decide +kernel
theorem dX7_sizeOf_0 : decode cX7_sizeOf 0 = .ok (.lload_n 0, 1) := by decide +kernel
theorem dX7_sizeOf_1 : decode cX7_sizeOf 1 = .ok (.lconst 0, 1) := by decide +kernel
theorem dX7_sizeOf_2 : decode cX7_sizeOf 2 = .ok (.lcmp, 1) := by decide +kernel
theorem dX7_sizeOf_3 : decode cX7_sizeOf 3 = .ok (.ifCond .ge 8, 3) := by decide +kernel
theorem dX7_sizeOf_6 : decode cX7_sizeOf 6 = .ok (.lload_n 0, 1) := by decide +kernel
theorem dX7_sizeOf_7 : decode cX7_sizeOf 7 = .ok (.lneg, 1) := by decide +kernel
theorem dX7_sizeOf_8 : decode cX7_sizeOf 8 = .ok (.goto 4, 3) := by decide +kernel
theorem dX7_sizeOf_11 : decode cX7_sizeOf 11 = .ok (.lload_n 0, 1) := by decide +kernel
theorem dX7_sizeOf_12 : decode cX7_sizeOf 12 = .ok (.lreturn, 1) := by decide +kernel
theorem dX7_divisor_0 : decode cX7_divisor 0 = .ok (.lload_n 0, 1) := by decide +kernel
theorem dX7_divisor_1 : decode cX7_divisor 1 = .ok (.invokestatic 114, 3) := by decide +kernel
theorem dX7_divisor_4 : decode cX7_divisor 4 = .ok (.lstore 4, 2) := by decide +kernel
theorem dX7_divisor_6 : decode cX7_divisor 6 = .ok (.lload_n 2, 1) := by decide +kernel
theorem dX7_divisor_7 : decode cX7_divisor 7 = .ok (.invokestatic 114, 3) := by decide +kernel
theorem dX7_divisor_10 : decode cX7_divisor 10 = .ok (.lstore 6, 2) := by decide +kernel
theorem dX7_divisor_12 : decode cX7_divisor 12 = .ok (.lload 6, 2) := by decide +kernel
theorem dX7_divisor_14 : decode cX7_divisor 14 = .ok (.lconst 0, 1) := by decide +kernel
theorem dX7_divisor_15 : decode cX7_divisor 15 = .ok (.lcmp, 1) := by decide +kernel
theorem dX7_divisor_16 : decode cX7_divisor 16 = .ok (.ifCond .eq 21, 3) := by decide +kernel
theorem dX7_divisor_19 : decode cX7_divisor 19 = .ok (.lload 4, 2) := by decide +kernel
theorem dX7_divisor_21 : decode cX7_divisor 21 = .ok (.lload 6, 2) := by decide +kernel
theorem dX7_divisor_23 : decode cX7_divisor 23 = .ok (.lrem, 1) := by decide +kernel
theorem dX7_divisor_24 : decode cX7_divisor 24 = .ok (.lstore 8, 2) := by decide +kernel
theorem dX7_divisor_26 : decode cX7_divisor 26 = .ok (.lload 6, 2) := by decide +kernel
theorem dX7_divisor_28 : decode cX7_divisor 28 = .ok (.lstore 4, 2) := by decide +kernel
theorem dX7_divisor_30 : decode cX7_divisor 30 = .ok (.lload 8, 2) := by decide +kernel
theorem dX7_divisor_32 : decode cX7_divisor 32 = .ok (.lstore 6, 2) := by decide +kernel
theorem dX7_divisor_34 : decode cX7_divisor 34 = .ok (.goto (-22), 3) := by decide +kernel
theorem dX7_divisor_37 : decode cX7_divisor 37 = .ok (.lload 4, 2) := by decide +kernel
theorem dX7_divisor_39 : decode cX7_divisor 39 = .ok (.lreturn, 1) := by decide +kernel
theorem dX7_makesLeast_0 : decode cX7_makesLeast 0 = .ok (.lconst 0, 1) := by decide +kernel
theorem dX7_makesLeast_1 : decode cX7_makesLeast 1 = .ok (.lstore_n 2, 1) := by decide +kernel
theorem dX7_makesLeast_2 : decode cX7_makesLeast 2 = .ok (.iconst 0, 1) := by decide +kernel
theorem dX7_makesLeast_3 : decode cX7_makesLeast 3 = .ok (.istore 4, 2) := by decide +kernel
theorem dX7_makesLeast_5 : decode cX7_makesLeast 5 = .ok (.iload 4, 2) := by decide +kernel
theorem dX7_makesLeast_7 : decode cX7_makesLeast 7 = .ok (.bipush 10, 2) := by decide +kernel
theorem dX7_makesLeast_9 : decode cX7_makesLeast 9 = .ok (.if_icmp .ge 20, 3) := by decide +kernel
theorem dX7_makesLeast_12 : decode cX7_makesLeast 12 = .ok (.lload_n 2, 1) := by decide +kernel
theorem dX7_makesLeast_13 : decode cX7_makesLeast 13 = .ok (.aload_n 0, 1) := by decide +kernel
theorem dX7_makesLeast_14 : decode cX7_makesLeast 14 = .ok (.iload_n 1, 1) := by decide +kernel
theorem dX7_makesLeast_15 : decode cX7_makesLeast 15 = .ok (.iload 4, 2) := by decide +kernel
theorem dX7_makesLeast_17 : decode cX7_makesLeast 17 = .ok (.iadd, 1) := by decide +kernel
theorem dX7_makesLeast_18 : decode cX7_makesLeast 18 = .ok (.laload, 1) := by decide +kernel
theorem dX7_makesLeast_19 : decode cX7_makesLeast 19 = .ok (.invokestatic 118, 3) := by decide +kernel
theorem dX7_makesLeast_22 : decode cX7_makesLeast 22 = .ok (.lstore_n 2, 1) := by decide +kernel
theorem dX7_makesLeast_23 : decode cX7_makesLeast 23 = .ok (.iinc 4 1, 3) := by decide +kernel
theorem dX7_makesLeast_26 : decode cX7_makesLeast 26 = .ok (.goto (-21), 3) := by decide +kernel
theorem dX7_makesLeast_29 : decode cX7_makesLeast 29 = .ok (.iconst 0, 1) := by decide +kernel
theorem dX7_makesLeast_30 : decode cX7_makesLeast 30 = .ok (.istore 4, 2) := by decide +kernel
theorem dX7_makesLeast_32 : decode cX7_makesLeast 32 = .ok (.iload 4, 2) := by decide +kernel
theorem dX7_makesLeast_34 : decode cX7_makesLeast 34 = .ok (.bipush 10, 2) := by decide +kernel
theorem dX7_makesLeast_36 : decode cX7_makesLeast 36 = .ok (.if_icmp .ge 25, 3) := by decide +kernel
theorem dX7_makesLeast_39 : decode cX7_makesLeast 39 = .ok (.lload_n 2, 1) := by decide +kernel
theorem dX7_makesLeast_40 : decode cX7_makesLeast 40 = .ok (.lconst 1, 1) := by decide +kernel
theorem dX7_makesLeast_41 : decode cX7_makesLeast 41 = .ok (.lcmp, 1) := by decide +kernel
theorem dX7_makesLeast_42 : decode cX7_makesLeast 42 = .ok (.ifCond .le 19, 3) := by decide +kernel
theorem dX7_makesLeast_45 : decode cX7_makesLeast 45 = .ok (.aload_n 0, 1) := by decide +kernel
theorem dX7_makesLeast_46 : decode cX7_makesLeast 46 = .ok (.iload_n 1, 1) := by decide +kernel
theorem dX7_makesLeast_47 : decode cX7_makesLeast 47 = .ok (.iload 4, 2) := by decide +kernel
theorem dX7_makesLeast_49 : decode cX7_makesLeast 49 = .ok (.iadd, 1) := by decide +kernel
theorem dX7_makesLeast_50 : decode cX7_makesLeast 50 = .ok (.dup2, 1) := by decide +kernel
theorem dX7_makesLeast_51 : decode cX7_makesLeast 51 = .ok (.laload, 1) := by decide +kernel
theorem dX7_makesLeast_52 : decode cX7_makesLeast 52 = .ok (.lload_n 2, 1) := by decide +kernel
theorem dX7_makesLeast_53 : decode cX7_makesLeast 53 = .ok (.ldiv, 1) := by decide +kernel
theorem dX7_makesLeast_54 : decode cX7_makesLeast 54 = .ok (.lastore, 1) := by decide +kernel
theorem dX7_makesLeast_55 : decode cX7_makesLeast 55 = .ok (.iinc 4 1, 3) := by decide +kernel
theorem dX7_makesLeast_58 : decode cX7_makesLeast 58 = .ok (.goto (-26), 3) := by decide +kernel
theorem dX7_makesLeast_61 : decode cX7_makesLeast 61 = .ok (.return_, 1) := by decide +kernel
theorem dX7_clears_0 : decode cX7_clears 0 = .ok (.aload_n 0, 1) := by decide +kernel
theorem dX7_clears_1 : decode cX7_clears 1 = .ok (.iload_n 1, 1) := by decide +kernel
theorem dX7_clears_2 : decode cX7_clears 2 = .ok (.iload 4, 2) := by decide +kernel
theorem dX7_clears_4 : decode cX7_clears 4 = .ok (.iadd, 1) := by decide +kernel
theorem dX7_clears_5 : decode cX7_clears 5 = .ok (.laload, 1) := by decide +kernel
theorem dX7_clears_6 : decode cX7_clears 6 = .ok (.lconst 0, 1) := by decide +kernel
theorem dX7_clears_7 : decode cX7_clears 7 = .ok (.lcmp, 1) := by decide +kernel
theorem dX7_clears_8 : decode cX7_clears 8 = .ok (.ifCond .ne 4, 3) := by decide +kernel
theorem dX7_clears_11 : decode cX7_clears 11 = .ok (.return_, 1) := by decide +kernel
theorem dX7_clears_12 : decode cX7_clears 12 = .ok (.aload_n 0, 1) := by decide +kernel
theorem dX7_clears_13 : decode cX7_clears 13 = .ok (.iload_n 1, 1) := by decide +kernel
theorem dX7_clears_14 : decode cX7_clears 14 = .ok (.iload 4, 2) := by decide +kernel
theorem dX7_clears_16 : decode cX7_clears 16 = .ok (.iadd, 1) := by decide +kernel
theorem dX7_clears_17 : decode cX7_clears 17 = .ok (.laload, 1) := by decide +kernel
theorem dX7_clears_18 : decode cX7_clears 18 = .ok (.aload_n 2, 1) := by decide +kernel
theorem dX7_clears_19 : decode cX7_clears 19 = .ok (.iload_n 3, 1) := by decide +kernel
theorem dX7_clears_20 : decode cX7_clears 20 = .ok (.iload 4, 2) := by decide +kernel
theorem dX7_clears_22 : decode cX7_clears 22 = .ok (.iadd, 1) := by decide +kernel
theorem dX7_clears_23 : decode cX7_clears 23 = .ok (.laload, 1) := by decide +kernel
theorem dX7_clears_24 : decode cX7_clears 24 = .ok (.invokestatic 118, 3) := by decide +kernel
theorem dX7_clears_27 : decode cX7_clears 27 = .ok (.lstore 5, 2) := by decide +kernel
theorem dX7_clears_29 : decode cX7_clears 29 = .ok (.aload_n 2, 1) := by decide +kernel
theorem dX7_clears_30 : decode cX7_clears 30 = .ok (.iload_n 3, 1) := by decide +kernel
theorem dX7_clears_31 : decode cX7_clears 31 = .ok (.iload 4, 2) := by decide +kernel
theorem dX7_clears_33 : decode cX7_clears 33 = .ok (.iadd, 1) := by decide +kernel
theorem dX7_clears_34 : decode cX7_clears 34 = .ok (.laload, 1) := by decide +kernel
theorem dX7_clears_35 : decode cX7_clears 35 = .ok (.lload 5, 2) := by decide +kernel
theorem dX7_clears_37 : decode cX7_clears 37 = .ok (.ldiv, 1) := by decide +kernel
theorem dX7_clears_38 : decode cX7_clears 38 = .ok (.lstore 7, 2) := by decide +kernel
theorem dX7_clears_40 : decode cX7_clears 40 = .ok (.aload_n 0, 1) := by decide +kernel
theorem dX7_clears_41 : decode cX7_clears 41 = .ok (.iload_n 1, 1) := by decide +kernel
theorem dX7_clears_42 : decode cX7_clears 42 = .ok (.iload 4, 2) := by decide +kernel
theorem dX7_clears_44 : decode cX7_clears 44 = .ok (.iadd, 1) := by decide +kernel
theorem dX7_clears_45 : decode cX7_clears 45 = .ok (.laload, 1) := by decide +kernel
theorem dX7_clears_46 : decode cX7_clears 46 = .ok (.lload 5, 2) := by decide +kernel
theorem dX7_clears_48 : decode cX7_clears 48 = .ok (.ldiv, 1) := by decide +kernel
theorem dX7_clears_49 : decode cX7_clears 49 = .ok (.lstore 9, 2) := by decide +kernel
theorem dX7_clears_51 : decode cX7_clears 51 = .ok (.iconst 0, 1) := by decide +kernel
theorem dX7_clears_52 : decode cX7_clears 52 = .ok (.istore 11, 2) := by decide +kernel
theorem dX7_clears_54 : decode cX7_clears 54 = .ok (.iload 11, 2) := by decide +kernel
theorem dX7_clears_56 : decode cX7_clears 56 = .ok (.bipush 10, 2) := by decide +kernel
theorem dX7_clears_58 : decode cX7_clears 58 = .ok (.if_icmp .ge 34, 3) := by decide +kernel
theorem dX7_clears_61 : decode cX7_clears 61 = .ok (.aload_n 0, 1) := by decide +kernel
theorem dX7_clears_62 : decode cX7_clears 62 = .ok (.iload_n 1, 1) := by decide +kernel
theorem dX7_clears_63 : decode cX7_clears 63 = .ok (.iload 11, 2) := by decide +kernel
theorem dX7_clears_65 : decode cX7_clears 65 = .ok (.iadd, 1) := by decide +kernel
theorem dX7_clears_66 : decode cX7_clears 66 = .ok (.aload_n 0, 1) := by decide +kernel
theorem dX7_clears_67 : decode cX7_clears 67 = .ok (.iload_n 1, 1) := by decide +kernel
theorem dX7_clears_68 : decode cX7_clears 68 = .ok (.iload 11, 2) := by decide +kernel
theorem dX7_clears_70 : decode cX7_clears 70 = .ok (.iadd, 1) := by decide +kernel
theorem dX7_clears_71 : decode cX7_clears 71 = .ok (.laload, 1) := by decide +kernel
theorem dX7_clears_72 : decode cX7_clears 72 = .ok (.lload 7, 2) := by decide +kernel
theorem dX7_clears_74 : decode cX7_clears 74 = .ok (.lmul, 1) := by decide +kernel
theorem dX7_clears_75 : decode cX7_clears 75 = .ok (.aload_n 2, 1) := by decide +kernel
theorem dX7_clears_76 : decode cX7_clears 76 = .ok (.iload_n 3, 1) := by decide +kernel
theorem dX7_clears_77 : decode cX7_clears 77 = .ok (.iload 11, 2) := by decide +kernel
theorem dX7_clears_79 : decode cX7_clears 79 = .ok (.iadd, 1) := by decide +kernel
theorem dX7_clears_80 : decode cX7_clears 80 = .ok (.laload, 1) := by decide +kernel
theorem dX7_clears_81 : decode cX7_clears 81 = .ok (.lload 9, 2) := by decide +kernel
theorem dX7_clears_83 : decode cX7_clears 83 = .ok (.lmul, 1) := by decide +kernel
theorem dX7_clears_84 : decode cX7_clears 84 = .ok (.lsub, 1) := by decide +kernel
theorem dX7_clears_85 : decode cX7_clears 85 = .ok (.lastore, 1) := by decide +kernel
theorem dX7_clears_86 : decode cX7_clears 86 = .ok (.iinc 11 1, 3) := by decide +kernel
theorem dX7_clears_89 : decode cX7_clears 89 = .ok (.goto (-35), 3) := by decide +kernel
theorem dX7_clears_92 : decode cX7_clears 92 = .ok (.aload_n 0, 1) := by decide +kernel
theorem dX7_clears_93 : decode cX7_clears 93 = .ok (.iload_n 1, 1) := by decide +kernel
theorem dX7_clears_94 : decode cX7_clears 94 = .ok (.invokestatic 122, 3) := by decide +kernel
theorem dX7_clears_97 : decode cX7_clears 97 = .ok (.return_, 1) := by decide +kernel
theorem dX7_loads_0 : decode cX7_loads 0 = .ok (.iconst 0, 1) := by decide +kernel
theorem dX7_loads_1 : decode cX7_loads 1 = .ok (.istore_n 1, 1) := by decide +kernel
theorem dX7_loads_2 : decode cX7_loads 2 = .ok (.iload_n 1, 1) := by decide +kernel
theorem dX7_loads_3 : decode cX7_loads 3 = .ok (.bipush 110, 2) := by decide +kernel
theorem dX7_loads_5 : decode cX7_loads 5 = .ok (.if_icmp .ge 21, 3) := by decide +kernel
theorem dX7_loads_8 : decode cX7_loads 8 = .ok (.aload_n 0, 1) := by decide +kernel
theorem dX7_loads_9 : decode cX7_loads 9 = .ok (.getfield 38, 3) := by decide +kernel
theorem dX7_loads_12 : decode cX7_loads 12 = .ok (.iload_n 1, 1) := by decide +kernel
theorem dX7_loads_13 : decode cX7_loads 13 = .ok (.aload_n 0, 1) := by decide +kernel
theorem dX7_loads_14 : decode cX7_loads 14 = .ok (.getfield 34, 3) := by decide +kernel
theorem dX7_loads_17 : decode cX7_loads 17 = .ok (.iload_n 1, 1) := by decide +kernel
theorem dX7_loads_18 : decode cX7_loads 18 = .ok (.laload, 1) := by decide +kernel
theorem dX7_loads_19 : decode cX7_loads 19 = .ok (.lastore, 1) := by decide +kernel
theorem dX7_loads_20 : decode cX7_loads 20 = .ok (.iinc 1 1, 3) := by decide +kernel
theorem dX7_loads_23 : decode cX7_loads 23 = .ok (.goto (-21), 3) := by decide +kernel
theorem dX7_loads_26 : decode cX7_loads 26 = .ok (.iconst 0, 1) := by decide +kernel
theorem dX7_loads_27 : decode cX7_loads 27 = .ok (.istore_n 1, 1) := by decide +kernel
theorem dX7_loads_28 : decode cX7_loads 28 = .ok (.iload_n 1, 1) := by decide +kernel
theorem dX7_loads_29 : decode cX7_loads 29 = .ok (.bipush 11, 2) := by decide +kernel
theorem dX7_loads_31 : decode cX7_loads 31 = .ok (.if_icmp .ge 21, 3) := by decide +kernel
theorem dX7_loads_34 : decode cX7_loads 34 = .ok (.aload_n 0, 1) := by decide +kernel
theorem dX7_loads_35 : decode cX7_loads 35 = .ok (.getfield 47, 3) := by decide +kernel
theorem dX7_loads_38 : decode cX7_loads 38 = .ok (.iload_n 1, 1) := by decide +kernel
theorem dX7_loads_39 : decode cX7_loads 39 = .ok (.aload_n 0, 1) := by decide +kernel
theorem dX7_loads_40 : decode cX7_loads 40 = .ok (.getfield 44, 3) := by decide +kernel
theorem dX7_loads_43 : decode cX7_loads 43 = .ok (.iload_n 1, 1) := by decide +kernel
theorem dX7_loads_44 : decode cX7_loads 44 = .ok (.iaload, 1) := by decide +kernel
theorem dX7_loads_45 : decode cX7_loads 45 = .ok (.iastore, 1) := by decide +kernel
theorem dX7_loads_46 : decode cX7_loads 46 = .ok (.iinc 1 1, 3) := by decide +kernel
theorem dX7_loads_49 : decode cX7_loads 49 = .ok (.goto (-21), 3) := by decide +kernel
theorem dX7_loads_52 : decode cX7_loads 52 = .ok (.aload_n 0, 1) := by decide +kernel
theorem dX7_loads_53 : decode cX7_loads 53 = .ok (.aload_n 0, 1) := by decide +kernel
theorem dX7_loads_54 : decode cX7_loads 54 = .ok (.getfield 126, 3) := by decide +kernel
theorem dX7_loads_57 : decode cX7_loads 57 = .ok (.putfield 129, 3) := by decide +kernel
theorem dX7_loads_60 : decode cX7_loads 60 = .ok (.return_, 1) := by decide +kernel
theorem dX7_reduces_0 : decode cX7_reduces 0 = .ok (.iconst 0, 1) := by decide +kernel
theorem dX7_reduces_1 : decode cX7_reduces 1 = .ok (.istore_n 3, 1) := by decide +kernel
theorem dX7_reduces_2 : decode cX7_reduces 2 = .ok (.iload_n 3, 1) := by decide +kernel
theorem dX7_reduces_3 : decode cX7_reduces 3 = .ok (.bipush 10, 2) := by decide +kernel
theorem dX7_reduces_5 : decode cX7_reduces 5 = .ok (.if_icmp .ge 21, 3) := by decide +kernel
theorem dX7_reduces_8 : decode cX7_reduces 8 = .ok (.aload_n 0, 1) := by decide +kernel
theorem dX7_reduces_9 : decode cX7_reduces 9 = .ok (.getfield 41, 3) := by decide +kernel
theorem dX7_reduces_12 : decode cX7_reduces 12 = .ok (.iload_n 3, 1) := by decide +kernel
theorem dX7_reduces_13 : decode cX7_reduces 13 = .ok (.aload_n 1, 1) := by decide +kernel
theorem dX7_reduces_14 : decode cX7_reduces 14 = .ok (.iload_n 2, 1) := by decide +kernel
theorem dX7_reduces_15 : decode cX7_reduces 15 = .ok (.iload_n 3, 1) := by decide +kernel
theorem dX7_reduces_16 : decode cX7_reduces 16 = .ok (.iadd, 1) := by decide +kernel
theorem dX7_reduces_17 : decode cX7_reduces 17 = .ok (.iaload, 1) := by decide +kernel
theorem dX7_reduces_18 : decode cX7_reduces 18 = .ok (.i2l, 1) := by decide +kernel
theorem dX7_reduces_19 : decode cX7_reduces 19 = .ok (.lastore, 1) := by decide +kernel
theorem dX7_reduces_20 : decode cX7_reduces 20 = .ok (.iinc 3 1, 3) := by decide +kernel
theorem dX7_reduces_23 : decode cX7_reduces 23 = .ok (.goto (-21), 3) := by decide +kernel
theorem dX7_reduces_26 : decode cX7_reduces 26 = .ok (.iconst 0, 1) := by decide +kernel
theorem dX7_reduces_27 : decode cX7_reduces 27 = .ok (.istore_n 3, 1) := by decide +kernel
theorem dX7_reduces_28 : decode cX7_reduces 28 = .ok (.iload_n 3, 1) := by decide +kernel
theorem dX7_reduces_29 : decode cX7_reduces 29 = .ok (.aload_n 0, 1) := by decide +kernel
theorem dX7_reduces_30 : decode cX7_reduces 30 = .ok (.getfield 129, 3) := by decide +kernel
theorem dX7_reduces_33 : decode cX7_reduces 33 = .ok (.if_icmp .ge 31, 3) := by decide +kernel
theorem dX7_reduces_36 : decode cX7_reduces 36 = .ok (.aload_n 0, 1) := by decide +kernel
theorem dX7_reduces_37 : decode cX7_reduces 37 = .ok (.getfield 41, 3) := by decide +kernel
theorem dX7_reduces_40 : decode cX7_reduces 40 = .ok (.iconst 0, 1) := by decide +kernel
theorem dX7_reduces_41 : decode cX7_reduces 41 = .ok (.aload_n 0, 1) := by decide +kernel
theorem dX7_reduces_42 : decode cX7_reduces 42 = .ok (.getfield 38, 3) := by decide +kernel
theorem dX7_reduces_45 : decode cX7_reduces 45 = .ok (.bipush 10, 2) := by decide +kernel
theorem dX7_reduces_47 : decode cX7_reduces 47 = .ok (.iload_n 3, 1) := by decide +kernel
theorem dX7_reduces_48 : decode cX7_reduces 48 = .ok (.imul, 1) := by decide +kernel
theorem dX7_reduces_49 : decode cX7_reduces 49 = .ok (.aload_n 0, 1) := by decide +kernel
theorem dX7_reduces_50 : decode cX7_reduces 50 = .ok (.getfield 47, 3) := by decide +kernel
theorem dX7_reduces_53 : decode cX7_reduces 53 = .ok (.iload_n 3, 1) := by decide +kernel
theorem dX7_reduces_54 : decode cX7_reduces 54 = .ok (.iaload, 1) := by decide +kernel
theorem dX7_reduces_55 : decode cX7_reduces 55 = .ok (.invokestatic 132, 3) := by decide +kernel
theorem dX7_reduces_58 : decode cX7_reduces 58 = .ok (.iinc 3 1, 3) := by decide +kernel
theorem dX7_reduces_61 : decode cX7_reduces 61 = .ok (.goto (-33), 3) := by decide +kernel
theorem dX7_reduces_64 : decode cX7_reduces 64 = .ok (.return_, 1) := by decide +kernel
theorem dX7_firstOfOne_0 : decode cX7_firstOfOne 0 = .ok (.iconst 0, 1) := by decide +kernel
theorem dX7_firstOfOne_1 : decode cX7_firstOfOne 1 = .ok (.istore_n 1, 1) := by decide +kernel
theorem dX7_firstOfOne_2 : decode cX7_firstOfOne 2 = .ok (.iload_n 1, 1) := by decide +kernel
theorem dX7_firstOfOne_3 : decode cX7_firstOfOne 3 = .ok (.bipush 10, 2) := by decide +kernel
theorem dX7_firstOfOne_5 : decode cX7_firstOfOne 5 = .ok (.if_icmp .ge 22, 3) := by decide +kernel
theorem dX7_firstOfOne_8 : decode cX7_firstOfOne 8 = .ok (.aload_n 0, 1) := by decide +kernel
theorem dX7_firstOfOne_9 : decode cX7_firstOfOne 9 = .ok (.getfield 41, 3) := by decide +kernel
theorem dX7_firstOfOne_12 : decode cX7_firstOfOne 12 = .ok (.iload_n 1, 1) := by decide +kernel
theorem dX7_firstOfOne_13 : decode cX7_firstOfOne 13 = .ok (.laload, 1) := by decide +kernel
theorem dX7_firstOfOne_14 : decode cX7_firstOfOne 14 = .ok (.lconst 0, 1) := by decide +kernel
theorem dX7_firstOfOne_15 : decode cX7_firstOfOne 15 = .ok (.lcmp, 1) := by decide +kernel
theorem dX7_firstOfOne_16 : decode cX7_firstOfOne 16 = .ok (.ifCond .eq 5, 3) := by decide +kernel
theorem dX7_firstOfOne_19 : decode cX7_firstOfOne 19 = .ok (.iload_n 1, 1) := by decide +kernel
theorem dX7_firstOfOne_20 : decode cX7_firstOfOne 20 = .ok (.ireturn, 1) := by decide +kernel
theorem dX7_firstOfOne_21 : decode cX7_firstOfOne 21 = .ok (.iinc 1 1, 3) := by decide +kernel
theorem dX7_firstOfOne_24 : decode cX7_firstOfOne 24 = .ok (.goto (-22), 3) := by decide +kernel
theorem dX7_firstOfOne_27 : decode cX7_firstOfOne 27 = .ok (.bipush (-9), 2) := by decide +kernel
theorem dX7_firstOfOne_29 : decode cX7_firstOfOne 29 = .ok (.ireturn, 1) := by decide +kernel
theorem dX7_adds_0 : decode cX7_adds 0 = .ok (.aload_n 0, 1) := by decide +kernel
theorem dX7_adds_1 : decode cX7_adds 1 = .ok (.aload_n 1, 1) := by decide +kernel
theorem dX7_adds_2 : decode cX7_adds 2 = .ok (.iload_n 2, 1) := by decide +kernel
theorem dX7_adds_3 : decode cX7_adds 3 = .ok (.invokevirtual 136, 3) := by decide +kernel
theorem dX7_adds_6 : decode cX7_adds 6 = .ok (.aload_n 0, 1) := by decide +kernel
theorem dX7_adds_7 : decode cX7_adds 7 = .ok (.invokevirtual 140, 3) := by decide +kernel
theorem dX7_adds_10 : decode cX7_adds 10 = .ok (.istore_n 3, 1) := by decide +kernel
theorem dX7_adds_11 : decode cX7_adds 11 = .ok (.iload_n 3, 1) := by decide +kernel
theorem dX7_adds_12 : decode cX7_adds 12 = .ok (.ifCond .ge 4, 3) := by decide +kernel
theorem dX7_adds_15 : decode cX7_adds 15 = .ok (.return_, 1) := by decide +kernel
theorem dX7_adds_16 : decode cX7_adds 16 = .ok (.aload_n 0, 1) := by decide +kernel
theorem dX7_adds_17 : decode cX7_adds 17 = .ok (.getfield 41, 3) := by decide +kernel
theorem dX7_adds_20 : decode cX7_adds 20 = .ok (.iload_n 3, 1) := by decide +kernel
theorem dX7_adds_21 : decode cX7_adds 21 = .ok (.laload, 1) := by decide +kernel
theorem dX7_adds_22 : decode cX7_adds 22 = .ok (.lconst 0, 1) := by decide +kernel
theorem dX7_adds_23 : decode cX7_adds 23 = .ok (.lcmp, 1) := by decide +kernel
theorem dX7_adds_24 : decode cX7_adds 24 = .ok (.ifCond .ge 9, 3) := by decide +kernel
theorem dX7_adds_27 : decode cX7_adds 27 = .ok (.ldc2_w 144, 3) := by decide +kernel
theorem dX7_adds_30 : decode cX7_adds 30 = .ok (.goto 4, 3) := by decide +kernel
theorem dX7_adds_33 : decode cX7_adds 33 = .ok (.lconst 1, 1) := by decide +kernel
theorem dX7_adds_34 : decode cX7_adds 34 = .ok (.lstore 4, 2) := by decide +kernel
theorem dX7_adds_36 : decode cX7_adds 36 = .ok (.iconst 0, 1) := by decide +kernel
theorem dX7_adds_37 : decode cX7_adds 37 = .ok (.istore 6, 2) := by decide +kernel
theorem dX7_adds_39 : decode cX7_adds 39 = .ok (.iload 6, 2) := by decide +kernel
theorem dX7_adds_41 : decode cX7_adds 41 = .ok (.bipush 10, 2) := by decide +kernel
theorem dX7_adds_43 : decode cX7_adds 43 = .ok (.if_icmp .ge 21, 3) := by decide +kernel
theorem dX7_adds_46 : decode cX7_adds 46 = .ok (.aload_n 0, 1) := by decide +kernel
theorem dX7_adds_47 : decode cX7_adds 47 = .ok (.getfield 41, 3) := by decide +kernel
theorem dX7_adds_50 : decode cX7_adds 50 = .ok (.iload 6, 2) := by decide +kernel
theorem dX7_adds_52 : decode cX7_adds 52 = .ok (.dup2, 1) := by decide +kernel
theorem dX7_adds_53 : decode cX7_adds 53 = .ok (.laload, 1) := by decide +kernel
theorem dX7_adds_54 : decode cX7_adds 54 = .ok (.lload 4, 2) := by decide +kernel
theorem dX7_adds_56 : decode cX7_adds 56 = .ok (.lmul, 1) := by decide +kernel
theorem dX7_adds_57 : decode cX7_adds 57 = .ok (.lastore, 1) := by decide +kernel
theorem dX7_adds_58 : decode cX7_adds 58 = .ok (.iinc 6 1, 3) := by decide +kernel
theorem dX7_adds_61 : decode cX7_adds 61 = .ok (.goto (-22), 3) := by decide +kernel
theorem dX7_adds_64 : decode cX7_adds 64 = .ok (.aload_n 0, 1) := by decide +kernel
theorem dX7_adds_65 : decode cX7_adds 65 = .ok (.getfield 41, 3) := by decide +kernel
theorem dX7_adds_68 : decode cX7_adds 68 = .ok (.iconst 0, 1) := by decide +kernel
theorem dX7_adds_69 : decode cX7_adds 69 = .ok (.invokestatic 122, 3) := by decide +kernel
theorem dX7_adds_72 : decode cX7_adds 72 = .ok (.iconst 0, 1) := by decide +kernel
theorem dX7_adds_73 : decode cX7_adds 73 = .ok (.istore 6, 2) := by decide +kernel
theorem dX7_adds_75 : decode cX7_adds 75 = .ok (.iload 6, 2) := by decide +kernel
theorem dX7_adds_77 : decode cX7_adds 77 = .ok (.aload_n 0, 1) := by decide +kernel
theorem dX7_adds_78 : decode cX7_adds 78 = .ok (.getfield 129, 3) := by decide +kernel
theorem dX7_adds_81 : decode cX7_adds 81 = .ok (.if_icmp .ge 27, 3) := by decide +kernel
theorem dX7_adds_84 : decode cX7_adds 84 = .ok (.aload_n 0, 1) := by decide +kernel
theorem dX7_adds_85 : decode cX7_adds 85 = .ok (.getfield 38, 3) := by decide +kernel
theorem dX7_adds_88 : decode cX7_adds 88 = .ok (.bipush 10, 2) := by decide +kernel
theorem dX7_adds_90 : decode cX7_adds 90 = .ok (.iload 6, 2) := by decide +kernel
theorem dX7_adds_92 : decode cX7_adds 92 = .ok (.imul, 1) := by decide +kernel
theorem dX7_adds_93 : decode cX7_adds 93 = .ok (.aload_n 0, 1) := by decide +kernel
theorem dX7_adds_94 : decode cX7_adds 94 = .ok (.getfield 41, 3) := by decide +kernel
theorem dX7_adds_97 : decode cX7_adds 97 = .ok (.iconst 0, 1) := by decide +kernel
theorem dX7_adds_98 : decode cX7_adds 98 = .ok (.iload_n 3, 1) := by decide +kernel
theorem dX7_adds_99 : decode cX7_adds 99 = .ok (.invokestatic 132, 3) := by decide +kernel
theorem dX7_adds_102 : decode cX7_adds 102 = .ok (.iinc 6 1, 3) := by decide +kernel
theorem dX7_adds_105 : decode cX7_adds 105 = .ok (.goto (-30), 3) := by decide +kernel
theorem dX7_adds_108 : decode cX7_adds 108 = .ok (.iconst 0, 1) := by decide +kernel
theorem dX7_adds_109 : decode cX7_adds 109 = .ok (.istore 6, 2) := by decide +kernel
theorem dX7_adds_111 : decode cX7_adds 111 = .ok (.iload 6, 2) := by decide +kernel
theorem dX7_adds_113 : decode cX7_adds 113 = .ok (.bipush 10, 2) := by decide +kernel
theorem dX7_adds_115 : decode cX7_adds 115 = .ok (.if_icmp .ge 31, 3) := by decide +kernel
theorem dX7_adds_118 : decode cX7_adds 118 = .ok (.aload_n 0, 1) := by decide +kernel
theorem dX7_adds_119 : decode cX7_adds 119 = .ok (.getfield 38, 3) := by decide +kernel
theorem dX7_adds_122 : decode cX7_adds 122 = .ok (.bipush 10, 2) := by decide +kernel
theorem dX7_adds_124 : decode cX7_adds 124 = .ok (.aload_n 0, 1) := by decide +kernel
theorem dX7_adds_125 : decode cX7_adds 125 = .ok (.getfield 129, 3) := by decide +kernel
theorem dX7_adds_128 : decode cX7_adds 128 = .ok (.imul, 1) := by decide +kernel
theorem dX7_adds_129 : decode cX7_adds 129 = .ok (.iload 6, 2) := by decide +kernel
theorem dX7_adds_131 : decode cX7_adds 131 = .ok (.iadd, 1) := by decide +kernel
theorem dX7_adds_132 : decode cX7_adds 132 = .ok (.aload_n 0, 1) := by decide +kernel
theorem dX7_adds_133 : decode cX7_adds 133 = .ok (.getfield 41, 3) := by decide +kernel
theorem dX7_adds_136 : decode cX7_adds 136 = .ok (.iload 6, 2) := by decide +kernel
theorem dX7_adds_138 : decode cX7_adds 138 = .ok (.laload, 1) := by decide +kernel
theorem dX7_adds_139 : decode cX7_adds 139 = .ok (.lastore, 1) := by decide +kernel
theorem dX7_adds_140 : decode cX7_adds 140 = .ok (.iinc 6 1, 3) := by decide +kernel
theorem dX7_adds_143 : decode cX7_adds 143 = .ok (.goto (-32), 3) := by decide +kernel
theorem dX7_adds_146 : decode cX7_adds 146 = .ok (.aload_n 0, 1) := by decide +kernel
theorem dX7_adds_147 : decode cX7_adds 147 = .ok (.getfield 47, 3) := by decide +kernel
theorem dX7_adds_150 : decode cX7_adds 150 = .ok (.aload_n 0, 1) := by decide +kernel
theorem dX7_adds_151 : decode cX7_adds 151 = .ok (.getfield 129, 3) := by decide +kernel
theorem dX7_adds_154 : decode cX7_adds 154 = .ok (.iload_n 3, 1) := by decide +kernel
theorem dX7_adds_155 : decode cX7_adds 155 = .ok (.iastore, 1) := by decide +kernel
theorem dX7_adds_156 : decode cX7_adds 156 = .ok (.aload_n 0, 1) := by decide +kernel
theorem dX7_adds_157 : decode cX7_adds 157 = .ok (.dup, 1) := by decide +kernel
theorem dX7_adds_158 : decode cX7_adds 158 = .ok (.getfield 129, 3) := by decide +kernel
theorem dX7_adds_161 : decode cX7_adds 161 = .ok (.iconst 1, 1) := by decide +kernel
theorem dX7_adds_162 : decode cX7_adds 162 = .ok (.iadd, 1) := by decide +kernel
theorem dX7_adds_163 : decode cX7_adds 163 = .ok (.putfield 129, 3) := by decide +kernel
theorem dX7_adds_166 : decode cX7_adds 166 = .ok (.return_, 1) := by decide +kernel
theorem dX7_builds_0 : decode cX7_builds 0 = .ok (.aload_n 0, 1) := by decide +kernel
theorem dX7_builds_1 : decode cX7_builds 1 = .ok (.iconst 0, 1) := by decide +kernel
theorem dX7_builds_2 : decode cX7_builds 2 = .ok (.putfield 129, 3) := by decide +kernel
theorem dX7_builds_5 : decode cX7_builds 5 = .ok (.iconst 0, 1) := by decide +kernel
theorem dX7_builds_6 : decode cX7_builds 6 = .ok (.istore_n 1, 1) := by decide +kernel
theorem dX7_builds_7 : decode cX7_builds 7 = .ok (.iload_n 1, 1) := by decide +kernel
theorem dX7_builds_8 : decode cX7_builds 8 = .ok (.aload_n 0, 1) := by decide +kernel
theorem dX7_builds_9 : decode cX7_builds 9 = .ok (.getfield 100, 3) := by decide +kernel
theorem dX7_builds_12 : decode cX7_builds 12 = .ok (.if_icmp .ge 21, 3) := by decide +kernel
theorem dX7_builds_15 : decode cX7_builds 15 = .ok (.aload_n 0, 1) := by decide +kernel
theorem dX7_builds_16 : decode cX7_builds 16 = .ok (.aload_n 0, 1) := by decide +kernel
theorem dX7_builds_17 : decode cX7_builds 17 = .ok (.getfield 25, 3) := by decide +kernel
theorem dX7_builds_20 : decode cX7_builds 20 = .ok (.bipush 10, 2) := by decide +kernel
theorem dX7_builds_22 : decode cX7_builds 22 = .ok (.iload_n 1, 1) := by decide +kernel
theorem dX7_builds_23 : decode cX7_builds 23 = .ok (.imul, 1) := by decide +kernel
theorem dX7_builds_24 : decode cX7_builds 24 = .ok (.invokevirtual 146, 3) := by decide +kernel
theorem dX7_builds_27 : decode cX7_builds 27 = .ok (.iinc 1 1, 3) := by decide +kernel
theorem dX7_builds_30 : decode cX7_builds 30 = .ok (.goto (-23), 3) := by decide +kernel
theorem dX7_builds_33 : decode cX7_builds 33 = .ok (.iconst 0, 1) := by decide +kernel
theorem dX7_builds_34 : decode cX7_builds 34 = .ok (.istore_n 1, 1) := by decide +kernel
theorem dX7_builds_35 : decode cX7_builds 35 = .ok (.iload_n 1, 1) := by decide +kernel
theorem dX7_builds_36 : decode cX7_builds 36 = .ok (.bipush 110, 2) := by decide +kernel
theorem dX7_builds_38 : decode cX7_builds 38 = .ok (.if_icmp .ge 21, 3) := by decide +kernel
theorem dX7_builds_41 : decode cX7_builds 41 = .ok (.aload_n 0, 1) := by decide +kernel
theorem dX7_builds_42 : decode cX7_builds 42 = .ok (.getfield 34, 3) := by decide +kernel
theorem dX7_builds_45 : decode cX7_builds 45 = .ok (.iload_n 1, 1) := by decide +kernel
theorem dX7_builds_46 : decode cX7_builds 46 = .ok (.aload_n 0, 1) := by decide +kernel
theorem dX7_builds_47 : decode cX7_builds 47 = .ok (.getfield 38, 3) := by decide +kernel
theorem dX7_builds_50 : decode cX7_builds 50 = .ok (.iload_n 1, 1) := by decide +kernel
theorem dX7_builds_51 : decode cX7_builds 51 = .ok (.laload, 1) := by decide +kernel
theorem dX7_builds_52 : decode cX7_builds 52 = .ok (.lastore, 1) := by decide +kernel
theorem dX7_builds_53 : decode cX7_builds 53 = .ok (.iinc 1 1, 3) := by decide +kernel
theorem dX7_builds_56 : decode cX7_builds 56 = .ok (.goto (-21), 3) := by decide +kernel
theorem dX7_builds_59 : decode cX7_builds 59 = .ok (.iconst 0, 1) := by decide +kernel
theorem dX7_builds_60 : decode cX7_builds 60 = .ok (.istore_n 1, 1) := by decide +kernel
theorem dX7_builds_61 : decode cX7_builds 61 = .ok (.iload_n 1, 1) := by decide +kernel
theorem dX7_builds_62 : decode cX7_builds 62 = .ok (.bipush 11, 2) := by decide +kernel
theorem dX7_builds_64 : decode cX7_builds 64 = .ok (.if_icmp .ge 21, 3) := by decide +kernel
theorem dX7_builds_67 : decode cX7_builds 67 = .ok (.aload_n 0, 1) := by decide +kernel
theorem dX7_builds_68 : decode cX7_builds 68 = .ok (.getfield 44, 3) := by decide +kernel
theorem dX7_builds_71 : decode cX7_builds 71 = .ok (.iload_n 1, 1) := by decide +kernel
theorem dX7_builds_72 : decode cX7_builds 72 = .ok (.aload_n 0, 1) := by decide +kernel
theorem dX7_builds_73 : decode cX7_builds 73 = .ok (.getfield 47, 3) := by decide +kernel
theorem dX7_builds_76 : decode cX7_builds 76 = .ok (.iload_n 1, 1) := by decide +kernel
theorem dX7_builds_77 : decode cX7_builds 77 = .ok (.iaload, 1) := by decide +kernel
theorem dX7_builds_78 : decode cX7_builds 78 = .ok (.iastore, 1) := by decide +kernel
theorem dX7_builds_79 : decode cX7_builds 79 = .ok (.iinc 1 1, 3) := by decide +kernel
theorem dX7_builds_82 : decode cX7_builds 82 = .ok (.goto (-21), 3) := by decide +kernel
theorem dX7_builds_85 : decode cX7_builds 85 = .ok (.aload_n 0, 1) := by decide +kernel
theorem dX7_builds_86 : decode cX7_builds 86 = .ok (.aload_n 0, 1) := by decide +kernel
theorem dX7_builds_87 : decode cX7_builds 87 = .ok (.getfield 129, 3) := by decide +kernel
theorem dX7_builds_90 : decode cX7_builds 90 = .ok (.putfield 126, 3) := by decide +kernel
theorem dX7_builds_93 : decode cX7_builds 93 = .ok (.return_, 1) := by decide +kernel
theorem dX7_manyNot0_0 : decode cX7_manyNot0 0 = .ok (.iconst 0, 1) := by decide +kernel
theorem dX7_manyNot0_1 : decode cX7_manyNot0 1 = .ok (.istore_n 2, 1) := by decide +kernel
theorem dX7_manyNot0_2 : decode cX7_manyNot0 2 = .ok (.iconst 0, 1) := by decide +kernel
theorem dX7_manyNot0_3 : decode cX7_manyNot0 3 = .ok (.istore_n 3, 1) := by decide +kernel
theorem dX7_manyNot0_4 : decode cX7_manyNot0 4 = .ok (.iload_n 3, 1) := by decide +kernel
theorem dX7_manyNot0_5 : decode cX7_manyNot0 5 = .ok (.bipush 10, 2) := by decide +kernel
theorem dX7_manyNot0_7 : decode cX7_manyNot0 7 = .ok (.if_icmp .ge 33, 3) := by decide +kernel
theorem dX7_manyNot0_10 : decode cX7_manyNot0 10 = .ok (.iload_n 2, 1) := by decide +kernel
theorem dX7_manyNot0_11 : decode cX7_manyNot0 11 = .ok (.aload_n 0, 1) := by decide +kernel
theorem dX7_manyNot0_12 : decode cX7_manyNot0 12 = .ok (.getfield 38, 3) := by decide +kernel
theorem dX7_manyNot0_15 : decode cX7_manyNot0 15 = .ok (.bipush 10, 2) := by decide +kernel
theorem dX7_manyNot0_17 : decode cX7_manyNot0 17 = .ok (.iload_n 1, 1) := by decide +kernel
theorem dX7_manyNot0_18 : decode cX7_manyNot0 18 = .ok (.imul, 1) := by decide +kernel
theorem dX7_manyNot0_19 : decode cX7_manyNot0 19 = .ok (.iload_n 3, 1) := by decide +kernel
theorem dX7_manyNot0_20 : decode cX7_manyNot0 20 = .ok (.iadd, 1) := by decide +kernel
theorem dX7_manyNot0_21 : decode cX7_manyNot0 21 = .ok (.laload, 1) := by decide +kernel
theorem dX7_manyNot0_22 : decode cX7_manyNot0 22 = .ok (.lconst 0, 1) := by decide +kernel
theorem dX7_manyNot0_23 : decode cX7_manyNot0 23 = .ok (.lcmp, 1) := by decide +kernel
theorem dX7_manyNot0_24 : decode cX7_manyNot0 24 = .ok (.ifCond .eq 7, 3) := by decide +kernel
theorem dX7_manyNot0_27 : decode cX7_manyNot0 27 = .ok (.iconst 1, 1) := by decide +kernel
theorem dX7_manyNot0_28 : decode cX7_manyNot0 28 = .ok (.goto 4, 3) := by decide +kernel
theorem dX7_manyNot0_31 : decode cX7_manyNot0 31 = .ok (.iconst 0, 1) := by decide +kernel
theorem dX7_manyNot0_32 : decode cX7_manyNot0 32 = .ok (.iadd, 1) := by decide +kernel
theorem dX7_manyNot0_33 : decode cX7_manyNot0 33 = .ok (.istore_n 2, 1) := by decide +kernel
theorem dX7_manyNot0_34 : decode cX7_manyNot0 34 = .ok (.iinc 3 1, 3) := by decide +kernel
theorem dX7_manyNot0_37 : decode cX7_manyNot0 37 = .ok (.goto (-33), 3) := by decide +kernel
theorem dX7_manyNot0_40 : decode cX7_manyNot0 40 = .ok (.iload_n 2, 1) := by decide +kernel
theorem dX7_manyNot0_41 : decode cX7_manyNot0 41 = .ok (.ireturn, 1) := by decide +kernel
theorem dX7_isFixed_0 : decode cX7_isFixed 0 = .ok (.iconst 0, 1) := by decide +kernel
theorem dX7_isFixed_1 : decode cX7_isFixed 1 = .ok (.istore_n 2, 1) := by decide +kernel
theorem dX7_isFixed_2 : decode cX7_isFixed 2 = .ok (.iload_n 2, 1) := by decide +kernel
theorem dX7_isFixed_3 : decode cX7_isFixed 3 = .ok (.aload_n 0, 1) := by decide +kernel
theorem dX7_isFixed_4 : decode cX7_isFixed 4 = .ok (.getfield 129, 3) := by decide +kernel
theorem dX7_isFixed_7 : decode cX7_isFixed 7 = .ok (.if_icmp .ge 30, 3) := by decide +kernel
theorem dX7_isFixed_10 : decode cX7_isFixed 10 = .ok (.aload_n 0, 1) := by decide +kernel
theorem dX7_isFixed_11 : decode cX7_isFixed 11 = .ok (.getfield 47, 3) := by decide +kernel
theorem dX7_isFixed_14 : decode cX7_isFixed 14 = .ok (.iload_n 2, 1) := by decide +kernel
theorem dX7_isFixed_15 : decode cX7_isFixed 15 = .ok (.iaload, 1) := by decide +kernel
theorem dX7_isFixed_16 : decode cX7_isFixed 16 = .ok (.iload_n 1, 1) := by decide +kernel
theorem dX7_isFixed_17 : decode cX7_isFixed 17 = .ok (.if_icmp .ne 14, 3) := by decide +kernel
theorem dX7_isFixed_20 : decode cX7_isFixed 20 = .ok (.aload_n 0, 1) := by decide +kernel
theorem dX7_isFixed_21 : decode cX7_isFixed 21 = .ok (.iload_n 2, 1) := by decide +kernel
theorem dX7_isFixed_22 : decode cX7_isFixed 22 = .ok (.invokevirtual 149, 3) := by decide +kernel
theorem dX7_isFixed_25 : decode cX7_isFixed 25 = .ok (.iconst 1, 1) := by decide +kernel
theorem dX7_isFixed_26 : decode cX7_isFixed 26 = .ok (.if_icmp .ne 5, 3) := by decide +kernel
theorem dX7_isFixed_29 : decode cX7_isFixed 29 = .ok (.iconst 1, 1) := by decide +kernel
theorem dX7_isFixed_30 : decode cX7_isFixed 30 = .ok (.ireturn, 1) := by decide +kernel
theorem dX7_isFixed_31 : decode cX7_isFixed 31 = .ok (.iinc 2 1, 3) := by decide +kernel
theorem dX7_isFixed_34 : decode cX7_isFixed 34 = .ok (.goto (-32), 3) := by decide +kernel
theorem dX7_isFixed_37 : decode cX7_isFixed 37 = .ok (.iconst 0, 1) := by decide +kernel
theorem dX7_isFixed_38 : decode cX7_isFixed 38 = .ok (.ireturn, 1) := by decide +kernel
theorem dX7_isAnyFixed_0 : decode cX7_isAnyFixed 0 = .ok (.iconst 0, 1) := by decide +kernel
theorem dX7_isAnyFixed_1 : decode cX7_isAnyFixed 1 = .ok (.istore_n 1, 1) := by decide +kernel
theorem dX7_isAnyFixed_2 : decode cX7_isAnyFixed 2 = .ok (.iload_n 1, 1) := by decide +kernel
theorem dX7_isAnyFixed_3 : decode cX7_isAnyFixed 3 = .ok (.aload_n 0, 1) := by decide +kernel
theorem dX7_isAnyFixed_4 : decode cX7_isAnyFixed 4 = .ok (.getfield 129, 3) := by decide +kernel
theorem dX7_isAnyFixed_7 : decode cX7_isAnyFixed 7 = .ok (.if_icmp .ge 20, 3) := by decide +kernel
theorem dX7_isAnyFixed_10 : decode cX7_isAnyFixed 10 = .ok (.aload_n 0, 1) := by decide +kernel
theorem dX7_isAnyFixed_11 : decode cX7_isAnyFixed 11 = .ok (.iload_n 1, 1) := by decide +kernel
theorem dX7_isAnyFixed_12 : decode cX7_isAnyFixed 12 = .ok (.invokevirtual 149, 3) := by decide +kernel
theorem dX7_isAnyFixed_15 : decode cX7_isAnyFixed 15 = .ok (.iconst 1, 1) := by decide +kernel
theorem dX7_isAnyFixed_16 : decode cX7_isAnyFixed 16 = .ok (.if_icmp .ne 5, 3) := by decide +kernel
theorem dX7_isAnyFixed_19 : decode cX7_isAnyFixed 19 = .ok (.iconst 1, 1) := by decide +kernel
theorem dX7_isAnyFixed_20 : decode cX7_isAnyFixed 20 = .ok (.ireturn, 1) := by decide +kernel
theorem dX7_isAnyFixed_21 : decode cX7_isAnyFixed 21 = .ok (.iinc 1 1, 3) := by decide +kernel
theorem dX7_isAnyFixed_24 : decode cX7_isAnyFixed 24 = .ok (.goto (-22), 3) := by decide +kernel
theorem dX7_isAnyFixed_27 : decode cX7_isAnyFixed 27 = .ok (.iconst 0, 1) := by decide +kernel
theorem dX7_isAnyFixed_28 : decode cX7_isAnyFixed 28 = .ok (.ireturn, 1) := by decide +kernel
theorem dX7_isPivot_0 : decode cX7_isPivot 0 = .ok (.iconst 0, 1) := by decide +kernel
theorem dX7_isPivot_1 : decode cX7_isPivot 1 = .ok (.istore_n 2, 1) := by decide +kernel
theorem dX7_isPivot_2 : decode cX7_isPivot 2 = .ok (.iload_n 2, 1) := by decide +kernel
theorem dX7_isPivot_3 : decode cX7_isPivot 3 = .ok (.aload_n 0, 1) := by decide +kernel
theorem dX7_isPivot_4 : decode cX7_isPivot 4 = .ok (.getfield 129, 3) := by decide +kernel
theorem dX7_isPivot_7 : decode cX7_isPivot 7 = .ok (.if_icmp .ge 21, 3) := by decide +kernel
theorem dX7_isPivot_10 : decode cX7_isPivot 10 = .ok (.aload_n 0, 1) := by decide +kernel
theorem dX7_isPivot_11 : decode cX7_isPivot 11 = .ok (.getfield 47, 3) := by decide +kernel
theorem dX7_isPivot_14 : decode cX7_isPivot 14 = .ok (.iload_n 2, 1) := by decide +kernel
theorem dX7_isPivot_15 : decode cX7_isPivot 15 = .ok (.iaload, 1) := by decide +kernel
theorem dX7_isPivot_16 : decode cX7_isPivot 16 = .ok (.iload_n 1, 1) := by decide +kernel
theorem dX7_isPivot_17 : decode cX7_isPivot 17 = .ok (.if_icmp .ne 5, 3) := by decide +kernel
theorem dX7_isPivot_20 : decode cX7_isPivot 20 = .ok (.iconst 1, 1) := by decide +kernel
theorem dX7_isPivot_21 : decode cX7_isPivot 21 = .ok (.ireturn, 1) := by decide +kernel
theorem dX7_isPivot_22 : decode cX7_isPivot 22 = .ok (.iinc 2 1, 3) := by decide +kernel
theorem dX7_isPivot_25 : decode cX7_isPivot 25 = .ok (.goto (-23), 3) := by decide +kernel
theorem dX7_isPivot_28 : decode cX7_isPivot 28 = .ok (.iconst 0, 1) := by decide +kernel
theorem dX7_isPivot_29 : decode cX7_isPivot 29 = .ok (.ireturn, 1) := by decide +kernel
theorem dX7_areAlike_0 : decode cX7_areAlike 0 = .ok (.iconst 0, 1) := by decide +kernel
theorem dX7_areAlike_1 : decode cX7_areAlike 1 = .ok (.istore_n 3, 1) := by decide +kernel
theorem dX7_areAlike_2 : decode cX7_areAlike 2 = .ok (.iload_n 3, 1) := by decide +kernel
theorem dX7_areAlike_3 : decode cX7_areAlike 3 = .ok (.bipush 10, 2) := by decide +kernel
theorem dX7_areAlike_5 : decode cX7_areAlike 5 = .ok (.if_icmp .ge 156, 3) := by decide +kernel
theorem dX7_areAlike_8 : decode cX7_areAlike 8 = .ok (.iload_n 3, 1) := by decide +kernel
theorem dX7_areAlike_9 : decode cX7_areAlike 9 = .ok (.iconst 1, 1) := by decide +kernel
theorem dX7_areAlike_10 : decode cX7_areAlike 10 = .ok (.iadd, 1) := by decide +kernel
theorem dX7_areAlike_11 : decode cX7_areAlike 11 = .ok (.istore 4, 2) := by decide +kernel
theorem dX7_areAlike_13 : decode cX7_areAlike 13 = .ok (.iload 4, 2) := by decide +kernel
theorem dX7_areAlike_15 : decode cX7_areAlike 15 = .ok (.bipush 10, 2) := by decide +kernel
theorem dX7_areAlike_17 : decode cX7_areAlike 17 = .ok (.if_icmp .ge 83, 3) := by decide +kernel
theorem dX7_areAlike_20 : decode cX7_areAlike 20 = .ok (.aload_n 0, 1) := by decide +kernel
theorem dX7_areAlike_21 : decode cX7_areAlike 21 = .ok (.iload_n 3, 1) := by decide +kernel
theorem dX7_areAlike_22 : decode cX7_areAlike 22 = .ok (.invokevirtual 153, 3) := by decide +kernel
theorem dX7_areAlike_25 : decode cX7_areAlike 25 = .ok (.ifCond .ne 69, 3) := by decide +kernel
theorem dX7_areAlike_28 : decode cX7_areAlike 28 = .ok (.aload_n 0, 1) := by decide +kernel
theorem dX7_areAlike_29 : decode cX7_areAlike 29 = .ok (.iload 4, 2) := by decide +kernel
theorem dX7_areAlike_31 : decode cX7_areAlike 31 = .ok (.invokevirtual 153, 3) := by decide +kernel
theorem dX7_areAlike_34 : decode cX7_areAlike 34 = .ok (.ifCond .eq 6, 3) := by decide +kernel
theorem dX7_areAlike_37 : decode cX7_areAlike 37 = .ok (.goto 57, 3) := by decide +kernel
theorem dX7_areAlike_40 : decode cX7_areAlike 40 = .ok (.aload_n 0, 1) := by decide +kernel
theorem dX7_areAlike_41 : decode cX7_areAlike 41 = .ok (.getfield 38, 3) := by decide +kernel
theorem dX7_areAlike_44 : decode cX7_areAlike 44 = .ok (.bipush 10, 2) := by decide +kernel
theorem dX7_areAlike_46 : decode cX7_areAlike 46 = .ok (.iload_n 1, 1) := by decide +kernel
theorem dX7_areAlike_47 : decode cX7_areAlike 47 = .ok (.imul, 1) := by decide +kernel
theorem dX7_areAlike_48 : decode cX7_areAlike 48 = .ok (.iload_n 3, 1) := by decide +kernel
theorem dX7_areAlike_49 : decode cX7_areAlike 49 = .ok (.iadd, 1) := by decide +kernel
theorem dX7_areAlike_50 : decode cX7_areAlike 50 = .ok (.laload, 1) := by decide +kernel
theorem dX7_areAlike_51 : decode cX7_areAlike 51 = .ok (.aload_n 0, 1) := by decide +kernel
theorem dX7_areAlike_52 : decode cX7_areAlike 52 = .ok (.getfield 38, 3) := by decide +kernel
theorem dX7_areAlike_55 : decode cX7_areAlike 55 = .ok (.bipush 10, 2) := by decide +kernel
theorem dX7_areAlike_57 : decode cX7_areAlike 57 = .ok (.iload_n 2, 1) := by decide +kernel
theorem dX7_areAlike_58 : decode cX7_areAlike 58 = .ok (.imul, 1) := by decide +kernel
theorem dX7_areAlike_59 : decode cX7_areAlike 59 = .ok (.iload 4, 2) := by decide +kernel
theorem dX7_areAlike_61 : decode cX7_areAlike 61 = .ok (.iadd, 1) := by decide +kernel
theorem dX7_areAlike_62 : decode cX7_areAlike 62 = .ok (.laload, 1) := by decide +kernel
theorem dX7_areAlike_63 : decode cX7_areAlike 63 = .ok (.lmul, 1) := by decide +kernel
theorem dX7_areAlike_64 : decode cX7_areAlike 64 = .ok (.aload_n 0, 1) := by decide +kernel
theorem dX7_areAlike_65 : decode cX7_areAlike 65 = .ok (.getfield 38, 3) := by decide +kernel
theorem dX7_areAlike_68 : decode cX7_areAlike 68 = .ok (.bipush 10, 2) := by decide +kernel
theorem dX7_areAlike_70 : decode cX7_areAlike 70 = .ok (.iload_n 1, 1) := by decide +kernel
theorem dX7_areAlike_71 : decode cX7_areAlike 71 = .ok (.imul, 1) := by decide +kernel
theorem dX7_areAlike_72 : decode cX7_areAlike 72 = .ok (.iload 4, 2) := by decide +kernel
theorem dX7_areAlike_74 : decode cX7_areAlike 74 = .ok (.iadd, 1) := by decide +kernel
theorem dX7_areAlike_75 : decode cX7_areAlike 75 = .ok (.laload, 1) := by decide +kernel
theorem dX7_areAlike_76 : decode cX7_areAlike 76 = .ok (.aload_n 0, 1) := by decide +kernel
theorem dX7_areAlike_77 : decode cX7_areAlike 77 = .ok (.getfield 38, 3) := by decide +kernel
theorem dX7_areAlike_80 : decode cX7_areAlike 80 = .ok (.bipush 10, 2) := by decide +kernel
theorem dX7_areAlike_82 : decode cX7_areAlike 82 = .ok (.iload_n 2, 1) := by decide +kernel
theorem dX7_areAlike_83 : decode cX7_areAlike 83 = .ok (.imul, 1) := by decide +kernel
theorem dX7_areAlike_84 : decode cX7_areAlike 84 = .ok (.iload_n 3, 1) := by decide +kernel
theorem dX7_areAlike_85 : decode cX7_areAlike 85 = .ok (.iadd, 1) := by decide +kernel
theorem dX7_areAlike_86 : decode cX7_areAlike 86 = .ok (.laload, 1) := by decide +kernel
theorem dX7_areAlike_87 : decode cX7_areAlike 87 = .ok (.lmul, 1) := by decide +kernel
theorem dX7_areAlike_88 : decode cX7_areAlike 88 = .ok (.lcmp, 1) := by decide +kernel
theorem dX7_areAlike_89 : decode cX7_areAlike 89 = .ok (.ifCond .eq 5, 3) := by decide +kernel
theorem dX7_areAlike_92 : decode cX7_areAlike 92 = .ok (.iconst 0, 1) := by decide +kernel
theorem dX7_areAlike_93 : decode cX7_areAlike 93 = .ok (.ireturn, 1) := by decide +kernel
theorem dX7_areAlike_94 : decode cX7_areAlike 94 = .ok (.iinc 4 1, 3) := by decide +kernel
theorem dX7_areAlike_97 : decode cX7_areAlike 97 = .ok (.goto (-84), 3) := by decide +kernel
theorem dX7_areAlike_100 : decode cX7_areAlike 100 = .ok (.aload_n 0, 1) := by decide +kernel
theorem dX7_areAlike_101 : decode cX7_areAlike 101 = .ok (.iload_n 3, 1) := by decide +kernel
theorem dX7_areAlike_102 : decode cX7_areAlike 102 = .ok (.invokevirtual 153, 3) := by decide +kernel
theorem dX7_areAlike_105 : decode cX7_areAlike 105 = .ok (.ifCond .ne 50, 3) := by decide +kernel
theorem dX7_areAlike_108 : decode cX7_areAlike 108 = .ok (.aload_n 0, 1) := by decide +kernel
theorem dX7_areAlike_109 : decode cX7_areAlike 109 = .ok (.getfield 38, 3) := by decide +kernel
theorem dX7_areAlike_112 : decode cX7_areAlike 112 = .ok (.bipush 10, 2) := by decide +kernel
theorem dX7_areAlike_114 : decode cX7_areAlike 114 = .ok (.iload_n 1, 1) := by decide +kernel
theorem dX7_areAlike_115 : decode cX7_areAlike 115 = .ok (.imul, 1) := by decide +kernel
theorem dX7_areAlike_116 : decode cX7_areAlike 116 = .ok (.iload_n 3, 1) := by decide +kernel
theorem dX7_areAlike_117 : decode cX7_areAlike 117 = .ok (.iadd, 1) := by decide +kernel
theorem dX7_areAlike_118 : decode cX7_areAlike 118 = .ok (.laload, 1) := by decide +kernel
theorem dX7_areAlike_119 : decode cX7_areAlike 119 = .ok (.lconst 0, 1) := by decide +kernel
theorem dX7_areAlike_120 : decode cX7_areAlike 120 = .ok (.lcmp, 1) := by decide +kernel
theorem dX7_areAlike_121 : decode cX7_areAlike 121 = .ok (.ifCond .ne 7, 3) := by decide +kernel
theorem dX7_areAlike_124 : decode cX7_areAlike 124 = .ok (.iconst 1, 1) := by decide +kernel
theorem dX7_areAlike_125 : decode cX7_areAlike 125 = .ok (.goto 4, 3) := by decide +kernel
theorem dX7_areAlike_128 : decode cX7_areAlike 128 = .ok (.iconst 0, 1) := by decide +kernel
theorem dX7_areAlike_129 : decode cX7_areAlike 129 = .ok (.aload_n 0, 1) := by decide +kernel
theorem dX7_areAlike_130 : decode cX7_areAlike 130 = .ok (.getfield 38, 3) := by decide +kernel
theorem dX7_areAlike_133 : decode cX7_areAlike 133 = .ok (.bipush 10, 2) := by decide +kernel
theorem dX7_areAlike_135 : decode cX7_areAlike 135 = .ok (.iload_n 2, 1) := by decide +kernel
theorem dX7_areAlike_136 : decode cX7_areAlike 136 = .ok (.imul, 1) := by decide +kernel
theorem dX7_areAlike_137 : decode cX7_areAlike 137 = .ok (.iload_n 3, 1) := by decide +kernel
theorem dX7_areAlike_138 : decode cX7_areAlike 138 = .ok (.iadd, 1) := by decide +kernel
theorem dX7_areAlike_139 : decode cX7_areAlike 139 = .ok (.laload, 1) := by decide +kernel
theorem dX7_areAlike_140 : decode cX7_areAlike 140 = .ok (.lconst 0, 1) := by decide +kernel
theorem dX7_areAlike_141 : decode cX7_areAlike 141 = .ok (.lcmp, 1) := by decide +kernel
theorem dX7_areAlike_142 : decode cX7_areAlike 142 = .ok (.ifCond .ne 7, 3) := by decide +kernel
theorem dX7_areAlike_145 : decode cX7_areAlike 145 = .ok (.iconst 1, 1) := by decide +kernel
theorem dX7_areAlike_146 : decode cX7_areAlike 146 = .ok (.goto 4, 3) := by decide +kernel
theorem dX7_areAlike_149 : decode cX7_areAlike 149 = .ok (.iconst 0, 1) := by decide +kernel
theorem dX7_areAlike_150 : decode cX7_areAlike 150 = .ok (.if_icmp .eq 5, 3) := by decide +kernel
theorem dX7_areAlike_153 : decode cX7_areAlike 153 = .ok (.iconst 0, 1) := by decide +kernel
theorem dX7_areAlike_154 : decode cX7_areAlike 154 = .ok (.ireturn, 1) := by decide +kernel
theorem dX7_areAlike_155 : decode cX7_areAlike 155 = .ok (.iinc 3 1, 3) := by decide +kernel
theorem dX7_areAlike_158 : decode cX7_areAlike 158 = .ok (.goto (-156), 3) := by decide +kernel
theorem dX7_areAlike_161 : decode cX7_areAlike 161 = .ok (.iconst 1, 1) := by decide +kernel
theorem dX7_areAlike_162 : decode cX7_areAlike 162 = .ok (.ireturn, 1) := by decide +kernel
theorem dX7_isAnyPaired_0 : decode cX7_isAnyPaired 0 = .ok (.iconst 0, 1) := by decide +kernel
theorem dX7_isAnyPaired_1 : decode cX7_isAnyPaired 1 = .ok (.istore_n 1, 1) := by decide +kernel
theorem dX7_isAnyPaired_2 : decode cX7_isAnyPaired 2 = .ok (.iload_n 1, 1) := by decide +kernel
theorem dX7_isAnyPaired_3 : decode cX7_isAnyPaired 3 = .ok (.aload_n 0, 1) := by decide +kernel
theorem dX7_isAnyPaired_4 : decode cX7_isAnyPaired 4 = .ok (.getfield 129, 3) := by decide +kernel
theorem dX7_isAnyPaired_7 : decode cX7_isAnyPaired 7 = .ok (.if_icmp .ge 49, 3) := by decide +kernel
theorem dX7_isAnyPaired_10 : decode cX7_isAnyPaired 10 = .ok (.aload_n 0, 1) := by decide +kernel
theorem dX7_isAnyPaired_11 : decode cX7_isAnyPaired 11 = .ok (.iload_n 1, 1) := by decide +kernel
theorem dX7_isAnyPaired_12 : decode cX7_isAnyPaired 12 = .ok (.invokevirtual 149, 3) := by decide +kernel
theorem dX7_isAnyPaired_15 : decode cX7_isAnyPaired 15 = .ok (.iconst 2, 1) := by decide +kernel
theorem dX7_isAnyPaired_16 : decode cX7_isAnyPaired 16 = .ok (.if_icmp .ne 5, 3) := by decide +kernel
theorem dX7_isAnyPaired_19 : decode cX7_isAnyPaired 19 = .ok (.iconst 1, 1) := by decide +kernel
theorem dX7_isAnyPaired_20 : decode cX7_isAnyPaired 20 = .ok (.ireturn, 1) := by decide +kernel
theorem dX7_isAnyPaired_21 : decode cX7_isAnyPaired 21 = .ok (.iload_n 1, 1) := by decide +kernel
theorem dX7_isAnyPaired_22 : decode cX7_isAnyPaired 22 = .ok (.iconst 1, 1) := by decide +kernel
theorem dX7_isAnyPaired_23 : decode cX7_isAnyPaired 23 = .ok (.iadd, 1) := by decide +kernel
theorem dX7_isAnyPaired_24 : decode cX7_isAnyPaired 24 = .ok (.istore_n 2, 1) := by decide +kernel
theorem dX7_isAnyPaired_25 : decode cX7_isAnyPaired 25 = .ok (.iload_n 2, 1) := by decide +kernel
theorem dX7_isAnyPaired_26 : decode cX7_isAnyPaired 26 = .ok (.aload_n 0, 1) := by decide +kernel
theorem dX7_isAnyPaired_27 : decode cX7_isAnyPaired 27 = .ok (.getfield 129, 3) := by decide +kernel
theorem dX7_isAnyPaired_30 : decode cX7_isAnyPaired 30 = .ok (.if_icmp .ge 20, 3) := by decide +kernel
theorem dX7_isAnyPaired_33 : decode cX7_isAnyPaired 33 = .ok (.aload_n 0, 1) := by decide +kernel
theorem dX7_isAnyPaired_34 : decode cX7_isAnyPaired 34 = .ok (.iload_n 1, 1) := by decide +kernel
theorem dX7_isAnyPaired_35 : decode cX7_isAnyPaired 35 = .ok (.iload_n 2, 1) := by decide +kernel
theorem dX7_isAnyPaired_36 : decode cX7_isAnyPaired 36 = .ok (.invokevirtual 157, 3) := by decide +kernel
theorem dX7_isAnyPaired_39 : decode cX7_isAnyPaired 39 = .ok (.ifCond .eq 5, 3) := by decide +kernel
theorem dX7_isAnyPaired_42 : decode cX7_isAnyPaired 42 = .ok (.iconst 1, 1) := by decide +kernel
theorem dX7_isAnyPaired_43 : decode cX7_isAnyPaired 43 = .ok (.ireturn, 1) := by decide +kernel
theorem dX7_isAnyPaired_44 : decode cX7_isAnyPaired 44 = .ok (.iinc 2 1, 3) := by decide +kernel
theorem dX7_isAnyPaired_47 : decode cX7_isAnyPaired 47 = .ok (.goto (-22), 3) := by decide +kernel
theorem dX7_isAnyPaired_50 : decode cX7_isAnyPaired 50 = .ok (.iinc 1 1, 3) := by decide +kernel
theorem dX7_isAnyPaired_53 : decode cX7_isAnyPaired 53 = .ok (.goto (-51), 3) := by decide +kernel
theorem dX7_isAnyPaired_56 : decode cX7_isAnyPaired 56 = .ok (.iconst 0, 1) := by decide +kernel
theorem dX7_isAnyPaired_57 : decode cX7_isAnyPaired 57 = .ok (.ireturn, 1) := by decide +kernel
theorem dX7_isForbidden_0 : decode cX7_isForbidden 0 = .ok (.aload_n 0, 1) := by decide +kernel
theorem dX7_isForbidden_1 : decode cX7_isForbidden 1 = .ok (.invokevirtual 160, 3) := by decide +kernel
theorem dX7_isForbidden_4 : decode cX7_isForbidden 4 = .ok (.ifCond .eq 5, 3) := by decide +kernel
theorem dX7_isForbidden_7 : decode cX7_isForbidden 7 = .ok (.iconst 1, 1) := by decide +kernel
theorem dX7_isForbidden_8 : decode cX7_isForbidden 8 = .ok (.ireturn, 1) := by decide +kernel
theorem dX7_isForbidden_9 : decode cX7_isForbidden 9 = .ok (.iload_n 1, 1) := by decide +kernel
theorem dX7_isForbidden_10 : decode cX7_isForbidden 10 = .ok (.iconst 1, 1) := by decide +kernel
theorem dX7_isForbidden_11 : decode cX7_isForbidden 11 = .ok (.if_icmp .ne 22, 3) := by decide +kernel
theorem dX7_isForbidden_14 : decode cX7_isForbidden 14 = .ok (.aload_n 0, 1) := by decide +kernel
theorem dX7_isForbidden_15 : decode cX7_isForbidden 15 = .ok (.getfield 107, 3) := by decide +kernel
theorem dX7_isForbidden_18 : decode cX7_isForbidden 18 = .ok (.iconst 2, 1) := by decide +kernel
theorem dX7_isForbidden_19 : decode cX7_isForbidden 19 = .ok (.bipush 6, 2) := by decide +kernel
theorem dX7_isForbidden_21 : decode cX7_isForbidden 21 = .ok (.invokestatic 96, 3) := by decide +kernel
theorem dX7_isForbidden_24 : decode cX7_isForbidden 24 = .ok (.ifCond .ne 7, 3) := by decide +kernel
theorem dX7_isForbidden_27 : decode cX7_isForbidden 27 = .ok (.iconst 1, 1) := by decide +kernel
theorem dX7_isForbidden_28 : decode cX7_isForbidden 28 = .ok (.goto 4, 3) := by decide +kernel
theorem dX7_isForbidden_31 : decode cX7_isForbidden 31 = .ok (.iconst 0, 1) := by decide +kernel
theorem dX7_isForbidden_32 : decode cX7_isForbidden 32 = .ok (.ireturn, 1) := by decide +kernel
theorem dX7_isForbidden_33 : decode cX7_isForbidden 33 = .ok (.iload_n 1, 1) := by decide +kernel
theorem dX7_isForbidden_34 : decode cX7_isForbidden 34 = .ok (.iconst 2, 1) := by decide +kernel
theorem dX7_isForbidden_35 : decode cX7_isForbidden 35 = .ok (.if_icmp .ne 10, 3) := by decide +kernel
theorem dX7_isForbidden_38 : decode cX7_isForbidden 38 = .ok (.aload_n 0, 1) := by decide +kernel
theorem dX7_isForbidden_39 : decode cX7_isForbidden 39 = .ok (.invokevirtual 164, 3) := by decide +kernel
theorem dX7_isForbidden_42 : decode cX7_isForbidden 42 = .ok (.goto 21, 3) := by decide +kernel
theorem dX7_isForbidden_45 : decode cX7_isForbidden 45 = .ok (.iload_n 1, 1) := by decide +kernel
theorem dX7_isForbidden_46 : decode cX7_isForbidden 46 = .ok (.iconst 3, 1) := by decide +kernel
theorem dX7_isForbidden_47 : decode cX7_isForbidden 47 = .ok (.if_icmp .ne 15, 3) := by decide +kernel
theorem dX7_isForbidden_50 : decode cX7_isForbidden 50 = .ok (.aload_n 0, 1) := by decide +kernel
theorem dX7_isForbidden_51 : decode cX7_isForbidden 51 = .ok (.getfield 129, 3) := by decide +kernel
theorem dX7_isForbidden_54 : decode cX7_isForbidden 54 = .ok (.iload_n 2, 1) := by decide +kernel
theorem dX7_isForbidden_55 : decode cX7_isForbidden 55 = .ok (.if_icmp .le 7, 3) := by decide +kernel
theorem dX7_isForbidden_58 : decode cX7_isForbidden 58 = .ok (.iconst 1, 1) := by decide +kernel
theorem dX7_isForbidden_59 : decode cX7_isForbidden 59 = .ok (.goto 4, 3) := by decide +kernel
theorem dX7_isForbidden_62 : decode cX7_isForbidden 62 = .ok (.iconst 0, 1) := by decide +kernel
theorem dX7_isForbidden_63 : decode cX7_isForbidden 63 = .ok (.ireturn, 1) := by decide +kernel
theorem dX7_meetsBy_0 : decode cX7_meetsBy 0 = .ok (.aload_n 0, 1) := by decide +kernel
theorem dX7_meetsBy_1 : decode cX7_meetsBy 1 = .ok (.invokevirtual 167, 3) := by decide +kernel
theorem dX7_meetsBy_4 : decode cX7_meetsBy 4 = .ok (.aload_n 0, 1) := by decide +kernel
theorem dX7_meetsBy_5 : decode cX7_meetsBy 5 = .ok (.aload_n 0, 1) := by decide +kernel
theorem dX7_meetsBy_6 : decode cX7_meetsBy 6 = .ok (.getfield 31, 3) := by decide +kernel
theorem dX7_meetsBy_9 : decode cX7_meetsBy 9 = .ok (.iconst 0, 1) := by decide +kernel
theorem dX7_meetsBy_10 : decode cX7_meetsBy 10 = .ok (.invokevirtual 136, 3) := by decide +kernel
theorem dX7_meetsBy_13 : decode cX7_meetsBy 13 = .ok (.aload_n 0, 1) := by decide +kernel
theorem dX7_meetsBy_14 : decode cX7_meetsBy 14 = .ok (.invokevirtual 140, 3) := by decide +kernel
theorem dX7_meetsBy_17 : decode cX7_meetsBy 17 = .ok (.ifCond .ge 5, 3) := by decide +kernel
theorem dX7_meetsBy_20 : decode cX7_meetsBy 20 = .ok (.iconst 0, 1) := by decide +kernel
theorem dX7_meetsBy_21 : decode cX7_meetsBy 21 = .ok (.ireturn, 1) := by decide +kernel
theorem dX7_meetsBy_22 : decode cX7_meetsBy 22 = .ok (.aload_n 0, 1) := by decide +kernel
theorem dX7_meetsBy_23 : decode cX7_meetsBy 23 = .ok (.aload_n 0, 1) := by decide +kernel
theorem dX7_meetsBy_24 : decode cX7_meetsBy 24 = .ok (.getfield 31, 3) := by decide +kernel
theorem dX7_meetsBy_27 : decode cX7_meetsBy 27 = .ok (.iconst 0, 1) := by decide +kernel
theorem dX7_meetsBy_28 : decode cX7_meetsBy 28 = .ok (.invokevirtual 146, 3) := by decide +kernel
theorem dX7_meetsBy_31 : decode cX7_meetsBy 31 = .ok (.aload_n 0, 1) := by decide +kernel
theorem dX7_meetsBy_32 : decode cX7_meetsBy 32 = .ok (.iload_n 1, 1) := by decide +kernel
theorem dX7_meetsBy_33 : decode cX7_meetsBy 33 = .ok (.iload_n 2, 1) := by decide +kernel
theorem dX7_meetsBy_34 : decode cX7_meetsBy 34 = .ok (.invokevirtual 170, 3) := by decide +kernel
theorem dX7_meetsBy_37 : decode cX7_meetsBy 37 = .ok (.ifCond .eq 7, 3) := by decide +kernel
theorem dX7_meetsBy_40 : decode cX7_meetsBy 40 = .ok (.iconst 2, 1) := by decide +kernel
theorem dX7_meetsBy_41 : decode cX7_meetsBy 41 = .ok (.goto 4, 3) := by decide +kernel
theorem dX7_meetsBy_44 : decode cX7_meetsBy 44 = .ok (.iconst 1, 1) := by decide +kernel
theorem dX7_meetsBy_45 : decode cX7_meetsBy 45 = .ok (.ireturn, 1) := by decide +kernel
theorem dX7_meetsNow_0 : decode cX7_meetsNow 0 = .ok (.aload_n 0, 1) := by decide +kernel
theorem dX7_meetsNow_1 : decode cX7_meetsNow 1 = .ok (.invokevirtual 173, 3) := by decide +kernel
theorem dX7_meetsNow_4 : decode cX7_meetsNow 4 = .ok (.aload_n 0, 1) := by decide +kernel
theorem dX7_meetsNow_5 : decode cX7_meetsNow 5 = .ok (.aload_n 0, 1) := by decide +kernel
theorem dX7_meetsNow_6 : decode cX7_meetsNow 6 = .ok (.getfield 176, 3) := by decide +kernel
theorem dX7_meetsNow_9 : decode cX7_meetsNow 9 = .ok (.aload_n 0, 1) := by decide +kernel
theorem dX7_meetsNow_10 : decode cX7_meetsNow 10 = .ok (.getfield 90, 3) := by decide +kernel
theorem dX7_meetsNow_13 : decode cX7_meetsNow 13 = .ok (.invokevirtual 179, 3) := by decide +kernel
theorem dX7_meetsNow_16 : decode cX7_meetsNow 16 = .ok (.ireturn, 1) := by decide +kernel
theorem dX7_joins_0 : decode cX7_joins 0 = .ok (.iconst 0, 1) := by decide +kernel
theorem dX7_joins_1 : decode cX7_joins 1 = .ok (.istore_n 1, 1) := by decide +kernel
theorem dX7_joins_2 : decode cX7_joins 2 = .ok (.iload_n 1, 1) := by decide +kernel
theorem dX7_joins_3 : decode cX7_joins 3 = .ok (.bipush 10, 2) := by decide +kernel
theorem dX7_joins_5 : decode cX7_joins 5 = .ok (.if_icmp .ge 29, 3) := by decide +kernel
theorem dX7_joins_8 : decode cX7_joins 8 = .ok (.aload_n 0, 1) := by decide +kernel
theorem dX7_joins_9 : decode cX7_joins 9 = .ok (.getfield 25, 3) := by decide +kernel
theorem dX7_joins_12 : decode cX7_joins 12 = .ok (.bipush 10, 2) := by decide +kernel
theorem dX7_joins_14 : decode cX7_joins 14 = .ok (.aload_n 0, 1) := by decide +kernel
theorem dX7_joins_15 : decode cX7_joins 15 = .ok (.getfield 100, 3) := by decide +kernel
theorem dX7_joins_18 : decode cX7_joins 18 = .ok (.imul, 1) := by decide +kernel
theorem dX7_joins_19 : decode cX7_joins 19 = .ok (.iload_n 1, 1) := by decide +kernel
theorem dX7_joins_20 : decode cX7_joins 20 = .ok (.iadd, 1) := by decide +kernel
theorem dX7_joins_21 : decode cX7_joins 21 = .ok (.aload_n 0, 1) := by decide +kernel
theorem dX7_joins_22 : decode cX7_joins 22 = .ok (.getfield 31, 3) := by decide +kernel
theorem dX7_joins_25 : decode cX7_joins 25 = .ok (.iload_n 1, 1) := by decide +kernel
theorem dX7_joins_26 : decode cX7_joins 26 = .ok (.iaload, 1) := by decide +kernel
theorem dX7_joins_27 : decode cX7_joins 27 = .ok (.iastore, 1) := by decide +kernel
theorem dX7_joins_28 : decode cX7_joins 28 = .ok (.iinc 1 1, 3) := by decide +kernel
theorem dX7_joins_31 : decode cX7_joins 31 = .ok (.goto (-29), 3) := by decide +kernel
theorem dX7_joins_34 : decode cX7_joins 34 = .ok (.aload_n 0, 1) := by decide +kernel
theorem dX7_joins_35 : decode cX7_joins 35 = .ok (.getfield 28, 3) := by decide +kernel
theorem dX7_joins_38 : decode cX7_joins 38 = .ok (.aload_n 0, 1) := by decide +kernel
theorem dX7_joins_39 : decode cX7_joins 39 = .ok (.getfield 100, 3) := by decide +kernel
theorem dX7_joins_42 : decode cX7_joins 42 = .ok (.aload_n 0, 1) := by decide +kernel
theorem dX7_joins_43 : decode cX7_joins 43 = .ok (.invokevirtual 183, 3) := by decide +kernel
theorem dX7_joins_46 : decode cX7_joins 46 = .ok (.iastore, 1) := by decide +kernel
theorem dX7_joins_47 : decode cX7_joins 47 = .ok (.aload_n 0, 1) := by decide +kernel
theorem dX7_joins_48 : decode cX7_joins 48 = .ok (.dup, 1) := by decide +kernel
theorem dX7_joins_49 : decode cX7_joins 49 = .ok (.getfield 100, 3) := by decide +kernel
theorem dX7_joins_52 : decode cX7_joins 52 = .ok (.iconst 1, 1) := by decide +kernel
theorem dX7_joins_53 : decode cX7_joins 53 = .ok (.iadd, 1) := by decide +kernel
theorem dX7_joins_54 : decode cX7_joins 54 = .ok (.putfield 100, 3) := by decide +kernel
theorem dX7_joins_57 : decode cX7_joins 57 = .ok (.return_, 1) := by decide +kernel
theorem dX7_isAsked_0 : decode cX7_isAsked 0 = .ok (.aload_n 0, 1) := by decide +kernel
theorem dX7_isAsked_1 : decode cX7_isAsked 1 = .ok (.invokevirtual 186, 3) := by decide +kernel
theorem dX7_isAsked_4 : decode cX7_isAsked 4 = .ok (.istore_n 1, 1) := by decide +kernel
theorem dX7_isAsked_5 : decode cX7_isAsked 5 = .ok (.iload_n 1, 1) := by decide +kernel
theorem dX7_isAsked_6 : decode cX7_isAsked 6 = .ok (.iconst 1, 1) := by decide +kernel
theorem dX7_isAsked_7 : decode cX7_isAsked 7 = .ok (.if_icmp .ne 7, 3) := by decide +kernel
theorem dX7_isAsked_10 : decode cX7_isAsked 10 = .ok (.aload_n 0, 1) := by decide +kernel
theorem dX7_isAsked_11 : decode cX7_isAsked 11 = .ok (.invokevirtual 189, 3) := by decide +kernel
theorem dX7_isAsked_14 : decode cX7_isAsked 14 = .ok (.iload_n 1, 1) := by decide +kernel
theorem dX7_isAsked_15 : decode cX7_isAsked 15 = .ok (.ireturn, 1) := by decide +kernel
theorem dX7_passes_0 : decode cX7_passes 0 = .ok (.iconst 0, 1) := by decide +kernel
theorem dX7_passes_1 : decode cX7_passes 1 = .ok (.istore_n 2, 1) := by decide +kernel
theorem dX7_passes_2 : decode cX7_passes 2 = .ok (.iload_n 2, 1) := by decide +kernel
theorem dX7_passes_3 : decode cX7_passes 3 = .ok (.aload_n 1, 1) := by decide +kernel
theorem dX7_passes_4 : decode cX7_passes 4 = .ok (.arraylength, 1) := by decide +kernel
theorem dX7_passes_5 : decode cX7_passes 5 = .ok (.if_icmp .ge 53, 3) := by decide +kernel
theorem dX7_passes_8 : decode cX7_passes 8 = .ok (.aload_n 0, 1) := by decide +kernel
theorem dX7_passes_9 : decode cX7_passes 9 = .ok (.getfield 192, 3) := by decide +kernel
theorem dX7_passes_12 : decode cX7_passes 12 = .ok (.ifCond .eq 18, 3) := by decide +kernel
theorem dX7_passes_15 : decode cX7_passes 15 = .ok (.aload_n 0, 1) := by decide +kernel
theorem dX7_passes_16 : decode cX7_passes 16 = .ok (.getfield 50, 3) := by decide +kernel
theorem dX7_passes_19 : decode cX7_passes 19 = .ok (.aload_n 0, 1) := by decide +kernel
theorem dX7_passes_20 : decode cX7_passes 20 = .ok (.getfield 196, 3) := by decide +kernel
theorem dX7_passes_23 : decode cX7_passes 23 = .ok (.aload_n 1, 1) := by decide +kernel
theorem dX7_passes_24 : decode cX7_passes 24 = .ok (.iload_n 2, 1) := by decide +kernel
theorem dX7_passes_25 : decode cX7_passes 25 = .ok (.iaload, 1) := by decide +kernel
theorem dX7_passes_26 : decode cX7_passes 26 = .ok (.iastore, 1) := by decide +kernel
theorem dX7_passes_27 : decode cX7_passes 27 = .ok (.goto 15, 3) := by decide +kernel
theorem dX7_passes_30 : decode cX7_passes 30 = .ok (.aload_n 1, 1) := by decide +kernel
theorem dX7_passes_31 : decode cX7_passes 31 = .ok (.iload_n 2, 1) := by decide +kernel
theorem dX7_passes_32 : decode cX7_passes 32 = .ok (.aload_n 0, 1) := by decide +kernel
theorem dX7_passes_33 : decode cX7_passes 33 = .ok (.getfield 50, 3) := by decide +kernel
theorem dX7_passes_36 : decode cX7_passes 36 = .ok (.aload_n 0, 1) := by decide +kernel
theorem dX7_passes_37 : decode cX7_passes 37 = .ok (.getfield 196, 3) := by decide +kernel
theorem dX7_passes_40 : decode cX7_passes 40 = .ok (.iaload, 1) := by decide +kernel
theorem dX7_passes_41 : decode cX7_passes 41 = .ok (.iastore, 1) := by decide +kernel
theorem dX7_passes_42 : decode cX7_passes 42 = .ok (.aload_n 0, 1) := by decide +kernel
theorem dX7_passes_43 : decode cX7_passes 43 = .ok (.dup, 1) := by decide +kernel
theorem dX7_passes_44 : decode cX7_passes 44 = .ok (.getfield 196, 3) := by decide +kernel
theorem dX7_passes_47 : decode cX7_passes 47 = .ok (.iconst 1, 1) := by decide +kernel
theorem dX7_passes_48 : decode cX7_passes 48 = .ok (.iadd, 1) := by decide +kernel
theorem dX7_passes_49 : decode cX7_passes 49 = .ok (.putfield 196, 3) := by decide +kernel
theorem dX7_passes_52 : decode cX7_passes 52 = .ok (.iinc 2 1, 3) := by decide +kernel
theorem dX7_passes_55 : decode cX7_passes 55 = .ok (.goto (-53), 3) := by decide +kernel
theorem dX7_passes_58 : decode cX7_passes 58 = .ok (.return_, 1) := by decide +kernel
theorem dX7_passOne_0 : decode cX7_passOne 0 = .ok (.aload_n 0, 1) := by decide +kernel
theorem dX7_passOne_1 : decode cX7_passOne 1 = .ok (.getfield 192, 3) := by decide +kernel
theorem dX7_passOne_4 : decode cX7_passOne 4 = .ok (.ifCond .eq 7, 3) := by decide +kernel
theorem dX7_passOne_7 : decode cX7_passOne 7 = .ok (.iload_n 1, 1) := by decide +kernel
theorem dX7_passOne_8 : decode cX7_passOne 8 = .ok (.goto 12, 3) := by decide +kernel
theorem dX7_passOne_11 : decode cX7_passOne 11 = .ok (.aload_n 0, 1) := by decide +kernel
theorem dX7_passOne_12 : decode cX7_passOne 12 = .ok (.getfield 50, 3) := by decide +kernel
theorem dX7_passOne_15 : decode cX7_passOne 15 = .ok (.aload_n 0, 1) := by decide +kernel
theorem dX7_passOne_16 : decode cX7_passOne 16 = .ok (.getfield 196, 3) := by decide +kernel
theorem dX7_passOne_19 : decode cX7_passOne 19 = .ok (.iaload, 1) := by decide +kernel
theorem dX7_passOne_20 : decode cX7_passOne 20 = .ok (.istore_n 2, 1) := by decide +kernel
theorem dX7_passOne_21 : decode cX7_passOne 21 = .ok (.aload_n 0, 1) := by decide +kernel
theorem dX7_passOne_22 : decode cX7_passOne 22 = .ok (.getfield 192, 3) := by decide +kernel
theorem dX7_passOne_25 : decode cX7_passOne 25 = .ok (.ifCond .eq 13, 3) := by decide +kernel
theorem dX7_passOne_28 : decode cX7_passOne 28 = .ok (.aload_n 0, 1) := by decide +kernel
theorem dX7_passOne_29 : decode cX7_passOne 29 = .ok (.getfield 50, 3) := by decide +kernel
theorem dX7_passOne_32 : decode cX7_passOne 32 = .ok (.aload_n 0, 1) := by decide +kernel
theorem dX7_passOne_33 : decode cX7_passOne 33 = .ok (.getfield 196, 3) := by decide +kernel
theorem dX7_passOne_36 : decode cX7_passOne 36 = .ok (.iload_n 1, 1) := by decide +kernel
theorem dX7_passOne_37 : decode cX7_passOne 37 = .ok (.iastore, 1) := by decide +kernel
theorem dX7_passOne_38 : decode cX7_passOne 38 = .ok (.aload_n 0, 1) := by decide +kernel
theorem dX7_passOne_39 : decode cX7_passOne 39 = .ok (.dup, 1) := by decide +kernel
theorem dX7_passOne_40 : decode cX7_passOne 40 = .ok (.getfield 196, 3) := by decide +kernel
theorem dX7_passOne_43 : decode cX7_passOne 43 = .ok (.iconst 1, 1) := by decide +kernel
theorem dX7_passOne_44 : decode cX7_passOne 44 = .ok (.iadd, 1) := by decide +kernel
theorem dX7_passOne_45 : decode cX7_passOne 45 = .ok (.putfield 196, 3) := by decide +kernel
theorem dX7_passOne_48 : decode cX7_passOne 48 = .ok (.iload_n 2, 1) := by decide +kernel
theorem dX7_passOne_49 : decode cX7_passOne 49 = .ok (.ireturn, 1) := by decide +kernel
theorem dX7_passesAll_0 : decode cX7_passesAll 0 = .ok (.aload_n 0, 1) := by decide +kernel
theorem dX7_passesAll_1 : decode cX7_passesAll 1 = .ok (.sipush 152, 3) := by decide +kernel
theorem dX7_passesAll_4 : decode cX7_passesAll 4 = .ok (.iload_n 1, 1) := by decide +kernel
theorem dX7_passesAll_5 : decode cX7_passesAll 5 = .ok (.imul, 1) := by decide +kernel
theorem dX7_passesAll_6 : decode cX7_passesAll 6 = .ok (.putfield 196, 3) := by decide +kernel
theorem dX7_passesAll_9 : decode cX7_passesAll 9 = .ok (.aload_n 0, 1) := by decide +kernel
theorem dX7_passesAll_10 : decode cX7_passesAll 10 = .ok (.iload_n 2, 1) := by decide +kernel
theorem dX7_passesAll_11 : decode cX7_passesAll 11 = .ok (.putfield 192, 3) := by decide +kernel
theorem dX7_passesAll_14 : decode cX7_passesAll 14 = .ok (.aload_n 0, 1) := by decide +kernel
theorem dX7_passesAll_15 : decode cX7_passesAll 15 = .ok (.aload_n 0, 1) := by decide +kernel
theorem dX7_passesAll_16 : decode cX7_passesAll 16 = .ok (.getfield 13, 3) := by decide +kernel
theorem dX7_passesAll_19 : decode cX7_passesAll 19 = .ok (.invokevirtual 199, 3) := by decide +kernel
theorem dX7_passesAll_22 : decode cX7_passesAll 22 = .ok (.aload_n 0, 1) := by decide +kernel
theorem dX7_passesAll_23 : decode cX7_passesAll 23 = .ok (.aload_n 0, 1) := by decide +kernel
theorem dX7_passesAll_24 : decode cX7_passesAll 24 = .ok (.getfield 16, 3) := by decide +kernel
theorem dX7_passesAll_27 : decode cX7_passesAll 27 = .ok (.invokevirtual 199, 3) := by decide +kernel
theorem dX7_passesAll_30 : decode cX7_passesAll 30 = .ok (.aload_n 0, 1) := by decide +kernel
theorem dX7_passesAll_31 : decode cX7_passesAll 31 = .ok (.aload_n 0, 1) := by decide +kernel
theorem dX7_passesAll_32 : decode cX7_passesAll 32 = .ok (.getfield 19, 3) := by decide +kernel
theorem dX7_passesAll_35 : decode cX7_passesAll 35 = .ok (.invokevirtual 199, 3) := by decide +kernel
theorem dX7_passesAll_38 : decode cX7_passesAll 38 = .ok (.aload_n 0, 1) := by decide +kernel
theorem dX7_passesAll_39 : decode cX7_passesAll 39 = .ok (.aload_n 0, 1) := by decide +kernel
theorem dX7_passesAll_40 : decode cX7_passesAll 40 = .ok (.getfield 22, 3) := by decide +kernel
theorem dX7_passesAll_43 : decode cX7_passesAll 43 = .ok (.invokevirtual 199, 3) := by decide +kernel
theorem dX7_passesAll_46 : decode cX7_passesAll 46 = .ok (.aload_n 0, 1) := by decide +kernel
theorem dX7_passesAll_47 : decode cX7_passesAll 47 = .ok (.aload_n 0, 1) := by decide +kernel
theorem dX7_passesAll_48 : decode cX7_passesAll 48 = .ok (.getfield 25, 3) := by decide +kernel
theorem dX7_passesAll_51 : decode cX7_passesAll 51 = .ok (.invokevirtual 199, 3) := by decide +kernel
theorem dX7_passesAll_54 : decode cX7_passesAll 54 = .ok (.aload_n 0, 1) := by decide +kernel
theorem dX7_passesAll_55 : decode cX7_passesAll 55 = .ok (.aload_n 0, 1) := by decide +kernel
theorem dX7_passesAll_56 : decode cX7_passesAll 56 = .ok (.getfield 28, 3) := by decide +kernel
theorem dX7_passesAll_59 : decode cX7_passesAll 59 = .ok (.invokevirtual 199, 3) := by decide +kernel
theorem dX7_passesAll_62 : decode cX7_passesAll 62 = .ok (.aload_n 0, 1) := by decide +kernel
theorem dX7_passesAll_63 : decode cX7_passesAll 63 = .ok (.aload_n 0, 1) := by decide +kernel
theorem dX7_passesAll_64 : decode cX7_passesAll 64 = .ok (.aload_n 0, 1) := by decide +kernel
theorem dX7_passesAll_65 : decode cX7_passesAll 65 = .ok (.getfield 86, 3) := by decide +kernel
theorem dX7_passesAll_68 : decode cX7_passesAll 68 = .ok (.invokevirtual 203, 3) := by decide +kernel
theorem dX7_passesAll_71 : decode cX7_passesAll 71 = .ok (.putfield 86, 3) := by decide +kernel
theorem dX7_passesAll_74 : decode cX7_passesAll 74 = .ok (.aload_n 0, 1) := by decide +kernel
theorem dX7_passesAll_75 : decode cX7_passesAll 75 = .ok (.aload_n 0, 1) := by decide +kernel
theorem dX7_passesAll_76 : decode cX7_passesAll 76 = .ok (.aload_n 0, 1) := by decide +kernel
theorem dX7_passesAll_77 : decode cX7_passesAll 77 = .ok (.getfield 100, 3) := by decide +kernel
theorem dX7_passesAll_80 : decode cX7_passesAll 80 = .ok (.invokevirtual 203, 3) := by decide +kernel
theorem dX7_passesAll_83 : decode cX7_passesAll 83 = .ok (.putfield 100, 3) := by decide +kernel
theorem dX7_passesAll_86 : decode cX7_passesAll 86 = .ok (.aload_n 0, 1) := by decide +kernel
theorem dX7_passesAll_87 : decode cX7_passesAll 87 = .ok (.aload_n 0, 1) := by decide +kernel
theorem dX7_passesAll_88 : decode cX7_passesAll 88 = .ok (.aload_n 0, 1) := by decide +kernel
theorem dX7_passesAll_89 : decode cX7_passesAll 89 = .ok (.getfield 176, 3) := by decide +kernel
theorem dX7_passesAll_92 : decode cX7_passesAll 92 = .ok (.invokevirtual 203, 3) := by decide +kernel
theorem dX7_passesAll_95 : decode cX7_passesAll 95 = .ok (.putfield 176, 3) := by decide +kernel
theorem dX7_passesAll_98 : decode cX7_passesAll 98 = .ok (.aload_n 0, 1) := by decide +kernel
theorem dX7_passesAll_99 : decode cX7_passesAll 99 = .ok (.aload_n 0, 1) := by decide +kernel
theorem dX7_passesAll_100 : decode cX7_passesAll 100 = .ok (.aload_n 0, 1) := by decide +kernel
theorem dX7_passesAll_101 : decode cX7_passesAll 101 = .ok (.getfield 90, 3) := by decide +kernel
theorem dX7_passesAll_104 : decode cX7_passesAll 104 = .ok (.invokevirtual 203, 3) := by decide +kernel
theorem dX7_passesAll_107 : decode cX7_passesAll 107 = .ok (.putfield 90, 3) := by decide +kernel
theorem dX7_passesAll_110 : decode cX7_passesAll 110 = .ok (.return_, 1) := by decide +kernel
theorem dX7_minds_0 : decode cX7_minds 0 = .ok (.aload_n 0, 1) := by decide +kernel
theorem dX7_minds_1 : decode cX7_minds 1 = .ok (.iconst 2, 1) := by decide +kernel
theorem dX7_minds_2 : decode cX7_minds 2 = .ok (.iconst 1, 1) := by decide +kernel
theorem dX7_minds_3 : decode cX7_minds 3 = .ok (.invokevirtual 206, 3) := by decide +kernel
theorem dX7_minds_6 : decode cX7_minds 6 = .ok (.return_, 1) := by decide +kernel
theorem dX7_forgets_0 : decode cX7_forgets 0 = .ok (.aload_n 0, 1) := by decide +kernel
theorem dX7_forgets_1 : decode cX7_forgets 1 = .ok (.iconst 2, 1) := by decide +kernel
theorem dX7_forgets_2 : decode cX7_forgets 2 = .ok (.iconst 0, 1) := by decide +kernel
theorem dX7_forgets_3 : decode cX7_forgets 3 = .ok (.invokevirtual 206, 3) := by decide +kernel
theorem dX7_forgets_6 : decode cX7_forgets 6 = .ok (.return_, 1) := by decide +kernel
theorem dX7_image_0 : decode cX7_image 0 = .ok (.aload_n 0, 1) := by decide +kernel
theorem dX7_image_1 : decode cX7_image 1 = .ok (.iconst 1, 1) := by decide +kernel
theorem dX7_image_2 : decode cX7_image 2 = .ok (.putfield 210, 3) := by decide +kernel
theorem dX7_image_5 : decode cX7_image 5 = .ok (.aload_n 0, 1) := by decide +kernel
theorem dX7_image_6 : decode cX7_image 6 = .ok (.iconst 0, 1) := by decide +kernel
theorem dX7_image_7 : decode cX7_image 7 = .ok (.iconst 1, 1) := by decide +kernel
theorem dX7_image_8 : decode cX7_image 8 = .ok (.invokevirtual 206, 3) := by decide +kernel
theorem dX7_image_11 : decode cX7_image 11 = .ok (.aload_n 0, 1) := by decide +kernel
theorem dX7_image_12 : decode cX7_image 12 = .ok (.getfield 100, 3) := by decide +kernel
theorem dX7_image_15 : decode cX7_image 15 = .ok (.ireturn, 1) := by decide +kernel
theorem dX7_on_0 : decode cX7_on 0 = .ok (.aload_n 0, 1) := by decide +kernel
theorem dX7_on_1 : decode cX7_on 1 = .ok (.getfield 210, 3) := by decide +kernel
theorem dX7_on_4 : decode cX7_on 4 = .ok (.ifCond .ne 10, 3) := by decide +kernel
theorem dX7_on_7 : decode cX7_on 7 = .ok (.aload_n 0, 1) := by decide +kernel
theorem dX7_on_8 : decode cX7_on 8 = .ok (.bipush (-3), 2) := by decide +kernel
theorem dX7_on_10 : decode cX7_on 10 = .ok (.invokevirtual 213, 3) := by decide +kernel
theorem dX7_on_13 : decode cX7_on 13 = .ok (.ireturn, 1) := by decide +kernel
theorem dX7_on_14 : decode cX7_on 14 = .ok (.aload_n 0, 1) := by decide +kernel
theorem dX7_on_15 : decode cX7_on 15 = .ok (.iconst 0, 1) := by decide +kernel
theorem dX7_on_16 : decode cX7_on 16 = .ok (.iconst 0, 1) := by decide +kernel
theorem dX7_on_17 : decode cX7_on 17 = .ok (.invokevirtual 206, 3) := by decide +kernel
theorem dX7_on_20 : decode cX7_on 20 = .ok (.aload_n 0, 1) := by decide +kernel
theorem dX7_on_21 : decode cX7_on 21 = .ok (.getfield 100, 3) := by decide +kernel
theorem dX7_on_24 : decode cX7_on 24 = .ok (.ireturn, 1) := by decide +kernel
theorem dX7_letter_0 : decode cX7_letter 0 = .ok (.iload_n 1, 1) := by decide +kernel
theorem dX7_letter_1 : decode cX7_letter 1 = .ok (.iconst 0, 1) := by decide +kernel
theorem dX7_letter_2 : decode cX7_letter 2 = .ok (.sipush 255, 3) := by decide +kernel
theorem dX7_letter_5 : decode cX7_letter 5 = .ok (.invokestatic 216, 3) := by decide +kernel
theorem dX7_letter_8 : decode cX7_letter 8 = .ok (.istore_n 2, 1) := by decide +kernel
theorem dX7_letter_9 : decode cX7_letter 9 = .ok (.iload_n 2, 1) := by decide +kernel
theorem dX7_letter_10 : decode cX7_letter 10 = .ok (.ifCond .ne 15, 3) := by decide +kernel
theorem dX7_letter_13 : decode cX7_letter 13 = .ok (.aload_n 0, 1) := by decide +kernel
theorem dX7_letter_14 : decode cX7_letter 14 = .ok (.getfield 220, 3) := by decide +kernel
theorem dX7_letter_17 : decode cX7_letter 17 = .ok (.bipush 96, 2) := by decide +kernel
theorem dX7_letter_19 : decode cX7_letter 19 = .ok (.if_icmp .ne 6, 3) := by decide +kernel
theorem dX7_letter_22 : decode cX7_letter 22 = .ok (.bipush (-6), 2) := by decide +kernel
theorem dX7_letter_24 : decode cX7_letter 24 = .ok (.istore_n 2, 1) := by decide +kernel
theorem dX7_letter_25 : decode cX7_letter 25 = .ok (.iload_n 2, 1) := by decide +kernel
theorem dX7_letter_26 : decode cX7_letter 26 = .ok (.ifCond .eq 9, 3) := by decide +kernel
theorem dX7_letter_29 : decode cX7_letter 29 = .ok (.aload_n 0, 1) := by decide +kernel
theorem dX7_letter_30 : decode cX7_letter 30 = .ok (.iload_n 2, 1) := by decide +kernel
theorem dX7_letter_31 : decode cX7_letter 31 = .ok (.invokevirtual 213, 3) := by decide +kernel
theorem dX7_letter_34 : decode cX7_letter 34 = .ok (.ireturn, 1) := by decide +kernel
theorem dX7_letter_35 : decode cX7_letter 35 = .ok (.aload_n 0, 1) := by decide +kernel
theorem dX7_letter_36 : decode cX7_letter 36 = .ok (.getfield 53, 3) := by decide +kernel
theorem dX7_letter_39 : decode cX7_letter 39 = .ok (.aload_n 0, 1) := by decide +kernel
theorem dX7_letter_40 : decode cX7_letter 40 = .ok (.getfield 220, 3) := by decide +kernel
theorem dX7_letter_43 : decode cX7_letter 43 = .ok (.iload_n 1, 1) := by decide +kernel
theorem dX7_letter_44 : decode cX7_letter 44 = .ok (.iastore, 1) := by decide +kernel
theorem dX7_letter_45 : decode cX7_letter 45 = .ok (.aload_n 0, 1) := by decide +kernel
theorem dX7_letter_46 : decode cX7_letter 46 = .ok (.dup, 1) := by decide +kernel
theorem dX7_letter_47 : decode cX7_letter 47 = .ok (.getfield 220, 3) := by decide +kernel
theorem dX7_letter_50 : decode cX7_letter 50 = .ok (.iconst 1, 1) := by decide +kernel
theorem dX7_letter_51 : decode cX7_letter 51 = .ok (.iadd, 1) := by decide +kernel
theorem dX7_letter_52 : decode cX7_letter 52 = .ok (.putfield 220, 3) := by decide +kernel
theorem dX7_letter_55 : decode cX7_letter 55 = .ok (.aload_n 0, 1) := by decide +kernel
theorem dX7_letter_56 : decode cX7_letter 56 = .ok (.getfield 220, 3) := by decide +kernel
theorem dX7_letter_59 : decode cX7_letter 59 = .ok (.ireturn, 1) := by decide +kernel
theorem dX7_letterNow_0 : decode cX7_letterNow 0 = .ok (.aload_n 0, 1) := by decide +kernel
theorem dX7_letterNow_1 : decode cX7_letterNow 1 = .ok (.getfield 223, 3) := by decide +kernel
theorem dX7_letterNow_4 : decode cX7_letterNow 4 = .ok (.aload_n 0, 1) := by decide +kernel
theorem dX7_letterNow_5 : decode cX7_letterNow 5 = .ok (.getfield 220, 3) := by decide +kernel
theorem dX7_letterNow_8 : decode cX7_letterNow 8 = .ok (.if_icmp .ge 15, 3) := by decide +kernel
theorem dX7_letterNow_11 : decode cX7_letterNow 11 = .ok (.aload_n 0, 1) := by decide +kernel
theorem dX7_letterNow_12 : decode cX7_letterNow 12 = .ok (.getfield 53, 3) := by decide +kernel
theorem dX7_letterNow_15 : decode cX7_letterNow 15 = .ok (.aload_n 0, 1) := by decide +kernel
theorem dX7_letterNow_16 : decode cX7_letterNow 16 = .ok (.getfield 223, 3) := by decide +kernel
theorem dX7_letterNow_19 : decode cX7_letterNow 19 = .ok (.iaload, 1) := by decide +kernel
theorem dX7_letterNow_20 : decode cX7_letterNow 20 = .ok (.goto 4, 3) := by decide +kernel
theorem dX7_letterNow_23 : decode cX7_letterNow 23 = .ok (.iconst (-1), 1) := by decide +kernel
theorem dX7_letterNow_24 : decode cX7_letterNow 24 = .ok (.ireturn, 1) := by decide +kernel
theorem dX7_readsDigits_0 : decode cX7_readsDigits 0 = .ok (.iconst 0, 1) := by decide +kernel
theorem dX7_readsDigits_1 : decode cX7_readsDigits 1 = .ok (.istore_n 2, 1) := by decide +kernel
theorem dX7_readsDigits_2 : decode cX7_readsDigits 2 = .ok (.iconst 0, 1) := by decide +kernel
theorem dX7_readsDigits_3 : decode cX7_readsDigits 3 = .ok (.istore_n 3, 1) := by decide +kernel
theorem dX7_readsDigits_4 : decode cX7_readsDigits 4 = .ok (.iload_n 3, 1) := by decide +kernel
theorem dX7_readsDigits_5 : decode cX7_readsDigits 5 = .ok (.iload_n 1, 1) := by decide +kernel
theorem dX7_readsDigits_6 : decode cX7_readsDigits 6 = .ok (.if_icmp .ge 48, 3) := by decide +kernel
theorem dX7_readsDigits_9 : decode cX7_readsDigits 9 = .ok (.aload_n 0, 1) := by decide +kernel
theorem dX7_readsDigits_10 : decode cX7_readsDigits 10 = .ok (.invokevirtual 226, 3) := by decide +kernel
theorem dX7_readsDigits_13 : decode cX7_readsDigits 13 = .ok (.bipush 48, 2) := by decide +kernel
theorem dX7_readsDigits_15 : decode cX7_readsDigits 15 = .ok (.bipush 57, 2) := by decide +kernel
theorem dX7_readsDigits_17 : decode cX7_readsDigits 17 = .ok (.invokestatic 96, 3) := by decide +kernel
theorem dX7_readsDigits_20 : decode cX7_readsDigits 20 = .ok (.ifCond .ne 5, 3) := by decide +kernel
theorem dX7_readsDigits_23 : decode cX7_readsDigits 23 = .ok (.iconst 0, 1) := by decide +kernel
theorem dX7_readsDigits_24 : decode cX7_readsDigits 24 = .ok (.ireturn, 1) := by decide +kernel
theorem dX7_readsDigits_25 : decode cX7_readsDigits 25 = .ok (.bipush 10, 2) := by decide +kernel
theorem dX7_readsDigits_27 : decode cX7_readsDigits 27 = .ok (.iload_n 2, 1) := by decide +kernel
theorem dX7_readsDigits_28 : decode cX7_readsDigits 28 = .ok (.imul, 1) := by decide +kernel
theorem dX7_readsDigits_29 : decode cX7_readsDigits 29 = .ok (.aload_n 0, 1) := by decide +kernel
theorem dX7_readsDigits_30 : decode cX7_readsDigits 30 = .ok (.invokevirtual 226, 3) := by decide +kernel
theorem dX7_readsDigits_33 : decode cX7_readsDigits 33 = .ok (.iadd, 1) := by decide +kernel
theorem dX7_readsDigits_34 : decode cX7_readsDigits 34 = .ok (.bipush 48, 2) := by decide +kernel
theorem dX7_readsDigits_36 : decode cX7_readsDigits 36 = .ok (.isub, 1) := by decide +kernel
theorem dX7_readsDigits_37 : decode cX7_readsDigits 37 = .ok (.istore_n 2, 1) := by decide +kernel
theorem dX7_readsDigits_38 : decode cX7_readsDigits 38 = .ok (.aload_n 0, 1) := by decide +kernel
theorem dX7_readsDigits_39 : decode cX7_readsDigits 39 = .ok (.dup, 1) := by decide +kernel
theorem dX7_readsDigits_40 : decode cX7_readsDigits 40 = .ok (.getfield 223, 3) := by decide +kernel
theorem dX7_readsDigits_43 : decode cX7_readsDigits 43 = .ok (.iconst 1, 1) := by decide +kernel
theorem dX7_readsDigits_44 : decode cX7_readsDigits 44 = .ok (.iadd, 1) := by decide +kernel
theorem dX7_readsDigits_45 : decode cX7_readsDigits 45 = .ok (.putfield 223, 3) := by decide +kernel
theorem dX7_readsDigits_48 : decode cX7_readsDigits 48 = .ok (.iinc 3 1, 3) := by decide +kernel
theorem dX7_readsDigits_51 : decode cX7_readsDigits 51 = .ok (.goto (-47), 3) := by decide +kernel
theorem dX7_readsDigits_54 : decode cX7_readsDigits 54 = .ok (.aload_n 0, 1) := by decide +kernel
theorem dX7_readsDigits_55 : decode cX7_readsDigits 55 = .ok (.getfield 62, 3) := by decide +kernel
theorem dX7_readsDigits_58 : decode cX7_readsDigits 58 = .ok (.aload_n 0, 1) := by decide +kernel
theorem dX7_readsDigits_59 : decode cX7_readsDigits 59 = .ok (.getfield 229, 3) := by decide +kernel
theorem dX7_readsDigits_62 : decode cX7_readsDigits 62 = .ok (.iload_n 2, 1) := by decide +kernel
theorem dX7_readsDigits_63 : decode cX7_readsDigits 63 = .ok (.iastore, 1) := by decide +kernel
theorem dX7_readsDigits_64 : decode cX7_readsDigits 64 = .ok (.aload_n 0, 1) := by decide +kernel
theorem dX7_readsDigits_65 : decode cX7_readsDigits 65 = .ok (.dup, 1) := by decide +kernel
theorem dX7_readsDigits_66 : decode cX7_readsDigits 66 = .ok (.getfield 229, 3) := by decide +kernel
theorem dX7_readsDigits_69 : decode cX7_readsDigits 69 = .ok (.iconst 1, 1) := by decide +kernel
theorem dX7_readsDigits_70 : decode cX7_readsDigits 70 = .ok (.iadd, 1) := by decide +kernel
theorem dX7_readsDigits_71 : decode cX7_readsDigits 71 = .ok (.putfield 229, 3) := by decide +kernel
theorem dX7_readsDigits_74 : decode cX7_readsDigits 74 = .ok (.iconst 1, 1) := by decide +kernel
theorem dX7_readsDigits_75 : decode cX7_readsDigits 75 = .ok (.ireturn, 1) := by decide +kernel
theorem dX7_readsMany_0 : decode cX7_readsMany 0 = .ok (.iconst 0, 1) := by decide +kernel
theorem dX7_readsMany_1 : decode cX7_readsMany 1 = .ok (.istore_n 2, 1) := by decide +kernel
theorem dX7_readsMany_2 : decode cX7_readsMany 2 = .ok (.iload_n 2, 1) := by decide +kernel
theorem dX7_readsMany_3 : decode cX7_readsMany 3 = .ok (.iload_n 1, 1) := by decide +kernel
theorem dX7_readsMany_4 : decode cX7_readsMany 4 = .ok (.if_icmp .ge 19, 3) := by decide +kernel
theorem dX7_readsMany_7 : decode cX7_readsMany 7 = .ok (.aload_n 0, 1) := by decide +kernel
theorem dX7_readsMany_8 : decode cX7_readsMany 8 = .ok (.iconst 1, 1) := by decide +kernel
theorem dX7_readsMany_9 : decode cX7_readsMany 9 = .ok (.invokevirtual 232, 3) := by decide +kernel
theorem dX7_readsMany_12 : decode cX7_readsMany 12 = .ok (.ifCond .ne 5, 3) := by decide +kernel
theorem dX7_readsMany_15 : decode cX7_readsMany 15 = .ok (.iconst 0, 1) := by decide +kernel
theorem dX7_readsMany_16 : decode cX7_readsMany 16 = .ok (.ireturn, 1) := by decide +kernel
theorem dX7_readsMany_17 : decode cX7_readsMany 17 = .ok (.iinc 2 1, 3) := by decide +kernel
theorem dX7_readsMany_20 : decode cX7_readsMany 20 = .ok (.goto (-18), 3) := by decide +kernel
theorem dX7_readsMany_23 : decode cX7_readsMany 23 = .ok (.iconst 1, 1) := by decide +kernel
theorem dX7_readsMany_24 : decode cX7_readsMany 24 = .ok (.ireturn, 1) := by decide +kernel
theorem dX7_readsAll_0 : decode cX7_readsAll 0 = .ok (.iload_n 1, 1) := by decide +kernel
theorem dX7_readsAll_1 : decode cX7_readsAll 1 = .ok (.lookupswitch 130 #[(98, 81), (99, 59), (108, 117), (114, 111), (118, 59), (119, 123)], 59) := by decide +kernel
theorem dX7_readsAll_60 : decode cX7_readsAll 60 = .ok (.aload_n 0, 1) := by decide +kernel
theorem dX7_readsAll_61 : decode cX7_readsAll 61 = .ok (.iconst 1, 1) := by decide +kernel
theorem dX7_readsAll_62 : decode cX7_readsAll 62 = .ok (.invokevirtual 232, 3) := by decide +kernel
theorem dX7_readsAll_65 : decode cX7_readsAll 65 = .ok (.ifCond .eq 15, 3) := by decide +kernel
theorem dX7_readsAll_68 : decode cX7_readsAll 68 = .ok (.aload_n 0, 1) := by decide +kernel
theorem dX7_readsAll_69 : decode cX7_readsAll 69 = .ok (.iconst 2, 1) := by decide +kernel
theorem dX7_readsAll_70 : decode cX7_readsAll 70 = .ok (.invokevirtual 232, 3) := by decide +kernel
theorem dX7_readsAll_73 : decode cX7_readsAll 73 = .ok (.ifCond .eq 7, 3) := by decide +kernel
theorem dX7_readsAll_76 : decode cX7_readsAll 76 = .ok (.iconst 1, 1) := by decide +kernel
theorem dX7_readsAll_77 : decode cX7_readsAll 77 = .ok (.goto 4, 3) := by decide +kernel
theorem dX7_readsAll_80 : decode cX7_readsAll 80 = .ok (.iconst 0, 1) := by decide +kernel
theorem dX7_readsAll_81 : decode cX7_readsAll 81 = .ok (.ireturn, 1) := by decide +kernel
theorem dX7_readsAll_82 : decode cX7_readsAll 82 = .ok (.aload_n 0, 1) := by decide +kernel
theorem dX7_readsAll_83 : decode cX7_readsAll 83 = .ok (.iconst 2, 1) := by decide +kernel
theorem dX7_readsAll_84 : decode cX7_readsAll 84 = .ok (.invokevirtual 232, 3) := by decide +kernel
theorem dX7_readsAll_87 : decode cX7_readsAll 87 = .ok (.ifCond .eq 23, 3) := by decide +kernel
theorem dX7_readsAll_90 : decode cX7_readsAll 90 = .ok (.aload_n 0, 1) := by decide +kernel
theorem dX7_readsAll_91 : decode cX7_readsAll 91 = .ok (.iconst 2, 1) := by decide +kernel
theorem dX7_readsAll_92 : decode cX7_readsAll 92 = .ok (.invokevirtual 232, 3) := by decide +kernel
theorem dX7_readsAll_95 : decode cX7_readsAll 95 = .ok (.ifCond .eq 15, 3) := by decide +kernel
theorem dX7_readsAll_98 : decode cX7_readsAll 98 = .ok (.aload_n 0, 1) := by decide +kernel
theorem dX7_readsAll_99 : decode cX7_readsAll 99 = .ok (.iconst 2, 1) := by decide +kernel
theorem dX7_readsAll_100 : decode cX7_readsAll 100 = .ok (.invokevirtual 232, 3) := by decide +kernel
theorem dX7_readsAll_103 : decode cX7_readsAll 103 = .ok (.ifCond .eq 7, 3) := by decide +kernel
theorem dX7_readsAll_106 : decode cX7_readsAll 106 = .ok (.iconst 1, 1) := by decide +kernel
theorem dX7_readsAll_107 : decode cX7_readsAll 107 = .ok (.goto 4, 3) := by decide +kernel
theorem dX7_readsAll_110 : decode cX7_readsAll 110 = .ok (.iconst 0, 1) := by decide +kernel
theorem dX7_readsAll_111 : decode cX7_readsAll 111 = .ok (.ireturn, 1) := by decide +kernel
theorem dX7_readsAll_112 : decode cX7_readsAll 112 = .ok (.aload_n 0, 1) := by decide +kernel
theorem dX7_readsAll_113 : decode cX7_readsAll 113 = .ok (.iconst 1, 1) := by decide +kernel
theorem dX7_readsAll_114 : decode cX7_readsAll 114 = .ok (.invokevirtual 232, 3) := by decide +kernel
theorem dX7_readsAll_117 : decode cX7_readsAll 117 = .ok (.ireturn, 1) := by decide +kernel
theorem dX7_readsAll_118 : decode cX7_readsAll 118 = .ok (.aload_n 0, 1) := by decide +kernel
theorem dX7_readsAll_119 : decode cX7_readsAll 119 = .ok (.iconst 2, 1) := by decide +kernel
theorem dX7_readsAll_120 : decode cX7_readsAll 120 = .ok (.invokevirtual 232, 3) := by decide +kernel
theorem dX7_readsAll_123 : decode cX7_readsAll 123 = .ok (.ireturn, 1) := by decide +kernel
theorem dX7_readsAll_124 : decode cX7_readsAll 124 = .ok (.aload_n 0, 1) := by decide +kernel
theorem dX7_readsAll_125 : decode cX7_readsAll 125 = .ok (.bipush 9, 2) := by decide +kernel
theorem dX7_readsAll_127 : decode cX7_readsAll 127 = .ok (.invokevirtual 235, 3) := by decide +kernel
theorem dX7_readsAll_130 : decode cX7_readsAll 130 = .ok (.ireturn, 1) := by decide +kernel
theorem dX7_readsAll_131 : decode cX7_readsAll 131 = .ok (.aload_n 0, 1) := by decide +kernel
theorem dX7_readsAll_132 : decode cX7_readsAll 132 = .ok (.bipush 8, 2) := by decide +kernel
theorem dX7_readsAll_134 : decode cX7_readsAll 134 = .ok (.invokevirtual 235, 3) := by decide +kernel
theorem dX7_readsAll_137 : decode cX7_readsAll 137 = .ok (.ireturn, 1) := by decide +kernel
theorem dX7_statement_0 : decode cX7_statement 0 = .ok (.aload_n 0, 1) := by decide +kernel
theorem dX7_statement_1 : decode cX7_statement 1 = .ok (.invokevirtual 226, 3) := by decide +kernel
theorem dX7_statement_4 : decode cX7_statement 4 = .ok (.istore_n 1, 1) := by decide +kernel
theorem dX7_statement_5 : decode cX7_statement 5 = .ok (.iload_n 1, 1) := by decide +kernel
theorem dX7_statement_6 : decode cX7_statement 6 = .ok (.bipush 118, 2) := by decide +kernel
theorem dX7_statement_8 : decode cX7_statement 8 = .ok (.if_icmp .eq 47, 3) := by decide +kernel
theorem dX7_statement_11 : decode cX7_statement 11 = .ok (.iload_n 1, 1) := by decide +kernel
theorem dX7_statement_12 : decode cX7_statement 12 = .ok (.bipush 99, 2) := by decide +kernel
theorem dX7_statement_14 : decode cX7_statement 14 = .ok (.if_icmp .eq 41, 3) := by decide +kernel
theorem dX7_statement_17 : decode cX7_statement 17 = .ok (.iload_n 1, 1) := by decide +kernel
theorem dX7_statement_18 : decode cX7_statement 18 = .ok (.bipush 98, 2) := by decide +kernel
theorem dX7_statement_20 : decode cX7_statement 20 = .ok (.if_icmp .eq 35, 3) := by decide +kernel
theorem dX7_statement_23 : decode cX7_statement 23 = .ok (.iload_n 1, 1) := by decide +kernel
theorem dX7_statement_24 : decode cX7_statement 24 = .ok (.bipush 114, 2) := by decide +kernel
theorem dX7_statement_26 : decode cX7_statement 26 = .ok (.if_icmp .eq 29, 3) := by decide +kernel
end
section
theorem dX7_statement_29 : decode cX7_statement 29 = .ok (.iload_n 1, 1) := by decide +kernel
theorem dX7_statement_30 : decode cX7_statement 30 = .ok (.bipush 108, 2) := by decide +kernel
theorem dX7_statement_32 : decode cX7_statement 32 = .ok (.if_icmp .eq 23, 3) := by decide +kernel
theorem dX7_statement_35 : decode cX7_statement 35 = .ok (.iload_n 1, 1) := by decide +kernel
theorem dX7_statement_36 : decode cX7_statement 36 = .ok (.bipush 115, 2) := by decide +kernel
theorem dX7_statement_38 : decode cX7_statement 38 = .ok (.if_icmp .eq 17, 3) := by decide +kernel
theorem dX7_statement_41 : decode cX7_statement 41 = .ok (.iload_n 1, 1) := by decide +kernel
theorem dX7_statement_42 : decode cX7_statement 42 = .ok (.bipush 100, 2) := by decide +kernel
theorem dX7_statement_44 : decode cX7_statement 44 = .ok (.if_icmp .eq 11, 3) := by decide +kernel
theorem dX7_statement_47 : decode cX7_statement 47 = .ok (.iload_n 1, 1) := by decide +kernel
theorem dX7_statement_48 : decode cX7_statement 48 = .ok (.bipush 119, 2) := by decide +kernel
theorem dX7_statement_50 : decode cX7_statement 50 = .ok (.if_icmp .eq 5, 3) := by decide +kernel
theorem dX7_statement_53 : decode cX7_statement 53 = .ok (.iconst 0, 1) := by decide +kernel
theorem dX7_statement_54 : decode cX7_statement 54 = .ok (.ireturn, 1) := by decide +kernel
theorem dX7_statement_55 : decode cX7_statement 55 = .ok (.aload_n 0, 1) := by decide +kernel
theorem dX7_statement_56 : decode cX7_statement 56 = .ok (.getfield 56, 3) := by decide +kernel
theorem dX7_statement_59 : decode cX7_statement 59 = .ok (.aload_n 0, 1) := by decide +kernel
theorem dX7_statement_60 : decode cX7_statement 60 = .ok (.getfield 238, 3) := by decide +kernel
theorem dX7_statement_63 : decode cX7_statement 63 = .ok (.iload_n 1, 1) := by decide +kernel
theorem dX7_statement_64 : decode cX7_statement 64 = .ok (.iastore, 1) := by decide +kernel
theorem dX7_statement_65 : decode cX7_statement 65 = .ok (.aload_n 0, 1) := by decide +kernel
theorem dX7_statement_66 : decode cX7_statement 66 = .ok (.getfield 59, 3) := by decide +kernel
theorem dX7_statement_69 : decode cX7_statement 69 = .ok (.aload_n 0, 1) := by decide +kernel
theorem dX7_statement_70 : decode cX7_statement 70 = .ok (.getfield 238, 3) := by decide +kernel
theorem dX7_statement_73 : decode cX7_statement 73 = .ok (.aload_n 0, 1) := by decide +kernel
theorem dX7_statement_74 : decode cX7_statement 74 = .ok (.getfield 223, 3) := by decide +kernel
theorem dX7_statement_77 : decode cX7_statement 77 = .ok (.iastore, 1) := by decide +kernel
theorem dX7_statement_78 : decode cX7_statement 78 = .ok (.aload_n 0, 1) := by decide +kernel
theorem dX7_statement_79 : decode cX7_statement 79 = .ok (.bipush 9, 2) := by decide +kernel
theorem dX7_statement_81 : decode cX7_statement 81 = .ok (.aload_n 0, 1) := by decide +kernel
theorem dX7_statement_82 : decode cX7_statement 82 = .ok (.getfield 238, 3) := by decide +kernel
theorem dX7_statement_85 : decode cX7_statement 85 = .ok (.imul, 1) := by decide +kernel
theorem dX7_statement_86 : decode cX7_statement 86 = .ok (.putfield 229, 3) := by decide +kernel
theorem dX7_statement_89 : decode cX7_statement 89 = .ok (.aload_n 0, 1) := by decide +kernel
theorem dX7_statement_90 : decode cX7_statement 90 = .ok (.dup, 1) := by decide +kernel
theorem dX7_statement_91 : decode cX7_statement 91 = .ok (.getfield 223, 3) := by decide +kernel
theorem dX7_statement_94 : decode cX7_statement 94 = .ok (.iconst 1, 1) := by decide +kernel
theorem dX7_statement_95 : decode cX7_statement 95 = .ok (.iadd, 1) := by decide +kernel
theorem dX7_statement_96 : decode cX7_statement 96 = .ok (.putfield 223, 3) := by decide +kernel
theorem dX7_statement_99 : decode cX7_statement 99 = .ok (.aload_n 0, 1) := by decide +kernel
theorem dX7_statement_100 : decode cX7_statement 100 = .ok (.iload_n 1, 1) := by decide +kernel
theorem dX7_statement_101 : decode cX7_statement 101 = .ok (.invokevirtual 241, 3) := by decide +kernel
theorem dX7_statement_104 : decode cX7_statement 104 = .ok (.ifCond .eq 12, 3) := by decide +kernel
theorem dX7_statement_107 : decode cX7_statement 107 = .ok (.aload_n 0, 1) := by decide +kernel
theorem dX7_statement_108 : decode cX7_statement 108 = .ok (.invokevirtual 226, 3) := by decide +kernel
theorem dX7_statement_111 : decode cX7_statement 111 = .ok (.bipush 59, 2) := by decide +kernel
theorem dX7_statement_113 : decode cX7_statement 113 = .ok (.if_icmp .eq 5, 3) := by decide +kernel
theorem dX7_statement_116 : decode cX7_statement 116 = .ok (.iconst 0, 1) := by decide +kernel
theorem dX7_statement_117 : decode cX7_statement 117 = .ok (.ireturn, 1) := by decide +kernel
theorem dX7_statement_118 : decode cX7_statement 118 = .ok (.aload_n 0, 1) := by decide +kernel
theorem dX7_statement_119 : decode cX7_statement 119 = .ok (.dup, 1) := by decide +kernel
theorem dX7_statement_120 : decode cX7_statement 120 = .ok (.getfield 223, 3) := by decide +kernel
theorem dX7_statement_123 : decode cX7_statement 123 = .ok (.iconst 1, 1) := by decide +kernel
theorem dX7_statement_124 : decode cX7_statement 124 = .ok (.iadd, 1) := by decide +kernel
theorem dX7_statement_125 : decode cX7_statement 125 = .ok (.putfield 223, 3) := by decide +kernel
theorem dX7_statement_128 : decode cX7_statement 128 = .ok (.iconst 1, 1) := by decide +kernel
theorem dX7_statement_129 : decode cX7_statement 129 = .ok (.ireturn, 1) := by decide +kernel
theorem dX7_isTold_0 : decode cX7_isTold 0 = .ok (.aload_n 0, 1) := by decide +kernel
theorem dX7_isTold_1 : decode cX7_isTold 1 = .ok (.getfield 13, 3) := by decide +kernel
theorem dX7_isTold_4 : decode cX7_isTold 4 = .ok (.aload_n 0, 1) := by decide +kernel
theorem dX7_isTold_5 : decode cX7_isTold 5 = .ok (.getfield 22, 3) := by decide +kernel
theorem dX7_isTold_8 : decode cX7_isTold 8 = .ok (.iload_n 1, 1) := by decide +kernel
theorem dX7_isTold_9 : decode cX7_isTold 9 = .ok (.iaload, 1) := by decide +kernel
theorem dX7_isTold_10 : decode cX7_isTold 10 = .ok (.iload_n 2, 1) := by decide +kernel
theorem dX7_isTold_11 : decode cX7_isTold 11 = .ok (.iastore, 1) := by decide +kernel
theorem dX7_isTold_12 : decode cX7_isTold 12 = .ok (.aload_n 0, 1) := by decide +kernel
theorem dX7_isTold_13 : decode cX7_isTold 13 = .ok (.getfield 16, 3) := by decide +kernel
theorem dX7_isTold_16 : decode cX7_isTold 16 = .ok (.aload_n 0, 1) := by decide +kernel
theorem dX7_isTold_17 : decode cX7_isTold 17 = .ok (.getfield 22, 3) := by decide +kernel
theorem dX7_isTold_20 : decode cX7_isTold 20 = .ok (.iload_n 1, 1) := by decide +kernel
theorem dX7_isTold_21 : decode cX7_isTold 21 = .ok (.iaload, 1) := by decide +kernel
theorem dX7_isTold_22 : decode cX7_isTold 22 = .ok (.iconst 0, 1) := by decide +kernel
theorem dX7_isTold_23 : decode cX7_isTold 23 = .ok (.iastore, 1) := by decide +kernel
theorem dX7_isTold_24 : decode cX7_isTold 24 = .ok (.aload_n 0, 1) := by decide +kernel
theorem dX7_isTold_25 : decode cX7_isTold 25 = .ok (.getfield 19, 3) := by decide +kernel
theorem dX7_isTold_28 : decode cX7_isTold 28 = .ok (.aload_n 0, 1) := by decide +kernel
theorem dX7_isTold_29 : decode cX7_isTold 29 = .ok (.getfield 22, 3) := by decide +kernel
theorem dX7_isTold_32 : decode cX7_isTold 32 = .ok (.iload_n 1, 1) := by decide +kernel
theorem dX7_isTold_33 : decode cX7_isTold 33 = .ok (.iaload, 1) := by decide +kernel
theorem dX7_isTold_34 : decode cX7_isTold 34 = .ok (.bipush 99, 2) := by decide +kernel
theorem dX7_isTold_36 : decode cX7_isTold 36 = .ok (.iastore, 1) := by decide +kernel
theorem dX7_isTold_37 : decode cX7_isTold 37 = .ok (.return_, 1) := by decide +kernel
theorem dX7_comesTold_0 : decode cX7_comesTold 0 = .ok (.iload_n 1, 1) := by decide +kernel
theorem dX7_comesTold_1 : decode cX7_comesTold 1 = .ok (.invokestatic 244, 3) := by decide +kernel
theorem dX7_comesTold_4 : decode cX7_comesTold 4 = .ok (.ifCond .eq 16, 3) := by decide +kernel
theorem dX7_comesTold_7 : decode cX7_comesTold 7 = .ok (.aload_n 0, 1) := by decide +kernel
theorem dX7_comesTold_8 : decode cX7_comesTold 8 = .ok (.aload_n 0, 1) := by decide +kernel
theorem dX7_comesTold_9 : decode cX7_comesTold 9 = .ok (.getfield 22, 3) := by decide +kernel
theorem dX7_comesTold_12 : decode cX7_comesTold 12 = .ok (.iload_n 1, 1) := by decide +kernel
theorem dX7_comesTold_13 : decode cX7_comesTold 13 = .ok (.iaload, 1) := by decide +kernel
theorem dX7_comesTold_14 : decode cX7_comesTold 14 = .ok (.invokevirtual 247, 3) := by decide +kernel
theorem dX7_comesTold_17 : decode cX7_comesTold 17 = .ok (.ifCond .ne 5, 3) := by decide +kernel
theorem dX7_comesTold_20 : decode cX7_comesTold 20 = .ok (.iconst 0, 1) := by decide +kernel
theorem dX7_comesTold_21 : decode cX7_comesTold 21 = .ok (.ireturn, 1) := by decide +kernel
theorem dX7_comesTold_22 : decode cX7_comesTold 22 = .ok (.aload_n 0, 1) := by decide +kernel
theorem dX7_comesTold_23 : decode cX7_comesTold 23 = .ok (.iload_n 1, 1) := by decide +kernel
theorem dX7_comesTold_24 : decode cX7_comesTold 24 = .ok (.iload_n 2, 1) := by decide +kernel
theorem dX7_comesTold_25 : decode cX7_comesTold 25 = .ok (.invokevirtual 250, 3) := by decide +kernel
theorem dX7_comesTold_28 : decode cX7_comesTold 28 = .ok (.iconst 1, 1) := by decide +kernel
theorem dX7_comesTold_29 : decode cX7_comesTold 29 = .ok (.ireturn, 1) := by decide +kernel
theorem dX7_changesTo_0 : decode cX7_changesTo 0 = .ok (.aload_n 0, 1) := by decide +kernel
theorem dX7_changesTo_1 : decode cX7_changesTo 1 = .ok (.getfield 22, 3) := by decide +kernel
theorem dX7_changesTo_4 : decode cX7_changesTo 4 = .ok (.iload_n 1, 1) := by decide +kernel
theorem dX7_changesTo_5 : decode cX7_changesTo 5 = .ok (.aload_n 0, 1) := by decide +kernel
theorem dX7_changesTo_6 : decode cX7_changesTo 6 = .ok (.getfield 86, 3) := by decide +kernel
theorem dX7_changesTo_9 : decode cX7_changesTo 9 = .ok (.iastore, 1) := by decide +kernel
theorem dX7_changesTo_10 : decode cX7_changesTo 10 = .ok (.aload_n 0, 1) := by decide +kernel
theorem dX7_changesTo_11 : decode cX7_changesTo 11 = .ok (.dup, 1) := by decide +kernel
theorem dX7_changesTo_12 : decode cX7_changesTo 12 = .ok (.getfield 86, 3) := by decide +kernel
theorem dX7_changesTo_15 : decode cX7_changesTo 15 = .ok (.iconst 1, 1) := by decide +kernel
theorem dX7_changesTo_16 : decode cX7_changesTo 16 = .ok (.iadd, 1) := by decide +kernel
theorem dX7_changesTo_17 : decode cX7_changesTo 17 = .ok (.putfield 86, 3) := by decide +kernel
theorem dX7_changesTo_20 : decode cX7_changesTo 20 = .ok (.aload_n 0, 1) := by decide +kernel
theorem dX7_changesTo_21 : decode cX7_changesTo 21 = .ok (.iload_n 1, 1) := by decide +kernel
theorem dX7_changesTo_22 : decode cX7_changesTo 22 = .ok (.iload_n 2, 1) := by decide +kernel
theorem dX7_changesTo_23 : decode cX7_changesTo 23 = .ok (.invokevirtual 250, 3) := by decide +kernel
theorem dX7_changesTo_26 : decode cX7_changesTo 26 = .ok (.return_, 1) := by decide +kernel
theorem dX7_comesChange_0 : decode cX7_comesChange 0 = .ok (.iload_n 1, 1) := by decide +kernel
theorem dX7_comesChange_1 : decode cX7_comesChange 1 = .ok (.invokestatic 244, 3) := by decide +kernel
theorem dX7_comesChange_4 : decode cX7_comesChange 4 = .ok (.ifCond .eq 12, 3) := by decide +kernel
theorem dX7_comesChange_7 : decode cX7_comesChange 7 = .ok (.aload_n 0, 1) := by decide +kernel
theorem dX7_comesChange_8 : decode cX7_comesChange 8 = .ok (.getfield 86, 3) := by decide +kernel
theorem dX7_comesChange_11 : decode cX7_comesChange 11 = .ok (.bipush 10, 2) := by decide +kernel
theorem dX7_comesChange_13 : decode cX7_comesChange 13 = .ok (.if_icmp .ne 5, 3) := by decide +kernel
theorem dX7_comesChange_16 : decode cX7_comesChange 16 = .ok (.iconst 0, 1) := by decide +kernel
theorem dX7_comesChange_17 : decode cX7_comesChange 17 = .ok (.ireturn, 1) := by decide +kernel
theorem dX7_comesChange_18 : decode cX7_comesChange 18 = .ok (.aload_n 0, 1) := by decide +kernel
theorem dX7_comesChange_19 : decode cX7_comesChange 19 = .ok (.iload_n 1, 1) := by decide +kernel
theorem dX7_comesChange_20 : decode cX7_comesChange 20 = .ok (.iload_n 2, 1) := by decide +kernel
theorem dX7_comesChange_21 : decode cX7_comesChange 21 = .ok (.invokevirtual 254, 3) := by decide +kernel
theorem dX7_comesChange_24 : decode cX7_comesChange 24 = .ok (.iconst 1, 1) := by decide +kernel
theorem dX7_comesChange_25 : decode cX7_comesChange 25 = .ok (.ireturn, 1) := by decide +kernel
theorem dX7_comesBounds_0 : decode cX7_comesBounds 0 = .ok (.aload_n 0, 1) := by decide +kernel
theorem dX7_comesBounds_1 : decode cX7_comesBounds 1 = .ok (.iload_n 1, 1) := by decide +kernel
theorem dX7_comesBounds_2 : decode cX7_comesBounds 2 = .ok (.invokevirtual 257, 3) := by decide +kernel
theorem dX7_comesBounds_5 : decode cX7_comesBounds 5 = .ok (.ifCond .eq 17, 3) := by decide +kernel
theorem dX7_comesBounds_8 : decode cX7_comesBounds 8 = .ok (.aload_n 0, 1) := by decide +kernel
theorem dX7_comesBounds_9 : decode cX7_comesBounds 9 = .ok (.getfield 13, 3) := by decide +kernel
theorem dX7_comesBounds_12 : decode cX7_comesBounds 12 = .ok (.iload_n 1, 1) := by decide +kernel
theorem dX7_comesBounds_13 : decode cX7_comesBounds 13 = .ok (.iaload, 1) := by decide +kernel
theorem dX7_comesBounds_14 : decode cX7_comesBounds 14 = .ok (.iload_n 2, 1) := by decide +kernel
theorem dX7_comesBounds_15 : decode cX7_comesBounds 15 = .ok (.iload_n 3, 1) := by decide +kernel
theorem dX7_comesBounds_16 : decode cX7_comesBounds 16 = .ok (.invokestatic 96, 3) := by decide +kernel
theorem dX7_comesBounds_19 : decode cX7_comesBounds 19 = .ok (.ifCond .ne 5, 3) := by decide +kernel
theorem dX7_comesBounds_22 : decode cX7_comesBounds 22 = .ok (.iconst 0, 1) := by decide +kernel
theorem dX7_comesBounds_23 : decode cX7_comesBounds 23 = .ok (.ireturn, 1) := by decide +kernel
theorem dX7_comesBounds_24 : decode cX7_comesBounds 24 = .ok (.aload_n 0, 1) := by decide +kernel
theorem dX7_comesBounds_25 : decode cX7_comesBounds 25 = .ok (.getfield 16, 3) := by decide +kernel
theorem dX7_comesBounds_28 : decode cX7_comesBounds 28 = .ok (.iload_n 1, 1) := by decide +kernel
theorem dX7_comesBounds_29 : decode cX7_comesBounds 29 = .ok (.iload_n 2, 1) := by decide +kernel
theorem dX7_comesBounds_30 : decode cX7_comesBounds 30 = .ok (.iastore, 1) := by decide +kernel
theorem dX7_comesBounds_31 : decode cX7_comesBounds 31 = .ok (.aload_n 0, 1) := by decide +kernel
theorem dX7_comesBounds_32 : decode cX7_comesBounds 32 = .ok (.getfield 19, 3) := by decide +kernel
theorem dX7_comesBounds_35 : decode cX7_comesBounds 35 = .ok (.iload_n 1, 1) := by decide +kernel
theorem dX7_comesBounds_36 : decode cX7_comesBounds 36 = .ok (.iload_n 3, 1) := by decide +kernel
theorem dX7_comesBounds_37 : decode cX7_comesBounds 37 = .ok (.iastore, 1) := by decide +kernel
theorem dX7_comesBounds_38 : decode cX7_comesBounds 38 = .ok (.iconst 1, 1) := by decide +kernel
theorem dX7_comesBounds_39 : decode cX7_comesBounds 39 = .ok (.ireturn, 1) := by decide +kernel
theorem dX7_comesRule_0 : decode cX7_comesRule 0 = .ok (.iload_n 2, 1) := by decide +kernel
theorem dX7_comesRule_1 : decode cX7_comesRule 1 = .ok (.iload_n 1, 1) := by decide +kernel
theorem dX7_comesRule_2 : decode cX7_comesRule 2 = .ok (.bipush 114, 2) := by decide +kernel
theorem dX7_comesRule_4 : decode cX7_comesRule 4 = .ok (.if_icmp .ne 7, 3) := by decide +kernel
theorem dX7_comesRule_7 : decode cX7_comesRule 7 = .ok (.iconst 3, 1) := by decide +kernel
theorem dX7_comesRule_8 : decode cX7_comesRule 8 = .ok (.goto 5, 3) := by decide +kernel
theorem dX7_comesRule_11 : decode cX7_comesRule 11 = .ok (.bipush 10, 2) := by decide +kernel
theorem dX7_comesRule_13 : decode cX7_comesRule 13 = .ok (.if_icmp .le 5, 3) := by decide +kernel
theorem dX7_comesRule_16 : decode cX7_comesRule 16 = .ok (.iconst 0, 1) := by decide +kernel
theorem dX7_comesRule_17 : decode cX7_comesRule 17 = .ok (.ireturn, 1) := by decide +kernel
theorem dX7_comesRule_18 : decode cX7_comesRule 18 = .ok (.iload_n 1, 1) := by decide +kernel
theorem dX7_comesRule_19 : decode cX7_comesRule 19 = .ok (.bipush 114, 2) := by decide +kernel
theorem dX7_comesRule_21 : decode cX7_comesRule 21 = .ok (.if_icmp .ne 11, 3) := by decide +kernel
theorem dX7_comesRule_24 : decode cX7_comesRule 24 = .ok (.aload_n 0, 1) := by decide +kernel
theorem dX7_comesRule_25 : decode cX7_comesRule 25 = .ok (.iload_n 2, 1) := by decide +kernel
theorem dX7_comesRule_26 : decode cX7_comesRule 26 = .ok (.putfield 176, 3) := by decide +kernel
theorem dX7_comesRule_29 : decode cX7_comesRule 29 = .ok (.goto 8, 3) := by decide +kernel
theorem dX7_comesRule_32 : decode cX7_comesRule 32 = .ok (.aload_n 0, 1) := by decide +kernel
theorem dX7_comesRule_33 : decode cX7_comesRule 33 = .ok (.iload_n 2, 1) := by decide +kernel
theorem dX7_comesRule_34 : decode cX7_comesRule 34 = .ok (.putfield 90, 3) := by decide +kernel
theorem dX7_comesRule_37 : decode cX7_comesRule 37 = .ok (.iconst 1, 1) := by decide +kernel
theorem dX7_comesRule_38 : decode cX7_comesRule 38 = .ok (.ireturn, 1) := by decide +kernel
theorem dX7_setTold_0 : decode cX7_setTold 0 = .ok (.iconst 0, 1) := by decide +kernel
theorem dX7_setTold_1 : decode cX7_setTold 1 = .ok (.istore 4, 2) := by decide +kernel
theorem dX7_setTold_3 : decode cX7_setTold 3 = .ok (.iconst 0, 1) := by decide +kernel
theorem dX7_setTold_4 : decode cX7_setTold 4 = .ok (.istore 5, 2) := by decide +kernel
theorem dX7_setTold_6 : decode cX7_setTold 6 = .ok (.iload 5, 2) := by decide +kernel
theorem dX7_setTold_8 : decode cX7_setTold 8 = .ok (.bipush 8, 2) := by decide +kernel
theorem dX7_setTold_10 : decode cX7_setTold 10 = .ok (.if_icmp .ge 39, 3) := by decide +kernel
theorem dX7_setTold_13 : decode cX7_setTold 13 = .ok (.iload 4, 2) := by decide +kernel
theorem dX7_setTold_15 : decode cX7_setTold 15 = .ok (.aload_n 0, 1) := by decide +kernel
theorem dX7_setTold_16 : decode cX7_setTold 16 = .ok (.getfield 62, 3) := by decide +kernel
theorem dX7_setTold_19 : decode cX7_setTold 19 = .ok (.iload_n 1, 1) := by decide +kernel
theorem dX7_setTold_20 : decode cX7_setTold 20 = .ok (.iload 5, 2) := by decide +kernel
theorem dX7_setTold_22 : decode cX7_setTold 22 = .ok (.iadd, 1) := by decide +kernel
theorem dX7_setTold_23 : decode cX7_setTold 23 = .ok (.iaload, 1) := by decide +kernel
theorem dX7_setTold_24 : decode cX7_setTold 24 = .ok (.iload_n 2, 1) := by decide +kernel
theorem dX7_setTold_25 : decode cX7_setTold 25 = .ok (.iload_n 3, 1) := by decide +kernel
theorem dX7_setTold_26 : decode cX7_setTold 26 = .ok (.invokestatic 96, 3) := by decide +kernel
theorem dX7_setTold_29 : decode cX7_setTold 29 = .ok (.ifCond .eq 10, 3) := by decide +kernel
theorem dX7_setTold_32 : decode cX7_setTold 32 = .ok (.iconst 1, 1) := by decide +kernel
theorem dX7_setTold_33 : decode cX7_setTold 33 = .ok (.iload 5, 2) := by decide +kernel
theorem dX7_setTold_35 : decode cX7_setTold 35 = .ok (.ishl, 1) := by decide +kernel
theorem dX7_setTold_36 : decode cX7_setTold 36 = .ok (.goto 4, 3) := by decide +kernel
theorem dX7_setTold_39 : decode cX7_setTold 39 = .ok (.iconst 0, 1) := by decide +kernel
theorem dX7_setTold_40 : decode cX7_setTold 40 = .ok (.ior, 1) := by decide +kernel
theorem dX7_setTold_41 : decode cX7_setTold 41 = .ok (.istore 4, 2) := by decide +kernel
theorem dX7_setTold_43 : decode cX7_setTold 43 = .ok (.iinc 5 1, 3) := by decide +kernel
theorem dX7_setTold_46 : decode cX7_setTold 46 = .ok (.goto (-40), 3) := by decide +kernel
theorem dX7_setTold_49 : decode cX7_setTold 49 = .ok (.iload 4, 2) := by decide +kernel
theorem dX7_setTold_51 : decode cX7_setTold 51 = .ok (.ireturn, 1) := by decide +kernel
theorem dX7_comesQuestion_0 : decode cX7_comesQuestion 0 = .ok (.iload_n 1, 1) := by decide +kernel
theorem dX7_comesQuestion_1 : decode cX7_comesQuestion 1 = .ok (.bipush 115, 2) := by decide +kernel
theorem dX7_comesQuestion_3 : decode cX7_comesQuestion 3 = .ok (.if_icmp .ne 7, 3) := by decide +kernel
theorem dX7_comesQuestion_6 : decode cX7_comesQuestion 6 = .ok (.iconst 0, 1) := by decide +kernel
theorem dX7_comesQuestion_7 : decode cX7_comesQuestion 7 = .ok (.goto 14, 3) := by decide +kernel
theorem dX7_comesQuestion_10 : decode cX7_comesQuestion 10 = .ok (.iload_n 1, 1) := by decide +kernel
theorem dX7_comesQuestion_11 : decode cX7_comesQuestion 11 = .ok (.bipush 100, 2) := by decide +kernel
theorem dX7_comesQuestion_13 : decode cX7_comesQuestion 13 = .ok (.if_icmp .ne 7, 3) := by decide +kernel
theorem dX7_comesQuestion_16 : decode cX7_comesQuestion 16 = .ok (.iconst 1, 1) := by decide +kernel
theorem dX7_comesQuestion_17 : decode cX7_comesQuestion 17 = .ok (.goto 4, 3) := by decide +kernel
theorem dX7_comesQuestion_20 : decode cX7_comesQuestion 20 = .ok (.iconst 2, 1) := by decide +kernel
theorem dX7_comesQuestion_21 : decode cX7_comesQuestion 21 = .ok (.istore_n 3, 1) := by decide +kernel
theorem dX7_comesQuestion_22 : decode cX7_comesQuestion 22 = .ok (.aload_n 0, 1) := by decide +kernel
theorem dX7_comesQuestion_23 : decode cX7_comesQuestion 23 = .ok (.iload_n 2, 1) := by decide +kernel
theorem dX7_comesQuestion_24 : decode cX7_comesQuestion 24 = .ok (.iconst 1, 1) := by decide +kernel
theorem dX7_comesQuestion_25 : decode cX7_comesQuestion 25 = .ok (.iload_n 3, 1) := by decide +kernel
theorem dX7_comesQuestion_26 : decode cX7_comesQuestion 26 = .ok (.iconst 1, 1) := by decide +kernel
theorem dX7_comesQuestion_27 : decode cX7_comesQuestion 27 = .ok (.if_icmp .ne 7, 3) := by decide +kernel
theorem dX7_comesQuestion_30 : decode cX7_comesQuestion 30 = .ok (.iconst 1, 1) := by decide +kernel
theorem dX7_comesQuestion_31 : decode cX7_comesQuestion 31 = .ok (.goto 5, 3) := by decide +kernel
theorem dX7_comesQuestion_34 : decode cX7_comesQuestion 34 = .ok (.bipush 9, 2) := by decide +kernel
theorem dX7_comesQuestion_36 : decode cX7_comesQuestion 36 = .ok (.invokevirtual 260, 3) := by decide +kernel
theorem dX7_comesQuestion_39 : decode cX7_comesQuestion 39 = .ok (.istore 4, 2) := by decide +kernel
theorem dX7_comesQuestion_41 : decode cX7_comesQuestion 41 = .ok (.iload_n 3, 1) := by decide +kernel
theorem dX7_comesQuestion_42 : decode cX7_comesQuestion 42 = .ok (.iconst 1, 1) := by decide +kernel
theorem dX7_comesQuestion_43 : decode cX7_comesQuestion 43 = .ok (.if_icmp .ne 13, 3) := by decide +kernel
theorem dX7_comesQuestion_46 : decode cX7_comesQuestion 46 = .ok (.aload_n 0, 1) := by decide +kernel
theorem dX7_comesQuestion_47 : decode cX7_comesQuestion 47 = .ok (.iload_n 2, 1) := by decide +kernel
theorem dX7_comesQuestion_48 : decode cX7_comesQuestion 48 = .ok (.iconst 2, 1) := by decide +kernel
theorem dX7_comesQuestion_49 : decode cX7_comesQuestion 49 = .ok (.iconst 2, 1) := by decide +kernel
theorem dX7_comesQuestion_50 : decode cX7_comesQuestion 50 = .ok (.invokevirtual 260, 3) := by decide +kernel
theorem dX7_comesQuestion_53 : decode cX7_comesQuestion 53 = .ok (.goto 12, 3) := by decide +kernel
theorem dX7_comesQuestion_56 : decode cX7_comesQuestion 56 = .ok (.aload_n 0, 1) := by decide +kernel
theorem dX7_comesQuestion_57 : decode cX7_comesQuestion 57 = .ok (.getfield 62, 3) := by decide +kernel
theorem dX7_comesQuestion_60 : decode cX7_comesQuestion 60 = .ok (.iload_n 2, 1) := by decide +kernel
theorem dX7_comesQuestion_61 : decode cX7_comesQuestion 61 = .ok (.bipush 8, 2) := by decide +kernel
theorem dX7_comesQuestion_63 : decode cX7_comesQuestion 63 = .ok (.iadd, 1) := by decide +kernel
theorem dX7_comesQuestion_64 : decode cX7_comesQuestion 64 = .ok (.iaload, 1) := by decide +kernel
theorem dX7_comesQuestion_65 : decode cX7_comesQuestion 65 = .ok (.istore 5, 2) := by decide +kernel
theorem dX7_comesQuestion_67 : decode cX7_comesQuestion 67 = .ok (.iload_n 3, 1) := by decide +kernel
theorem dX7_comesQuestion_68 : decode cX7_comesQuestion 68 = .ok (.iconst 1, 1) := by decide +kernel
theorem dX7_comesQuestion_69 : decode cX7_comesQuestion 69 = .ok (.if_icmp .ne 14, 3) := by decide +kernel
theorem dX7_comesQuestion_72 : decode cX7_comesQuestion 72 = .ok (.aload_n 0, 1) := by decide +kernel
theorem dX7_comesQuestion_73 : decode cX7_comesQuestion 73 = .ok (.iload_n 2, 1) := by decide +kernel
theorem dX7_comesQuestion_74 : decode cX7_comesQuestion 74 = .ok (.iconst 3, 1) := by decide +kernel
theorem dX7_comesQuestion_75 : decode cX7_comesQuestion 75 = .ok (.bipush 9, 2) := by decide +kernel
theorem dX7_comesQuestion_77 : decode cX7_comesQuestion 77 = .ok (.invokevirtual 260, 3) := by decide +kernel
theorem dX7_comesQuestion_80 : decode cX7_comesQuestion 80 = .ok (.ifCond .ne 14, 3) := by decide +kernel
theorem dX7_comesQuestion_83 : decode cX7_comesQuestion 83 = .ok (.iload_n 3, 1) := by decide +kernel
theorem dX7_comesQuestion_84 : decode cX7_comesQuestion 84 = .ok (.iload 4, 2) := by decide +kernel
theorem dX7_comesQuestion_86 : decode cX7_comesQuestion 86 = .ok (.iload 5, 2) := by decide +kernel
theorem dX7_comesQuestion_88 : decode cX7_comesQuestion 88 = .ok (.invokestatic 263, 3) := by decide +kernel
theorem dX7_comesQuestion_91 : decode cX7_comesQuestion 91 = .ok (.ifCond .eq 5, 3) := by decide +kernel
theorem dX7_comesQuestion_94 : decode cX7_comesQuestion 94 = .ok (.iconst 0, 1) := by decide +kernel
theorem dX7_comesQuestion_95 : decode cX7_comesQuestion 95 = .ok (.ireturn, 1) := by decide +kernel
theorem dX7_comesQuestion_96 : decode cX7_comesQuestion 96 = .ok (.aload_n 0, 1) := by decide +kernel
theorem dX7_comesQuestion_97 : decode cX7_comesQuestion 97 = .ok (.iload_n 3, 1) := by decide +kernel
theorem dX7_comesQuestion_98 : decode cX7_comesQuestion 98 = .ok (.iload 4, 2) := by decide +kernel
theorem dX7_comesQuestion_100 : decode cX7_comesQuestion 100 = .ok (.iload 5, 2) := by decide +kernel
theorem dX7_comesQuestion_102 : decode cX7_comesQuestion 102 = .ok (.invokevirtual 266, 3) := by decide +kernel
theorem dX7_comesQuestion_105 : decode cX7_comesQuestion 105 = .ok (.aload_n 0, 1) := by decide +kernel
theorem dX7_comesQuestion_106 : decode cX7_comesQuestion 106 = .ok (.invokevirtual 270, 3) := by decide +kernel
theorem dX7_comesQuestion_109 : decode cX7_comesQuestion 109 = .ok (.iconst 2, 1) := by decide +kernel
theorem dX7_comesQuestion_110 : decode cX7_comesQuestion 110 = .ok (.if_icmp .eq 7, 3) := by decide +kernel
theorem dX7_comesQuestion_113 : decode cX7_comesQuestion 113 = .ok (.iconst 1, 1) := by decide +kernel
theorem dX7_comesQuestion_114 : decode cX7_comesQuestion 114 = .ok (.goto 4, 3) := by decide +kernel
theorem dX7_comesQuestion_117 : decode cX7_comesQuestion 117 = .ok (.iconst 0, 1) := by decide +kernel
theorem dX7_comesQuestion_118 : decode cX7_comesQuestion 118 = .ok (.ireturn, 1) := by decide +kernel
theorem dX7_comes_0 : decode cX7_comes 0 = .ok (.bipush 9, 2) := by decide +kernel
theorem dX7_comes_2 : decode cX7_comes 2 = .ok (.iload_n 1, 1) := by decide +kernel
theorem dX7_comes_3 : decode cX7_comes 3 = .ok (.imul, 1) := by decide +kernel
theorem dX7_comes_4 : decode cX7_comes 4 = .ok (.istore_n 2, 1) := by decide +kernel
theorem dX7_comes_5 : decode cX7_comes 5 = .ok (.aload_n 0, 1) := by decide +kernel
theorem dX7_comes_6 : decode cX7_comes 6 = .ok (.getfield 56, 3) := by decide +kernel
theorem dX7_comes_9 : decode cX7_comes 9 = .ok (.iload_n 1, 1) := by decide +kernel
theorem dX7_comes_10 : decode cX7_comes 10 = .ok (.iaload, 1) := by decide +kernel
theorem dX7_comes_11 : decode cX7_comes 11 = .ok (.lookupswitch 131 #[(98, 87), (99, 68), (108, 114), (114, 114), (118, 49)], 49) := by decide +kernel
theorem dX7_comes_60 : decode cX7_comes 60 = .ok (.aload_n 0, 1) := by decide +kernel
theorem dX7_comes_61 : decode cX7_comes 61 = .ok (.aload_n 0, 1) := by decide +kernel
theorem dX7_comes_62 : decode cX7_comes 62 = .ok (.getfield 62, 3) := by decide +kernel
theorem dX7_comes_65 : decode cX7_comes 65 = .ok (.iload_n 2, 1) := by decide +kernel
theorem dX7_comes_66 : decode cX7_comes 66 = .ok (.iaload, 1) := by decide +kernel
theorem dX7_comes_67 : decode cX7_comes 67 = .ok (.aload_n 0, 1) := by decide +kernel
theorem dX7_comes_68 : decode cX7_comes 68 = .ok (.getfield 62, 3) := by decide +kernel
theorem dX7_comes_71 : decode cX7_comes 71 = .ok (.iload_n 2, 1) := by decide +kernel
theorem dX7_comes_72 : decode cX7_comes 72 = .ok (.iconst 1, 1) := by decide +kernel
theorem dX7_comes_73 : decode cX7_comes 73 = .ok (.iadd, 1) := by decide +kernel
theorem dX7_comes_74 : decode cX7_comes 74 = .ok (.iaload, 1) := by decide +kernel
theorem dX7_comes_75 : decode cX7_comes 75 = .ok (.invokevirtual 273, 3) := by decide +kernel
theorem dX7_comes_78 : decode cX7_comes 78 = .ok (.ireturn, 1) := by decide +kernel
theorem dX7_comes_79 : decode cX7_comes 79 = .ok (.aload_n 0, 1) := by decide +kernel
theorem dX7_comes_80 : decode cX7_comes 80 = .ok (.aload_n 0, 1) := by decide +kernel
theorem dX7_comes_81 : decode cX7_comes 81 = .ok (.getfield 62, 3) := by decide +kernel
theorem dX7_comes_84 : decode cX7_comes 84 = .ok (.iload_n 2, 1) := by decide +kernel
theorem dX7_comes_85 : decode cX7_comes 85 = .ok (.iaload, 1) := by decide +kernel
theorem dX7_comes_86 : decode cX7_comes 86 = .ok (.aload_n 0, 1) := by decide +kernel
theorem dX7_comes_87 : decode cX7_comes 87 = .ok (.getfield 62, 3) := by decide +kernel
theorem dX7_comes_90 : decode cX7_comes 90 = .ok (.iload_n 2, 1) := by decide +kernel
theorem dX7_comes_91 : decode cX7_comes 91 = .ok (.iconst 1, 1) := by decide +kernel
theorem dX7_comes_92 : decode cX7_comes 92 = .ok (.iadd, 1) := by decide +kernel
theorem dX7_comes_93 : decode cX7_comes 93 = .ok (.iaload, 1) := by decide +kernel
theorem dX7_comes_94 : decode cX7_comes 94 = .ok (.invokevirtual 276, 3) := by decide +kernel
theorem dX7_comes_97 : decode cX7_comes 97 = .ok (.ireturn, 1) := by decide +kernel
theorem dX7_comes_98 : decode cX7_comes 98 = .ok (.aload_n 0, 1) := by decide +kernel
theorem dX7_comes_99 : decode cX7_comes 99 = .ok (.aload_n 0, 1) := by decide +kernel
theorem dX7_comes_100 : decode cX7_comes 100 = .ok (.getfield 62, 3) := by decide +kernel
theorem dX7_comes_103 : decode cX7_comes 103 = .ok (.iload_n 2, 1) := by decide +kernel
theorem dX7_comes_104 : decode cX7_comes 104 = .ok (.iaload, 1) := by decide +kernel
theorem dX7_comes_105 : decode cX7_comes 105 = .ok (.aload_n 0, 1) := by decide +kernel
theorem dX7_comes_106 : decode cX7_comes 106 = .ok (.getfield 62, 3) := by decide +kernel
theorem dX7_comes_109 : decode cX7_comes 109 = .ok (.iload_n 2, 1) := by decide +kernel
theorem dX7_comes_110 : decode cX7_comes 110 = .ok (.iconst 1, 1) := by decide +kernel
theorem dX7_comes_111 : decode cX7_comes 111 = .ok (.iadd, 1) := by decide +kernel
theorem dX7_comes_112 : decode cX7_comes 112 = .ok (.iaload, 1) := by decide +kernel
theorem dX7_comes_113 : decode cX7_comes 113 = .ok (.aload_n 0, 1) := by decide +kernel
theorem dX7_comes_114 : decode cX7_comes 114 = .ok (.getfield 62, 3) := by decide +kernel
theorem dX7_comes_117 : decode cX7_comes 117 = .ok (.iload_n 2, 1) := by decide +kernel
theorem dX7_comes_118 : decode cX7_comes 118 = .ok (.iconst 2, 1) := by decide +kernel
theorem dX7_comes_119 : decode cX7_comes 119 = .ok (.iadd, 1) := by decide +kernel
theorem dX7_comes_120 : decode cX7_comes 120 = .ok (.iaload, 1) := by decide +kernel
theorem dX7_comes_121 : decode cX7_comes 121 = .ok (.invokevirtual 279, 3) := by decide +kernel
theorem dX7_comes_124 : decode cX7_comes 124 = .ok (.ireturn, 1) := by decide +kernel
theorem dX7_comes_125 : decode cX7_comes 125 = .ok (.aload_n 0, 1) := by decide +kernel
theorem dX7_comes_126 : decode cX7_comes 126 = .ok (.aload_n 0, 1) := by decide +kernel
theorem dX7_comes_127 : decode cX7_comes 127 = .ok (.getfield 56, 3) := by decide +kernel
theorem dX7_comes_130 : decode cX7_comes 130 = .ok (.iload_n 1, 1) := by decide +kernel
theorem dX7_comes_131 : decode cX7_comes 131 = .ok (.iaload, 1) := by decide +kernel
theorem dX7_comes_132 : decode cX7_comes 132 = .ok (.aload_n 0, 1) := by decide +kernel
theorem dX7_comes_133 : decode cX7_comes 133 = .ok (.getfield 62, 3) := by decide +kernel
theorem dX7_comes_136 : decode cX7_comes 136 = .ok (.iload_n 2, 1) := by decide +kernel
theorem dX7_comes_137 : decode cX7_comes 137 = .ok (.iaload, 1) := by decide +kernel
theorem dX7_comes_138 : decode cX7_comes 138 = .ok (.invokevirtual 282, 3) := by decide +kernel
theorem dX7_comes_141 : decode cX7_comes 141 = .ok (.ireturn, 1) := by decide +kernel
theorem dX7_comes_142 : decode cX7_comes 142 = .ok (.aload_n 0, 1) := by decide +kernel
theorem dX7_comes_143 : decode cX7_comes 143 = .ok (.aload_n 0, 1) := by decide +kernel
theorem dX7_comes_144 : decode cX7_comes 144 = .ok (.getfield 56, 3) := by decide +kernel
theorem dX7_comes_147 : decode cX7_comes 147 = .ok (.iload_n 1, 1) := by decide +kernel
theorem dX7_comes_148 : decode cX7_comes 148 = .ok (.iaload, 1) := by decide +kernel
theorem dX7_comes_149 : decode cX7_comes 149 = .ok (.iload_n 2, 1) := by decide +kernel
theorem dX7_comes_150 : decode cX7_comes 150 = .ok (.invokevirtual 285, 3) := by decide +kernel
theorem dX7_comes_153 : decode cX7_comes 153 = .ok (.ireturn, 1) := by decide +kernel
theorem dX7_guard_0 : decode cX7_guard 0 = .ok (.aload_n 0, 1) := by decide +kernel
theorem dX7_guard_1 : decode cX7_guard 1 = .ok (.iconst 0, 1) := by decide +kernel
theorem dX7_guard_2 : decode cX7_guard 2 = .ok (.putfield 223, 3) := by decide +kernel
theorem dX7_guard_5 : decode cX7_guard 5 = .ok (.aload_n 0, 1) := by decide +kernel
theorem dX7_guard_6 : decode cX7_guard 6 = .ok (.iconst 0, 1) := by decide +kernel
theorem dX7_guard_7 : decode cX7_guard 7 = .ok (.putfield 238, 3) := by decide +kernel
theorem dX7_guard_10 : decode cX7_guard 10 = .ok (.iconst 1, 1) := by decide +kernel
theorem dX7_guard_11 : decode cX7_guard 11 = .ok (.istore_n 1, 1) := by decide +kernel
theorem dX7_guard_12 : decode cX7_guard 12 = .ok (.iload_n 1, 1) := by decide +kernel
theorem dX7_guard_13 : decode cX7_guard 13 = .ok (.ifCond .eq 47, 3) := by decide +kernel
theorem dX7_guard_16 : decode cX7_guard 16 = .ok (.aload_n 0, 1) := by decide +kernel
theorem dX7_guard_17 : decode cX7_guard 17 = .ok (.getfield 223, 3) := by decide +kernel
theorem dX7_guard_20 : decode cX7_guard 20 = .ok (.aload_n 0, 1) := by decide +kernel
theorem dX7_guard_21 : decode cX7_guard 21 = .ok (.getfield 220, 3) := by decide +kernel
theorem dX7_guard_24 : decode cX7_guard 24 = .ok (.if_icmp .lt 10, 3) := by decide +kernel
theorem dX7_guard_27 : decode cX7_guard 27 = .ok (.aload_n 0, 1) := by decide +kernel
theorem dX7_guard_28 : decode cX7_guard 28 = .ok (.getfield 238, 3) := by decide +kernel
theorem dX7_guard_31 : decode cX7_guard 31 = .ok (.ifCond .ne 29, 3) := by decide +kernel
theorem dX7_guard_34 : decode cX7_guard 34 = .ok (.aload_n 0, 1) := by decide +kernel
theorem dX7_guard_35 : decode cX7_guard 35 = .ok (.invokevirtual 288, 3) := by decide +kernel
theorem dX7_guard_38 : decode cX7_guard 38 = .ok (.istore_n 1, 1) := by decide +kernel
theorem dX7_guard_39 : decode cX7_guard 39 = .ok (.aload_n 0, 1) := by decide +kernel
theorem dX7_guard_40 : decode cX7_guard 40 = .ok (.dup, 1) := by decide +kernel
theorem dX7_guard_41 : decode cX7_guard 41 = .ok (.getfield 238, 3) := by decide +kernel
theorem dX7_guard_44 : decode cX7_guard 44 = .ok (.iload_n 1, 1) := by decide +kernel
theorem dX7_guard_45 : decode cX7_guard 45 = .ok (.ifCond .eq 7, 3) := by decide +kernel
theorem dX7_guard_48 : decode cX7_guard 48 = .ok (.iconst 1, 1) := by decide +kernel
theorem dX7_guard_49 : decode cX7_guard 49 = .ok (.goto 4, 3) := by decide +kernel
theorem dX7_guard_52 : decode cX7_guard 52 = .ok (.iconst 0, 1) := by decide +kernel
theorem dX7_guard_53 : decode cX7_guard 53 = .ok (.iadd, 1) := by decide +kernel
theorem dX7_guard_54 : decode cX7_guard 54 = .ok (.putfield 238, 3) := by decide +kernel
theorem dX7_guard_57 : decode cX7_guard 57 = .ok (.goto (-45), 3) := by decide +kernel
theorem dX7_guard_60 : decode cX7_guard 60 = .ok (.aload_n 0, 1) := by decide +kernel
theorem dX7_guard_61 : decode cX7_guard 61 = .ok (.iconst 0, 1) := by decide +kernel
theorem dX7_guard_62 : decode cX7_guard 62 = .ok (.putfield 220, 3) := by decide +kernel
theorem dX7_guard_65 : decode cX7_guard 65 = .ok (.iload_n 1, 1) := by decide +kernel
theorem dX7_guard_66 : decode cX7_guard 66 = .ok (.ifCond .ne 12, 3) := by decide +kernel
theorem dX7_guard_69 : decode cX7_guard 69 = .ok (.sipush (-1000), 3) := by decide +kernel
theorem dX7_guard_72 : decode cX7_guard 72 = .ok (.aload_n 0, 1) := by decide +kernel
theorem dX7_guard_73 : decode cX7_guard 73 = .ok (.getfield 223, 3) := by decide +kernel
theorem dX7_guard_76 : decode cX7_guard 76 = .ok (.isub, 1) := by decide +kernel
theorem dX7_guard_77 : decode cX7_guard 77 = .ok (.ireturn, 1) := by decide +kernel
theorem dX7_guard_78 : decode cX7_guard 78 = .ok (.aload_n 0, 1) := by decide +kernel
theorem dX7_guard_79 : decode cX7_guard 79 = .ok (.iconst 1, 1) := by decide +kernel
theorem dX7_guard_80 : decode cX7_guard 80 = .ok (.iconst 1, 1) := by decide +kernel
theorem dX7_guard_81 : decode cX7_guard 81 = .ok (.invokevirtual 206, 3) := by decide +kernel
theorem dX7_guard_84 : decode cX7_guard 84 = .ok (.iconst 0, 1) := by decide +kernel
theorem dX7_guard_85 : decode cX7_guard 85 = .ok (.istore_n 2, 1) := by decide +kernel
theorem dX7_guard_86 : decode cX7_guard 86 = .ok (.iload_n 2, 1) := by decide +kernel
theorem dX7_guard_87 : decode cX7_guard 87 = .ok (.aload_n 0, 1) := by decide +kernel
theorem dX7_guard_88 : decode cX7_guard 88 = .ok (.getfield 238, 3) := by decide +kernel
theorem dX7_guard_91 : decode cX7_guard 91 = .ok (.if_icmp .ge 37, 3) := by decide +kernel
theorem dX7_guard_94 : decode cX7_guard 94 = .ok (.aload_n 0, 1) := by decide +kernel
theorem dX7_guard_95 : decode cX7_guard 95 = .ok (.iload_n 2, 1) := by decide +kernel
theorem dX7_guard_96 : decode cX7_guard 96 = .ok (.invokevirtual 291, 3) := by decide +kernel
theorem dX7_guard_99 : decode cX7_guard 99 = .ok (.ifCond .eq 6, 3) := by decide +kernel
theorem dX7_guard_102 : decode cX7_guard 102 = .ok (.goto 20, 3) := by decide +kernel
theorem dX7_guard_105 : decode cX7_guard 105 = .ok (.aload_n 0, 1) := by decide +kernel
theorem dX7_guard_106 : decode cX7_guard 106 = .ok (.iconst 1, 1) := by decide +kernel
theorem dX7_guard_107 : decode cX7_guard 107 = .ok (.iconst 0, 1) := by decide +kernel
theorem dX7_guard_108 : decode cX7_guard 108 = .ok (.invokevirtual 206, 3) := by decide +kernel
theorem dX7_guard_111 : decode cX7_guard 111 = .ok (.sipush (-2000), 3) := by decide +kernel
theorem dX7_guard_114 : decode cX7_guard 114 = .ok (.aload_n 0, 1) := by decide +kernel
theorem dX7_guard_115 : decode cX7_guard 115 = .ok (.getfield 59, 3) := by decide +kernel
theorem dX7_guard_118 : decode cX7_guard 118 = .ok (.iload_n 2, 1) := by decide +kernel
theorem dX7_guard_119 : decode cX7_guard 119 = .ok (.iaload, 1) := by decide +kernel
theorem dX7_guard_120 : decode cX7_guard 120 = .ok (.isub, 1) := by decide +kernel
theorem dX7_guard_121 : decode cX7_guard 121 = .ok (.ireturn, 1) := by decide +kernel
theorem dX7_guard_122 : decode cX7_guard 122 = .ok (.iinc 2 1, 3) := by decide +kernel
theorem dX7_guard_125 : decode cX7_guard 125 = .ok (.goto (-39), 3) := by decide +kernel
theorem dX7_guard_128 : decode cX7_guard 128 = .ok (.aload_n 0, 1) := by decide +kernel
theorem dX7_guard_129 : decode cX7_guard 129 = .ok (.getfield 238, 3) := by decide +kernel
theorem dX7_guard_132 : decode cX7_guard 132 = .ok (.ireturn, 1) := by decide +kernel
theorem dX7_person_0 : decode cX7_person 0 = .ok (.iload_n 1, 1) := by decide +kernel
theorem dX7_person_1 : decode cX7_person 1 = .ok (.invokestatic 244, 3) := by decide +kernel
theorem dX7_person_4 : decode cX7_person 4 = .ok (.ifCond .ne 9, 3) := by decide +kernel
theorem dX7_person_7 : decode cX7_person 7 = .ok (.aload_n 0, 1) := by decide +kernel
theorem dX7_person_8 : decode cX7_person 8 = .ok (.iconst (-1), 1) := by decide +kernel
theorem dX7_person_9 : decode cX7_person 9 = .ok (.invokevirtual 213, 3) := by decide +kernel
theorem dX7_person_12 : decode cX7_person 12 = .ok (.ireturn, 1) := by decide +kernel
theorem dX7_person_13 : decode cX7_person 13 = .ok (.aload_n 0, 1) := by decide +kernel
theorem dX7_person_14 : decode cX7_person 14 = .ok (.getfield 22, 3) := by decide +kernel
theorem dX7_person_17 : decode cX7_person 17 = .ok (.iload_n 1, 1) := by decide +kernel
theorem dX7_person_18 : decode cX7_person 18 = .ok (.iaload, 1) := by decide +kernel
theorem dX7_person_19 : decode cX7_person 19 = .ok (.istore_n 3, 1) := by decide +kernel
theorem dX7_person_20 : decode cX7_person 20 = .ok (.iload_n 2, 1) := by decide +kernel
theorem dX7_person_21 : decode cX7_person 21 = .ok (.tableswitch 50 0 2 #[27, 34, 36], 27) := by decide +kernel
theorem dX7_person_48 : decode cX7_person 48 = .ok (.aload_n 0, 1) := by decide +kernel
theorem dX7_person_49 : decode cX7_person 49 = .ok (.getfield 13, 3) := by decide +kernel
theorem dX7_person_52 : decode cX7_person 52 = .ok (.iload_n 3, 1) := by decide +kernel
theorem dX7_person_53 : decode cX7_person 53 = .ok (.iaload, 1) := by decide +kernel
theorem dX7_person_54 : decode cX7_person 54 = .ok (.ireturn, 1) := by decide +kernel
theorem dX7_person_55 : decode cX7_person 55 = .ok (.iload_n 3, 1) := by decide +kernel
theorem dX7_person_56 : decode cX7_person 56 = .ok (.ireturn, 1) := by decide +kernel
theorem dX7_person_57 : decode cX7_person 57 = .ok (.aload_n 0, 1) := by decide +kernel
theorem dX7_person_58 : decode cX7_person 58 = .ok (.iload_n 3, 1) := by decide +kernel
theorem dX7_person_59 : decode cX7_person 59 = .ok (.invokevirtual 247, 3) := by decide +kernel
theorem dX7_person_62 : decode cX7_person 62 = .ok (.ifCond .eq 7, 3) := by decide +kernel
theorem dX7_person_65 : decode cX7_person 65 = .ok (.iconst 1, 1) := by decide +kernel
theorem dX7_person_66 : decode cX7_person 66 = .ok (.goto 4, 3) := by decide +kernel
theorem dX7_person_69 : decode cX7_person 69 = .ok (.iconst 0, 1) := by decide +kernel
theorem dX7_person_70 : decode cX7_person 70 = .ok (.ireturn, 1) := by decide +kernel
theorem dX7_person_71 : decode cX7_person 71 = .ok (.aload_n 0, 1) := by decide +kernel
theorem dX7_person_72 : decode cX7_person 72 = .ok (.bipush (-2), 2) := by decide +kernel
theorem dX7_person_74 : decode cX7_person 74 = .ok (.invokevirtual 213, 3) := by decide +kernel
theorem dX7_person_77 : decode cX7_person 77 = .ok (.ireturn, 1) := by decide +kernel
theorem dX7_tells_0 : decode cX7_tells 0 = .ok (.iload_n 1, 1) := by decide +kernel
theorem dX7_tells_1 : decode cX7_tells 1 = .ok (.invokestatic 244, 3) := by decide +kernel
theorem dX7_tells_4 : decode cX7_tells 4 = .ok (.ifCond .ne 7, 3) := by decide +kernel
theorem dX7_tells_7 : decode cX7_tells 7 = .ok (.iconst (-1), 1) := by decide +kernel
theorem dX7_tells_8 : decode cX7_tells 8 = .ok (.goto 10, 3) := by decide +kernel
theorem dX7_tells_11 : decode cX7_tells 11 = .ok (.iload_n 2, 1) := by decide +kernel
theorem dX7_tells_12 : decode cX7_tells 12 = .ok (.iconst 0, 1) := by decide +kernel
theorem dX7_tells_13 : decode cX7_tells 13 = .ok (.bipush 99, 2) := by decide +kernel
theorem dX7_tells_15 : decode cX7_tells 15 = .ok (.invokestatic 216, 3) := by decide +kernel
theorem dX7_tells_18 : decode cX7_tells 18 = .ok (.istore_n 3, 1) := by decide +kernel
theorem dX7_tells_19 : decode cX7_tells 19 = .ok (.iload_n 3, 1) := by decide +kernel
theorem dX7_tells_20 : decode cX7_tells 20 = .ok (.ifCond .ne 19, 3) := by decide +kernel
theorem dX7_tells_23 : decode cX7_tells 23 = .ok (.aload_n 0, 1) := by decide +kernel
theorem dX7_tells_24 : decode cX7_tells 24 = .ok (.aload_n 0, 1) := by decide +kernel
theorem dX7_tells_25 : decode cX7_tells 25 = .ok (.getfield 22, 3) := by decide +kernel
theorem dX7_tells_28 : decode cX7_tells 28 = .ok (.iload_n 1, 1) := by decide +kernel
theorem dX7_tells_29 : decode cX7_tells 29 = .ok (.iaload, 1) := by decide +kernel
theorem dX7_tells_30 : decode cX7_tells 30 = .ok (.invokevirtual 247, 3) := by decide +kernel
theorem dX7_tells_33 : decode cX7_tells 33 = .ok (.ifCond .ne 6, 3) := by decide +kernel
theorem dX7_tells_36 : decode cX7_tells 36 = .ok (.bipush (-3), 2) := by decide +kernel
theorem dX7_tells_38 : decode cX7_tells 38 = .ok (.istore_n 3, 1) := by decide +kernel
theorem dX7_tells_39 : decode cX7_tells 39 = .ok (.iload_n 3, 1) := by decide +kernel
theorem dX7_tells_40 : decode cX7_tells 40 = .ok (.ifCond .eq 9, 3) := by decide +kernel
theorem dX7_tells_43 : decode cX7_tells 43 = .ok (.aload_n 0, 1) := by decide +kernel
theorem dX7_tells_44 : decode cX7_tells 44 = .ok (.iload_n 3, 1) := by decide +kernel
theorem dX7_tells_45 : decode cX7_tells 45 = .ok (.invokevirtual 213, 3) := by decide +kernel
theorem dX7_tells_48 : decode cX7_tells 48 = .ok (.ireturn, 1) := by decide +kernel
theorem dX7_tells_49 : decode cX7_tells 49 = .ok (.aload_n 0, 1) := by decide +kernel
theorem dX7_tells_50 : decode cX7_tells 50 = .ok (.getfield 13, 3) := by decide +kernel
theorem dX7_tells_53 : decode cX7_tells 53 = .ok (.aload_n 0, 1) := by decide +kernel
theorem dX7_tells_54 : decode cX7_tells 54 = .ok (.getfield 22, 3) := by decide +kernel
theorem dX7_tells_57 : decode cX7_tells 57 = .ok (.iload_n 1, 1) := by decide +kernel
theorem dX7_tells_58 : decode cX7_tells 58 = .ok (.iaload, 1) := by decide +kernel
theorem dX7_tells_59 : decode cX7_tells 59 = .ok (.iaload, 1) := by decide +kernel
theorem dX7_tells_60 : decode cX7_tells 60 = .ok (.istore 4, 2) := by decide +kernel
theorem dX7_tells_62 : decode cX7_tells 62 = .ok (.aload_n 0, 1) := by decide +kernel
theorem dX7_tells_63 : decode cX7_tells 63 = .ok (.iload_n 1, 1) := by decide +kernel
theorem dX7_tells_64 : decode cX7_tells 64 = .ok (.iload_n 2, 1) := by decide +kernel
theorem dX7_tells_65 : decode cX7_tells 65 = .ok (.invokevirtual 250, 3) := by decide +kernel
theorem dX7_tells_68 : decode cX7_tells 68 = .ok (.iload 4, 2) := by decide +kernel
theorem dX7_tells_70 : decode cX7_tells 70 = .ok (.ireturn, 1) := by decide +kernel
theorem dX7_changes_0 : decode cX7_changes 0 = .ok (.iload_n 1, 1) := by decide +kernel
theorem dX7_changes_1 : decode cX7_changes 1 = .ok (.invokestatic 244, 3) := by decide +kernel
theorem dX7_changes_4 : decode cX7_changes 4 = .ok (.ifCond .ne 7, 3) := by decide +kernel
theorem dX7_changes_7 : decode cX7_changes 7 = .ok (.iconst (-1), 1) := by decide +kernel
theorem dX7_changes_8 : decode cX7_changes 8 = .ok (.goto 10, 3) := by decide +kernel
theorem dX7_changes_11 : decode cX7_changes 11 = .ok (.iload_n 2, 1) := by decide +kernel
theorem dX7_changes_12 : decode cX7_changes 12 = .ok (.iconst 0, 1) := by decide +kernel
theorem dX7_changes_13 : decode cX7_changes 13 = .ok (.bipush 99, 2) := by decide +kernel
theorem dX7_changes_15 : decode cX7_changes 15 = .ok (.invokestatic 216, 3) := by decide +kernel
theorem dX7_changes_18 : decode cX7_changes 18 = .ok (.istore_n 3, 1) := by decide +kernel
theorem dX7_changes_19 : decode cX7_changes 19 = .ok (.iload_n 3, 1) := by decide +kernel
theorem dX7_changes_20 : decode cX7_changes 20 = .ok (.ifCond .ne 15, 3) := by decide +kernel
theorem dX7_changes_23 : decode cX7_changes 23 = .ok (.aload_n 0, 1) := by decide +kernel
theorem dX7_changes_24 : decode cX7_changes 24 = .ok (.getfield 86, 3) := by decide +kernel
theorem dX7_changes_27 : decode cX7_changes 27 = .ok (.bipush 10, 2) := by decide +kernel
theorem dX7_changes_29 : decode cX7_changes 29 = .ok (.if_icmp .ne 6, 3) := by decide +kernel
theorem dX7_changes_32 : decode cX7_changes 32 = .ok (.bipush (-6), 2) := by decide +kernel
theorem dX7_changes_34 : decode cX7_changes 34 = .ok (.istore_n 3, 1) := by decide +kernel
theorem dX7_changes_35 : decode cX7_changes 35 = .ok (.iload_n 3, 1) := by decide +kernel
theorem dX7_changes_36 : decode cX7_changes 36 = .ok (.ifCond .eq 9, 3) := by decide +kernel
theorem dX7_changes_39 : decode cX7_changes 39 = .ok (.aload_n 0, 1) := by decide +kernel
theorem dX7_changes_40 : decode cX7_changes 40 = .ok (.iload_n 3, 1) := by decide +kernel
theorem dX7_changes_41 : decode cX7_changes 41 = .ok (.invokevirtual 213, 3) := by decide +kernel
theorem dX7_changes_44 : decode cX7_changes 44 = .ok (.ireturn, 1) := by decide +kernel
theorem dX7_changes_45 : decode cX7_changes 45 = .ok (.aload_n 0, 1) := by decide +kernel
theorem dX7_changes_46 : decode cX7_changes 46 = .ok (.iload_n 1, 1) := by decide +kernel
theorem dX7_changes_47 : decode cX7_changes 47 = .ok (.iload_n 2, 1) := by decide +kernel
theorem dX7_changes_48 : decode cX7_changes 48 = .ok (.invokevirtual 254, 3) := by decide +kernel
theorem dX7_changes_51 : decode cX7_changes 51 = .ok (.aload_n 0, 1) := by decide +kernel
theorem dX7_changes_52 : decode cX7_changes 52 = .ok (.getfield 86, 3) := by decide +kernel
theorem dX7_changes_55 : decode cX7_changes 55 = .ok (.iconst 1, 1) := by decide +kernel
theorem dX7_changes_56 : decode cX7_changes 56 = .ok (.isub, 1) := by decide +kernel
theorem dX7_changes_57 : decode cX7_changes 57 = .ok (.ireturn, 1) := by decide +kernel
theorem dX7_bounds_0 : decode cX7_bounds 0 = .ok (.aload_n 0, 1) := by decide +kernel
theorem dX7_bounds_1 : decode cX7_bounds 1 = .ok (.iload_n 1, 1) := by decide +kernel
theorem dX7_bounds_2 : decode cX7_bounds 2 = .ok (.invokevirtual 257, 3) := by decide +kernel
theorem dX7_bounds_5 : decode cX7_bounds 5 = .ok (.ifCond .ne 7, 3) := by decide +kernel
theorem dX7_bounds_8 : decode cX7_bounds 8 = .ok (.iconst (-1), 1) := by decide +kernel
theorem dX7_bounds_9 : decode cX7_bounds 9 = .ok (.goto 34, 3) := by decide +kernel
theorem dX7_bounds_12 : decode cX7_bounds 12 = .ok (.iload_n 2, 1) := by decide +kernel
theorem dX7_bounds_13 : decode cX7_bounds 13 = .ok (.ifCond .lt 7, 3) := by decide +kernel
theorem dX7_bounds_16 : decode cX7_bounds 16 = .ok (.iload_n 3, 1) := by decide +kernel
theorem dX7_bounds_17 : decode cX7_bounds 17 = .ok (.ifCond .ge 8, 3) := by decide +kernel
theorem dX7_bounds_20 : decode cX7_bounds 20 = .ok (.bipush (-4), 2) := by decide +kernel
theorem dX7_bounds_22 : decode cX7_bounds 22 = .ok (.goto 21, 3) := by decide +kernel
theorem dX7_bounds_25 : decode cX7_bounds 25 = .ok (.iload_n 2, 1) := by decide +kernel
theorem dX7_bounds_26 : decode cX7_bounds 26 = .ok (.bipush 99, 2) := by decide +kernel
theorem dX7_bounds_28 : decode cX7_bounds 28 = .ok (.if_icmp .gt 9, 3) := by decide +kernel
theorem dX7_bounds_31 : decode cX7_bounds 31 = .ok (.iload_n 3, 1) := by decide +kernel
theorem dX7_bounds_32 : decode cX7_bounds 32 = .ok (.bipush 99, 2) := by decide +kernel
theorem dX7_bounds_34 : decode cX7_bounds 34 = .ok (.if_icmp .le 8, 3) := by decide +kernel
theorem dX7_bounds_37 : decode cX7_bounds 37 = .ok (.bipush (-6), 2) := by decide +kernel
theorem dX7_bounds_39 : decode cX7_bounds 39 = .ok (.goto 4, 3) := by decide +kernel
theorem dX7_bounds_42 : decode cX7_bounds 42 = .ok (.iconst 0, 1) := by decide +kernel
theorem dX7_bounds_43 : decode cX7_bounds 43 = .ok (.istore 4, 2) := by decide +kernel
theorem dX7_bounds_45 : decode cX7_bounds 45 = .ok (.iload 4, 2) := by decide +kernel
theorem dX7_bounds_47 : decode cX7_bounds 47 = .ok (.ifCond .ne 17, 3) := by decide +kernel
theorem dX7_bounds_50 : decode cX7_bounds 50 = .ok (.aload_n 0, 1) := by decide +kernel
theorem dX7_bounds_51 : decode cX7_bounds 51 = .ok (.iload_n 1, 1) := by decide +kernel
theorem dX7_bounds_52 : decode cX7_bounds 52 = .ok (.iload_n 2, 1) := by decide +kernel
theorem dX7_bounds_53 : decode cX7_bounds 53 = .ok (.iload_n 3, 1) := by decide +kernel
theorem dX7_bounds_54 : decode cX7_bounds 54 = .ok (.invokevirtual 279, 3) := by decide +kernel
theorem dX7_bounds_57 : decode cX7_bounds 57 = .ok (.ifCond .ne 7, 3) := by decide +kernel
theorem dX7_bounds_60 : decode cX7_bounds 60 = .ok (.bipush (-3), 2) := by decide +kernel
theorem dX7_bounds_62 : decode cX7_bounds 62 = .ok (.istore 4, 2) := by decide +kernel
theorem dX7_bounds_64 : decode cX7_bounds 64 = .ok (.iload 4, 2) := by decide +kernel
theorem dX7_bounds_66 : decode cX7_bounds 66 = .ok (.ifCond .eq 12, 3) := by decide +kernel
theorem dX7_bounds_69 : decode cX7_bounds 69 = .ok (.aload_n 0, 1) := by decide +kernel
theorem dX7_bounds_70 : decode cX7_bounds 70 = .ok (.iload 4, 2) := by decide +kernel
theorem dX7_bounds_72 : decode cX7_bounds 72 = .ok (.invokevirtual 213, 3) := by decide +kernel
theorem dX7_bounds_75 : decode cX7_bounds 75 = .ok (.goto 4, 3) := by decide +kernel
theorem dX7_bounds_78 : decode cX7_bounds 78 = .ok (.iconst 1, 1) := by decide +kernel
theorem dX7_bounds_79 : decode cX7_bounds 79 = .ok (.ireturn, 1) := by decide +kernel
theorem dX7_rule_0 : decode cX7_rule 0 = .ok (.iload_n 1, 1) := by decide +kernel
theorem dX7_rule_1 : decode cX7_rule 1 = .ok (.iconst 0, 1) := by decide +kernel
theorem dX7_rule_2 : decode cX7_rule 2 = .ok (.iconst 3, 1) := by decide +kernel
theorem dX7_rule_3 : decode cX7_rule 3 = .ok (.invokestatic 96, 3) := by decide +kernel
theorem dX7_rule_6 : decode cX7_rule 6 = .ok (.ifCond .ne 10, 3) := by decide +kernel
theorem dX7_rule_9 : decode cX7_rule 9 = .ok (.aload_n 0, 1) := by decide +kernel
theorem dX7_rule_10 : decode cX7_rule 10 = .ok (.bipush (-2), 2) := by decide +kernel
theorem dX7_rule_12 : decode cX7_rule 12 = .ok (.invokevirtual 213, 3) := by decide +kernel
theorem dX7_rule_15 : decode cX7_rule 15 = .ok (.ireturn, 1) := by decide +kernel
theorem dX7_rule_16 : decode cX7_rule 16 = .ok (.aload_n 0, 1) := by decide +kernel
theorem dX7_rule_17 : decode cX7_rule 17 = .ok (.getfield 176, 3) := by decide +kernel
theorem dX7_rule_20 : decode cX7_rule 20 = .ok (.istore_n 2, 1) := by decide +kernel
theorem dX7_rule_21 : decode cX7_rule 21 = .ok (.aload_n 0, 1) := by decide +kernel
theorem dX7_rule_22 : decode cX7_rule 22 = .ok (.iload_n 1, 1) := by decide +kernel
theorem dX7_rule_23 : decode cX7_rule 23 = .ok (.putfield 176, 3) := by decide +kernel
theorem dX7_rule_26 : decode cX7_rule 26 = .ok (.iload_n 2, 1) := by decide +kernel
theorem dX7_rule_27 : decode cX7_rule 27 = .ok (.ireturn, 1) := by decide +kernel
theorem dX7_limit_0 : decode cX7_limit 0 = .ok (.iload_n 1, 1) := by decide +kernel
theorem dX7_limit_1 : decode cX7_limit 1 = .ok (.iconst 0, 1) := by decide +kernel
theorem dX7_limit_2 : decode cX7_limit 2 = .ok (.bipush 10, 2) := by decide +kernel
theorem dX7_limit_4 : decode cX7_limit 4 = .ok (.invokestatic 216, 3) := by decide +kernel
theorem dX7_limit_7 : decode cX7_limit 7 = .ok (.istore_n 2, 1) := by decide +kernel
theorem dX7_limit_8 : decode cX7_limit 8 = .ok (.iload_n 2, 1) := by decide +kernel
theorem dX7_limit_9 : decode cX7_limit 9 = .ok (.ifCond .eq 9, 3) := by decide +kernel
theorem dX7_limit_12 : decode cX7_limit 12 = .ok (.aload_n 0, 1) := by decide +kernel
theorem dX7_limit_13 : decode cX7_limit 13 = .ok (.iload_n 2, 1) := by decide +kernel
theorem dX7_limit_14 : decode cX7_limit 14 = .ok (.invokevirtual 213, 3) := by decide +kernel
theorem dX7_limit_17 : decode cX7_limit 17 = .ok (.ireturn, 1) := by decide +kernel
theorem dX7_limit_18 : decode cX7_limit 18 = .ok (.aload_n 0, 1) := by decide +kernel
theorem dX7_limit_19 : decode cX7_limit 19 = .ok (.getfield 90, 3) := by decide +kernel
theorem dX7_limit_22 : decode cX7_limit 22 = .ok (.istore_n 3, 1) := by decide +kernel
theorem dX7_limit_23 : decode cX7_limit 23 = .ok (.aload_n 0, 1) := by decide +kernel
theorem dX7_limit_24 : decode cX7_limit 24 = .ok (.iload_n 1, 1) := by decide +kernel
theorem dX7_limit_25 : decode cX7_limit 25 = .ok (.putfield 90, 3) := by decide +kernel
theorem dX7_limit_28 : decode cX7_limit 28 = .ok (.iload_n 3, 1) := by decide +kernel
theorem dX7_limit_29 : decode cX7_limit 29 = .ok (.ireturn, 1) := by decide +kernel
theorem dX7_ask_0 : decode cX7_ask 0 = .ok (.iload_n 1, 1) := by decide +kernel
theorem dX7_ask_1 : decode cX7_ask 1 = .ok (.iload_n 2, 1) := by decide +kernel
theorem dX7_ask_2 : decode cX7_ask 2 = .ok (.iload_n 3, 1) := by decide +kernel
theorem dX7_ask_3 : decode cX7_ask 3 = .ok (.invokestatic 263, 3) := by decide +kernel
theorem dX7_ask_6 : decode cX7_ask 6 = .ok (.istore 4, 2) := by decide +kernel
theorem dX7_ask_8 : decode cX7_ask 8 = .ok (.iload 4, 2) := by decide +kernel
theorem dX7_ask_10 : decode cX7_ask 10 = .ok (.ifCond .eq 10, 3) := by decide +kernel
theorem dX7_ask_13 : decode cX7_ask 13 = .ok (.aload_n 0, 1) := by decide +kernel
theorem dX7_ask_14 : decode cX7_ask 14 = .ok (.iload 4, 2) := by decide +kernel
theorem dX7_ask_16 : decode cX7_ask 16 = .ok (.invokevirtual 294, 3) := by decide +kernel
theorem dX7_ask_19 : decode cX7_ask 19 = .ok (.ireturn, 1) := by decide +kernel
theorem dX7_ask_20 : decode cX7_ask 20 = .ok (.aload_n 0, 1) := by decide +kernel
theorem dX7_ask_21 : decode cX7_ask 21 = .ok (.iload_n 1, 1) := by decide +kernel
theorem dX7_ask_22 : decode cX7_ask 22 = .ok (.iload_n 2, 1) := by decide +kernel
theorem dX7_ask_23 : decode cX7_ask 23 = .ok (.iload_n 3, 1) := by decide +kernel
theorem dX7_ask_24 : decode cX7_ask 24 = .ok (.invokevirtual 266, 3) := by decide +kernel
theorem dX7_ask_27 : decode cX7_ask 27 = .ok (.aload_n 0, 1) := by decide +kernel
theorem dX7_ask_28 : decode cX7_ask 28 = .ok (.invokevirtual 270, 3) := by decide +kernel
theorem dX7_ask_31 : decode cX7_ask 31 = .ok (.iconst 2, 1) := by decide +kernel
theorem dX7_ask_32 : decode cX7_ask 32 = .ok (.if_icmp .ne 12, 3) := by decide +kernel
theorem dX7_ask_35 : decode cX7_ask 35 = .ok (.aload_n 0, 1) := by decide +kernel
theorem dX7_ask_36 : decode cX7_ask 36 = .ok (.bipush (-5), 2) := by decide +kernel
theorem dX7_ask_38 : decode cX7_ask 38 = .ok (.invokevirtual 294, 3) := by decide +kernel
theorem dX7_ask_41 : decode cX7_ask 41 = .ok (.goto 7, 3) := by decide +kernel
theorem dX7_ask_44 : decode cX7_ask 44 = .ok (.aload_n 0, 1) := by decide +kernel
theorem dX7_ask_45 : decode cX7_ask 45 = .ok (.invokevirtual 183, 3) := by decide +kernel
theorem dX7_ask_48 : decode cX7_ask 48 = .ok (.ireturn, 1) := by decide +kernel
theorem dX7_would_0 : decode cX7_would 0 = .ok (.iload_n 1, 1) := by decide +kernel
theorem dX7_would_1 : decode cX7_would 1 = .ok (.iload_n 2, 1) := by decide +kernel
theorem dX7_would_2 : decode cX7_would 2 = .ok (.iload_n 3, 1) := by decide +kernel
theorem dX7_would_3 : decode cX7_would 3 = .ok (.invokestatic 263, 3) := by decide +kernel
theorem dX7_would_6 : decode cX7_would 6 = .ok (.istore 4, 2) := by decide +kernel
theorem dX7_would_8 : decode cX7_would 8 = .ok (.iload 4, 2) := by decide +kernel
theorem dX7_would_10 : decode cX7_would 10 = .ok (.ifCond .eq 10, 3) := by decide +kernel
theorem dX7_would_13 : decode cX7_would 13 = .ok (.aload_n 0, 1) := by decide +kernel
theorem dX7_would_14 : decode cX7_would 14 = .ok (.iload 4, 2) := by decide +kernel
theorem dX7_would_16 : decode cX7_would 16 = .ok (.invokevirtual 213, 3) := by decide +kernel
theorem dX7_would_19 : decode cX7_would 19 = .ok (.ireturn, 1) := by decide +kernel
theorem dX7_would_20 : decode cX7_would 20 = .ok (.aload_n 0, 1) := by decide +kernel
theorem dX7_would_21 : decode cX7_would 21 = .ok (.iload_n 1, 1) := by decide +kernel
theorem dX7_would_22 : decode cX7_would 22 = .ok (.iload_n 2, 1) := by decide +kernel
theorem dX7_would_23 : decode cX7_would 23 = .ok (.iload_n 3, 1) := by decide +kernel
theorem dX7_would_24 : decode cX7_would 24 = .ok (.invokevirtual 266, 3) := by decide +kernel
theorem dX7_would_27 : decode cX7_would 27 = .ok (.aload_n 0, 1) := by decide +kernel
theorem dX7_would_28 : decode cX7_would 28 = .ok (.invokevirtual 186, 3) := by decide +kernel
theorem dX7_would_31 : decode cX7_would 31 = .ok (.ireturn, 1) := by decide +kernel
theorem dX7_findSums_0 : decode cX7_findSums 0 = .ok (.aload_n 0, 1) := by decide +kernel
theorem dX7_findSums_1 : decode cX7_findSums 1 = .ok (.invokevirtual 173, 3) := by decide +kernel
theorem dX7_findSums_4 : decode cX7_findSums 4 = .ok (.iconst 0, 1) := by decide +kernel
theorem dX7_findSums_5 : decode cX7_findSums 5 = .ok (.istore_n 1, 1) := by decide +kernel
theorem dX7_findSums_6 : decode cX7_findSums 6 = .ok (.iload_n 1, 1) := by decide +kernel
theorem dX7_findSums_7 : decode cX7_findSums 7 = .ok (.iconst 3, 1) := by decide +kernel
theorem dX7_findSums_8 : decode cX7_findSums 8 = .ok (.if_icmp .ge 16, 3) := by decide +kernel
theorem dX7_findSums_11 : decode cX7_findSums 11 = .ok (.aload_n 0, 1) := by decide +kernel
theorem dX7_findSums_12 : decode cX7_findSums 12 = .ok (.getfield 68, 3) := by decide +kernel
theorem dX7_findSums_15 : decode cX7_findSums 15 = .ok (.iload_n 1, 1) := by decide +kernel
theorem dX7_findSums_16 : decode cX7_findSums 16 = .ok (.iconst 0, 1) := by decide +kernel
theorem dX7_findSums_17 : decode cX7_findSums 17 = .ok (.iastore, 1) := by decide +kernel
theorem dX7_findSums_18 : decode cX7_findSums 18 = .ok (.iinc 1 1, 3) := by decide +kernel
theorem dX7_findSums_21 : decode cX7_findSums 21 = .ok (.goto (-15), 3) := by decide +kernel
theorem dX7_findSums_24 : decode cX7_findSums 24 = .ok (.iconst 1, 1) := by decide +kernel
theorem dX7_findSums_25 : decode cX7_findSums 25 = .ok (.istore_n 1, 1) := by decide +kernel
theorem dX7_findSums_26 : decode cX7_findSums 26 = .ok (.iload_n 1, 1) := by decide +kernel
theorem dX7_findSums_27 : decode cX7_findSums 27 = .ok (.sipush 255, 3) := by decide +kernel
theorem dX7_findSums_30 : decode cX7_findSums 30 = .ok (.if_icmp .gt 49, 3) := by decide +kernel
theorem dX7_findSums_33 : decode cX7_findSums 33 = .ok (.aload_n 0, 1) := by decide +kernel
theorem dX7_findSums_34 : decode cX7_findSums 34 = .ok (.iconst 0, 1) := by decide +kernel
theorem dX7_findSums_35 : decode cX7_findSums 35 = .ok (.iload_n 1, 1) := by decide +kernel
theorem dX7_findSums_36 : decode cX7_findSums 36 = .ok (.iconst 0, 1) := by decide +kernel
theorem dX7_findSums_37 : decode cX7_findSums 37 = .ok (.invokevirtual 266, 3) := by decide +kernel
theorem dX7_findSums_40 : decode cX7_findSums 40 = .ok (.aload_n 0, 1) := by decide +kernel
theorem dX7_findSums_41 : decode cX7_findSums 41 = .ok (.getfield 65, 3) := by decide +kernel
theorem dX7_findSums_44 : decode cX7_findSums 44 = .ok (.iload_n 1, 1) := by decide +kernel
theorem dX7_findSums_45 : decode cX7_findSums 45 = .ok (.aload_n 0, 1) := by decide +kernel
theorem dX7_findSums_46 : decode cX7_findSums 46 = .ok (.aload_n 0, 1) := by decide +kernel
theorem dX7_findSums_47 : decode cX7_findSums 47 = .ok (.getfield 176, 3) := by decide +kernel
theorem dX7_findSums_50 : decode cX7_findSums 50 = .ok (.aload_n 0, 1) := by decide +kernel
theorem dX7_findSums_51 : decode cX7_findSums 51 = .ok (.getfield 90, 3) := by decide +kernel
theorem dX7_findSums_54 : decode cX7_findSums 54 = .ok (.invokevirtual 179, 3) := by decide +kernel
theorem dX7_findSums_57 : decode cX7_findSums 57 = .ok (.iastore, 1) := by decide +kernel
theorem dX7_findSums_58 : decode cX7_findSums 58 = .ok (.aload_n 0, 1) := by decide +kernel
theorem dX7_findSums_59 : decode cX7_findSums 59 = .ok (.getfield 68, 3) := by decide +kernel
theorem dX7_findSums_62 : decode cX7_findSums 62 = .ok (.aload_n 0, 1) := by decide +kernel
theorem dX7_findSums_63 : decode cX7_findSums 63 = .ok (.getfield 65, 3) := by decide +kernel
theorem dX7_findSums_66 : decode cX7_findSums 66 = .ok (.iload_n 1, 1) := by decide +kernel
theorem dX7_findSums_67 : decode cX7_findSums 67 = .ok (.iaload, 1) := by decide +kernel
theorem dX7_findSums_68 : decode cX7_findSums 68 = .ok (.dup2, 1) := by decide +kernel
theorem dX7_findSums_69 : decode cX7_findSums 69 = .ok (.iaload, 1) := by decide +kernel
theorem dX7_findSums_70 : decode cX7_findSums 70 = .ok (.iconst 1, 1) := by decide +kernel
theorem dX7_findSums_71 : decode cX7_findSums 71 = .ok (.iadd, 1) := by decide +kernel
theorem dX7_findSums_72 : decode cX7_findSums 72 = .ok (.iastore, 1) := by decide +kernel
theorem dX7_findSums_73 : decode cX7_findSums 73 = .ok (.iinc 1 1, 3) := by decide +kernel
theorem dX7_findSums_76 : decode cX7_findSums 76 = .ok (.goto (-50), 3) := by decide +kernel
theorem dX7_findSums_79 : decode cX7_findSums 79 = .ok (.return_, 1) := by decide +kernel
theorem dX7_firstToJoin_0 : decode cX7_firstToJoin 0 = .ok (.iconst 1, 1) := by decide +kernel
theorem dX7_firstToJoin_1 : decode cX7_firstToJoin 1 = .ok (.istore_n 1, 1) := by decide +kernel
theorem dX7_firstToJoin_2 : decode cX7_firstToJoin 2 = .ok (.iload_n 1, 1) := by decide +kernel
theorem dX7_firstToJoin_3 : decode cX7_firstToJoin 3 = .ok (.sipush 255, 3) := by decide +kernel
theorem dX7_firstToJoin_6 : decode cX7_firstToJoin 6 = .ok (.if_icmp .gt 21, 3) := by decide +kernel
theorem dX7_firstToJoin_9 : decode cX7_firstToJoin 9 = .ok (.aload_n 0, 1) := by decide +kernel
theorem dX7_firstToJoin_10 : decode cX7_firstToJoin 10 = .ok (.getfield 65, 3) := by decide +kernel
theorem dX7_firstToJoin_13 : decode cX7_firstToJoin 13 = .ok (.iload_n 1, 1) := by decide +kernel
theorem dX7_firstToJoin_14 : decode cX7_firstToJoin 14 = .ok (.iaload, 1) := by decide +kernel
theorem dX7_firstToJoin_15 : decode cX7_firstToJoin 15 = .ok (.iconst 1, 1) := by decide +kernel
theorem dX7_firstToJoin_16 : decode cX7_firstToJoin 16 = .ok (.if_icmp .ne 5, 3) := by decide +kernel
theorem dX7_firstToJoin_19 : decode cX7_firstToJoin 19 = .ok (.iload_n 1, 1) := by decide +kernel
theorem dX7_firstToJoin_20 : decode cX7_firstToJoin 20 = .ok (.ireturn, 1) := by decide +kernel
theorem dX7_firstToJoin_21 : decode cX7_firstToJoin 21 = .ok (.iinc 1 1, 3) := by decide +kernel
theorem dX7_firstToJoin_24 : decode cX7_firstToJoin 24 = .ok (.goto (-22), 3) := by decide +kernel
theorem dX7_firstToJoin_27 : decode cX7_firstToJoin 27 = .ok (.bipush (-9), 2) := by decide +kernel
theorem dX7_firstToJoin_29 : decode cX7_firstToJoin 29 = .ok (.ireturn, 1) := by decide +kernel
theorem dX7_sums_0 : decode cX7_sums 0 = .ok (.iload_n 1, 1) := by decide +kernel
theorem dX7_sums_1 : decode cX7_sums 1 = .ok (.iconst 0, 1) := by decide +kernel
theorem dX7_sums_2 : decode cX7_sums 2 = .ok (.iconst 3, 1) := by decide +kernel
theorem dX7_sums_3 : decode cX7_sums 3 = .ok (.invokestatic 96, 3) := by decide +kernel
theorem dX7_sums_6 : decode cX7_sums 6 = .ok (.ifCond .ne 10, 3) := by decide +kernel
theorem dX7_sums_9 : decode cX7_sums 9 = .ok (.aload_n 0, 1) := by decide +kernel
theorem dX7_sums_10 : decode cX7_sums 10 = .ok (.bipush (-2), 2) := by decide +kernel
theorem dX7_sums_12 : decode cX7_sums 12 = .ok (.invokevirtual 213, 3) := by decide +kernel
theorem dX7_sums_15 : decode cX7_sums 15 = .ok (.ireturn, 1) := by decide +kernel
theorem dX7_sums_16 : decode cX7_sums 16 = .ok (.aload_n 0, 1) := by decide +kernel
theorem dX7_sums_17 : decode cX7_sums 17 = .ok (.invokevirtual 297, 3) := by decide +kernel
theorem dX7_sums_20 : decode cX7_sums 20 = .ok (.iload_n 1, 1) := by decide +kernel
theorem dX7_sums_21 : decode cX7_sums 21 = .ok (.ifCond .ne 10, 3) := by decide +kernel
theorem dX7_sums_24 : decode cX7_sums 24 = .ok (.aload_n 0, 1) := by decide +kernel
theorem dX7_sums_25 : decode cX7_sums 25 = .ok (.invokevirtual 300, 3) := by decide +kernel
theorem dX7_sums_28 : decode cX7_sums 28 = .ok (.goto 37, 3) := by decide +kernel
theorem dX7_sums_31 : decode cX7_sums 31 = .ok (.iload_n 1, 1) := by decide +kernel
theorem dX7_sums_32 : decode cX7_sums 32 = .ok (.iconst 1, 1) := by decide +kernel
theorem dX7_sums_33 : decode cX7_sums 33 = .ok (.if_icmp .ne 12, 3) := by decide +kernel
theorem dX7_sums_36 : decode cX7_sums 36 = .ok (.aload_n 0, 1) := by decide +kernel
theorem dX7_sums_37 : decode cX7_sums 37 = .ok (.getfield 68, 3) := by decide +kernel
theorem dX7_sums_40 : decode cX7_sums 40 = .ok (.iconst 1, 1) := by decide +kernel
theorem dX7_sums_41 : decode cX7_sums 41 = .ok (.iaload, 1) := by decide +kernel
theorem dX7_sums_42 : decode cX7_sums 42 = .ok (.goto 23, 3) := by decide +kernel
theorem dX7_sums_45 : decode cX7_sums 45 = .ok (.iload_n 1, 1) := by decide +kernel
theorem dX7_sums_46 : decode cX7_sums 46 = .ok (.iconst 2, 1) := by decide +kernel
theorem dX7_sums_47 : decode cX7_sums 47 = .ok (.if_icmp .ne 12, 3) := by decide +kernel
theorem dX7_sums_50 : decode cX7_sums 50 = .ok (.aload_n 0, 1) := by decide +kernel
theorem dX7_sums_51 : decode cX7_sums 51 = .ok (.getfield 68, 3) := by decide +kernel
theorem dX7_sums_54 : decode cX7_sums 54 = .ok (.iconst 2, 1) := by decide +kernel
theorem dX7_sums_55 : decode cX7_sums 55 = .ok (.iaload, 1) := by decide +kernel
theorem dX7_sums_56 : decode cX7_sums 56 = .ok (.goto 9, 3) := by decide +kernel
theorem dX7_sums_59 : decode cX7_sums 59 = .ok (.aload_n 0, 1) := by decide +kernel
theorem dX7_sums_60 : decode cX7_sums 60 = .ok (.getfield 68, 3) := by decide +kernel
theorem dX7_sums_63 : decode cX7_sums 63 = .ok (.iconst 0, 1) := by decide +kernel
theorem dX7_sums_64 : decode cX7_sums 64 = .ok (.iaload, 1) := by decide +kernel
theorem dX7_sums_65 : decode cX7_sums 65 = .ok (.ireturn, 1) := by decide +kernel
theorem dX7_cheapest_0 : decode cX7_cheapest 0 = .ok (.iload_n 1, 1) := by decide +kernel
theorem dX7_cheapest_1 : decode cX7_cheapest 1 = .ok (.iconst 0, 1) := by decide +kernel
theorem dX7_cheapest_2 : decode cX7_cheapest 2 = .ok (.iconst 1, 1) := by decide +kernel
theorem dX7_cheapest_3 : decode cX7_cheapest 3 = .ok (.invokestatic 96, 3) := by decide +kernel
theorem dX7_cheapest_6 : decode cX7_cheapest 6 = .ok (.ifCond .ne 10, 3) := by decide +kernel
theorem dX7_cheapest_9 : decode cX7_cheapest 9 = .ok (.aload_n 0, 1) := by decide +kernel
theorem dX7_cheapest_10 : decode cX7_cheapest 10 = .ok (.bipush (-2), 2) := by decide +kernel
theorem dX7_cheapest_12 : decode cX7_cheapest 12 = .ok (.invokevirtual 213, 3) := by decide +kernel
theorem dX7_cheapest_15 : decode cX7_cheapest 15 = .ok (.ireturn, 1) := by decide +kernel
theorem dX7_cheapest_16 : decode cX7_cheapest 16 = .ok (.aload_n 0, 1) := by decide +kernel
theorem dX7_cheapest_17 : decode cX7_cheapest 17 = .ok (.invokevirtual 297, 3) := by decide +kernel
theorem dX7_cheapest_20 : decode cX7_cheapest 20 = .ok (.bipush (-9), 2) := by decide +kernel
theorem dX7_cheapest_22 : decode cX7_cheapest 22 = .ok (.istore_n 2, 1) := by decide +kernel
theorem dX7_cheapest_23 : decode cX7_cheapest 23 = .ok (.iconst 1, 1) := by decide +kernel
theorem dX7_cheapest_24 : decode cX7_cheapest 24 = .ok (.istore_n 3, 1) := by decide +kernel
theorem dX7_cheapest_25 : decode cX7_cheapest 25 = .ok (.iload_n 3, 1) := by decide +kernel
theorem dX7_cheapest_26 : decode cX7_cheapest 26 = .ok (.sipush 255, 3) := by decide +kernel
theorem dX7_cheapest_29 : decode cX7_cheapest 29 = .ok (.if_icmp .gt 36, 3) := by decide +kernel
theorem dX7_cheapest_32 : decode cX7_cheapest 32 = .ok (.aload_n 0, 1) := by decide +kernel
theorem dX7_cheapest_33 : decode cX7_cheapest 33 = .ok (.getfield 65, 3) := by decide +kernel
theorem dX7_cheapest_36 : decode cX7_cheapest 36 = .ok (.iload_n 3, 1) := by decide +kernel
theorem dX7_cheapest_37 : decode cX7_cheapest 37 = .ok (.iaload, 1) := by decide +kernel
theorem dX7_cheapest_38 : decode cX7_cheapest 38 = .ok (.iconst 1, 1) := by decide +kernel
theorem dX7_cheapest_39 : decode cX7_cheapest 39 = .ok (.if_icmp .ne 20, 3) := by decide +kernel
theorem dX7_cheapest_42 : decode cX7_cheapest 42 = .ok (.iload_n 2, 1) := by decide +kernel
theorem dX7_cheapest_43 : decode cX7_cheapest 43 = .ok (.ifCond .lt 14, 3) := by decide +kernel
theorem dX7_cheapest_46 : decode cX7_cheapest 46 = .ok (.iload_n 3, 1) := by decide +kernel
theorem dX7_cheapest_47 : decode cX7_cheapest 47 = .ok (.invokestatic 303, 3) := by decide +kernel
theorem dX7_cheapest_50 : decode cX7_cheapest 50 = .ok (.iload_n 2, 1) := by decide +kernel
theorem dX7_cheapest_51 : decode cX7_cheapest 51 = .ok (.invokestatic 303, 3) := by decide +kernel
theorem dX7_cheapest_54 : decode cX7_cheapest 54 = .ok (.if_icmp .ge 5, 3) := by decide +kernel
theorem dX7_cheapest_57 : decode cX7_cheapest 57 = .ok (.iload_n 3, 1) := by decide +kernel
theorem dX7_cheapest_58 : decode cX7_cheapest 58 = .ok (.istore_n 2, 1) := by decide +kernel
theorem dX7_cheapest_59 : decode cX7_cheapest 59 = .ok (.iinc 3 1, 3) := by decide +kernel
theorem dX7_cheapest_62 : decode cX7_cheapest 62 = .ok (.goto (-37), 3) := by decide +kernel
theorem dX7_cheapest_65 : decode cX7_cheapest 65 = .ok (.iload_n 2, 1) := by decide +kernel
theorem dX7_cheapest_66 : decode cX7_cheapest 66 = .ok (.ifCond .ge 8, 3) := by decide +kernel
theorem dX7_cheapest_69 : decode cX7_cheapest 69 = .ok (.bipush (-9), 2) := by decide +kernel
theorem dX7_cheapest_71 : decode cX7_cheapest 71 = .ok (.goto 15, 3) := by decide +kernel
theorem dX7_cheapest_74 : decode cX7_cheapest 74 = .ok (.iload_n 1, 1) := by decide +kernel
theorem dX7_cheapest_75 : decode cX7_cheapest 75 = .ok (.ifCond .ne 7, 3) := by decide +kernel
theorem dX7_cheapest_78 : decode cX7_cheapest 78 = .ok (.iload_n 2, 1) := by decide +kernel
theorem dX7_cheapest_79 : decode cX7_cheapest 79 = .ok (.goto 7, 3) := by decide +kernel
theorem dX7_cheapest_82 : decode cX7_cheapest 82 = .ok (.iload_n 2, 1) := by decide +kernel
theorem dX7_cheapest_83 : decode cX7_cheapest 83 = .ok (.invokestatic 303, 3) := by decide +kernel
theorem dX7_cheapest_86 : decode cX7_cheapest 86 = .ok (.ireturn, 1) := by decide +kernel
theorem dX7_isRow_0 : decode cX7_isRow 0 = .ok (.iload_n 1, 1) := by decide +kernel
theorem dX7_isRow_1 : decode cX7_isRow 1 = .ok (.iconst 0, 1) := by decide +kernel
theorem dX7_isRow_2 : decode cX7_isRow 2 = .ok (.aload_n 0, 1) := by decide +kernel
theorem dX7_isRow_3 : decode cX7_isRow 3 = .ok (.getfield 100, 3) := by decide +kernel
theorem dX7_isRow_6 : decode cX7_isRow 6 = .ok (.iconst 1, 1) := by decide +kernel
theorem dX7_isRow_7 : decode cX7_isRow 7 = .ok (.isub, 1) := by decide +kernel
theorem dX7_isRow_8 : decode cX7_isRow 8 = .ok (.invokestatic 96, 3) := by decide +kernel
theorem dX7_isRow_11 : decode cX7_isRow 11 = .ok (.ireturn, 1) := by decide +kernel
theorem dX7_ledger_0 : decode cX7_ledger 0 = .ok (.aload_n 0, 1) := by decide +kernel
theorem dX7_ledger_1 : decode cX7_ledger 1 = .ok (.iload_n 1, 1) := by decide +kernel
theorem dX7_ledger_2 : decode cX7_ledger 2 = .ok (.invokevirtual 306, 3) := by decide +kernel
theorem dX7_ledger_5 : decode cX7_ledger 5 = .ok (.ifCond .eq 28, 3) := by decide +kernel
theorem dX7_ledger_8 : decode cX7_ledger 8 = .ok (.aload_n 0, 1) := by decide +kernel
theorem dX7_ledger_9 : decode cX7_ledger 9 = .ok (.iload_n 2, 1) := by decide +kernel
theorem dX7_ledger_10 : decode cX7_ledger 10 = .ok (.invokevirtual 257, 3) := by decide +kernel
theorem dX7_ledger_13 : decode cX7_ledger 13 = .ok (.ifCond .eq 20, 3) := by decide +kernel
theorem dX7_ledger_16 : decode cX7_ledger 16 = .ok (.aload_n 0, 1) := by decide +kernel
theorem dX7_ledger_17 : decode cX7_ledger 17 = .ok (.getfield 25, 3) := by decide +kernel
theorem dX7_ledger_20 : decode cX7_ledger 20 = .ok (.bipush 10, 2) := by decide +kernel
theorem dX7_ledger_22 : decode cX7_ledger 22 = .ok (.iload_n 1, 1) := by decide +kernel
theorem dX7_ledger_23 : decode cX7_ledger 23 = .ok (.imul, 1) := by decide +kernel
theorem dX7_ledger_24 : decode cX7_ledger 24 = .ok (.iload_n 2, 1) := by decide +kernel
theorem dX7_ledger_25 : decode cX7_ledger 25 = .ok (.iadd, 1) := by decide +kernel
theorem dX7_ledger_26 : decode cX7_ledger 26 = .ok (.iaload, 1) := by decide +kernel
theorem dX7_ledger_27 : decode cX7_ledger 27 = .ok (.bipush 100, 2) := by decide +kernel
theorem dX7_ledger_29 : decode cX7_ledger 29 = .ok (.iadd, 1) := by decide +kernel
theorem dX7_ledger_30 : decode cX7_ledger 30 = .ok (.goto 8, 3) := by decide +kernel
theorem dX7_ledger_33 : decode cX7_ledger 33 = .ok (.aload_n 0, 1) := by decide +kernel
theorem dX7_ledger_34 : decode cX7_ledger 34 = .ok (.iconst (-1), 1) := by decide +kernel
theorem dX7_ledger_35 : decode cX7_ledger 35 = .ok (.invokevirtual 213, 3) := by decide +kernel
theorem dX7_ledger_38 : decode cX7_ledger 38 = .ok (.ireturn, 1) := by decide +kernel
theorem dX7_answer_0 : decode cX7_answer 0 = .ok (.aload_n 0, 1) := by decide +kernel
theorem dX7_answer_1 : decode cX7_answer 1 = .ok (.iload_n 1, 1) := by decide +kernel
theorem dX7_answer_2 : decode cX7_answer 2 = .ok (.invokevirtual 306, 3) := by decide +kernel
theorem dX7_answer_5 : decode cX7_answer 5 = .ok (.ifCond .eq 13, 3) := by decide +kernel
theorem dX7_answer_8 : decode cX7_answer 8 = .ok (.aload_n 0, 1) := by decide +kernel
theorem dX7_answer_9 : decode cX7_answer 9 = .ok (.getfield 28, 3) := by decide +kernel
theorem dX7_answer_12 : decode cX7_answer 12 = .ok (.iload_n 1, 1) := by decide +kernel
theorem dX7_answer_13 : decode cX7_answer 13 = .ok (.iaload, 1) := by decide +kernel
theorem dX7_answer_14 : decode cX7_answer 14 = .ok (.i2l, 1) := by decide +kernel
theorem dX7_answer_15 : decode cX7_answer 15 = .ok (.goto 8, 3) := by decide +kernel
theorem dX7_answer_18 : decode cX7_answer 18 = .ok (.aload_n 0, 1) := by decide +kernel
theorem dX7_answer_19 : decode cX7_answer 19 = .ok (.iconst (-1), 1) := by decide +kernel
theorem dX7_answer_20 : decode cX7_answer 20 = .ok (.invokevirtual 309, 3) := by decide +kernel
theorem dX7_answer_23 : decode cX7_answer 23 = .ok (.lreturn, 1) := by decide +kernel
theorem dX7_partOf_0 : decode cX7_partOf 0 = .ok (.iload 4, 2) := by decide +kernel
theorem dX7_partOf_2 : decode cX7_partOf 2 = .ok (.ifCond .ne 7, 3) := by decide +kernel
theorem dX7_partOf_5 : decode cX7_partOf 5 = .ok (.lload_n 0, 1) := by decide +kernel
theorem dX7_partOf_6 : decode cX7_partOf 6 = .ok (.goto 4, 3) := by decide +kernel
theorem dX7_partOf_9 : decode cX7_partOf 9 = .ok (.lload_n 2, 1) := by decide +kernel
theorem dX7_partOf_10 : decode cX7_partOf 10 = .ok (.lload_n 0, 1) := by decide +kernel
theorem dX7_partOf_11 : decode cX7_partOf 11 = .ok (.lload_n 2, 1) := by decide +kernel
theorem dX7_partOf_12 : decode cX7_partOf 12 = .ok (.invokestatic 118, 3) := by decide +kernel
theorem dX7_partOf_15 : decode cX7_partOf 15 = .ok (.ldiv, 1) := by decide +kernel
theorem dX7_partOf_16 : decode cX7_partOf 16 = .ok (.lreturn, 1) := by decide +kernel
theorem dX7_byPivots_0 : decode cX7_byPivots 0 = .ok (.iconst 0, 1) := by decide +kernel
theorem dX7_byPivots_1 : decode cX7_byPivots 1 = .ok (.istore_n 2, 1) := by decide +kernel
theorem dX7_byPivots_2 : decode cX7_byPivots 2 = .ok (.iload_n 2, 1) := by decide +kernel
theorem dX7_byPivots_3 : decode cX7_byPivots 3 = .ok (.aload_n 0, 1) := by decide +kernel
theorem dX7_byPivots_4 : decode cX7_byPivots 4 = .ok (.getfield 129, 3) := by decide +kernel
theorem dX7_byPivots_7 : decode cX7_byPivots 7 = .ok (.if_icmp .ge 60, 3) := by decide +kernel
theorem dX7_byPivots_10 : decode cX7_byPivots 10 = .ok (.iconst 0, 1) := by decide +kernel
theorem dX7_byPivots_11 : decode cX7_byPivots 11 = .ok (.istore_n 3, 1) := by decide +kernel
theorem dX7_byPivots_12 : decode cX7_byPivots 12 = .ok (.iconst 0, 1) := by decide +kernel
theorem dX7_byPivots_13 : decode cX7_byPivots 13 = .ok (.istore 4, 2) := by decide +kernel
theorem dX7_byPivots_15 : decode cX7_byPivots 15 = .ok (.iload 4, 2) := by decide +kernel
theorem dX7_byPivots_17 : decode cX7_byPivots 17 = .ok (.aload_n 0, 1) := by decide +kernel
theorem dX7_byPivots_18 : decode cX7_byPivots 18 = .ok (.getfield 129, 3) := by decide +kernel
theorem dX7_byPivots_21 : decode cX7_byPivots 21 = .ok (.if_icmp .ge 33, 3) := by decide +kernel
theorem dX7_byPivots_24 : decode cX7_byPivots 24 = .ok (.iload_n 3, 1) := by decide +kernel
theorem dX7_byPivots_25 : decode cX7_byPivots 25 = .ok (.aload_n 0, 1) := by decide +kernel
theorem dX7_byPivots_26 : decode cX7_byPivots 26 = .ok (.getfield 47, 3) := by decide +kernel
theorem dX7_byPivots_29 : decode cX7_byPivots 29 = .ok (.iload 4, 2) := by decide +kernel
theorem dX7_byPivots_31 : decode cX7_byPivots 31 = .ok (.iaload, 1) := by decide +kernel
theorem dX7_byPivots_32 : decode cX7_byPivots 32 = .ok (.aload_n 0, 1) := by decide +kernel
theorem dX7_byPivots_33 : decode cX7_byPivots 33 = .ok (.getfield 47, 3) := by decide +kernel
theorem dX7_byPivots_36 : decode cX7_byPivots 36 = .ok (.iload_n 2, 1) := by decide +kernel
theorem dX7_byPivots_37 : decode cX7_byPivots 37 = .ok (.iaload, 1) := by decide +kernel
theorem dX7_byPivots_38 : decode cX7_byPivots 38 = .ok (.if_icmp .ge 7, 3) := by decide +kernel
theorem dX7_byPivots_41 : decode cX7_byPivots 41 = .ok (.iconst 1, 1) := by decide +kernel
theorem dX7_byPivots_42 : decode cX7_byPivots 42 = .ok (.goto 4, 3) := by decide +kernel
theorem dX7_byPivots_45 : decode cX7_byPivots 45 = .ok (.iconst 0, 1) := by decide +kernel
theorem dX7_byPivots_46 : decode cX7_byPivots 46 = .ok (.iadd, 1) := by decide +kernel
theorem dX7_byPivots_47 : decode cX7_byPivots 47 = .ok (.istore_n 3, 1) := by decide +kernel
theorem dX7_byPivots_48 : decode cX7_byPivots 48 = .ok (.iinc 4 1, 3) := by decide +kernel
theorem dX7_byPivots_51 : decode cX7_byPivots 51 = .ok (.goto (-36), 3) := by decide +kernel
theorem dX7_byPivots_54 : decode cX7_byPivots 54 = .ok (.iload_n 3, 1) := by decide +kernel
theorem dX7_byPivots_55 : decode cX7_byPivots 55 = .ok (.iload_n 1, 1) := by decide +kernel
theorem dX7_byPivots_56 : decode cX7_byPivots 56 = .ok (.if_icmp .ne 5, 3) := by decide +kernel
theorem dX7_byPivots_59 : decode cX7_byPivots 59 = .ok (.iload_n 2, 1) := by decide +kernel
theorem dX7_byPivots_60 : decode cX7_byPivots 60 = .ok (.ireturn, 1) := by decide +kernel
theorem dX7_byPivots_61 : decode cX7_byPivots 61 = .ok (.iinc 2 1, 3) := by decide +kernel
theorem dX7_byPivots_64 : decode cX7_byPivots 64 = .ok (.goto (-62), 3) := by decide +kernel
theorem dX7_byPivots_67 : decode cX7_byPivots 67 = .ok (.iconst 0, 1) := by decide +kernel
theorem dX7_byPivots_68 : decode cX7_byPivots 68 = .ok (.ireturn, 1) := by decide +kernel
theorem dX7_reduced_0 : decode cX7_reduced 0 = .ok (.aload_n 0, 1) := by decide +kernel
theorem dX7_reduced_1 : decode cX7_reduced 1 = .ok (.iload_n 1, 1) := by decide +kernel
theorem dX7_reduced_2 : decode cX7_reduced 2 = .ok (.invokevirtual 306, 3) := by decide +kernel
theorem dX7_reduced_5 : decode cX7_reduced 5 = .ok (.ifCond .eq 11, 3) := by decide +kernel
theorem dX7_reduced_8 : decode cX7_reduced 8 = .ok (.aload_n 0, 1) := by decide +kernel
theorem dX7_reduced_9 : decode cX7_reduced 9 = .ok (.iload_n 2, 1) := by decide +kernel
theorem dX7_reduced_10 : decode cX7_reduced 10 = .ok (.invokevirtual 257, 3) := by decide +kernel
theorem dX7_reduced_13 : decode cX7_reduced 13 = .ok (.ifCond .ne 7, 3) := by decide +kernel
theorem dX7_reduced_16 : decode cX7_reduced 16 = .ok (.iconst (-1), 1) := by decide +kernel
theorem dX7_reduced_17 : decode cX7_reduced 17 = .ok (.goto 18, 3) := by decide +kernel
theorem dX7_reduced_20 : decode cX7_reduced 20 = .ok (.iload_n 3, 1) := by decide +kernel
theorem dX7_reduced_21 : decode cX7_reduced 21 = .ok (.iconst 0, 1) := by decide +kernel
theorem dX7_reduced_22 : decode cX7_reduced 22 = .ok (.iconst 1, 1) := by decide +kernel
theorem dX7_reduced_23 : decode cX7_reduced 23 = .ok (.invokestatic 96, 3) := by decide +kernel
theorem dX7_reduced_26 : decode cX7_reduced 26 = .ok (.ifCond .ne 8, 3) := by decide +kernel
theorem dX7_reduced_29 : decode cX7_reduced 29 = .ok (.bipush (-2), 2) := by decide +kernel
theorem dX7_reduced_31 : decode cX7_reduced 31 = .ok (.goto 4, 3) := by decide +kernel
theorem dX7_reduced_34 : decode cX7_reduced 34 = .ok (.iconst 0, 1) := by decide +kernel
theorem dX7_reduced_35 : decode cX7_reduced 35 = .ok (.istore 4, 2) := by decide +kernel
theorem dX7_reduced_37 : decode cX7_reduced 37 = .ok (.iload 4, 2) := by decide +kernel
theorem dX7_reduced_39 : decode cX7_reduced 39 = .ok (.ifCond .eq 10, 3) := by decide +kernel
theorem dX7_reduced_42 : decode cX7_reduced 42 = .ok (.aload_n 0, 1) := by decide +kernel
theorem dX7_reduced_43 : decode cX7_reduced 43 = .ok (.iload 4, 2) := by decide +kernel
theorem dX7_reduced_45 : decode cX7_reduced 45 = .ok (.invokevirtual 309, 3) := by decide +kernel
theorem dX7_reduced_48 : decode cX7_reduced 48 = .ok (.lreturn, 1) := by decide +kernel
theorem dX7_reduced_49 : decode cX7_reduced 49 = .ok (.aload_n 0, 1) := by decide +kernel
theorem dX7_reduced_50 : decode cX7_reduced 50 = .ok (.invokevirtual 173, 3) := by decide +kernel
theorem dX7_reduced_53 : decode cX7_reduced 53 = .ok (.aload_n 0, 1) := by decide +kernel
theorem dX7_reduced_54 : decode cX7_reduced 54 = .ok (.iload_n 1, 1) := by decide +kernel
theorem dX7_reduced_55 : decode cX7_reduced 55 = .ok (.invokevirtual 313, 3) := by decide +kernel
theorem dX7_reduced_58 : decode cX7_reduced 58 = .ok (.istore 5, 2) := by decide +kernel
theorem dX7_reduced_60 : decode cX7_reduced 60 = .ok (.aload_n 0, 1) := by decide +kernel
theorem dX7_reduced_61 : decode cX7_reduced 61 = .ok (.getfield 38, 3) := by decide +kernel
theorem dX7_reduced_64 : decode cX7_reduced 64 = .ok (.bipush 10, 2) := by decide +kernel
theorem dX7_reduced_66 : decode cX7_reduced 66 = .ok (.iload 5, 2) := by decide +kernel
theorem dX7_reduced_68 : decode cX7_reduced 68 = .ok (.imul, 1) := by decide +kernel
theorem dX7_reduced_69 : decode cX7_reduced 69 = .ok (.iload_n 2, 1) := by decide +kernel
theorem dX7_reduced_70 : decode cX7_reduced 70 = .ok (.iadd, 1) := by decide +kernel
theorem dX7_reduced_71 : decode cX7_reduced 71 = .ok (.laload, 1) := by decide +kernel
theorem dX7_reduced_72 : decode cX7_reduced 72 = .ok (.aload_n 0, 1) := by decide +kernel
theorem dX7_reduced_73 : decode cX7_reduced 73 = .ok (.getfield 38, 3) := by decide +kernel
theorem dX7_reduced_76 : decode cX7_reduced 76 = .ok (.bipush 10, 2) := by decide +kernel
theorem dX7_reduced_78 : decode cX7_reduced 78 = .ok (.iload 5, 2) := by decide +kernel
theorem dX7_reduced_80 : decode cX7_reduced 80 = .ok (.imul, 1) := by decide +kernel
theorem dX7_reduced_81 : decode cX7_reduced 81 = .ok (.aload_n 0, 1) := by decide +kernel
theorem dX7_reduced_82 : decode cX7_reduced 82 = .ok (.getfield 47, 3) := by decide +kernel
theorem dX7_reduced_85 : decode cX7_reduced 85 = .ok (.iload 5, 2) := by decide +kernel
theorem dX7_reduced_87 : decode cX7_reduced 87 = .ok (.iaload, 1) := by decide +kernel
theorem dX7_reduced_88 : decode cX7_reduced 88 = .ok (.iadd, 1) := by decide +kernel
theorem dX7_reduced_89 : decode cX7_reduced 89 = .ok (.laload, 1) := by decide +kernel
theorem dX7_reduced_90 : decode cX7_reduced 90 = .ok (.iload_n 3, 1) := by decide +kernel
theorem dX7_reduced_91 : decode cX7_reduced 91 = .ok (.invokestatic 316, 3) := by decide +kernel
theorem dX7_reduced_94 : decode cX7_reduced 94 = .ok (.lreturn, 1) := by decide +kernel
theorem dX7_pivots_0 : decode cX7_pivots 0 = .ok (.aload_n 0, 1) := by decide +kernel
theorem dX7_pivots_1 : decode cX7_pivots 1 = .ok (.invokevirtual 173, 3) := by decide +kernel
theorem dX7_pivots_4 : decode cX7_pivots 4 = .ok (.iconst 0, 1) := by decide +kernel
theorem dX7_pivots_5 : decode cX7_pivots 5 = .ok (.istore_n 1, 1) := by decide +kernel
theorem dX7_pivots_6 : decode cX7_pivots 6 = .ok (.iconst 0, 1) := by decide +kernel
theorem dX7_pivots_7 : decode cX7_pivots 7 = .ok (.istore_n 2, 1) := by decide +kernel
theorem dX7_pivots_8 : decode cX7_pivots 8 = .ok (.iload_n 2, 1) := by decide +kernel
theorem dX7_pivots_9 : decode cX7_pivots 9 = .ok (.aload_n 0, 1) := by decide +kernel
theorem dX7_pivots_10 : decode cX7_pivots 10 = .ok (.getfield 129, 3) := by decide +kernel
theorem dX7_pivots_13 : decode cX7_pivots 13 = .ok (.if_icmp .ge 20, 3) := by decide +kernel
theorem dX7_pivots_16 : decode cX7_pivots 16 = .ok (.iload_n 1, 1) := by decide +kernel
theorem dX7_pivots_17 : decode cX7_pivots 17 = .ok (.iconst 1, 1) := by decide +kernel
theorem dX7_pivots_18 : decode cX7_pivots 18 = .ok (.aload_n 0, 1) := by decide +kernel
theorem dX7_pivots_19 : decode cX7_pivots 19 = .ok (.getfield 47, 3) := by decide +kernel
theorem dX7_pivots_22 : decode cX7_pivots 22 = .ok (.iload_n 2, 1) := by decide +kernel
theorem dX7_pivots_23 : decode cX7_pivots 23 = .ok (.iaload, 1) := by decide +kernel
theorem dX7_pivots_24 : decode cX7_pivots 24 = .ok (.ishl, 1) := by decide +kernel
theorem dX7_pivots_25 : decode cX7_pivots 25 = .ok (.ior, 1) := by decide +kernel
theorem dX7_pivots_26 : decode cX7_pivots 26 = .ok (.istore_n 1, 1) := by decide +kernel
theorem dX7_pivots_27 : decode cX7_pivots 27 = .ok (.iinc 2 1, 3) := by decide +kernel
theorem dX7_pivots_30 : decode cX7_pivots 30 = .ok (.goto (-22), 3) := by decide +kernel
theorem dX7_pivots_33 : decode cX7_pivots 33 = .ok (.iload_n 1, 1) := by decide +kernel
theorem dX7_pivots_34 : decode cX7_pivots 34 = .ok (.ireturn, 1) := by decide +kernel
theorem dX7_attack_0 : decode cX7_attack 0 = .ok (.aload_n 0, 1) := by decide +kernel
theorem dX7_attack_1 : decode cX7_attack 1 = .ok (.iload_n 1, 1) := by decide +kernel
theorem dX7_attack_2 : decode cX7_attack 2 = .ok (.invokevirtual 257, 3) := by decide +kernel
theorem dX7_attack_5 : decode cX7_attack 5 = .ok (.ifCond .ne 7, 3) := by decide +kernel
theorem dX7_attack_8 : decode cX7_attack 8 = .ok (.iconst (-1), 1) := by decide +kernel
theorem dX7_attack_9 : decode cX7_attack 9 = .ok (.goto 18, 3) := by decide +kernel
theorem dX7_attack_12 : decode cX7_attack 12 = .ok (.iload_n 2, 1) := by decide +kernel
theorem dX7_attack_13 : decode cX7_attack 13 = .ok (.iconst 0, 1) := by decide +kernel
theorem dX7_attack_14 : decode cX7_attack 14 = .ok (.iconst 1, 1) := by decide +kernel
theorem dX7_attack_15 : decode cX7_attack 15 = .ok (.invokestatic 96, 3) := by decide +kernel
theorem dX7_attack_18 : decode cX7_attack 18 = .ok (.ifCond .ne 8, 3) := by decide +kernel
theorem dX7_attack_21 : decode cX7_attack 21 = .ok (.bipush (-2), 2) := by decide +kernel
theorem dX7_attack_23 : decode cX7_attack 23 = .ok (.goto 4, 3) := by decide +kernel
theorem dX7_attack_26 : decode cX7_attack 26 = .ok (.iconst 0, 1) := by decide +kernel
theorem dX7_attack_27 : decode cX7_attack 27 = .ok (.istore_n 3, 1) := by decide +kernel
theorem dX7_attack_28 : decode cX7_attack 28 = .ok (.iload_n 3, 1) := by decide +kernel
theorem dX7_attack_29 : decode cX7_attack 29 = .ok (.ifCond .eq 9, 3) := by decide +kernel
theorem dX7_attack_32 : decode cX7_attack 32 = .ok (.aload_n 0, 1) := by decide +kernel
theorem dX7_attack_33 : decode cX7_attack 33 = .ok (.iload_n 3, 1) := by decide +kernel
theorem dX7_attack_34 : decode cX7_attack 34 = .ok (.invokevirtual 213, 3) := by decide +kernel
theorem dX7_attack_37 : decode cX7_attack 37 = .ok (.ireturn, 1) := by decide +kernel
theorem dX7_attack_38 : decode cX7_attack 38 = .ok (.aload_n 0, 1) := by decide +kernel
theorem dX7_attack_39 : decode cX7_attack 39 = .ok (.invokevirtual 173, 3) := by decide +kernel
theorem dX7_attack_42 : decode cX7_attack 42 = .ok (.bipush (-9), 2) := by decide +kernel
theorem dX7_attack_44 : decode cX7_attack 44 = .ok (.istore 4, 2) := by decide +kernel
theorem dX7_attack_46 : decode cX7_attack 46 = .ok (.iconst 0, 1) := by decide +kernel
theorem dX7_attack_47 : decode cX7_attack 47 = .ok (.istore 5, 2) := by decide +kernel
theorem dX7_attack_49 : decode cX7_attack 49 = .ok (.sipush 255, 3) := by decide +kernel
theorem dX7_attack_52 : decode cX7_attack 52 = .ok (.istore 6, 2) := by decide +kernel
theorem dX7_attack_54 : decode cX7_attack 54 = .ok (.iload 6, 2) := by decide +kernel
theorem dX7_attack_56 : decode cX7_attack 56 = .ok (.iconst 1, 1) := by decide +kernel
theorem dX7_attack_57 : decode cX7_attack 57 = .ok (.if_icmp .lt 48, 3) := by decide +kernel
theorem dX7_attack_60 : decode cX7_attack 60 = .ok (.aload_n 0, 1) := by decide +kernel
theorem dX7_attack_61 : decode cX7_attack 61 = .ok (.iconst 0, 1) := by decide +kernel
theorem dX7_attack_62 : decode cX7_attack 62 = .ok (.iload 6, 2) := by decide +kernel
theorem dX7_attack_64 : decode cX7_attack 64 = .ok (.iconst 0, 1) := by decide +kernel
theorem dX7_attack_65 : decode cX7_attack 65 = .ok (.invokevirtual 266, 3) := by decide +kernel
theorem dX7_attack_68 : decode cX7_attack 68 = .ok (.aload_n 0, 1) := by decide +kernel
theorem dX7_attack_69 : decode cX7_attack 69 = .ok (.invokevirtual 167, 3) := by decide +kernel
theorem dX7_attack_72 : decode cX7_attack 72 = .ok (.aload_n 0, 1) := by decide +kernel
theorem dX7_attack_73 : decode cX7_attack 73 = .ok (.aload_n 0, 1) := by decide +kernel
theorem dX7_attack_74 : decode cX7_attack 74 = .ok (.getfield 31, 3) := by decide +kernel
theorem dX7_attack_77 : decode cX7_attack 77 = .ok (.iconst 0, 1) := by decide +kernel
theorem dX7_attack_78 : decode cX7_attack 78 = .ok (.invokevirtual 146, 3) := by decide +kernel
theorem dX7_attack_81 : decode cX7_attack 81 = .ok (.aload_n 0, 1) := by decide +kernel
theorem dX7_attack_82 : decode cX7_attack 82 = .ok (.iload_n 1, 1) := by decide +kernel
theorem dX7_attack_83 : decode cX7_attack 83 = .ok (.invokevirtual 320, 3) := by decide +kernel
theorem dX7_attack_86 : decode cX7_attack 86 = .ok (.ifCond .ne 6, 3) := by decide +kernel
theorem dX7_attack_89 : decode cX7_attack 89 = .ok (.goto 10, 3) := by decide +kernel
theorem dX7_attack_92 : decode cX7_attack 92 = .ok (.iload 6, 2) := by decide +kernel
theorem dX7_attack_94 : decode cX7_attack 94 = .ok (.istore 4, 2) := by decide +kernel
theorem dX7_attack_96 : decode cX7_attack 96 = .ok (.iinc 5 1, 3) := by decide +kernel
theorem dX7_attack_99 : decode cX7_attack 99 = .ok (.iinc 6 (-1), 3) := by decide +kernel
theorem dX7_attack_102 : decode cX7_attack 102 = .ok (.goto (-48), 3) := by decide +kernel
theorem dX7_attack_105 : decode cX7_attack 105 = .ok (.iload_n 2, 1) := by decide +kernel
theorem dX7_attack_106 : decode cX7_attack 106 = .ok (.ifCond .ne 8, 3) := by decide +kernel
theorem dX7_attack_109 : decode cX7_attack 109 = .ok (.iload 4, 2) := by decide +kernel
theorem dX7_attack_111 : decode cX7_attack 111 = .ok (.goto 5, 3) := by decide +kernel
theorem dX7_attack_114 : decode cX7_attack 114 = .ok (.iload 5, 2) := by decide +kernel
theorem dX7_attack_116 : decode cX7_attack 116 = .ok (.ireturn, 1) := by decide +kernel
theorem dX7_below_0 : decode cX7_below 0 = .ok (.iload_n 0, 1) := by decide +kernel
theorem dX7_below_1 : decode cX7_below 1 = .ok (.ifCond .lt 9, 3) := by decide +kernel
theorem dX7_below_4 : decode cX7_below 4 = .ok (.iload_n 0, 1) := by decide +kernel
theorem dX7_below_5 : decode cX7_below 5 = .ok (.iload_n 1, 1) := by decide +kernel
theorem dX7_below_6 : decode cX7_below 6 = .ok (.idiv, 1) := by decide +kernel
theorem dX7_below_7 : decode cX7_below 7 = .ok (.goto 12, 3) := by decide +kernel
theorem dX7_below_10 : decode cX7_below 10 = .ok (.iload_n 0, 1) := by decide +kernel
theorem dX7_below_11 : decode cX7_below 11 = .ok (.ineg, 1) := by decide +kernel
theorem dX7_below_12 : decode cX7_below 12 = .ok (.iload_n 1, 1) := by decide +kernel
theorem dX7_below_13 : decode cX7_below 13 = .ok (.iadd, 1) := by decide +kernel
theorem dX7_below_14 : decode cX7_below 14 = .ok (.iconst 1, 1) := by decide +kernel
theorem dX7_below_15 : decode cX7_below 15 = .ok (.isub, 1) := by decide +kernel
theorem dX7_below_16 : decode cX7_below 16 = .ok (.iload_n 1, 1) := by decide +kernel
theorem dX7_below_17 : decode cX7_below 17 = .ok (.idiv, 1) := by decide +kernel
theorem dX7_below_18 : decode cX7_below 18 = .ok (.ineg, 1) := by decide +kernel
theorem dX7_below_19 : decode cX7_below 19 = .ok (.ireturn, 1) := by decide +kernel
theorem dX7_above_0 : decode cX7_above 0 = .ok (.iload_n 0, 1) := by decide +kernel
theorem dX7_above_1 : decode cX7_above 1 = .ok (.ineg, 1) := by decide +kernel
theorem dX7_above_2 : decode cX7_above 2 = .ok (.iload_n 1, 1) := by decide +kernel
theorem dX7_above_3 : decode cX7_above 3 = .ok (.invokestatic 323, 3) := by decide +kernel
theorem dX7_above_6 : decode cX7_above 6 = .ok (.ineg, 1) := by decide +kernel
theorem dX7_above_7 : decode cX7_above 7 = .ok (.ireturn, 1) := by decide +kernel
theorem dX7_narrowsOne_0 : decode cX7_narrowsOne 0 = .ok (.aload_n 0, 1) := by decide +kernel
theorem dX7_narrowsOne_1 : decode cX7_narrowsOne 1 = .ok (.getfield 25, 3) := by decide +kernel
theorem dX7_narrowsOne_4 : decode cX7_narrowsOne 4 = .ok (.bipush 10, 2) := by decide +kernel
theorem dX7_narrowsOne_6 : decode cX7_narrowsOne 6 = .ok (.iload_n 1, 1) := by decide +kernel
theorem dX7_narrowsOne_7 : decode cX7_narrowsOne 7 = .ok (.imul, 1) := by decide +kernel
theorem dX7_narrowsOne_8 : decode cX7_narrowsOne 8 = .ok (.iload_n 2, 1) := by decide +kernel
theorem dX7_narrowsOne_9 : decode cX7_narrowsOne 9 = .ok (.iadd, 1) := by decide +kernel
theorem dX7_narrowsOne_10 : decode cX7_narrowsOne 10 = .ok (.iaload, 1) := by decide +kernel
theorem dX7_narrowsOne_11 : decode cX7_narrowsOne 11 = .ok (.istore_n 3, 1) := by decide +kernel
theorem dX7_narrowsOne_12 : decode cX7_narrowsOne 12 = .ok (.iload_n 3, 1) := by decide +kernel
theorem dX7_narrowsOne_13 : decode cX7_narrowsOne 13 = .ok (.ifCond .ne 5, 3) := by decide +kernel
theorem dX7_narrowsOne_16 : decode cX7_narrowsOne 16 = .ok (.iconst 0, 1) := by decide +kernel
theorem dX7_narrowsOne_17 : decode cX7_narrowsOne 17 = .ok (.ireturn, 1) := by decide +kernel
theorem dX7_narrowsOne_18 : decode cX7_narrowsOne 18 = .ok (.iconst 0, 1) := by decide +kernel
theorem dX7_narrowsOne_19 : decode cX7_narrowsOne 19 = .ok (.istore 4, 2) := by decide +kernel
theorem dX7_narrowsOne_21 : decode cX7_narrowsOne 21 = .ok (.iconst 0, 1) := by decide +kernel
theorem dX7_narrowsOne_22 : decode cX7_narrowsOne 22 = .ok (.istore 5, 2) := by decide +kernel
theorem dX7_narrowsOne_24 : decode cX7_narrowsOne 24 = .ok (.iconst 0, 1) := by decide +kernel
theorem dX7_narrowsOne_25 : decode cX7_narrowsOne 25 = .ok (.istore 6, 2) := by decide +kernel
theorem dX7_narrowsOne_27 : decode cX7_narrowsOne 27 = .ok (.iload 6, 2) := by decide +kernel
theorem dX7_narrowsOne_29 : decode cX7_narrowsOne 29 = .ok (.bipush 10, 2) := by decide +kernel
theorem dX7_narrowsOne_31 : decode cX7_narrowsOne 31 = .ok (.if_icmp .ge 93, 3) := by decide +kernel
theorem dX7_narrowsOne_34 : decode cX7_narrowsOne 34 = .ok (.iload 6, 2) := by decide +kernel
theorem dX7_narrowsOne_36 : decode cX7_narrowsOne 36 = .ok (.iload_n 2, 1) := by decide +kernel
theorem dX7_narrowsOne_37 : decode cX7_narrowsOne 37 = .ok (.if_icmp .ne 7, 3) := by decide +kernel
theorem dX7_narrowsOne_40 : decode cX7_narrowsOne 40 = .ok (.iconst 0, 1) := by decide +kernel
theorem dX7_narrowsOne_41 : decode cX7_narrowsOne 41 = .ok (.goto 15, 3) := by decide +kernel
theorem dX7_narrowsOne_44 : decode cX7_narrowsOne 44 = .ok (.aload_n 0, 1) := by decide +kernel
theorem dX7_narrowsOne_45 : decode cX7_narrowsOne 45 = .ok (.getfield 25, 3) := by decide +kernel
theorem dX7_narrowsOne_48 : decode cX7_narrowsOne 48 = .ok (.bipush 10, 2) := by decide +kernel
theorem dX7_narrowsOne_50 : decode cX7_narrowsOne 50 = .ok (.iload_n 1, 1) := by decide +kernel
theorem dX7_narrowsOne_51 : decode cX7_narrowsOne 51 = .ok (.imul, 1) := by decide +kernel
theorem dX7_narrowsOne_52 : decode cX7_narrowsOne 52 = .ok (.iload 6, 2) := by decide +kernel
theorem dX7_narrowsOne_54 : decode cX7_narrowsOne 54 = .ok (.iadd, 1) := by decide +kernel
theorem dX7_narrowsOne_55 : decode cX7_narrowsOne 55 = .ok (.iaload, 1) := by decide +kernel
theorem dX7_narrowsOne_56 : decode cX7_narrowsOne 56 = .ok (.istore 7, 2) := by decide +kernel
theorem dX7_narrowsOne_58 : decode cX7_narrowsOne 58 = .ok (.iload 4, 2) := by decide +kernel
theorem dX7_narrowsOne_60 : decode cX7_narrowsOne 60 = .ok (.iload 7, 2) := by decide +kernel
theorem dX7_narrowsOne_62 : decode cX7_narrowsOne 62 = .ok (.iload 7, 2) := by decide +kernel
theorem dX7_narrowsOne_64 : decode cX7_narrowsOne 64 = .ok (.ifCond .le 13, 3) := by decide +kernel
theorem dX7_narrowsOne_67 : decode cX7_narrowsOne 67 = .ok (.aload_n 0, 1) := by decide +kernel
theorem dX7_narrowsOne_68 : decode cX7_narrowsOne 68 = .ok (.getfield 74, 3) := by decide +kernel
theorem dX7_narrowsOne_71 : decode cX7_narrowsOne 71 = .ok (.iload 6, 2) := by decide +kernel
theorem dX7_narrowsOne_73 : decode cX7_narrowsOne 73 = .ok (.iaload, 1) := by decide +kernel
theorem dX7_narrowsOne_74 : decode cX7_narrowsOne 74 = .ok (.goto 10, 3) := by decide +kernel
theorem dX7_narrowsOne_77 : decode cX7_narrowsOne 77 = .ok (.aload_n 0, 1) := by decide +kernel
theorem dX7_narrowsOne_78 : decode cX7_narrowsOne 78 = .ok (.getfield 71, 3) := by decide +kernel
theorem dX7_narrowsOne_81 : decode cX7_narrowsOne 81 = .ok (.iload 6, 2) := by decide +kernel
theorem dX7_narrowsOne_83 : decode cX7_narrowsOne 83 = .ok (.iaload, 1) := by decide +kernel
theorem dX7_narrowsOne_84 : decode cX7_narrowsOne 84 = .ok (.imul, 1) := by decide +kernel
theorem dX7_narrowsOne_85 : decode cX7_narrowsOne 85 = .ok (.iadd, 1) := by decide +kernel
theorem dX7_narrowsOne_86 : decode cX7_narrowsOne 86 = .ok (.istore 4, 2) := by decide +kernel
theorem dX7_narrowsOne_88 : decode cX7_narrowsOne 88 = .ok (.iload 5, 2) := by decide +kernel
theorem dX7_narrowsOne_90 : decode cX7_narrowsOne 90 = .ok (.iload 7, 2) := by decide +kernel
theorem dX7_narrowsOne_92 : decode cX7_narrowsOne 92 = .ok (.iload 7, 2) := by decide +kernel
theorem dX7_narrowsOne_94 : decode cX7_narrowsOne 94 = .ok (.ifCond .le 13, 3) := by decide +kernel
theorem dX7_narrowsOne_97 : decode cX7_narrowsOne 97 = .ok (.aload_n 0, 1) := by decide +kernel
theorem dX7_narrowsOne_98 : decode cX7_narrowsOne 98 = .ok (.getfield 71, 3) := by decide +kernel
theorem dX7_narrowsOne_101 : decode cX7_narrowsOne 101 = .ok (.iload 6, 2) := by decide +kernel
theorem dX7_narrowsOne_103 : decode cX7_narrowsOne 103 = .ok (.iaload, 1) := by decide +kernel
theorem dX7_narrowsOne_104 : decode cX7_narrowsOne 104 = .ok (.goto 10, 3) := by decide +kernel
theorem dX7_narrowsOne_107 : decode cX7_narrowsOne 107 = .ok (.aload_n 0, 1) := by decide +kernel
theorem dX7_narrowsOne_108 : decode cX7_narrowsOne 108 = .ok (.getfield 74, 3) := by decide +kernel
theorem dX7_narrowsOne_111 : decode cX7_narrowsOne 111 = .ok (.iload 6, 2) := by decide +kernel
theorem dX7_narrowsOne_113 : decode cX7_narrowsOne 113 = .ok (.iaload, 1) := by decide +kernel
theorem dX7_narrowsOne_114 : decode cX7_narrowsOne 114 = .ok (.imul, 1) := by decide +kernel
theorem dX7_narrowsOne_115 : decode cX7_narrowsOne 115 = .ok (.iadd, 1) := by decide +kernel
theorem dX7_narrowsOne_116 : decode cX7_narrowsOne 116 = .ok (.istore 5, 2) := by decide +kernel
theorem dX7_narrowsOne_118 : decode cX7_narrowsOne 118 = .ok (.iinc 6 1, 3) := by decide +kernel
theorem dX7_narrowsOne_121 : decode cX7_narrowsOne 121 = .ok (.goto (-94), 3) := by decide +kernel
theorem dX7_narrowsOne_124 : decode cX7_narrowsOne 124 = .ok (.aload_n 0, 1) := by decide +kernel
theorem dX7_narrowsOne_125 : decode cX7_narrowsOne 125 = .ok (.getfield 28, 3) := by decide +kernel
theorem dX7_narrowsOne_128 : decode cX7_narrowsOne 128 = .ok (.iload_n 1, 1) := by decide +kernel
theorem dX7_narrowsOne_129 : decode cX7_narrowsOne 129 = .ok (.iaload, 1) := by decide +kernel
theorem dX7_narrowsOne_130 : decode cX7_narrowsOne 130 = .ok (.iload 4, 2) := by decide +kernel
theorem dX7_narrowsOne_132 : decode cX7_narrowsOne 132 = .ok (.isub, 1) := by decide +kernel
theorem dX7_narrowsOne_133 : decode cX7_narrowsOne 133 = .ok (.istore 6, 2) := by decide +kernel
theorem dX7_narrowsOne_135 : decode cX7_narrowsOne 135 = .ok (.aload_n 0, 1) := by decide +kernel
theorem dX7_narrowsOne_136 : decode cX7_narrowsOne 136 = .ok (.getfield 28, 3) := by decide +kernel
theorem dX7_narrowsOne_139 : decode cX7_narrowsOne 139 = .ok (.iload_n 1, 1) := by decide +kernel
theorem dX7_narrowsOne_140 : decode cX7_narrowsOne 140 = .ok (.iaload, 1) := by decide +kernel
theorem dX7_narrowsOne_141 : decode cX7_narrowsOne 141 = .ok (.iload 5, 2) := by decide +kernel
theorem dX7_narrowsOne_143 : decode cX7_narrowsOne 143 = .ok (.isub, 1) := by decide +kernel
theorem dX7_narrowsOne_144 : decode cX7_narrowsOne 144 = .ok (.istore 7, 2) := by decide +kernel
theorem dX7_narrowsOne_146 : decode cX7_narrowsOne 146 = .ok (.iload_n 3, 1) := by decide +kernel
theorem dX7_narrowsOne_147 : decode cX7_narrowsOne 147 = .ok (.ifCond .le 12, 3) := by decide +kernel
theorem dX7_narrowsOne_150 : decode cX7_narrowsOne 150 = .ok (.iload 6, 2) := by decide +kernel
theorem dX7_narrowsOne_152 : decode cX7_narrowsOne 152 = .ok (.iload_n 3, 1) := by decide +kernel
theorem dX7_narrowsOne_153 : decode cX7_narrowsOne 153 = .ok (.invokestatic 326, 3) := by decide +kernel
theorem dX7_narrowsOne_156 : decode cX7_narrowsOne 156 = .ok (.goto 11, 3) := by decide +kernel
theorem dX7_narrowsOne_159 : decode cX7_narrowsOne 159 = .ok (.iload 7, 2) := by decide +kernel
theorem dX7_narrowsOne_161 : decode cX7_narrowsOne 161 = .ok (.ineg, 1) := by decide +kernel
theorem dX7_narrowsOne_162 : decode cX7_narrowsOne 162 = .ok (.iload_n 3, 1) := by decide +kernel
theorem dX7_narrowsOne_163 : decode cX7_narrowsOne 163 = .ok (.ineg, 1) := by decide +kernel
theorem dX7_narrowsOne_164 : decode cX7_narrowsOne 164 = .ok (.invokestatic 326, 3) := by decide +kernel
theorem dX7_narrowsOne_167 : decode cX7_narrowsOne 167 = .ok (.istore 8, 2) := by decide +kernel
theorem dX7_narrowsOne_169 : decode cX7_narrowsOne 169 = .ok (.iload_n 3, 1) := by decide +kernel
theorem dX7_narrowsOne_170 : decode cX7_narrowsOne 170 = .ok (.ifCond .le 12, 3) := by decide +kernel
theorem dX7_narrowsOne_173 : decode cX7_narrowsOne 173 = .ok (.iload 7, 2) := by decide +kernel
theorem dX7_narrowsOne_175 : decode cX7_narrowsOne 175 = .ok (.iload_n 3, 1) := by decide +kernel
theorem dX7_narrowsOne_176 : decode cX7_narrowsOne 176 = .ok (.invokestatic 323, 3) := by decide +kernel
theorem dX7_narrowsOne_179 : decode cX7_narrowsOne 179 = .ok (.goto 11, 3) := by decide +kernel
theorem dX7_narrowsOne_182 : decode cX7_narrowsOne 182 = .ok (.iload 6, 2) := by decide +kernel
theorem dX7_narrowsOne_184 : decode cX7_narrowsOne 184 = .ok (.ineg, 1) := by decide +kernel
theorem dX7_narrowsOne_185 : decode cX7_narrowsOne 185 = .ok (.iload_n 3, 1) := by decide +kernel
theorem dX7_narrowsOne_186 : decode cX7_narrowsOne 186 = .ok (.ineg, 1) := by decide +kernel
theorem dX7_narrowsOne_187 : decode cX7_narrowsOne 187 = .ok (.invokestatic 323, 3) := by decide +kernel
theorem dX7_narrowsOne_190 : decode cX7_narrowsOne 190 = .ok (.istore 9, 2) := by decide +kernel
theorem dX7_narrowsOne_192 : decode cX7_narrowsOne 192 = .ok (.iload 8, 2) := by decide +kernel
theorem dX7_narrowsOne_194 : decode cX7_narrowsOne 194 = .ok (.aload_n 0, 1) := by decide +kernel
theorem dX7_narrowsOne_195 : decode cX7_narrowsOne 195 = .ok (.getfield 71, 3) := by decide +kernel
theorem dX7_narrowsOne_198 : decode cX7_narrowsOne 198 = .ok (.iload_n 2, 1) := by decide +kernel
theorem dX7_narrowsOne_199 : decode cX7_narrowsOne 199 = .ok (.iaload, 1) := by decide +kernel
theorem dX7_narrowsOne_200 : decode cX7_narrowsOne 200 = .ok (.if_icmp .gt 14, 3) := by decide +kernel
theorem dX7_narrowsOne_203 : decode cX7_narrowsOne 203 = .ok (.iload 9, 2) := by decide +kernel
theorem dX7_narrowsOne_205 : decode cX7_narrowsOne 205 = .ok (.aload_n 0, 1) := by decide +kernel
theorem dX7_narrowsOne_206 : decode cX7_narrowsOne 206 = .ok (.getfield 74, 3) := by decide +kernel
theorem dX7_narrowsOne_209 : decode cX7_narrowsOne 209 = .ok (.iload_n 2, 1) := by decide +kernel
theorem dX7_narrowsOne_210 : decode cX7_narrowsOne 210 = .ok (.iaload, 1) := by decide +kernel
theorem dX7_narrowsOne_211 : decode cX7_narrowsOne 211 = .ok (.if_icmp .ge 7, 3) := by decide +kernel
theorem dX7_narrowsOne_214 : decode cX7_narrowsOne 214 = .ok (.iconst 1, 1) := by decide +kernel
theorem dX7_narrowsOne_215 : decode cX7_narrowsOne 215 = .ok (.goto 4, 3) := by decide +kernel
theorem dX7_narrowsOne_218 : decode cX7_narrowsOne 218 = .ok (.iconst 0, 1) := by decide +kernel
theorem dX7_narrowsOne_219 : decode cX7_narrowsOne 219 = .ok (.istore 10, 2) := by decide +kernel
theorem dX7_narrowsOne_221 : decode cX7_narrowsOne 221 = .ok (.aload_n 0, 1) := by decide +kernel
theorem dX7_narrowsOne_222 : decode cX7_narrowsOne 222 = .ok (.getfield 71, 3) := by decide +kernel
theorem dX7_narrowsOne_225 : decode cX7_narrowsOne 225 = .ok (.iload_n 2, 1) := by decide +kernel
theorem dX7_narrowsOne_226 : decode cX7_narrowsOne 226 = .ok (.iload 8, 2) := by decide +kernel
theorem dX7_narrowsOne_228 : decode cX7_narrowsOne 228 = .ok (.aload_n 0, 1) := by decide +kernel
theorem dX7_narrowsOne_229 : decode cX7_narrowsOne 229 = .ok (.getfield 71, 3) := by decide +kernel
theorem dX7_narrowsOne_232 : decode cX7_narrowsOne 232 = .ok (.iload_n 2, 1) := by decide +kernel
theorem dX7_narrowsOne_233 : decode cX7_narrowsOne 233 = .ok (.iaload, 1) := by decide +kernel
theorem dX7_narrowsOne_234 : decode cX7_narrowsOne 234 = .ok (.if_icmp .le 8, 3) := by decide +kernel
theorem dX7_narrowsOne_237 : decode cX7_narrowsOne 237 = .ok (.iload 8, 2) := by decide +kernel
theorem dX7_narrowsOne_239 : decode cX7_narrowsOne 239 = .ok (.goto 9, 3) := by decide +kernel
theorem dX7_narrowsOne_242 : decode cX7_narrowsOne 242 = .ok (.aload_n 0, 1) := by decide +kernel
theorem dX7_narrowsOne_243 : decode cX7_narrowsOne 243 = .ok (.getfield 71, 3) := by decide +kernel
theorem dX7_narrowsOne_246 : decode cX7_narrowsOne 246 = .ok (.iload_n 2, 1) := by decide +kernel
theorem dX7_narrowsOne_247 : decode cX7_narrowsOne 247 = .ok (.iaload, 1) := by decide +kernel
theorem dX7_narrowsOne_248 : decode cX7_narrowsOne 248 = .ok (.iastore, 1) := by decide +kernel
theorem dX7_narrowsOne_249 : decode cX7_narrowsOne 249 = .ok (.aload_n 0, 1) := by decide +kernel
theorem dX7_narrowsOne_250 : decode cX7_narrowsOne 250 = .ok (.getfield 74, 3) := by decide +kernel
theorem dX7_narrowsOne_253 : decode cX7_narrowsOne 253 = .ok (.iload_n 2, 1) := by decide +kernel
theorem dX7_narrowsOne_254 : decode cX7_narrowsOne 254 = .ok (.iload 9, 2) := by decide +kernel
theorem dX7_narrowsOne_256 : decode cX7_narrowsOne 256 = .ok (.aload_n 0, 1) := by decide +kernel
theorem dX7_narrowsOne_257 : decode cX7_narrowsOne 257 = .ok (.getfield 74, 3) := by decide +kernel
theorem dX7_narrowsOne_260 : decode cX7_narrowsOne 260 = .ok (.iload_n 2, 1) := by decide +kernel
theorem dX7_narrowsOne_261 : decode cX7_narrowsOne 261 = .ok (.iaload, 1) := by decide +kernel
theorem dX7_narrowsOne_262 : decode cX7_narrowsOne 262 = .ok (.if_icmp .ge 8, 3) := by decide +kernel
theorem dX7_narrowsOne_265 : decode cX7_narrowsOne 265 = .ok (.iload 9, 2) := by decide +kernel
theorem dX7_narrowsOne_267 : decode cX7_narrowsOne 267 = .ok (.goto 9, 3) := by decide +kernel
theorem dX7_narrowsOne_270 : decode cX7_narrowsOne 270 = .ok (.aload_n 0, 1) := by decide +kernel
theorem dX7_narrowsOne_271 : decode cX7_narrowsOne 271 = .ok (.getfield 74, 3) := by decide +kernel
theorem dX7_narrowsOne_274 : decode cX7_narrowsOne 274 = .ok (.iload_n 2, 1) := by decide +kernel
theorem dX7_narrowsOne_275 : decode cX7_narrowsOne 275 = .ok (.iaload, 1) := by decide +kernel
theorem dX7_narrowsOne_276 : decode cX7_narrowsOne 276 = .ok (.iastore, 1) := by decide +kernel
theorem dX7_narrowsOne_277 : decode cX7_narrowsOne 277 = .ok (.iload 10, 2) := by decide +kernel
theorem dX7_narrowsOne_279 : decode cX7_narrowsOne 279 = .ok (.ireturn, 1) := by decide +kernel
theorem dX7_narrows_0 : decode cX7_narrows 0 = .ok (.iconst 0, 1) := by decide +kernel
theorem dX7_narrows_1 : decode cX7_narrows 1 = .ok (.istore_n 1, 1) := by decide +kernel
theorem dX7_narrows_2 : decode cX7_narrows 2 = .ok (.iload_n 1, 1) := by decide +kernel
theorem dX7_narrows_3 : decode cX7_narrows 3 = .ok (.bipush 10, 2) := by decide +kernel
theorem dX7_narrows_5 : decode cX7_narrows 5 = .ok (.if_icmp .ge 33, 3) := by decide +kernel
theorem dX7_narrows_8 : decode cX7_narrows 8 = .ok (.aload_n 0, 1) := by decide +kernel
theorem dX7_narrows_9 : decode cX7_narrows 9 = .ok (.getfield 71, 3) := by decide +kernel
theorem dX7_narrows_12 : decode cX7_narrows 12 = .ok (.iload_n 1, 1) := by decide +kernel
theorem dX7_narrows_13 : decode cX7_narrows 13 = .ok (.aload_n 0, 1) := by decide +kernel
theorem dX7_narrows_14 : decode cX7_narrows 14 = .ok (.getfield 16, 3) := by decide +kernel
theorem dX7_narrows_17 : decode cX7_narrows 17 = .ok (.iload_n 1, 1) := by decide +kernel
theorem dX7_narrows_18 : decode cX7_narrows 18 = .ok (.iaload, 1) := by decide +kernel
theorem dX7_narrows_19 : decode cX7_narrows 19 = .ok (.iastore, 1) := by decide +kernel
theorem dX7_narrows_20 : decode cX7_narrows 20 = .ok (.aload_n 0, 1) := by decide +kernel
theorem dX7_narrows_21 : decode cX7_narrows 21 = .ok (.getfield 74, 3) := by decide +kernel
theorem dX7_narrows_24 : decode cX7_narrows 24 = .ok (.iload_n 1, 1) := by decide +kernel
theorem dX7_narrows_25 : decode cX7_narrows 25 = .ok (.aload_n 0, 1) := by decide +kernel
theorem dX7_narrows_26 : decode cX7_narrows 26 = .ok (.getfield 19, 3) := by decide +kernel
theorem dX7_narrows_29 : decode cX7_narrows 29 = .ok (.iload_n 1, 1) := by decide +kernel
theorem dX7_narrows_30 : decode cX7_narrows 30 = .ok (.iaload, 1) := by decide +kernel
theorem dX7_narrows_31 : decode cX7_narrows 31 = .ok (.iastore, 1) := by decide +kernel
theorem dX7_narrows_32 : decode cX7_narrows 32 = .ok (.iinc 1 1, 3) := by decide +kernel
theorem dX7_narrows_35 : decode cX7_narrows 35 = .ok (.goto (-33), 3) := by decide +kernel
theorem dX7_narrows_38 : decode cX7_narrows 38 = .ok (.iconst 1, 1) := by decide +kernel
theorem dX7_narrows_39 : decode cX7_narrows 39 = .ok (.istore_n 1, 1) := by decide +kernel
theorem dX7_narrows_40 : decode cX7_narrows 40 = .ok (.iconst 0, 1) := by decide +kernel
theorem dX7_narrows_41 : decode cX7_narrows 41 = .ok (.istore_n 2, 1) := by decide +kernel
theorem dX7_narrows_42 : decode cX7_narrows 42 = .ok (.iload_n 2, 1) := by decide +kernel
theorem dX7_narrows_43 : decode cX7_narrows 43 = .ok (.bipush 60, 2) := by decide +kernel
theorem dX7_narrows_45 : decode cX7_narrows 45 = .ok (.if_icmp .ge 57, 3) := by decide +kernel
theorem dX7_narrows_48 : decode cX7_narrows 48 = .ok (.iload_n 1, 1) := by decide +kernel
theorem dX7_narrows_49 : decode cX7_narrows 49 = .ok (.ifCond .eq 53, 3) := by decide +kernel
theorem dX7_narrows_52 : decode cX7_narrows 52 = .ok (.iconst 0, 1) := by decide +kernel
theorem dX7_narrows_53 : decode cX7_narrows 53 = .ok (.istore_n 1, 1) := by decide +kernel
theorem dX7_narrows_54 : decode cX7_narrows 54 = .ok (.iconst 0, 1) := by decide +kernel
theorem dX7_narrows_55 : decode cX7_narrows 55 = .ok (.istore_n 3, 1) := by decide +kernel
theorem dX7_narrows_56 : decode cX7_narrows 56 = .ok (.iload_n 3, 1) := by decide +kernel
theorem dX7_narrows_57 : decode cX7_narrows 57 = .ok (.aload_n 0, 1) := by decide +kernel
theorem dX7_narrows_58 : decode cX7_narrows 58 = .ok (.getfield 100, 3) := by decide +kernel
theorem dX7_narrows_61 : decode cX7_narrows 61 = .ok (.if_icmp .ge 35, 3) := by decide +kernel
theorem dX7_narrows_64 : decode cX7_narrows 64 = .ok (.iconst 0, 1) := by decide +kernel
theorem dX7_narrows_65 : decode cX7_narrows 65 = .ok (.istore 4, 2) := by decide +kernel
theorem dX7_narrows_67 : decode cX7_narrows 67 = .ok (.iload 4, 2) := by decide +kernel
theorem dX7_narrows_69 : decode cX7_narrows 69 = .ok (.bipush 10, 2) := by decide +kernel
theorem dX7_narrows_71 : decode cX7_narrows 71 = .ok (.if_icmp .ge 19, 3) := by decide +kernel
theorem dX7_narrows_74 : decode cX7_narrows 74 = .ok (.iload_n 1, 1) := by decide +kernel
theorem dX7_narrows_75 : decode cX7_narrows 75 = .ok (.aload_n 0, 1) := by decide +kernel
theorem dX7_narrows_76 : decode cX7_narrows 76 = .ok (.iload_n 3, 1) := by decide +kernel
theorem dX7_narrows_77 : decode cX7_narrows 77 = .ok (.iload 4, 2) := by decide +kernel
theorem dX7_narrows_79 : decode cX7_narrows 79 = .ok (.invokevirtual 329, 3) := by decide +kernel
theorem dX7_narrows_82 : decode cX7_narrows 82 = .ok (.ior, 1) := by decide +kernel
theorem dX7_narrows_83 : decode cX7_narrows 83 = .ok (.istore_n 1, 1) := by decide +kernel
theorem dX7_narrows_84 : decode cX7_narrows 84 = .ok (.iinc 4 1, 3) := by decide +kernel
theorem dX7_narrows_87 : decode cX7_narrows 87 = .ok (.goto (-20), 3) := by decide +kernel
theorem dX7_narrows_90 : decode cX7_narrows 90 = .ok (.iinc 3 1, 3) := by decide +kernel
theorem dX7_narrows_93 : decode cX7_narrows 93 = .ok (.goto (-37), 3) := by decide +kernel
theorem dX7_narrows_96 : decode cX7_narrows 96 = .ok (.iinc 2 1, 3) := by decide +kernel
theorem dX7_narrows_99 : decode cX7_narrows 99 = .ok (.goto (-57), 3) := by decide +kernel
theorem dX7_narrows_102 : decode cX7_narrows 102 = .ok (.return_, 1) := by decide +kernel
theorem dX7_width_0 : decode cX7_width 0 = .ok (.aload_n 0, 1) := by decide +kernel
theorem dX7_width_1 : decode cX7_width 1 = .ok (.getfield 74, 3) := by decide +kernel
theorem dX7_width_4 : decode cX7_width 4 = .ok (.iload_n 1, 1) := by decide +kernel
theorem dX7_width_5 : decode cX7_width 5 = .ok (.iaload, 1) := by decide +kernel
theorem dX7_width_6 : decode cX7_width 6 = .ok (.aload_n 0, 1) := by decide +kernel
theorem dX7_width_7 : decode cX7_width 7 = .ok (.getfield 71, 3) := by decide +kernel
theorem dX7_width_10 : decode cX7_width 10 = .ok (.iload_n 1, 1) := by decide +kernel
theorem dX7_width_11 : decode cX7_width 11 = .ok (.iaload, 1) := by decide +kernel
theorem dX7_width_12 : decode cX7_width 12 = .ok (.isub, 1) := by decide +kernel
theorem dX7_width_13 : decode cX7_width 13 = .ok (.iconst 1, 1) := by decide +kernel
theorem dX7_width_14 : decode cX7_width 14 = .ok (.iadd, 1) := by decide +kernel
theorem dX7_width_15 : decode cX7_width 15 = .ok (.ireturn, 1) := by decide +kernel
theorem dX7_variable_0 : decode cX7_variable 0 = .ok (.aload_n 0, 1) := by decide +kernel
theorem dX7_variable_1 : decode cX7_variable 1 = .ok (.iload_n 1, 1) := by decide +kernel
theorem dX7_variable_2 : decode cX7_variable 2 = .ok (.invokevirtual 257, 3) := by decide +kernel
theorem dX7_variable_5 : decode cX7_variable 5 = .ok (.ifCond .ne 9, 3) := by decide +kernel
theorem dX7_variable_8 : decode cX7_variable 8 = .ok (.aload_n 0, 1) := by decide +kernel
theorem dX7_variable_9 : decode cX7_variable 9 = .ok (.iconst (-1), 1) := by decide +kernel
theorem dX7_variable_10 : decode cX7_variable 10 = .ok (.invokevirtual 213, 3) := by decide +kernel
theorem dX7_variable_13 : decode cX7_variable 13 = .ok (.ireturn, 1) := by decide +kernel
theorem dX7_variable_14 : decode cX7_variable 14 = .ok (.aload_n 0, 1) := by decide +kernel
theorem dX7_variable_15 : decode cX7_variable 15 = .ok (.invokevirtual 332, 3) := by decide +kernel
theorem dX7_variable_18 : decode cX7_variable 18 = .ok (.iload_n 2, 1) := by decide +kernel
theorem dX7_variable_19 : decode cX7_variable 19 = .ok (.tableswitch 96 0 6 #[41, 48, 55, 62, 69, 76, 82], 41) := by decide +kernel
theorem dX7_variable_60 : decode cX7_variable 60 = .ok (.aload_n 0, 1) := by decide +kernel
theorem dX7_variable_61 : decode cX7_variable 61 = .ok (.getfield 13, 3) := by decide +kernel
theorem dX7_variable_64 : decode cX7_variable 64 = .ok (.iload_n 1, 1) := by decide +kernel
theorem dX7_variable_65 : decode cX7_variable 65 = .ok (.iaload, 1) := by decide +kernel
theorem dX7_variable_66 : decode cX7_variable 66 = .ok (.ireturn, 1) := by decide +kernel
theorem dX7_variable_67 : decode cX7_variable 67 = .ok (.aload_n 0, 1) := by decide +kernel
theorem dX7_variable_68 : decode cX7_variable 68 = .ok (.getfield 16, 3) := by decide +kernel
theorem dX7_variable_71 : decode cX7_variable 71 = .ok (.iload_n 1, 1) := by decide +kernel
theorem dX7_variable_72 : decode cX7_variable 72 = .ok (.iaload, 1) := by decide +kernel
theorem dX7_variable_73 : decode cX7_variable 73 = .ok (.ireturn, 1) := by decide +kernel
theorem dX7_variable_74 : decode cX7_variable 74 = .ok (.aload_n 0, 1) := by decide +kernel
theorem dX7_variable_75 : decode cX7_variable 75 = .ok (.getfield 19, 3) := by decide +kernel
theorem dX7_variable_78 : decode cX7_variable 78 = .ok (.iload_n 1, 1) := by decide +kernel
theorem dX7_variable_79 : decode cX7_variable 79 = .ok (.iaload, 1) := by decide +kernel
theorem dX7_variable_80 : decode cX7_variable 80 = .ok (.ireturn, 1) := by decide +kernel
theorem dX7_variable_81 : decode cX7_variable 81 = .ok (.aload_n 0, 1) := by decide +kernel
theorem dX7_variable_82 : decode cX7_variable 82 = .ok (.getfield 71, 3) := by decide +kernel
theorem dX7_variable_85 : decode cX7_variable 85 = .ok (.iload_n 1, 1) := by decide +kernel
theorem dX7_variable_86 : decode cX7_variable 86 = .ok (.iaload, 1) := by decide +kernel
theorem dX7_variable_87 : decode cX7_variable 87 = .ok (.ireturn, 1) := by decide +kernel
theorem dX7_variable_88 : decode cX7_variable 88 = .ok (.aload_n 0, 1) := by decide +kernel
theorem dX7_variable_89 : decode cX7_variable 89 = .ok (.getfield 74, 3) := by decide +kernel
theorem dX7_variable_92 : decode cX7_variable 92 = .ok (.iload_n 1, 1) := by decide +kernel
theorem dX7_variable_93 : decode cX7_variable 93 = .ok (.iaload, 1) := by decide +kernel
theorem dX7_variable_94 : decode cX7_variable 94 = .ok (.ireturn, 1) := by decide +kernel
theorem dX7_variable_95 : decode cX7_variable 95 = .ok (.aload_n 0, 1) := by decide +kernel
theorem dX7_variable_96 : decode cX7_variable 96 = .ok (.iload_n 1, 1) := by decide +kernel
theorem dX7_variable_97 : decode cX7_variable 97 = .ok (.invokevirtual 335, 3) := by decide +kernel
theorem dX7_variable_100 : decode cX7_variable 100 = .ok (.ireturn, 1) := by decide +kernel
theorem dX7_variable_101 : decode cX7_variable 101 = .ok (.aload_n 0, 1) := by decide +kernel
theorem dX7_variable_102 : decode cX7_variable 102 = .ok (.iload_n 1, 1) := by decide +kernel
theorem dX7_variable_103 : decode cX7_variable 103 = .ok (.invokevirtual 247, 3) := by decide +kernel
theorem dX7_variable_106 : decode cX7_variable 106 = .ok (.ifCond .eq 7, 3) := by decide +kernel
theorem dX7_variable_109 : decode cX7_variable 109 = .ok (.iconst 1, 1) := by decide +kernel
theorem dX7_variable_110 : decode cX7_variable 110 = .ok (.goto 4, 3) := by decide +kernel
theorem dX7_variable_113 : decode cX7_variable 113 = .ok (.iconst 0, 1) := by decide +kernel
theorem dX7_variable_114 : decode cX7_variable 114 = .ok (.ireturn, 1) := by decide +kernel
theorem dX7_variable_115 : decode cX7_variable 115 = .ok (.aload_n 0, 1) := by decide +kernel
theorem dX7_variable_116 : decode cX7_variable 116 = .ok (.bipush (-2), 2) := by decide +kernel
theorem dX7_variable_118 : decode cX7_variable 118 = .ok (.invokevirtual 213, 3) := by decide +kernel
theorem dX7_variable_121 : decode cX7_variable 121 = .ok (.ireturn, 1) := by decide +kernel
theorem dX7_knownNow_0 : decode cX7_knownNow 0 = .ok (.iconst 0, 1) := by decide +kernel
theorem dX7_knownNow_1 : decode cX7_knownNow 1 = .ok (.istore_n 1, 1) := by decide +kernel
theorem dX7_knownNow_2 : decode cX7_knownNow 2 = .ok (.iconst 0, 1) := by decide +kernel
theorem dX7_knownNow_3 : decode cX7_knownNow 3 = .ok (.istore_n 2, 1) := by decide +kernel
theorem dX7_knownNow_4 : decode cX7_knownNow 4 = .ok (.iload_n 2, 1) := by decide +kernel
theorem dX7_knownNow_5 : decode cX7_knownNow 5 = .ok (.aload_n 0, 1) := by decide +kernel
theorem dX7_knownNow_6 : decode cX7_knownNow 6 = .ok (.getfield 86, 3) := by decide +kernel
theorem dX7_knownNow_9 : decode cX7_knownNow 9 = .ok (.if_icmp .ge 28, 3) := by decide +kernel
theorem dX7_knownNow_12 : decode cX7_knownNow 12 = .ok (.iload_n 1, 1) := by decide +kernel
theorem dX7_knownNow_13 : decode cX7_knownNow 13 = .ok (.aload_n 0, 1) := by decide +kernel
theorem dX7_knownNow_14 : decode cX7_knownNow 14 = .ok (.iload_n 2, 1) := by decide +kernel
theorem dX7_knownNow_15 : decode cX7_knownNow 15 = .ok (.invokevirtual 335, 3) := by decide +kernel
theorem dX7_knownNow_18 : decode cX7_knownNow 18 = .ok (.iconst 1, 1) := by decide +kernel
theorem dX7_knownNow_19 : decode cX7_knownNow 19 = .ok (.if_icmp .ne 9, 3) := by decide +kernel
theorem dX7_knownNow_22 : decode cX7_knownNow 22 = .ok (.iconst 1, 1) := by decide +kernel
theorem dX7_knownNow_23 : decode cX7_knownNow 23 = .ok (.iload_n 2, 1) := by decide +kernel
theorem dX7_knownNow_24 : decode cX7_knownNow 24 = .ok (.ishl, 1) := by decide +kernel
theorem dX7_knownNow_25 : decode cX7_knownNow 25 = .ok (.goto 4, 3) := by decide +kernel
theorem dX7_knownNow_28 : decode cX7_knownNow 28 = .ok (.iconst 0, 1) := by decide +kernel
theorem dX7_knownNow_29 : decode cX7_knownNow 29 = .ok (.ior, 1) := by decide +kernel
theorem dX7_knownNow_30 : decode cX7_knownNow 30 = .ok (.istore_n 1, 1) := by decide +kernel
theorem dX7_knownNow_31 : decode cX7_knownNow 31 = .ok (.iinc 2 1, 3) := by decide +kernel
theorem dX7_knownNow_34 : decode cX7_knownNow 34 = .ok (.goto (-30), 3) := by decide +kernel
theorem dX7_knownNow_37 : decode cX7_knownNow 37 = .ok (.iload_n 1, 1) := by decide +kernel
theorem dX7_knownNow_38 : decode cX7_knownNow 38 = .ok (.ireturn, 1) := by decide +kernel
theorem dX7_known_0 : decode cX7_known 0 = .ok (.aload_n 0, 1) := by decide +kernel
theorem dX7_known_1 : decode cX7_known 1 = .ok (.invokevirtual 332, 3) := by decide +kernel
theorem dX7_known_4 : decode cX7_known 4 = .ok (.aload_n 0, 1) := by decide +kernel
theorem dX7_known_5 : decode cX7_known 5 = .ok (.invokevirtual 338, 3) := by decide +kernel
theorem dX7_known_8 : decode cX7_known 8 = .ok (.ireturn, 1) := by decide +kernel
theorem dX7_narrowest_0 : decode cX7_narrowest 0 = .ok (.iconst 0, 1) := by decide +kernel
theorem dX7_narrowest_1 : decode cX7_narrowest 1 = .ok (.istore_n 1, 1) := by decide +kernel
theorem dX7_narrowest_2 : decode cX7_narrowest 2 = .ok (.iconst 1, 1) := by decide +kernel
theorem dX7_narrowest_3 : decode cX7_narrowest 3 = .ok (.istore_n 2, 1) := by decide +kernel
theorem dX7_narrowest_4 : decode cX7_narrowest 4 = .ok (.iload_n 2, 1) := by decide +kernel
theorem dX7_narrowest_5 : decode cX7_narrowest 5 = .ok (.aload_n 0, 1) := by decide +kernel
theorem dX7_narrowest_6 : decode cX7_narrowest 6 = .ok (.getfield 86, 3) := by decide +kernel
theorem dX7_narrowest_9 : decode cX7_narrowest 9 = .ok (.if_icmp .ge 28, 3) := by decide +kernel
theorem dX7_narrowest_12 : decode cX7_narrowest 12 = .ok (.aload_n 0, 1) := by decide +kernel
theorem dX7_narrowest_13 : decode cX7_narrowest 13 = .ok (.iload_n 2, 1) := by decide +kernel
theorem dX7_narrowest_14 : decode cX7_narrowest 14 = .ok (.invokevirtual 335, 3) := by decide +kernel
theorem dX7_narrowest_17 : decode cX7_narrowest 17 = .ok (.aload_n 0, 1) := by decide +kernel
theorem dX7_narrowest_18 : decode cX7_narrowest 18 = .ok (.iload_n 1, 1) := by decide +kernel
theorem dX7_narrowest_19 : decode cX7_narrowest 19 = .ok (.invokevirtual 335, 3) := by decide +kernel
theorem dX7_narrowest_22 : decode cX7_narrowest 22 = .ok (.if_icmp .ge 7, 3) := by decide +kernel
theorem dX7_narrowest_25 : decode cX7_narrowest 25 = .ok (.iload_n 2, 1) := by decide +kernel
theorem dX7_narrowest_26 : decode cX7_narrowest 26 = .ok (.goto 4, 3) := by decide +kernel
theorem dX7_narrowest_29 : decode cX7_narrowest 29 = .ok (.iload_n 1, 1) := by decide +kernel
theorem dX7_narrowest_30 : decode cX7_narrowest 30 = .ok (.istore_n 1, 1) := by decide +kernel
theorem dX7_narrowest_31 : decode cX7_narrowest 31 = .ok (.iinc 2 1, 3) := by decide +kernel
theorem dX7_narrowest_34 : decode cX7_narrowest 34 = .ok (.goto (-30), 3) := by decide +kernel
theorem dX7_narrowest_37 : decode cX7_narrowest 37 = .ok (.iload_n 1, 1) := by decide +kernel
theorem dX7_narrowest_38 : decode cX7_narrowest 38 = .ok (.ireturn, 1) := by decide +kernel
theorem dX7_learns_0 : decode cX7_learns 0 = .ok (.iload_n 1, 1) := by decide +kernel
theorem dX7_learns_1 : decode cX7_learns 1 = .ok (.iload_n 2, 1) := by decide +kernel
theorem dX7_learns_2 : decode cX7_learns 2 = .ok (.iload_n 3, 1) := by decide +kernel
theorem dX7_learns_3 : decode cX7_learns 3 = .ok (.invokestatic 263, 3) := by decide +kernel
theorem dX7_learns_6 : decode cX7_learns 6 = .ok (.istore 5, 2) := by decide +kernel
theorem dX7_learns_8 : decode cX7_learns 8 = .ok (.iload 5, 2) := by decide +kernel
theorem dX7_learns_10 : decode cX7_learns 10 = .ok (.ifCond .ne 17, 3) := by decide +kernel
theorem dX7_learns_13 : decode cX7_learns 13 = .ok (.iload 4, 2) := by decide +kernel
theorem dX7_learns_15 : decode cX7_learns 15 = .ok (.iconst 0, 1) := by decide +kernel
theorem dX7_learns_16 : decode cX7_learns 16 = .ok (.iconst 2, 1) := by decide +kernel
theorem dX7_learns_17 : decode cX7_learns 17 = .ok (.invokestatic 96, 3) := by decide +kernel
theorem dX7_learns_20 : decode cX7_learns 20 = .ok (.ifCond .ne 7, 3) := by decide +kernel
theorem dX7_learns_23 : decode cX7_learns 23 = .ok (.bipush (-2), 2) := by decide +kernel
theorem dX7_learns_25 : decode cX7_learns 25 = .ok (.istore 5, 2) := by decide +kernel
theorem dX7_learns_27 : decode cX7_learns 27 = .ok (.iload 5, 2) := by decide +kernel
theorem dX7_learns_29 : decode cX7_learns 29 = .ok (.ifCond .eq 10, 3) := by decide +kernel
theorem dX7_learns_32 : decode cX7_learns 32 = .ok (.aload_n 0, 1) := by decide +kernel
theorem dX7_learns_33 : decode cX7_learns 33 = .ok (.iload 5, 2) := by decide +kernel
theorem dX7_learns_35 : decode cX7_learns 35 = .ok (.invokevirtual 213, 3) := by decide +kernel
theorem dX7_learns_38 : decode cX7_learns 38 = .ok (.ireturn, 1) := by decide +kernel
theorem dX7_learns_39 : decode cX7_learns 39 = .ok (.aload_n 0, 1) := by decide +kernel
theorem dX7_learns_40 : decode cX7_learns 40 = .ok (.invokevirtual 341, 3) := by decide +kernel
theorem dX7_learns_43 : decode cX7_learns 43 = .ok (.aload_n 0, 1) := by decide +kernel
theorem dX7_learns_44 : decode cX7_learns 44 = .ok (.iload_n 1, 1) := by decide +kernel
theorem dX7_learns_45 : decode cX7_learns 45 = .ok (.iload_n 2, 1) := by decide +kernel
theorem dX7_learns_46 : decode cX7_learns 46 = .ok (.iload_n 3, 1) := by decide +kernel
theorem dX7_learns_47 : decode cX7_learns 47 = .ok (.invokevirtual 266, 3) := by decide +kernel
theorem dX7_learns_50 : decode cX7_learns 50 = .ok (.aload_n 0, 1) := by decide +kernel
theorem dX7_learns_51 : decode cX7_learns 51 = .ok (.invokevirtual 186, 3) := by decide +kernel
theorem dX7_learns_54 : decode cX7_learns 54 = .ok (.ifCond .eq 7, 3) := by decide +kernel
theorem dX7_learns_57 : decode cX7_learns 57 = .ok (.aload_n 0, 1) := by decide +kernel
theorem dX7_learns_58 : decode cX7_learns 58 = .ok (.invokevirtual 189, 3) := by decide +kernel
theorem dX7_learns_61 : decode cX7_learns 61 = .ok (.aload_n 0, 1) := by decide +kernel
theorem dX7_learns_62 : decode cX7_learns 62 = .ok (.invokevirtual 332, 3) := by decide +kernel
theorem dX7_learns_65 : decode cX7_learns 65 = .ok (.aload_n 0, 1) := by decide +kernel
theorem dX7_learns_66 : decode cX7_learns 66 = .ok (.invokevirtual 344, 3) := by decide +kernel
theorem dX7_learns_69 : decode cX7_learns 69 = .ok (.istore 6, 2) := by decide +kernel
theorem dX7_learns_71 : decode cX7_learns 71 = .ok (.iload 4, 2) := by decide +kernel
theorem dX7_learns_73 : decode cX7_learns 73 = .ok (.ifCond .ne 12, 3) := by decide +kernel
theorem dX7_learns_76 : decode cX7_learns 76 = .ok (.aload_n 0, 1) := by decide +kernel
theorem dX7_learns_77 : decode cX7_learns 77 = .ok (.iload 6, 2) := by decide +kernel
theorem dX7_learns_79 : decode cX7_learns 79 = .ok (.invokevirtual 335, 3) := by decide +kernel
theorem dX7_learns_82 : decode cX7_learns 82 = .ok (.goto 21, 3) := by decide +kernel
theorem dX7_learns_85 : decode cX7_learns 85 = .ok (.iload 4, 2) := by decide +kernel
theorem dX7_learns_87 : decode cX7_learns 87 = .ok (.iconst 1, 1) := by decide +kernel
theorem dX7_learns_88 : decode cX7_learns 88 = .ok (.if_icmp .ne 8, 3) := by decide +kernel
theorem dX7_learns_91 : decode cX7_learns 91 = .ok (.iload 6, 2) := by decide +kernel
theorem dX7_learns_93 : decode cX7_learns 93 = .ok (.goto 10, 3) := by decide +kernel
theorem dX7_learns_96 : decode cX7_learns 96 = .ok (.aload_n 0, 1) := by decide +kernel
theorem dX7_learns_97 : decode cX7_learns 97 = .ok (.invokevirtual 338, 3) := by decide +kernel
theorem dX7_learns_100 : decode cX7_learns 100 = .ok (.invokestatic 303, 3) := by decide +kernel
theorem dX7_learns_103 : decode cX7_learns 103 = .ok (.istore 7, 2) := by decide +kernel
theorem dX7_learns_105 : decode cX7_learns 105 = .ok (.aload_n 0, 1) := by decide +kernel
theorem dX7_learns_106 : decode cX7_learns 106 = .ok (.invokevirtual 347, 3) := by decide +kernel
theorem dX7_learns_109 : decode cX7_learns 109 = .ok (.iload 7, 2) := by decide +kernel
theorem dX7_learns_111 : decode cX7_learns 111 = .ok (.ireturn, 1) := by decide +kernel
theorem dX7_asksSum_0 : decode cX7_asksSum 0 = .ok (.aload_n 0, 1) := by decide +kernel
theorem dX7_asksSum_1 : decode cX7_asksSum 1 = .ok (.iconst 0, 1) := by decide +kernel
theorem dX7_asksSum_2 : decode cX7_asksSum 2 = .ok (.iload_n 1, 1) := by decide +kernel
theorem dX7_asksSum_3 : decode cX7_asksSum 3 = .ok (.iconst 0, 1) := by decide +kernel
theorem dX7_asksSum_4 : decode cX7_asksSum 4 = .ok (.invokevirtual 266, 3) := by decide +kernel
theorem dX7_asksSum_7 : decode cX7_asksSum 7 = .ok (.aload_n 0, 1) := by decide +kernel
theorem dX7_asksSum_8 : decode cX7_asksSum 8 = .ok (.invokevirtual 270, 3) := by decide +kernel
theorem dX7_asksSum_11 : decode cX7_asksSum 11 = .ok (.ireturn, 1) := by decide +kernel
theorem dX7_joinsIn_0 : decode cX7_joinsIn 0 = .ok (.aload_n 0, 1) := by decide +kernel
theorem dX7_joinsIn_1 : decode cX7_joinsIn 1 = .ok (.invokevirtual 341, 3) := by decide +kernel
theorem dX7_joinsIn_4 : decode cX7_joinsIn 4 = .ok (.aload_n 0, 1) := by decide +kernel
theorem dX7_joinsIn_5 : decode cX7_joinsIn 5 = .ok (.aload_n 0, 1) := by decide +kernel
theorem dX7_joinsIn_6 : decode cX7_joinsIn 6 = .ok (.getfield 77, 3) := by decide +kernel
theorem dX7_joinsIn_9 : decode cX7_joinsIn 9 = .ok (.iload_n 1, 1) := by decide +kernel
theorem dX7_joinsIn_10 : decode cX7_joinsIn 10 = .ok (.bipush 100, 2) := by decide +kernel
theorem dX7_joinsIn_12 : decode cX7_joinsIn 12 = .ok (.idiv, 1) := by decide +kernel
theorem dX7_joinsIn_13 : decode cX7_joinsIn 13 = .ok (.iaload, 1) := by decide +kernel
theorem dX7_joinsIn_14 : decode cX7_joinsIn 14 = .ok (.invokevirtual 350, 3) := by decide +kernel
theorem dX7_joinsIn_17 : decode cX7_joinsIn 17 = .ok (.iconst 1, 1) := by decide +kernel
theorem dX7_joinsIn_18 : decode cX7_joinsIn 18 = .ok (.if_icmp .ne 7, 3) := by decide +kernel
theorem dX7_joinsIn_21 : decode cX7_joinsIn 21 = .ok (.iconst 1, 1) := by decide +kernel
theorem dX7_joinsIn_22 : decode cX7_joinsIn 22 = .ok (.goto 4, 3) := by decide +kernel
theorem dX7_joinsIn_25 : decode cX7_joinsIn 25 = .ok (.iconst 0, 1) := by decide +kernel
theorem dX7_joinsIn_26 : decode cX7_joinsIn 26 = .ok (.istore_n 2, 1) := by decide +kernel
theorem dX7_joinsIn_27 : decode cX7_joinsIn 27 = .ok (.iload_n 2, 1) := by decide +kernel
theorem dX7_joinsIn_28 : decode cX7_joinsIn 28 = .ok (.aload_n 0, 1) := by decide +kernel
theorem dX7_joinsIn_29 : decode cX7_joinsIn 29 = .ok (.aload_n 0, 1) := by decide +kernel
theorem dX7_joinsIn_30 : decode cX7_joinsIn 30 = .ok (.getfield 77, 3) := by decide +kernel
theorem dX7_joinsIn_33 : decode cX7_joinsIn 33 = .ok (.iload_n 1, 1) := by decide +kernel
theorem dX7_joinsIn_34 : decode cX7_joinsIn 34 = .ok (.bipush 10, 2) := by decide +kernel
theorem dX7_joinsIn_36 : decode cX7_joinsIn 36 = .ok (.idiv, 1) := by decide +kernel
theorem dX7_joinsIn_37 : decode cX7_joinsIn 37 = .ok (.bipush 10, 2) := by decide +kernel
theorem dX7_joinsIn_39 : decode cX7_joinsIn 39 = .ok (.irem, 1) := by decide +kernel
theorem dX7_joinsIn_40 : decode cX7_joinsIn 40 = .ok (.iaload, 1) := by decide +kernel
theorem dX7_joinsIn_41 : decode cX7_joinsIn 41 = .ok (.invokevirtual 350, 3) := by decide +kernel
theorem dX7_joinsIn_44 : decode cX7_joinsIn 44 = .ok (.iconst 1, 1) := by decide +kernel
theorem dX7_joinsIn_45 : decode cX7_joinsIn 45 = .ok (.if_icmp .ne 7, 3) := by decide +kernel
theorem dX7_joinsIn_48 : decode cX7_joinsIn 48 = .ok (.iconst 1, 1) := by decide +kernel
theorem dX7_joinsIn_49 : decode cX7_joinsIn 49 = .ok (.goto 4, 3) := by decide +kernel
theorem dX7_joinsIn_52 : decode cX7_joinsIn 52 = .ok (.iconst 0, 1) := by decide +kernel
theorem dX7_joinsIn_53 : decode cX7_joinsIn 53 = .ok (.iadd, 1) := by decide +kernel
theorem dX7_joinsIn_54 : decode cX7_joinsIn 54 = .ok (.istore_n 2, 1) := by decide +kernel
theorem dX7_joinsIn_55 : decode cX7_joinsIn 55 = .ok (.iload_n 2, 1) := by decide +kernel
theorem dX7_joinsIn_56 : decode cX7_joinsIn 56 = .ok (.aload_n 0, 1) := by decide +kernel
theorem dX7_joinsIn_57 : decode cX7_joinsIn 57 = .ok (.aload_n 0, 1) := by decide +kernel
theorem dX7_joinsIn_58 : decode cX7_joinsIn 58 = .ok (.getfield 77, 3) := by decide +kernel
theorem dX7_joinsIn_61 : decode cX7_joinsIn 61 = .ok (.iload_n 1, 1) := by decide +kernel
theorem dX7_joinsIn_62 : decode cX7_joinsIn 62 = .ok (.bipush 10, 2) := by decide +kernel
theorem dX7_joinsIn_64 : decode cX7_joinsIn 64 = .ok (.irem, 1) := by decide +kernel
theorem dX7_joinsIn_65 : decode cX7_joinsIn 65 = .ok (.iaload, 1) := by decide +kernel
theorem dX7_joinsIn_66 : decode cX7_joinsIn 66 = .ok (.invokevirtual 350, 3) := by decide +kernel
theorem dX7_joinsIn_69 : decode cX7_joinsIn 69 = .ok (.iconst 1, 1) := by decide +kernel
theorem dX7_joinsIn_70 : decode cX7_joinsIn 70 = .ok (.if_icmp .ne 7, 3) := by decide +kernel
theorem dX7_joinsIn_73 : decode cX7_joinsIn 73 = .ok (.iconst 1, 1) := by decide +kernel
theorem dX7_joinsIn_74 : decode cX7_joinsIn 74 = .ok (.goto 4, 3) := by decide +kernel
theorem dX7_joinsIn_77 : decode cX7_joinsIn 77 = .ok (.iconst 0, 1) := by decide +kernel
theorem dX7_joinsIn_78 : decode cX7_joinsIn 78 = .ok (.iadd, 1) := by decide +kernel
theorem dX7_joinsIn_79 : decode cX7_joinsIn 79 = .ok (.istore_n 2, 1) := by decide +kernel
theorem dX7_joinsIn_80 : decode cX7_joinsIn 80 = .ok (.aload_n 0, 1) := by decide +kernel
theorem dX7_joinsIn_81 : decode cX7_joinsIn 81 = .ok (.invokevirtual 347, 3) := by decide +kernel
theorem dX7_joinsIn_84 : decode cX7_joinsIn 84 = .ok (.iload_n 2, 1) := by decide +kernel
theorem dX7_joinsIn_85 : decode cX7_joinsIn 85 = .ok (.ireturn, 1) := by decide +kernel
theorem dX7_isOrder_0 : decode cX7_isOrder 0 = .ok (.iload_n 0, 1) := by decide +kernel
theorem dX7_isOrder_1 : decode cX7_isOrder 1 = .ok (.bipush 100, 2) := by decide +kernel
theorem dX7_isOrder_3 : decode cX7_isOrder 3 = .ok (.idiv, 1) := by decide +kernel
theorem dX7_isOrder_4 : decode cX7_isOrder 4 = .ok (.iconst 3, 1) := by decide +kernel
theorem dX7_isOrder_5 : decode cX7_isOrder 5 = .ok (.if_icmp .ge 54, 3) := by decide +kernel
theorem dX7_isOrder_8 : decode cX7_isOrder 8 = .ok (.iload_n 0, 1) := by decide +kernel
theorem dX7_isOrder_9 : decode cX7_isOrder 9 = .ok (.bipush 10, 2) := by decide +kernel
theorem dX7_isOrder_11 : decode cX7_isOrder 11 = .ok (.idiv, 1) := by decide +kernel
theorem dX7_isOrder_12 : decode cX7_isOrder 12 = .ok (.bipush 10, 2) := by decide +kernel
theorem dX7_isOrder_14 : decode cX7_isOrder 14 = .ok (.irem, 1) := by decide +kernel
theorem dX7_isOrder_15 : decode cX7_isOrder 15 = .ok (.iconst 3, 1) := by decide +kernel
theorem dX7_isOrder_16 : decode cX7_isOrder 16 = .ok (.if_icmp .ge 43, 3) := by decide +kernel
theorem dX7_isOrder_19 : decode cX7_isOrder 19 = .ok (.iload_n 0, 1) := by decide +kernel
theorem dX7_isOrder_20 : decode cX7_isOrder 20 = .ok (.bipush 10, 2) := by decide +kernel
theorem dX7_isOrder_22 : decode cX7_isOrder 22 = .ok (.irem, 1) := by decide +kernel
theorem dX7_isOrder_23 : decode cX7_isOrder 23 = .ok (.iconst 3, 1) := by decide +kernel
theorem dX7_isOrder_24 : decode cX7_isOrder 24 = .ok (.if_icmp .ge 35, 3) := by decide +kernel
theorem dX7_isOrder_27 : decode cX7_isOrder 27 = .ok (.iconst 1, 1) := by decide +kernel
theorem dX7_isOrder_28 : decode cX7_isOrder 28 = .ok (.iload_n 0, 1) := by decide +kernel
theorem dX7_isOrder_29 : decode cX7_isOrder 29 = .ok (.bipush 100, 2) := by decide +kernel
theorem dX7_isOrder_31 : decode cX7_isOrder 31 = .ok (.idiv, 1) := by decide +kernel
theorem dX7_isOrder_32 : decode cX7_isOrder 32 = .ok (.ishl, 1) := by decide +kernel
theorem dX7_isOrder_33 : decode cX7_isOrder 33 = .ok (.iconst 1, 1) := by decide +kernel
theorem dX7_isOrder_34 : decode cX7_isOrder 34 = .ok (.iload_n 0, 1) := by decide +kernel
theorem dX7_isOrder_35 : decode cX7_isOrder 35 = .ok (.bipush 10, 2) := by decide +kernel
theorem dX7_isOrder_37 : decode cX7_isOrder 37 = .ok (.idiv, 1) := by decide +kernel
theorem dX7_isOrder_38 : decode cX7_isOrder 38 = .ok (.bipush 10, 2) := by decide +kernel
theorem dX7_isOrder_40 : decode cX7_isOrder 40 = .ok (.irem, 1) := by decide +kernel
theorem dX7_isOrder_41 : decode cX7_isOrder 41 = .ok (.ishl, 1) := by decide +kernel
theorem dX7_isOrder_42 : decode cX7_isOrder 42 = .ok (.ior, 1) := by decide +kernel
theorem dX7_isOrder_43 : decode cX7_isOrder 43 = .ok (.iconst 1, 1) := by decide +kernel
theorem dX7_isOrder_44 : decode cX7_isOrder 44 = .ok (.iload_n 0, 1) := by decide +kernel
theorem dX7_isOrder_45 : decode cX7_isOrder 45 = .ok (.bipush 10, 2) := by decide +kernel
theorem dX7_isOrder_47 : decode cX7_isOrder 47 = .ok (.irem, 1) := by decide +kernel
theorem dX7_isOrder_48 : decode cX7_isOrder 48 = .ok (.ishl, 1) := by decide +kernel
theorem dX7_isOrder_49 : decode cX7_isOrder 49 = .ok (.ior, 1) := by decide +kernel
theorem dX7_isOrder_50 : decode cX7_isOrder 50 = .ok (.bipush 7, 2) := by decide +kernel
theorem dX7_isOrder_52 : decode cX7_isOrder 52 = .ok (.if_icmp .ne 7, 3) := by decide +kernel
theorem dX7_isOrder_55 : decode cX7_isOrder 55 = .ok (.iconst 1, 1) := by decide +kernel
theorem dX7_isOrder_56 : decode cX7_isOrder 56 = .ok (.goto 4, 3) := by decide +kernel
theorem dX7_isOrder_59 : decode cX7_isOrder 59 = .ok (.iconst 0, 1) := by decide +kernel
theorem dX7_isOrder_60 : decode cX7_isOrder 60 = .ok (.ireturn, 1) := by decide +kernel
theorem dX7_order_0 : decode cX7_order 0 = .ok (.iload_n 1, 1) := by decide +kernel
theorem dX7_order_1 : decode cX7_order 1 = .ok (.iconst 1, 1) := by decide +kernel
theorem dX7_order_2 : decode cX7_order 2 = .ok (.if_icmp .lt 13, 3) := by decide +kernel
theorem dX7_order_5 : decode cX7_order 5 = .ok (.iload_n 2, 1) := by decide +kernel
theorem dX7_order_6 : decode cX7_order 6 = .ok (.iconst 1, 1) := by decide +kernel
theorem dX7_order_7 : decode cX7_order 7 = .ok (.if_icmp .lt 8, 3) := by decide +kernel
theorem dX7_order_10 : decode cX7_order 10 = .ok (.iload_n 3, 1) := by decide +kernel
theorem dX7_order_11 : decode cX7_order 11 = .ok (.iconst 1, 1) := by decide +kernel
theorem dX7_order_12 : decode cX7_order 12 = .ok (.if_icmp .ge 8, 3) := by decide +kernel
theorem dX7_order_15 : decode cX7_order 15 = .ok (.bipush (-4), 2) := by decide +kernel
theorem dX7_order_17 : decode cX7_order 17 = .ok (.goto 45, 3) := by decide +kernel
theorem dX7_order_20 : decode cX7_order 20 = .ok (.iload_n 1, 1) := by decide +kernel
theorem dX7_order_21 : decode cX7_order 21 = .ok (.sipush 255, 3) := by decide +kernel
theorem dX7_order_24 : decode cX7_order 24 = .ok (.if_icmp .gt 17, 3) := by decide +kernel
theorem dX7_order_27 : decode cX7_order 27 = .ok (.iload_n 2, 1) := by decide +kernel
theorem dX7_order_28 : decode cX7_order 28 = .ok (.sipush 255, 3) := by decide +kernel
theorem dX7_order_31 : decode cX7_order 31 = .ok (.if_icmp .gt 10, 3) := by decide +kernel
theorem dX7_order_34 : decode cX7_order 34 = .ok (.iload_n 3, 1) := by decide +kernel
theorem dX7_order_35 : decode cX7_order 35 = .ok (.sipush 255, 3) := by decide +kernel
theorem dX7_order_38 : decode cX7_order 38 = .ok (.if_icmp .le 8, 3) := by decide +kernel
theorem dX7_order_41 : decode cX7_order 41 = .ok (.bipush (-6), 2) := by decide +kernel
theorem dX7_order_43 : decode cX7_order 43 = .ok (.goto 19, 3) := by decide +kernel
theorem dX7_order_46 : decode cX7_order 46 = .ok (.iload 4, 2) := by decide +kernel
theorem dX7_order_48 : decode cX7_order 48 = .ok (.iconst 0, 1) := by decide +kernel
theorem dX7_order_49 : decode cX7_order 49 = .ok (.iconst 1, 1) := by decide +kernel
theorem dX7_order_50 : decode cX7_order 50 = .ok (.invokestatic 96, 3) := by decide +kernel
theorem dX7_order_53 : decode cX7_order 53 = .ok (.ifCond .ne 8, 3) := by decide +kernel
theorem dX7_order_56 : decode cX7_order 56 = .ok (.bipush (-2), 2) := by decide +kernel
theorem dX7_order_58 : decode cX7_order 58 = .ok (.goto 4, 3) := by decide +kernel
theorem dX7_order_61 : decode cX7_order 61 = .ok (.iconst 0, 1) := by decide +kernel
theorem dX7_order_62 : decode cX7_order 62 = .ok (.istore 5, 2) := by decide +kernel
theorem dX7_order_64 : decode cX7_order 64 = .ok (.iload 5, 2) := by decide +kernel
theorem dX7_order_66 : decode cX7_order 66 = .ok (.ifCond .eq 10, 3) := by decide +kernel
theorem dX7_order_69 : decode cX7_order 69 = .ok (.aload_n 0, 1) := by decide +kernel
theorem dX7_order_70 : decode cX7_order 70 = .ok (.iload 5, 2) := by decide +kernel
theorem dX7_order_72 : decode cX7_order 72 = .ok (.invokevirtual 213, 3) := by decide +kernel
theorem dX7_order_75 : decode cX7_order 75 = .ok (.ireturn, 1) := by decide +kernel
theorem dX7_order_76 : decode cX7_order 76 = .ok (.aload_n 0, 1) := by decide +kernel
theorem dX7_order_77 : decode cX7_order 77 = .ok (.getfield 77, 3) := by decide +kernel
theorem dX7_order_80 : decode cX7_order 80 = .ok (.iconst 0, 1) := by decide +kernel
theorem dX7_order_81 : decode cX7_order 81 = .ok (.iload_n 1, 1) := by decide +kernel
theorem dX7_order_82 : decode cX7_order 82 = .ok (.iastore, 1) := by decide +kernel
theorem dX7_order_83 : decode cX7_order 83 = .ok (.aload_n 0, 1) := by decide +kernel
theorem dX7_order_84 : decode cX7_order 84 = .ok (.getfield 77, 3) := by decide +kernel
theorem dX7_order_87 : decode cX7_order 87 = .ok (.iconst 1, 1) := by decide +kernel
theorem dX7_order_88 : decode cX7_order 88 = .ok (.iload_n 2, 1) := by decide +kernel
theorem dX7_order_89 : decode cX7_order 89 = .ok (.iastore, 1) := by decide +kernel
theorem dX7_order_90 : decode cX7_order 90 = .ok (.aload_n 0, 1) := by decide +kernel
theorem dX7_order_91 : decode cX7_order 91 = .ok (.getfield 77, 3) := by decide +kernel
theorem dX7_order_94 : decode cX7_order 94 = .ok (.iconst 2, 1) := by decide +kernel
theorem dX7_order_95 : decode cX7_order 95 = .ok (.iload_n 3, 1) := by decide +kernel
theorem dX7_order_96 : decode cX7_order 96 = .ok (.iastore, 1) := by decide +kernel
end
section
theorem dX7_order_97 : decode cX7_order 97 = .ok (.bipush (-9), 2) := by decide +kernel
theorem dX7_order_99 : decode cX7_order 99 = .ok (.istore 6, 2) := by decide +kernel
theorem dX7_order_101 : decode cX7_order 101 = .ok (.bipush (-9), 2) := by decide +kernel
theorem dX7_order_103 : decode cX7_order 103 = .ok (.istore 7, 2) := by decide +kernel
theorem dX7_order_105 : decode cX7_order 105 = .ok (.iconst 0, 1) := by decide +kernel
theorem dX7_order_106 : decode cX7_order 106 = .ok (.istore 8, 2) := by decide +kernel
theorem dX7_order_108 : decode cX7_order 108 = .ok (.iload 8, 2) := by decide +kernel
theorem dX7_order_110 : decode cX7_order 110 = .ok (.sipush 300, 3) := by decide +kernel
theorem dX7_order_113 : decode cX7_order 113 = .ok (.if_icmp .ge 48, 3) := by decide +kernel
theorem dX7_order_116 : decode cX7_order 116 = .ok (.iload 8, 2) := by decide +kernel
theorem dX7_order_118 : decode cX7_order 118 = .ok (.invokestatic 353, 3) := by decide +kernel
theorem dX7_order_121 : decode cX7_order 121 = .ok (.ifCond .eq 12, 3) := by decide +kernel
theorem dX7_order_124 : decode cX7_order 124 = .ok (.aload_n 0, 1) := by decide +kernel
theorem dX7_order_125 : decode cX7_order 125 = .ok (.iload 8, 2) := by decide +kernel
theorem dX7_order_127 : decode cX7_order 127 = .ok (.invokevirtual 356, 3) := by decide +kernel
theorem dX7_order_130 : decode cX7_order 130 = .ok (.goto 5, 3) := by decide +kernel
theorem dX7_order_133 : decode cX7_order 133 = .ok (.bipush (-9), 2) := by decide +kernel
theorem dX7_order_135 : decode cX7_order 135 = .ok (.istore 9, 2) := by decide +kernel
theorem dX7_order_137 : decode cX7_order 137 = .ok (.iload 9, 2) := by decide +kernel
theorem dX7_order_139 : decode cX7_order 139 = .ok (.iload 7, 2) := by decide +kernel
theorem dX7_order_141 : decode cX7_order 141 = .ok (.if_icmp .gt 6, 3) := by decide +kernel
theorem dX7_order_144 : decode cX7_order 144 = .ok (.goto 11, 3) := by decide +kernel
theorem dX7_order_147 : decode cX7_order 147 = .ok (.iload 8, 2) := by decide +kernel
theorem dX7_order_149 : decode cX7_order 149 = .ok (.istore 6, 2) := by decide +kernel
theorem dX7_order_151 : decode cX7_order 151 = .ok (.iload 9, 2) := by decide +kernel
theorem dX7_order_153 : decode cX7_order 153 = .ok (.istore 7, 2) := by decide +kernel
theorem dX7_order_155 : decode cX7_order 155 = .ok (.iinc 8 1, 3) := by decide +kernel
theorem dX7_order_158 : decode cX7_order 158 = .ok (.goto (-50), 3) := by decide +kernel
theorem dX7_order_161 : decode cX7_order 161 = .ok (.iload 4, 2) := by decide +kernel
theorem dX7_order_163 : decode cX7_order 163 = .ok (.ifCond .ne 8, 3) := by decide +kernel
theorem dX7_order_166 : decode cX7_order 166 = .ok (.iload 6, 2) := by decide +kernel
theorem dX7_order_168 : decode cX7_order 168 = .ok (.goto 5, 3) := by decide +kernel
theorem dX7_order_171 : decode cX7_order 171 = .ok (.iload 7, 2) := by decide +kernel
theorem dX7_order_173 : decode cX7_order 173 = .ok (.ireturn, 1) := by decide +kernel
theorem dX7_getsFor_0 : decode cX7_getsFor 0 = .ok (.aload_n 0, 1) := by decide +kernel
theorem dX7_getsFor_1 : decode cX7_getsFor 1 = .ok (.iload_n 1, 1) := by decide +kernel
theorem dX7_getsFor_2 : decode cX7_getsFor 2 = .ok (.invokevirtual 350, 3) := by decide +kernel
theorem dX7_getsFor_5 : decode cX7_getsFor 5 = .ok (.istore_n 2, 1) := by decide +kernel
theorem dX7_getsFor_6 : decode cX7_getsFor 6 = .ok (.iload_n 2, 1) := by decide +kernel
theorem dX7_getsFor_7 : decode cX7_getsFor 7 = .ok (.iconst 1, 1) := by decide +kernel
theorem dX7_getsFor_8 : decode cX7_getsFor 8 = .ok (.if_icmp .ne 7, 3) := by decide +kernel
theorem dX7_getsFor_11 : decode cX7_getsFor 11 = .ok (.iconst 3, 1) := by decide +kernel
theorem dX7_getsFor_12 : decode cX7_getsFor 12 = .ok (.goto 12, 3) := by decide +kernel
theorem dX7_getsFor_15 : decode cX7_getsFor 15 = .ok (.iload_n 2, 1) := by decide +kernel
theorem dX7_getsFor_16 : decode cX7_getsFor 16 = .ok (.ifCond .ne 7, 3) := by decide +kernel
theorem dX7_getsFor_19 : decode cX7_getsFor 19 = .ok (.iconst 1, 1) := by decide +kernel
theorem dX7_getsFor_20 : decode cX7_getsFor 20 = .ok (.goto 4, 3) := by decide +kernel
theorem dX7_getsFor_23 : decode cX7_getsFor 23 = .ok (.iconst (-1), 1) := by decide +kernel
theorem dX7_getsFor_24 : decode cX7_getsFor 24 = .ok (.ireturn, 1) := by decide +kernel
theorem dX7_findEnds_0 : decode cX7_findEnds 0 = .ok (.iconst 0, 1) := by decide +kernel
theorem dX7_findEnds_1 : decode cX7_findEnds 1 = .ok (.istore_n 3, 1) := by decide +kernel
theorem dX7_findEnds_2 : decode cX7_findEnds 2 = .ok (.iload_n 3, 1) := by decide +kernel
theorem dX7_findEnds_3 : decode cX7_findEnds 3 = .ok (.iconst 4, 1) := by decide +kernel
theorem dX7_findEnds_4 : decode cX7_findEnds 4 = .ok (.if_icmp .ge 67, 3) := by decide +kernel
theorem dX7_findEnds_7 : decode cX7_findEnds 7 = .ok (.aload_n 0, 1) := by decide +kernel
theorem dX7_findEnds_8 : decode cX7_findEnds 8 = .ok (.invokevirtual 341, 3) := by decide +kernel
theorem dX7_findEnds_11 : decode cX7_findEnds 11 = .ok (.aload_n 0, 1) := by decide +kernel
theorem dX7_findEnds_12 : decode cX7_findEnds 12 = .ok (.getfield 80, 3) := by decide +kernel
theorem dX7_findEnds_15 : decode cX7_findEnds 15 = .ok (.iconst 2, 1) := by decide +kernel
theorem dX7_findEnds_16 : decode cX7_findEnds 16 = .ok (.iload_n 3, 1) := by decide +kernel
theorem dX7_findEnds_17 : decode cX7_findEnds 17 = .ok (.imul, 1) := by decide +kernel
theorem dX7_findEnds_18 : decode cX7_findEnds 18 = .ok (.iload_n 3, 1) := by decide +kernel
theorem dX7_findEnds_19 : decode cX7_findEnds 19 = .ok (.iconst 2, 1) := by decide +kernel
theorem dX7_findEnds_20 : decode cX7_findEnds 20 = .ok (.idiv, 1) := by decide +kernel
theorem dX7_findEnds_21 : decode cX7_findEnds 21 = .ok (.iconst 1, 1) := by decide +kernel
theorem dX7_findEnds_22 : decode cX7_findEnds 22 = .ok (.if_icmp .ne 11, 3) := by decide +kernel
theorem dX7_findEnds_25 : decode cX7_findEnds 25 = .ok (.aload_n 0, 1) := by decide +kernel
theorem dX7_findEnds_26 : decode cX7_findEnds 26 = .ok (.iload_n 1, 1) := by decide +kernel
theorem dX7_findEnds_27 : decode cX7_findEnds 27 = .ok (.invokevirtual 359, 3) := by decide +kernel
theorem dX7_findEnds_30 : decode cX7_findEnds 30 = .ok (.goto 4, 3) := by decide +kernel
theorem dX7_findEnds_33 : decode cX7_findEnds 33 = .ok (.iconst 0, 1) := by decide +kernel
theorem dX7_findEnds_34 : decode cX7_findEnds 34 = .ok (.iastore, 1) := by decide +kernel
theorem dX7_findEnds_35 : decode cX7_findEnds 35 = .ok (.aload_n 0, 1) := by decide +kernel
theorem dX7_findEnds_36 : decode cX7_findEnds 36 = .ok (.getfield 80, 3) := by decide +kernel
theorem dX7_findEnds_39 : decode cX7_findEnds 39 = .ok (.iconst 2, 1) := by decide +kernel
theorem dX7_findEnds_40 : decode cX7_findEnds 40 = .ok (.iload_n 3, 1) := by decide +kernel
theorem dX7_findEnds_41 : decode cX7_findEnds 41 = .ok (.imul, 1) := by decide +kernel
theorem dX7_findEnds_42 : decode cX7_findEnds 42 = .ok (.iconst 1, 1) := by decide +kernel
theorem dX7_findEnds_43 : decode cX7_findEnds 43 = .ok (.iadd, 1) := by decide +kernel
theorem dX7_findEnds_44 : decode cX7_findEnds 44 = .ok (.iload_n 3, 1) := by decide +kernel
theorem dX7_findEnds_45 : decode cX7_findEnds 45 = .ok (.iconst 2, 1) := by decide +kernel
theorem dX7_findEnds_46 : decode cX7_findEnds 46 = .ok (.irem, 1) := by decide +kernel
theorem dX7_findEnds_47 : decode cX7_findEnds 47 = .ok (.iconst 1, 1) := by decide +kernel
theorem dX7_findEnds_48 : decode cX7_findEnds 48 = .ok (.if_icmp .ne 11, 3) := by decide +kernel
theorem dX7_findEnds_51 : decode cX7_findEnds 51 = .ok (.aload_n 0, 1) := by decide +kernel
theorem dX7_findEnds_52 : decode cX7_findEnds 52 = .ok (.iload_n 2, 1) := by decide +kernel
theorem dX7_findEnds_53 : decode cX7_findEnds 53 = .ok (.invokevirtual 359, 3) := by decide +kernel
theorem dX7_findEnds_56 : decode cX7_findEnds 56 = .ok (.goto 4, 3) := by decide +kernel
theorem dX7_findEnds_59 : decode cX7_findEnds 59 = .ok (.iconst 0, 1) := by decide +kernel
theorem dX7_findEnds_60 : decode cX7_findEnds 60 = .ok (.iastore, 1) := by decide +kernel
theorem dX7_findEnds_61 : decode cX7_findEnds 61 = .ok (.aload_n 0, 1) := by decide +kernel
theorem dX7_findEnds_62 : decode cX7_findEnds 62 = .ok (.invokevirtual 347, 3) := by decide +kernel
theorem dX7_findEnds_65 : decode cX7_findEnds 65 = .ok (.iinc 3 1, 3) := by decide +kernel
theorem dX7_findEnds_68 : decode cX7_findEnds 68 = .ok (.goto (-66), 3) := by decide +kernel
theorem dX7_findEnds_71 : decode cX7_findEnds 71 = .ok (.return_, 1) := by decide +kernel
theorem dX7_two_0 : decode cX7_two 0 = .ok (.iload_n 1, 1) := by decide +kernel
theorem dX7_two_1 : decode cX7_two 1 = .ok (.iconst 1, 1) := by decide +kernel
theorem dX7_two_2 : decode cX7_two 2 = .ok (.if_icmp .lt 8, 3) := by decide +kernel
theorem dX7_two_5 : decode cX7_two 5 = .ok (.iload_n 2, 1) := by decide +kernel
theorem dX7_two_6 : decode cX7_two 6 = .ok (.iconst 1, 1) := by decide +kernel
theorem dX7_two_7 : decode cX7_two 7 = .ok (.if_icmp .ge 8, 3) := by decide +kernel
theorem dX7_two_10 : decode cX7_two 10 = .ok (.bipush (-4), 2) := by decide +kernel
theorem dX7_two_12 : decode cX7_two 12 = .ok (.goto 23, 3) := by decide +kernel
theorem dX7_two_15 : decode cX7_two 15 = .ok (.iload_n 1, 1) := by decide +kernel
theorem dX7_two_16 : decode cX7_two 16 = .ok (.sipush 255, 3) := by decide +kernel
theorem dX7_two_19 : decode cX7_two 19 = .ok (.if_icmp .gt 10, 3) := by decide +kernel
theorem dX7_two_22 : decode cX7_two 22 = .ok (.iload_n 2, 1) := by decide +kernel
theorem dX7_two_23 : decode cX7_two 23 = .ok (.sipush 255, 3) := by decide +kernel
theorem dX7_two_26 : decode cX7_two 26 = .ok (.if_icmp .le 8, 3) := by decide +kernel
theorem dX7_two_29 : decode cX7_two 29 = .ok (.bipush (-6), 2) := by decide +kernel
theorem dX7_two_31 : decode cX7_two 31 = .ok (.goto 4, 3) := by decide +kernel
theorem dX7_two_34 : decode cX7_two 34 = .ok (.iconst 0, 1) := by decide +kernel
theorem dX7_two_35 : decode cX7_two 35 = .ok (.istore_n 3, 1) := by decide +kernel
theorem dX7_two_36 : decode cX7_two 36 = .ok (.iload_n 3, 1) := by decide +kernel
theorem dX7_two_37 : decode cX7_two 37 = .ok (.ifCond .eq 9, 3) := by decide +kernel
theorem dX7_two_40 : decode cX7_two 40 = .ok (.aload_n 0, 1) := by decide +kernel
theorem dX7_two_41 : decode cX7_two 41 = .ok (.iload_n 3, 1) := by decide +kernel
theorem dX7_two_42 : decode cX7_two 42 = .ok (.invokevirtual 213, 3) := by decide +kernel
theorem dX7_two_45 : decode cX7_two 45 = .ok (.ireturn, 1) := by decide +kernel
theorem dX7_two_46 : decode cX7_two 46 = .ok (.aload_n 0, 1) := by decide +kernel
theorem dX7_two_47 : decode cX7_two 47 = .ok (.iload_n 1, 1) := by decide +kernel
theorem dX7_two_48 : decode cX7_two 48 = .ok (.iload_n 2, 1) := by decide +kernel
theorem dX7_two_49 : decode cX7_two 49 = .ok (.invokevirtual 362, 3) := by decide +kernel
theorem dX7_two_52 : decode cX7_two 52 = .ok (.iconst 0, 1) := by decide +kernel
theorem dX7_two_53 : decode cX7_two 53 = .ok (.istore 4, 2) := by decide +kernel
theorem dX7_two_55 : decode cX7_two 55 = .ok (.iload 4, 2) := by decide +kernel
theorem dX7_two_57 : decode cX7_two 57 = .ok (.iconst 4, 1) := by decide +kernel
theorem dX7_two_58 : decode cX7_two 58 = .ok (.if_icmp .ge 72, 3) := by decide +kernel
theorem dX7_two_61 : decode cX7_two 61 = .ok (.aload_n 0, 1) := by decide +kernel
theorem dX7_two_62 : decode cX7_two 62 = .ok (.getfield 80, 3) := by decide +kernel
theorem dX7_two_65 : decode cX7_two 65 = .ok (.iconst 2, 1) := by decide +kernel
theorem dX7_two_66 : decode cX7_two 66 = .ok (.iload 4, 2) := by decide +kernel
theorem dX7_two_68 : decode cX7_two 68 = .ok (.iconst 2, 1) := by decide +kernel
theorem dX7_two_69 : decode cX7_two 69 = .ok (.ixor, 1) := by decide +kernel
theorem dX7_two_70 : decode cX7_two 70 = .ok (.imul, 1) := by decide +kernel
theorem dX7_two_71 : decode cX7_two 71 = .ok (.iaload, 1) := by decide +kernel
theorem dX7_two_72 : decode cX7_two 72 = .ok (.aload_n 0, 1) := by decide +kernel
theorem dX7_two_73 : decode cX7_two 73 = .ok (.getfield 80, 3) := by decide +kernel
theorem dX7_two_76 : decode cX7_two 76 = .ok (.iconst 2, 1) := by decide +kernel
theorem dX7_two_77 : decode cX7_two 77 = .ok (.iload 4, 2) := by decide +kernel
theorem dX7_two_79 : decode cX7_two 79 = .ok (.imul, 1) := by decide +kernel
theorem dX7_two_80 : decode cX7_two 80 = .ok (.iaload, 1) := by decide +kernel
theorem dX7_two_81 : decode cX7_two 81 = .ok (.if_icmp .gt 43, 3) := by decide +kernel
theorem dX7_two_84 : decode cX7_two 84 = .ok (.aload_n 0, 1) := by decide +kernel
theorem dX7_two_85 : decode cX7_two 85 = .ok (.getfield 80, 3) := by decide +kernel
theorem dX7_two_88 : decode cX7_two 88 = .ok (.iconst 2, 1) := by decide +kernel
theorem dX7_two_89 : decode cX7_two 89 = .ok (.iload 4, 2) := by decide +kernel
theorem dX7_two_91 : decode cX7_two 91 = .ok (.iconst 1, 1) := by decide +kernel
theorem dX7_two_92 : decode cX7_two 92 = .ok (.ixor, 1) := by decide +kernel
theorem dX7_two_93 : decode cX7_two 93 = .ok (.imul, 1) := by decide +kernel
theorem dX7_two_94 : decode cX7_two 94 = .ok (.iconst 1, 1) := by decide +kernel
theorem dX7_two_95 : decode cX7_two 95 = .ok (.iadd, 1) := by decide +kernel
theorem dX7_two_96 : decode cX7_two 96 = .ok (.iaload, 1) := by decide +kernel
theorem dX7_two_97 : decode cX7_two 97 = .ok (.aload_n 0, 1) := by decide +kernel
theorem dX7_two_98 : decode cX7_two 98 = .ok (.getfield 80, 3) := by decide +kernel
theorem dX7_two_101 : decode cX7_two 101 = .ok (.iconst 2, 1) := by decide +kernel
theorem dX7_two_102 : decode cX7_two 102 = .ok (.iload 4, 2) := by decide +kernel
theorem dX7_two_104 : decode cX7_two 104 = .ok (.imul, 1) := by decide +kernel
theorem dX7_two_105 : decode cX7_two 105 = .ok (.iconst 1, 1) := by decide +kernel
theorem dX7_two_106 : decode cX7_two 106 = .ok (.iadd, 1) := by decide +kernel
theorem dX7_two_107 : decode cX7_two 107 = .ok (.iaload, 1) := by decide +kernel
theorem dX7_two_108 : decode cX7_two 108 = .ok (.if_icmp .gt 16, 3) := by decide +kernel
theorem dX7_two_111 : decode cX7_two 111 = .ok (.bipush 10, 2) := by decide +kernel
theorem dX7_two_113 : decode cX7_two 113 = .ok (.iload 4, 2) := by decide +kernel
theorem dX7_two_115 : decode cX7_two 115 = .ok (.iconst 2, 1) := by decide +kernel
theorem dX7_two_116 : decode cX7_two 116 = .ok (.idiv, 1) := by decide +kernel
theorem dX7_two_117 : decode cX7_two 117 = .ok (.imul, 1) := by decide +kernel
theorem dX7_two_118 : decode cX7_two 118 = .ok (.iload 4, 2) := by decide +kernel
theorem dX7_two_120 : decode cX7_two 120 = .ok (.iconst 2, 1) := by decide +kernel
theorem dX7_two_121 : decode cX7_two 121 = .ok (.irem, 1) := by decide +kernel
theorem dX7_two_122 : decode cX7_two 122 = .ok (.iadd, 1) := by decide +kernel
theorem dX7_two_123 : decode cX7_two 123 = .ok (.ireturn, 1) := by decide +kernel
theorem dX7_two_124 : decode cX7_two 124 = .ok (.iinc 4 1, 3) := by decide +kernel
theorem dX7_two_127 : decode cX7_two 127 = .ok (.goto (-72), 3) := by decide +kernel
theorem dX7_two_130 : decode cX7_two 130 = .ok (.bipush (-9), 2) := by decide +kernel
theorem dX7_two_132 : decode cX7_two 132 = .ok (.ireturn, 1) := by decide +kernel
theorem dX7_mean_0 : decode cX7_mean 0 = .ok (.iload_n 1, 1) := by decide +kernel
theorem dX7_mean_1 : decode cX7_mean 1 = .ok (.iconst 0, 1) := by decide +kernel
theorem dX7_mean_2 : decode cX7_mean 2 = .ok (.iconst 1, 1) := by decide +kernel
theorem dX7_mean_3 : decode cX7_mean 3 = .ok (.invokestatic 96, 3) := by decide +kernel
theorem dX7_mean_6 : decode cX7_mean 6 = .ok (.ifCond .ne 10, 3) := by decide +kernel
theorem dX7_mean_9 : decode cX7_mean 9 = .ok (.aload_n 0, 1) := by decide +kernel
theorem dX7_mean_10 : decode cX7_mean 10 = .ok (.bipush (-2), 2) := by decide +kernel
theorem dX7_mean_12 : decode cX7_mean 12 = .ok (.invokevirtual 309, 3) := by decide +kernel
theorem dX7_mean_15 : decode cX7_mean 15 = .ok (.lreturn, 1) := by decide +kernel
theorem dX7_mean_16 : decode cX7_mean 16 = .ok (.aload_n 0, 1) := by decide +kernel
theorem dX7_mean_17 : decode cX7_mean 17 = .ok (.invokevirtual 332, 3) := by decide +kernel
theorem dX7_mean_20 : decode cX7_mean 20 = .ok (.iconst 0, 1) := by decide +kernel
theorem dX7_mean_21 : decode cX7_mean 21 = .ok (.istore_n 2, 1) := by decide +kernel
theorem dX7_mean_22 : decode cX7_mean 22 = .ok (.iconst 0, 1) := by decide +kernel
theorem dX7_mean_23 : decode cX7_mean 23 = .ok (.istore_n 3, 1) := by decide +kernel
theorem dX7_mean_24 : decode cX7_mean 24 = .ok (.iload_n 3, 1) := by decide +kernel
theorem dX7_mean_25 : decode cX7_mean 25 = .ok (.aload_n 0, 1) := by decide +kernel
theorem dX7_mean_26 : decode cX7_mean 26 = .ok (.getfield 86, 3) := by decide +kernel
theorem dX7_mean_29 : decode cX7_mean 29 = .ok (.if_icmp .ge 17, 3) := by decide +kernel
theorem dX7_mean_32 : decode cX7_mean 32 = .ok (.iload_n 2, 1) := by decide +kernel
theorem dX7_mean_33 : decode cX7_mean 33 = .ok (.aload_n 0, 1) := by decide +kernel
theorem dX7_mean_34 : decode cX7_mean 34 = .ok (.iload_n 3, 1) := by decide +kernel
theorem dX7_mean_35 : decode cX7_mean 35 = .ok (.invokevirtual 335, 3) := by decide +kernel
theorem dX7_mean_38 : decode cX7_mean 38 = .ok (.iadd, 1) := by decide +kernel
theorem dX7_mean_39 : decode cX7_mean 39 = .ok (.istore_n 2, 1) := by decide +kernel
theorem dX7_mean_40 : decode cX7_mean 40 = .ok (.iinc 3 1, 3) := by decide +kernel
theorem dX7_mean_43 : decode cX7_mean 43 = .ok (.goto (-19), 3) := by decide +kernel
theorem dX7_mean_46 : decode cX7_mean 46 = .ok (.iload_n 2, 1) := by decide +kernel
theorem dX7_mean_47 : decode cX7_mean 47 = .ok (.i2l, 1) := by decide +kernel
theorem dX7_mean_48 : decode cX7_mean 48 = .ok (.aload_n 0, 1) := by decide +kernel
theorem dX7_mean_49 : decode cX7_mean 49 = .ok (.getfield 86, 3) := by decide +kernel
theorem dX7_mean_52 : decode cX7_mean 52 = .ok (.i2l, 1) := by decide +kernel
theorem dX7_mean_53 : decode cX7_mean 53 = .ok (.iload_n 1, 1) := by decide +kernel
theorem dX7_mean_54 : decode cX7_mean 54 = .ok (.invokestatic 316, 3) := by decide +kernel
theorem dX7_mean_57 : decode cX7_mean 57 = .ok (.lreturn, 1) := by decide +kernel
theorem dX7_share_0 : decode cX7_share 0 = .ok (.iload_n 1, 1) := by decide +kernel
theorem dX7_share_1 : decode cX7_share 1 = .ok (.iconst 0, 1) := by decide +kernel
theorem dX7_share_2 : decode cX7_share 2 = .ok (.iconst 1, 1) := by decide +kernel
theorem dX7_share_3 : decode cX7_share 3 = .ok (.invokestatic 96, 3) := by decide +kernel
theorem dX7_share_6 : decode cX7_share 6 = .ok (.ifCond .ne 10, 3) := by decide +kernel
theorem dX7_share_9 : decode cX7_share 9 = .ok (.aload_n 0, 1) := by decide +kernel
theorem dX7_share_10 : decode cX7_share 10 = .ok (.bipush (-2), 2) := by decide +kernel
theorem dX7_share_12 : decode cX7_share 12 = .ok (.invokevirtual 309, 3) := by decide +kernel
theorem dX7_share_15 : decode cX7_share 15 = .ok (.lreturn, 1) := by decide +kernel
theorem dX7_share_16 : decode cX7_share 16 = .ok (.aload_n 0, 1) := by decide +kernel
theorem dX7_share_17 : decode cX7_share 17 = .ok (.invokevirtual 297, 3) := by decide +kernel
theorem dX7_share_20 : decode cX7_share 20 = .ok (.sipush 255, 3) := by decide +kernel
theorem dX7_share_23 : decode cX7_share 23 = .ok (.aload_n 0, 1) := by decide +kernel
theorem dX7_share_24 : decode cX7_share 24 = .ok (.getfield 68, 3) := by decide +kernel
theorem dX7_share_27 : decode cX7_share 27 = .ok (.iconst 2, 1) := by decide +kernel
theorem dX7_share_28 : decode cX7_share 28 = .ok (.iaload, 1) := by decide +kernel
theorem dX7_share_29 : decode cX7_share 29 = .ok (.isub, 1) := by decide +kernel
theorem dX7_share_30 : decode cX7_share 30 = .ok (.i2l, 1) := by decide +kernel
theorem dX7_share_31 : decode cX7_share 31 = .ok (.ldc2_w 365, 3) := by decide +kernel
theorem dX7_share_34 : decode cX7_share 34 = .ok (.iload_n 1, 1) := by decide +kernel
theorem dX7_share_35 : decode cX7_share 35 = .ok (.invokestatic 316, 3) := by decide +kernel
theorem dX7_share_38 : decode cX7_share 38 = .ok (.lreturn, 1) := by decide +kernel
theorem dX7_isRowQuestions_0 : decode cX7_isRowQuestions 0 = .ok (.iconst 0, 1) := by decide +kernel
theorem dX7_isRowQuestions_1 : decode cX7_isRowQuestions 1 = .ok (.istore_n 1, 1) := by decide +kernel
theorem dX7_isRowQuestions_2 : decode cX7_isRowQuestions 2 = .ok (.iload_n 1, 1) := by decide +kernel
theorem dX7_isRowQuestions_3 : decode cX7_isRowQuestions 3 = .ok (.aload_n 0, 1) := by decide +kernel
theorem dX7_isRowQuestions_4 : decode cX7_isRowQuestions 4 = .ok (.getfield 367, 3) := by decide +kernel
theorem dX7_isRowQuestions_7 : decode cX7_isRowQuestions 7 = .ok (.if_icmp .ge 20, 3) := by decide +kernel
theorem dX7_isRowQuestions_10 : decode cX7_isRowQuestions 10 = .ok (.aload_n 0, 1) := by decide +kernel
theorem dX7_isRowQuestions_11 : decode cX7_isRowQuestions 11 = .ok (.getfield 83, 3) := by decide +kernel
theorem dX7_isRowQuestions_14 : decode cX7_isRowQuestions 14 = .ok (.iload_n 1, 1) := by decide +kernel
theorem dX7_isRowQuestions_15 : decode cX7_isRowQuestions 15 = .ok (.iaload, 1) := by decide +kernel
theorem dX7_isRowQuestions_16 : decode cX7_isRowQuestions 16 = .ok (.ifCond .ne 5, 3) := by decide +kernel
theorem dX7_isRowQuestions_19 : decode cX7_isRowQuestions 19 = .ok (.iconst 0, 1) := by decide +kernel
theorem dX7_isRowQuestions_20 : decode cX7_isRowQuestions 20 = .ok (.ireturn, 1) := by decide +kernel
theorem dX7_isRowQuestions_21 : decode cX7_isRowQuestions 21 = .ok (.iinc 1 2, 3) := by decide +kernel
theorem dX7_isRowQuestions_24 : decode cX7_isRowQuestions 24 = .ok (.goto (-22), 3) := by decide +kernel
theorem dX7_isRowQuestions_27 : decode cX7_isRowQuestions 27 = .ok (.aload_n 0, 1) := by decide +kernel
theorem dX7_isRowQuestions_28 : decode cX7_isRowQuestions 28 = .ok (.getfield 367, 3) := by decide +kernel
theorem dX7_isRowQuestions_31 : decode cX7_isRowQuestions 31 = .ok (.iconst 2, 1) := by decide +kernel
theorem dX7_isRowQuestions_32 : decode cX7_isRowQuestions 32 = .ok (.irem, 1) := by decide +kernel
theorem dX7_isRowQuestions_33 : decode cX7_isRowQuestions 33 = .ok (.ifCond .ne 7, 3) := by decide +kernel
theorem dX7_isRowQuestions_36 : decode cX7_isRowQuestions 36 = .ok (.iconst 1, 1) := by decide +kernel
theorem dX7_isRowQuestions_37 : decode cX7_isRowQuestions 37 = .ok (.goto 4, 3) := by decide +kernel
theorem dX7_isRowQuestions_40 : decode cX7_isRowQuestions 40 = .ok (.iconst 0, 1) := by decide +kernel
theorem dX7_isRowQuestions_41 : decode cX7_isRowQuestions 41 = .ok (.ireturn, 1) := by decide +kernel
theorem dX7_isMetSo_0 : decode cX7_isMetSo 0 = .ok (.iconst 0, 1) := by decide +kernel
theorem dX7_isMetSo_1 : decode cX7_isMetSo 1 = .ok (.istore_n 3, 1) := by decide +kernel
theorem dX7_isMetSo_2 : decode cX7_isMetSo 2 = .ok (.iload_n 3, 1) := by decide +kernel
theorem dX7_isMetSo_3 : decode cX7_isMetSo 3 = .ok (.aload_n 0, 1) := by decide +kernel
theorem dX7_isMetSo_4 : decode cX7_isMetSo 4 = .ok (.getfield 367, 3) := by decide +kernel
theorem dX7_isMetSo_7 : decode cX7_isMetSo 7 = .ok (.if_icmp .ge 40, 3) := by decide +kernel
theorem dX7_isMetSo_10 : decode cX7_isMetSo 10 = .ok (.aload_n 0, 1) := by decide +kernel
theorem dX7_isMetSo_11 : decode cX7_isMetSo 11 = .ok (.iconst 0, 1) := by decide +kernel
theorem dX7_isMetSo_12 : decode cX7_isMetSo 12 = .ok (.aload_n 0, 1) := by decide +kernel
theorem dX7_isMetSo_13 : decode cX7_isMetSo 13 = .ok (.getfield 83, 3) := by decide +kernel
theorem dX7_isMetSo_16 : decode cX7_isMetSo 16 = .ok (.iload_n 3, 1) := by decide +kernel
theorem dX7_isMetSo_17 : decode cX7_isMetSo 17 = .ok (.iaload, 1) := by decide +kernel
theorem dX7_isMetSo_18 : decode cX7_isMetSo 18 = .ok (.iconst 0, 1) := by decide +kernel
theorem dX7_isMetSo_19 : decode cX7_isMetSo 19 = .ok (.invokevirtual 266, 3) := by decide +kernel
theorem dX7_isMetSo_22 : decode cX7_isMetSo 22 = .ok (.aload_n 0, 1) := by decide +kernel
theorem dX7_isMetSo_23 : decode cX7_isMetSo 23 = .ok (.iload_n 1, 1) := by decide +kernel
theorem dX7_isMetSo_24 : decode cX7_isMetSo 24 = .ok (.iload_n 2, 1) := by decide +kernel
theorem dX7_isMetSo_25 : decode cX7_isMetSo 25 = .ok (.invokevirtual 179, 3) := by decide +kernel
theorem dX7_isMetSo_28 : decode cX7_isMetSo 28 = .ok (.aload_n 0, 1) := by decide +kernel
theorem dX7_isMetSo_29 : decode cX7_isMetSo 29 = .ok (.getfield 83, 3) := by decide +kernel
theorem dX7_isMetSo_32 : decode cX7_isMetSo 32 = .ok (.iload_n 3, 1) := by decide +kernel
theorem dX7_isMetSo_33 : decode cX7_isMetSo 33 = .ok (.iconst 1, 1) := by decide +kernel
theorem dX7_isMetSo_34 : decode cX7_isMetSo 34 = .ok (.iadd, 1) := by decide +kernel
theorem dX7_isMetSo_35 : decode cX7_isMetSo 35 = .ok (.iaload, 1) := by decide +kernel
theorem dX7_isMetSo_36 : decode cX7_isMetSo 36 = .ok (.if_icmp .eq 5, 3) := by decide +kernel
theorem dX7_isMetSo_39 : decode cX7_isMetSo 39 = .ok (.iconst 0, 1) := by decide +kernel
theorem dX7_isMetSo_40 : decode cX7_isMetSo 40 = .ok (.ireturn, 1) := by decide +kernel
theorem dX7_isMetSo_41 : decode cX7_isMetSo 41 = .ok (.iinc 3 2, 3) := by decide +kernel
theorem dX7_isMetSo_44 : decode cX7_isMetSo 44 = .ok (.goto (-42), 3) := by decide +kernel
theorem dX7_isMetSo_47 : decode cX7_isMetSo 47 = .ok (.iconst 1, 1) := by decide +kernel
theorem dX7_isMetSo_48 : decode cX7_isMetSo 48 = .ok (.ireturn, 1) := by decide +kernel
theorem dX7_which_0 : decode cX7_which 0 = .ok (.iload_n 1, 1) := by decide +kernel
theorem dX7_which_1 : decode cX7_which 1 = .ok (.iconst 0, 1) := by decide +kernel
theorem dX7_which_2 : decode cX7_which 2 = .ok (.iconst 1, 1) := by decide +kernel
theorem dX7_which_3 : decode cX7_which 3 = .ok (.invokestatic 96, 3) := by decide +kernel
theorem dX7_which_6 : decode cX7_which 6 = .ok (.ifCond .ne 8, 3) := by decide +kernel
theorem dX7_which_9 : decode cX7_which 9 = .ok (.bipush (-2), 2) := by decide +kernel
theorem dX7_which_11 : decode cX7_which 11 = .ok (.goto 16, 3) := by decide +kernel
theorem dX7_which_14 : decode cX7_which 14 = .ok (.aload_n 0, 1) := by decide +kernel
theorem dX7_which_15 : decode cX7_which 15 = .ok (.invokevirtual 370, 3) := by decide +kernel
theorem dX7_which_18 : decode cX7_which 18 = .ok (.ifCond .ne 8, 3) := by decide +kernel
theorem dX7_which_21 : decode cX7_which 21 = .ok (.bipush (-3), 2) := by decide +kernel
theorem dX7_which_23 : decode cX7_which 23 = .ok (.goto 4, 3) := by decide +kernel
theorem dX7_which_26 : decode cX7_which 26 = .ok (.iconst 0, 1) := by decide +kernel
theorem dX7_which_27 : decode cX7_which 27 = .ok (.istore_n 2, 1) := by decide +kernel
theorem dX7_which_28 : decode cX7_which 28 = .ok (.iload_n 2, 1) := by decide +kernel
theorem dX7_which_29 : decode cX7_which 29 = .ok (.ifCond .eq 9, 3) := by decide +kernel
theorem dX7_which_32 : decode cX7_which 32 = .ok (.aload_n 0, 1) := by decide +kernel
theorem dX7_which_33 : decode cX7_which 33 = .ok (.iload_n 2, 1) := by decide +kernel
theorem dX7_which_34 : decode cX7_which 34 = .ok (.invokevirtual 213, 3) := by decide +kernel
theorem dX7_which_37 : decode cX7_which 37 = .ok (.ireturn, 1) := by decide +kernel
theorem dX7_which_38 : decode cX7_which 38 = .ok (.aload_n 0, 1) := by decide +kernel
theorem dX7_which_39 : decode cX7_which 39 = .ok (.invokevirtual 173, 3) := by decide +kernel
theorem dX7_which_42 : decode cX7_which 42 = .ok (.iconst 0, 1) := by decide +kernel
theorem dX7_which_43 : decode cX7_which 43 = .ok (.istore_n 3, 1) := by decide +kernel
theorem dX7_which_44 : decode cX7_which 44 = .ok (.iconst 0, 1) := by decide +kernel
theorem dX7_which_45 : decode cX7_which 45 = .ok (.istore 4, 2) := by decide +kernel
theorem dX7_which_47 : decode cX7_which 47 = .ok (.iload 4, 2) := by decide +kernel
theorem dX7_which_49 : decode cX7_which 49 = .ok (.iload_n 1, 1) := by decide +kernel
theorem dX7_which_50 : decode cX7_which 50 = .ok (.ifCond .ne 7, 3) := by decide +kernel
theorem dX7_which_53 : decode cX7_which 53 = .ok (.iconst 4, 1) := by decide +kernel
theorem dX7_which_54 : decode cX7_which 54 = .ok (.goto 5, 3) := by decide +kernel
theorem dX7_which_57 : decode cX7_which 57 = .ok (.bipush 11, 2) := by decide +kernel
theorem dX7_which_59 : decode cX7_which 59 = .ok (.if_icmp .ge 54, 3) := by decide +kernel
theorem dX7_which_62 : decode cX7_which 62 = .ok (.iload_n 1, 1) := by decide +kernel
theorem dX7_which_63 : decode cX7_which 63 = .ok (.ifCond .ne 16, 3) := by decide +kernel
theorem dX7_which_66 : decode cX7_which 66 = .ok (.aload_n 0, 1) := by decide +kernel
theorem dX7_which_67 : decode cX7_which 67 = .ok (.iload 4, 2) := by decide +kernel
theorem dX7_which_69 : decode cX7_which 69 = .ok (.aload_n 0, 1) := by decide +kernel
theorem dX7_which_70 : decode cX7_which 70 = .ok (.getfield 90, 3) := by decide +kernel
theorem dX7_which_73 : decode cX7_which 73 = .ok (.invokevirtual 373, 3) := by decide +kernel
theorem dX7_which_76 : decode cX7_which 76 = .ok (.goto 13, 3) := by decide +kernel
theorem dX7_which_79 : decode cX7_which 79 = .ok (.aload_n 0, 1) := by decide +kernel
theorem dX7_which_80 : decode cX7_which 80 = .ok (.aload_n 0, 1) := by decide +kernel
theorem dX7_which_81 : decode cX7_which 81 = .ok (.getfield 176, 3) := by decide +kernel
theorem dX7_which_84 : decode cX7_which 84 = .ok (.iload 4, 2) := by decide +kernel
theorem dX7_which_86 : decode cX7_which 86 = .ok (.invokevirtual 373, 3) := by decide +kernel
theorem dX7_which_89 : decode cX7_which 89 = .ok (.istore 5, 2) := by decide +kernel
theorem dX7_which_91 : decode cX7_which 91 = .ok (.iload_n 3, 1) := by decide +kernel
theorem dX7_which_92 : decode cX7_which 92 = .ok (.iload 5, 2) := by decide +kernel
theorem dX7_which_94 : decode cX7_which 94 = .ok (.ifCond .eq 10, 3) := by decide +kernel
theorem dX7_which_97 : decode cX7_which 97 = .ok (.iconst 1, 1) := by decide +kernel
theorem dX7_which_98 : decode cX7_which 98 = .ok (.iload 4, 2) := by decide +kernel
theorem dX7_which_100 : decode cX7_which 100 = .ok (.ishl, 1) := by decide +kernel
theorem dX7_which_101 : decode cX7_which 101 = .ok (.goto 4, 3) := by decide +kernel
theorem dX7_which_104 : decode cX7_which 104 = .ok (.iconst 0, 1) := by decide +kernel
theorem dX7_which_105 : decode cX7_which 105 = .ok (.ior, 1) := by decide +kernel
theorem dX7_which_106 : decode cX7_which 106 = .ok (.istore_n 3, 1) := by decide +kernel
theorem dX7_which_107 : decode cX7_which 107 = .ok (.iinc 4 1, 3) := by decide +kernel
theorem dX7_which_110 : decode cX7_which 110 = .ok (.goto (-63), 3) := by decide +kernel
theorem dX7_which_113 : decode cX7_which 113 = .ok (.iload_n 3, 1) := by decide +kernel
theorem dX7_which_114 : decode cX7_which 114 = .ok (.ireturn, 1) := by decide +kernel
theorem dX7_row_0 : decode cX7_row 0 = .ok (.iload_n 1, 1) := by decide +kernel
theorem dX7_row_1 : decode cX7_row 1 = .ok (.iconst 0, 1) := by decide +kernel
theorem dX7_row_2 : decode cX7_row 2 = .ok (.sipush 255, 3) := by decide +kernel
theorem dX7_row_5 : decode cX7_row 5 = .ok (.invokestatic 216, 3) := by decide +kernel
theorem dX7_row_8 : decode cX7_row 8 = .ok (.istore_n 2, 1) := by decide +kernel
theorem dX7_row_9 : decode cX7_row 9 = .ok (.iload_n 2, 1) := by decide +kernel
theorem dX7_row_10 : decode cX7_row 10 = .ok (.ifCond .ne 15, 3) := by decide +kernel
theorem dX7_row_13 : decode cX7_row 13 = .ok (.aload_n 0, 1) := by decide +kernel
theorem dX7_row_14 : decode cX7_row 14 = .ok (.getfield 367, 3) := by decide +kernel
theorem dX7_row_17 : decode cX7_row 17 = .ok (.bipush 32, 2) := by decide +kernel
theorem dX7_row_19 : decode cX7_row 19 = .ok (.if_icmp .ne 6, 3) := by decide +kernel
theorem dX7_row_22 : decode cX7_row 22 = .ok (.bipush (-6), 2) := by decide +kernel
theorem dX7_row_24 : decode cX7_row 24 = .ok (.istore_n 2, 1) := by decide +kernel
theorem dX7_row_25 : decode cX7_row 25 = .ok (.iload_n 2, 1) := by decide +kernel
theorem dX7_row_26 : decode cX7_row 26 = .ok (.ifCond .eq 9, 3) := by decide +kernel
theorem dX7_row_29 : decode cX7_row 29 = .ok (.aload_n 0, 1) := by decide +kernel
theorem dX7_row_30 : decode cX7_row 30 = .ok (.iload_n 2, 1) := by decide +kernel
theorem dX7_row_31 : decode cX7_row 31 = .ok (.invokevirtual 213, 3) := by decide +kernel
theorem dX7_row_34 : decode cX7_row 34 = .ok (.ireturn, 1) := by decide +kernel
theorem dX7_row_35 : decode cX7_row 35 = .ok (.aload_n 0, 1) := by decide +kernel
theorem dX7_row_36 : decode cX7_row 36 = .ok (.getfield 83, 3) := by decide +kernel
theorem dX7_row_39 : decode cX7_row 39 = .ok (.aload_n 0, 1) := by decide +kernel
theorem dX7_row_40 : decode cX7_row 40 = .ok (.getfield 367, 3) := by decide +kernel
theorem dX7_row_43 : decode cX7_row 43 = .ok (.iload_n 1, 1) := by decide +kernel
theorem dX7_row_44 : decode cX7_row 44 = .ok (.iastore, 1) := by decide +kernel
theorem dX7_row_45 : decode cX7_row 45 = .ok (.aload_n 0, 1) := by decide +kernel
theorem dX7_row_46 : decode cX7_row 46 = .ok (.dup, 1) := by decide +kernel
theorem dX7_row_47 : decode cX7_row 47 = .ok (.getfield 367, 3) := by decide +kernel
theorem dX7_row_50 : decode cX7_row 50 = .ok (.iconst 1, 1) := by decide +kernel
theorem dX7_row_51 : decode cX7_row 51 = .ok (.iadd, 1) := by decide +kernel
theorem dX7_row_52 : decode cX7_row 52 = .ok (.putfield 367, 3) := by decide +kernel
theorem dX7_row_55 : decode cX7_row 55 = .ok (.aload_n 0, 1) := by decide +kernel
theorem dX7_row_56 : decode cX7_row 56 = .ok (.getfield 367, 3) := by decide +kernel
theorem dX7_row_59 : decode cX7_row 59 = .ok (.ireturn, 1) := by decide +kernel
theorem dX7_answerBy_0 : decode cX7_answerBy 0 = .ok (.iconst 0, 1) := by decide +kernel
theorem dX7_answerBy_1 : decode cX7_answerBy 1 = .ok (.istore_n 3, 1) := by decide +kernel
theorem dX7_answerBy_2 : decode cX7_answerBy 2 = .ok (.iconst 0, 1) := by decide +kernel
theorem dX7_answerBy_3 : decode cX7_answerBy 3 = .ok (.istore 4, 2) := by decide +kernel
theorem dX7_answerBy_5 : decode cX7_answerBy 5 = .ok (.iload 4, 2) := by decide +kernel
theorem dX7_answerBy_7 : decode cX7_answerBy 7 = .ok (.bipush 10, 2) := by decide +kernel
theorem dX7_answerBy_9 : decode cX7_answerBy 9 = .ok (.if_icmp .ge 48, 3) := by decide +kernel
theorem dX7_answerBy_12 : decode cX7_answerBy 12 = .ok (.iload_n 3, 1) := by decide +kernel
theorem dX7_answerBy_13 : decode cX7_answerBy 13 = .ok (.aload_n 0, 1) := by decide +kernel
theorem dX7_answerBy_14 : decode cX7_answerBy 14 = .ok (.getfield 25, 3) := by decide +kernel
theorem dX7_answerBy_17 : decode cX7_answerBy 17 = .ok (.bipush 10, 2) := by decide +kernel
theorem dX7_answerBy_19 : decode cX7_answerBy 19 = .ok (.iload_n 1, 1) := by decide +kernel
theorem dX7_answerBy_20 : decode cX7_answerBy 20 = .ok (.imul, 1) := by decide +kernel
theorem dX7_answerBy_21 : decode cX7_answerBy 21 = .ok (.iload 4, 2) := by decide +kernel
theorem dX7_answerBy_23 : decode cX7_answerBy 23 = .ok (.iadd, 1) := by decide +kernel
theorem dX7_answerBy_24 : decode cX7_answerBy 24 = .ok (.iaload, 1) := by decide +kernel
theorem dX7_answerBy_25 : decode cX7_answerBy 25 = .ok (.iload 4, 2) := by decide +kernel
theorem dX7_answerBy_27 : decode cX7_answerBy 27 = .ok (.iload_n 2, 1) := by decide +kernel
theorem dX7_answerBy_28 : decode cX7_answerBy 28 = .ok (.if_icmp .ge 13, 3) := by decide +kernel
theorem dX7_answerBy_31 : decode cX7_answerBy 31 = .ok (.aload_n 0, 1) := by decide +kernel
theorem dX7_answerBy_32 : decode cX7_answerBy 32 = .ok (.getfield 83, 3) := by decide +kernel
theorem dX7_answerBy_35 : decode cX7_answerBy 35 = .ok (.iload 4, 2) := by decide +kernel
theorem dX7_answerBy_37 : decode cX7_answerBy 37 = .ok (.iaload, 1) := by decide +kernel
theorem dX7_answerBy_38 : decode cX7_answerBy 38 = .ok (.goto 10, 3) := by decide +kernel
theorem dX7_answerBy_41 : decode cX7_answerBy 41 = .ok (.aload_n 0, 1) := by decide +kernel
theorem dX7_answerBy_42 : decode cX7_answerBy 42 = .ok (.getfield 13, 3) := by decide +kernel
theorem dX7_answerBy_45 : decode cX7_answerBy 45 = .ok (.iload 4, 2) := by decide +kernel
theorem dX7_answerBy_47 : decode cX7_answerBy 47 = .ok (.iaload, 1) := by decide +kernel
theorem dX7_answerBy_48 : decode cX7_answerBy 48 = .ok (.imul, 1) := by decide +kernel
theorem dX7_answerBy_49 : decode cX7_answerBy 49 = .ok (.iadd, 1) := by decide +kernel
theorem dX7_answerBy_50 : decode cX7_answerBy 50 = .ok (.istore_n 3, 1) := by decide +kernel
theorem dX7_answerBy_51 : decode cX7_answerBy 51 = .ok (.iinc 4 1, 3) := by decide +kernel
theorem dX7_answerBy_54 : decode cX7_answerBy 54 = .ok (.goto (-49), 3) := by decide +kernel
theorem dX7_answerBy_57 : decode cX7_answerBy 57 = .ok (.iload_n 3, 1) := by decide +kernel
theorem dX7_answerBy_58 : decode cX7_answerBy 58 = .ok (.ireturn, 1) := by decide +kernel
theorem dX7_judge_0 : decode cX7_judge 0 = .ok (.aload_n 0, 1) := by decide +kernel
theorem dX7_judge_1 : decode cX7_judge 1 = .ok (.getfield 367, 3) := by decide +kernel
theorem dX7_judge_4 : decode cX7_judge 4 = .ok (.istore_n 1, 1) := by decide +kernel
theorem dX7_judge_5 : decode cX7_judge 5 = .ok (.aload_n 0, 1) := by decide +kernel
theorem dX7_judge_6 : decode cX7_judge 6 = .ok (.iconst 0, 1) := by decide +kernel
theorem dX7_judge_7 : decode cX7_judge 7 = .ok (.putfield 367, 3) := by decide +kernel
theorem dX7_judge_10 : decode cX7_judge 10 = .ok (.iconst 0, 1) := by decide +kernel
theorem dX7_judge_11 : decode cX7_judge 11 = .ok (.istore_n 2, 1) := by decide +kernel
theorem dX7_judge_12 : decode cX7_judge 12 = .ok (.iload_n 2, 1) := by decide +kernel
theorem dX7_judge_13 : decode cX7_judge 13 = .ok (.aload_n 0, 1) := by decide +kernel
theorem dX7_judge_14 : decode cX7_judge 14 = .ok (.getfield 100, 3) := by decide +kernel
theorem dX7_judge_17 : decode cX7_judge 17 = .ok (.if_icmp .ge 26, 3) := by decide +kernel
theorem dX7_judge_20 : decode cX7_judge 20 = .ok (.aload_n 0, 1) := by decide +kernel
theorem dX7_judge_21 : decode cX7_judge 21 = .ok (.iload_n 2, 1) := by decide +kernel
theorem dX7_judge_22 : decode cX7_judge 22 = .ok (.iload_n 1, 1) := by decide +kernel
theorem dX7_judge_23 : decode cX7_judge 23 = .ok (.invokevirtual 376, 3) := by decide +kernel
theorem dX7_judge_26 : decode cX7_judge 26 = .ok (.aload_n 0, 1) := by decide +kernel
theorem dX7_judge_27 : decode cX7_judge 27 = .ok (.getfield 28, 3) := by decide +kernel
theorem dX7_judge_30 : decode cX7_judge 30 = .ok (.iload_n 2, 1) := by decide +kernel
theorem dX7_judge_31 : decode cX7_judge 31 = .ok (.iaload, 1) := by decide +kernel
theorem dX7_judge_32 : decode cX7_judge 32 = .ok (.if_icmp .eq 5, 3) := by decide +kernel
theorem dX7_judge_35 : decode cX7_judge 35 = .ok (.iload_n 2, 1) := by decide +kernel
theorem dX7_judge_36 : decode cX7_judge 36 = .ok (.ireturn, 1) := by decide +kernel
theorem dX7_judge_37 : decode cX7_judge 37 = .ok (.iinc 2 1, 3) := by decide +kernel
theorem dX7_judge_40 : decode cX7_judge 40 = .ok (.goto (-28), 3) := by decide +kernel
theorem dX7_judge_43 : decode cX7_judge 43 = .ok (.bipush (-9), 2) := by decide +kernel
theorem dX7_judge_45 : decode cX7_judge 45 = .ok (.ireturn, 1) := by decide +kernel
theorem dX7_clear_0 : decode cX7_clear 0 = .ok (.aload_n 0, 1) := by decide +kernel
theorem dX7_clear_1 : decode cX7_clear 1 = .ok (.getfield 367, 3) := by decide +kernel
theorem dX7_clear_4 : decode cX7_clear 4 = .ok (.istore_n 1, 1) := by decide +kernel
theorem dX7_clear_5 : decode cX7_clear 5 = .ok (.aload_n 0, 1) := by decide +kernel
theorem dX7_clear_6 : decode cX7_clear 6 = .ok (.iconst 0, 1) := by decide +kernel
theorem dX7_clear_7 : decode cX7_clear 7 = .ok (.putfield 367, 3) := by decide +kernel
theorem dX7_clear_10 : decode cX7_clear 10 = .ok (.iload_n 1, 1) := by decide +kernel
theorem dX7_clear_11 : decode cX7_clear 11 = .ok (.ireturn, 1) := by decide +kernel
theorem dX7_draw_0 : decode cX7_draw 0 = .ok (.aload_n 0, 1) := by decide +kernel
theorem dX7_draw_1 : decode cX7_draw 1 = .ok (.aload_n 0, 1) := by decide +kernel
theorem dX7_draw_2 : decode cX7_draw 2 = .ok (.getfield 379, 3) := by decide +kernel
theorem dX7_draw_5 : decode cX7_draw 5 = .ok (.ldc_w 382, 3) := by decide +kernel
theorem dX7_draw_8 : decode cX7_draw 8 = .ok (.imul, 1) := by decide +kernel
theorem dX7_draw_9 : decode cX7_draw 9 = .ok (.ldc_w 383, 3) := by decide +kernel
theorem dX7_draw_12 : decode cX7_draw 12 = .ok (.iadd, 1) := by decide +kernel
theorem dX7_draw_13 : decode cX7_draw 13 = .ok (.putfield 379, 3) := by decide +kernel
theorem dX7_draw_16 : decode cX7_draw 16 = .ok (.aload_n 0, 1) := by decide +kernel
theorem dX7_draw_17 : decode cX7_draw 17 = .ok (.getfield 379, 3) := by decide +kernel
theorem dX7_draw_20 : decode cX7_draw 20 = .ok (.ldc_w 384, 3) := by decide +kernel
theorem dX7_draw_23 : decode cX7_draw 23 = .ok (.iand, 1) := by decide +kernel
theorem dX7_draw_24 : decode cX7_draw 24 = .ok (.sipush 256, 3) := by decide +kernel
theorem dX7_draw_27 : decode cX7_draw 27 = .ok (.idiv, 1) := by decide +kernel
theorem dX7_draw_28 : decode cX7_draw 28 = .ok (.iload_n 1, 1) := by decide +kernel
theorem dX7_draw_29 : decode cX7_draw 29 = .ok (.irem, 1) := by decide +kernel
theorem dX7_draw_30 : decode cX7_draw 30 = .ok (.ireturn, 1) := by decide +kernel
theorem dX7_lots_0 : decode cX7_lots 0 = .ok (.iload_n 1, 1) := by decide +kernel
theorem dX7_lots_1 : decode cX7_lots 1 = .ok (.iconst 1, 1) := by decide +kernel
theorem dX7_lots_2 : decode cX7_lots 2 = .ok (.bipush 20, 2) := by decide +kernel
theorem dX7_lots_4 : decode cX7_lots 4 = .ok (.invokestatic 216, 3) := by decide +kernel
theorem dX7_lots_7 : decode cX7_lots 7 = .ok (.istore 4, 2) := by decide +kernel
theorem dX7_lots_9 : decode cX7_lots 9 = .ok (.iload 4, 2) := by decide +kernel
theorem dX7_lots_11 : decode cX7_lots 11 = .ok (.ifCond .ne 16, 3) := by decide +kernel
theorem dX7_lots_14 : decode cX7_lots 14 = .ok (.iload_n 3, 1) := by decide +kernel
theorem dX7_lots_15 : decode cX7_lots 15 = .ok (.iconst 0, 1) := by decide +kernel
theorem dX7_lots_16 : decode cX7_lots 16 = .ok (.iconst 1, 1) := by decide +kernel
theorem dX7_lots_17 : decode cX7_lots 17 = .ok (.invokestatic 96, 3) := by decide +kernel
theorem dX7_lots_20 : decode cX7_lots 20 = .ok (.ifCond .ne 7, 3) := by decide +kernel
theorem dX7_lots_23 : decode cX7_lots 23 = .ok (.bipush (-2), 2) := by decide +kernel
theorem dX7_lots_25 : decode cX7_lots 25 = .ok (.istore 4, 2) := by decide +kernel
theorem dX7_lots_27 : decode cX7_lots 27 = .ok (.iload 4, 2) := by decide +kernel
theorem dX7_lots_29 : decode cX7_lots 29 = .ok (.ifCond .eq 10, 3) := by decide +kernel
theorem dX7_lots_32 : decode cX7_lots 32 = .ok (.aload_n 0, 1) := by decide +kernel
theorem dX7_lots_33 : decode cX7_lots 33 = .ok (.iload 4, 2) := by decide +kernel
theorem dX7_lots_35 : decode cX7_lots 35 = .ok (.invokevirtual 213, 3) := by decide +kernel
theorem dX7_lots_38 : decode cX7_lots 38 = .ok (.ireturn, 1) := by decide +kernel
theorem dX7_lots_39 : decode cX7_lots 39 = .ok (.aload_n 0, 1) := by decide +kernel
theorem dX7_lots_40 : decode cX7_lots 40 = .ok (.iload_n 2, 1) := by decide +kernel
theorem dX7_lots_41 : decode cX7_lots 41 = .ok (.putfield 379, 3) := by decide +kernel
theorem dX7_lots_44 : decode cX7_lots 44 = .ok (.iconst 0, 1) := by decide +kernel
theorem dX7_lots_45 : decode cX7_lots 45 = .ok (.istore 5, 2) := by decide +kernel
theorem dX7_lots_47 : decode cX7_lots 47 = .ok (.iconst 0, 1) := by decide +kernel
theorem dX7_lots_48 : decode cX7_lots 48 = .ok (.istore 6, 2) := by decide +kernel
theorem dX7_lots_50 : decode cX7_lots 50 = .ok (.iload 6, 2) := by decide +kernel
theorem dX7_lots_52 : decode cX7_lots 52 = .ok (.iload_n 1, 1) := by decide +kernel
theorem dX7_lots_53 : decode cX7_lots 53 = .ok (.if_icmp .ge 68, 3) := by decide +kernel
theorem dX7_lots_56 : decode cX7_lots 56 = .ok (.aload_n 0, 1) := by decide +kernel
theorem dX7_lots_57 : decode cX7_lots 57 = .ok (.invokevirtual 341, 3) := by decide +kernel
theorem dX7_lots_60 : decode cX7_lots 60 = .ok (.iconst 0, 1) := by decide +kernel
theorem dX7_lots_61 : decode cX7_lots 61 = .ok (.istore 7, 2) := by decide +kernel
theorem dX7_lots_63 : decode cX7_lots 63 = .ok (.iload 7, 2) := by decide +kernel
theorem dX7_lots_65 : decode cX7_lots 65 = .ok (.bipush 8, 2) := by decide +kernel
theorem dX7_lots_67 : decode cX7_lots 67 = .ok (.if_icmp .ge 44, 3) := by decide +kernel
theorem dX7_lots_70 : decode cX7_lots 70 = .ok (.iload 5, 2) := by decide +kernel
theorem dX7_lots_72 : decode cX7_lots 72 = .ok (.aload_n 0, 1) := by decide +kernel
theorem dX7_lots_73 : decode cX7_lots 73 = .ok (.iconst 1, 1) := by decide +kernel
theorem dX7_lots_74 : decode cX7_lots 74 = .ok (.aload_n 0, 1) := by decide +kernel
theorem dX7_lots_75 : decode cX7_lots 75 = .ok (.sipush 255, 3) := by decide +kernel
theorem dX7_lots_78 : decode cX7_lots 78 = .ok (.invokevirtual 385, 3) := by decide +kernel
theorem dX7_lots_81 : decode cX7_lots 81 = .ok (.iadd, 1) := by decide +kernel
theorem dX7_lots_82 : decode cX7_lots 82 = .ok (.invokevirtual 350, 3) := by decide +kernel
theorem dX7_lots_85 : decode cX7_lots 85 = .ok (.iload_n 3, 1) := by decide +kernel
theorem dX7_lots_86 : decode cX7_lots 86 = .ok (.ifCond .ne 7, 3) := by decide +kernel
theorem dX7_lots_89 : decode cX7_lots 89 = .ok (.iconst 1, 1) := by decide +kernel
theorem dX7_lots_90 : decode cX7_lots 90 = .ok (.goto 4, 3) := by decide +kernel
theorem dX7_lots_93 : decode cX7_lots 93 = .ok (.iconst 2, 1) := by decide +kernel
theorem dX7_lots_94 : decode cX7_lots 94 = .ok (.if_icmp .ne 7, 3) := by decide +kernel
theorem dX7_lots_97 : decode cX7_lots 97 = .ok (.iconst 1, 1) := by decide +kernel
theorem dX7_lots_98 : decode cX7_lots 98 = .ok (.goto 4, 3) := by decide +kernel
theorem dX7_lots_101 : decode cX7_lots 101 = .ok (.iconst 0, 1) := by decide +kernel
theorem dX7_lots_102 : decode cX7_lots 102 = .ok (.iadd, 1) := by decide +kernel
theorem dX7_lots_103 : decode cX7_lots 103 = .ok (.istore 5, 2) := by decide +kernel
theorem dX7_lots_105 : decode cX7_lots 105 = .ok (.iinc 7 1, 3) := by decide +kernel
theorem dX7_lots_108 : decode cX7_lots 108 = .ok (.goto (-45), 3) := by decide +kernel
theorem dX7_lots_111 : decode cX7_lots 111 = .ok (.aload_n 0, 1) := by decide +kernel
theorem dX7_lots_112 : decode cX7_lots 112 = .ok (.invokevirtual 347, 3) := by decide +kernel
theorem dX7_lots_115 : decode cX7_lots 115 = .ok (.iinc 6 1, 3) := by decide +kernel
theorem dX7_lots_118 : decode cX7_lots 118 = .ok (.goto (-68), 3) := by decide +kernel
theorem dX7_lots_121 : decode cX7_lots 121 = .ok (.iload 5, 2) := by decide +kernel
theorem dX7_lots_123 : decode cX7_lots 123 = .ok (.ireturn, 1) := by decide +kernel
theorem dX7_notFree_0 : decode cX7_notFree 0 = .ok (.iconst 0, 1) := by decide +kernel
theorem dX7_notFree_1 : decode cX7_notFree 1 = .ok (.istore_n 1, 1) := by decide +kernel
theorem dX7_notFree_2 : decode cX7_notFree 2 = .ok (.iconst 0, 1) := by decide +kernel
theorem dX7_notFree_3 : decode cX7_notFree 3 = .ok (.istore_n 2, 1) := by decide +kernel
theorem dX7_notFree_4 : decode cX7_notFree 4 = .ok (.iload_n 2, 1) := by decide +kernel
theorem dX7_notFree_5 : decode cX7_notFree 5 = .ok (.aload_n 0, 1) := by decide +kernel
theorem dX7_notFree_6 : decode cX7_notFree 6 = .ok (.getfield 86, 3) := by decide +kernel
theorem dX7_notFree_9 : decode cX7_notFree 9 = .ok (.if_icmp .ge 27, 3) := by decide +kernel
theorem dX7_notFree_12 : decode cX7_notFree 12 = .ok (.iload_n 1, 1) := by decide +kernel
theorem dX7_notFree_13 : decode cX7_notFree 13 = .ok (.aload_n 0, 1) := by decide +kernel
theorem dX7_notFree_14 : decode cX7_notFree 14 = .ok (.iload_n 2, 1) := by decide +kernel
theorem dX7_notFree_15 : decode cX7_notFree 15 = .ok (.invokevirtual 247, 3) := by decide +kernel
theorem dX7_notFree_18 : decode cX7_notFree 18 = .ok (.ifCond .eq 7, 3) := by decide +kernel
theorem dX7_notFree_21 : decode cX7_notFree 21 = .ok (.iconst 0, 1) := by decide +kernel
theorem dX7_notFree_22 : decode cX7_notFree 22 = .ok (.goto 6, 3) := by decide +kernel
theorem dX7_notFree_25 : decode cX7_notFree 25 = .ok (.iconst 1, 1) := by decide +kernel
theorem dX7_notFree_26 : decode cX7_notFree 26 = .ok (.iload_n 2, 1) := by decide +kernel
theorem dX7_notFree_27 : decode cX7_notFree 27 = .ok (.ishl, 1) := by decide +kernel
theorem dX7_notFree_28 : decode cX7_notFree 28 = .ok (.ior, 1) := by decide +kernel
theorem dX7_notFree_29 : decode cX7_notFree 29 = .ok (.istore_n 1, 1) := by decide +kernel
theorem dX7_notFree_30 : decode cX7_notFree 30 = .ok (.iinc 2 1, 3) := by decide +kernel
theorem dX7_notFree_33 : decode cX7_notFree 33 = .ok (.goto (-29), 3) := by decide +kernel
theorem dX7_notFree_36 : decode cX7_notFree 36 = .ok (.iload_n 1, 1) := by decide +kernel
theorem dX7_notFree_37 : decode cX7_notFree 37 = .ok (.ireturn, 1) := by decide +kernel
theorem dX7_allValues_0 : decode cX7_allValues 0 = .ok (.iconst 0, 1) := by decide +kernel
theorem dX7_allValues_1 : decode cX7_allValues 1 = .ok (.istore_n 1, 1) := by decide +kernel
theorem dX7_allValues_2 : decode cX7_allValues 2 = .ok (.iconst 0, 1) := by decide +kernel
theorem dX7_allValues_3 : decode cX7_allValues 3 = .ok (.istore_n 2, 1) := by decide +kernel
theorem dX7_allValues_4 : decode cX7_allValues 4 = .ok (.iload_n 2, 1) := by decide +kernel
theorem dX7_allValues_5 : decode cX7_allValues 5 = .ok (.bipush 8, 2) := by decide +kernel
theorem dX7_allValues_7 : decode cX7_allValues 7 = .ok (.if_icmp .ge 23, 3) := by decide +kernel
theorem dX7_allValues_10 : decode cX7_allValues 10 = .ok (.iload_n 1, 1) := by decide +kernel
theorem dX7_allValues_11 : decode cX7_allValues 11 = .ok (.aload_n 0, 1) := by decide +kernel
theorem dX7_allValues_12 : decode cX7_allValues 12 = .ok (.getfield 13, 3) := by decide +kernel
theorem dX7_allValues_15 : decode cX7_allValues 15 = .ok (.aload_n 0, 1) := by decide +kernel
theorem dX7_allValues_16 : decode cX7_allValues 16 = .ok (.getfield 22, 3) := by decide +kernel
theorem dX7_allValues_19 : decode cX7_allValues 19 = .ok (.iload_n 2, 1) := by decide +kernel
theorem dX7_allValues_20 : decode cX7_allValues 20 = .ok (.iaload, 1) := by decide +kernel
theorem dX7_allValues_21 : decode cX7_allValues 21 = .ok (.iaload, 1) := by decide +kernel
theorem dX7_allValues_22 : decode cX7_allValues 22 = .ok (.iadd, 1) := by decide +kernel
theorem dX7_allValues_23 : decode cX7_allValues 23 = .ok (.istore_n 1, 1) := by decide +kernel
theorem dX7_allValues_24 : decode cX7_allValues 24 = .ok (.iinc 2 1, 3) := by decide +kernel
theorem dX7_allValues_27 : decode cX7_allValues 27 = .ok (.goto (-23), 3) := by decide +kernel
theorem dX7_allValues_30 : decode cX7_allValues 30 = .ok (.iload_n 1, 1) := by decide +kernel
theorem dX7_allValues_31 : decode cX7_allValues 31 = .ok (.ireturn, 1) := by decide +kernel
theorem dX7_count_0 : decode cX7_count 0 = .ok (.iload_n 1, 1) := by decide +kernel
theorem dX7_count_1 : decode cX7_count 1 = .ok (.bipush 11, 2) := by decide +kernel
theorem dX7_count_3 : decode cX7_count 3 = .ok (.bipush 16, 2) := by decide +kernel
theorem dX7_count_5 : decode cX7_count 5 = .ok (.invokestatic 96, 3) := by decide +kernel
theorem dX7_count_8 : decode cX7_count 8 = .ok (.ifCond .eq 13, 3) := by decide +kernel
theorem dX7_count_11 : decode cX7_count 11 = .ok (.aload_n 0, 1) := by decide +kernel
theorem dX7_count_12 : decode cX7_count 12 = .ok (.getfield 7, 3) := by decide +kernel
theorem dX7_count_15 : decode cX7_count 15 = .ok (.iload_n 1, 1) := by decide +kernel
theorem dX7_count_16 : decode cX7_count 16 = .ok (.bipush 10, 2) := by decide +kernel
theorem dX7_count_18 : decode cX7_count 18 = .ok (.isub, 1) := by decide +kernel
theorem dX7_count_19 : decode cX7_count 19 = .ok (.iaload, 1) := by decide +kernel
theorem dX7_count_20 : decode cX7_count 20 = .ok (.ireturn, 1) := by decide +kernel
theorem dX7_count_21 : decode cX7_count 21 = .ok (.iload_n 1, 1) := by decide +kernel
theorem dX7_count_22 : decode cX7_count 22 = .ok (.tableswitch 86 0 7 #[46, 51, 56, 61, 66, 71, 76, 81], 46) := by decide +kernel
theorem dX7_count_68 : decode cX7_count 68 = .ok (.aload_n 0, 1) := by decide +kernel
theorem dX7_count_69 : decode cX7_count 69 = .ok (.getfield 100, 3) := by decide +kernel
theorem dX7_count_72 : decode cX7_count 72 = .ok (.ireturn, 1) := by decide +kernel
theorem dX7_count_73 : decode cX7_count 73 = .ok (.aload_n 0, 1) := by decide +kernel
theorem dX7_count_74 : decode cX7_count 74 = .ok (.getfield 86, 3) := by decide +kernel
theorem dX7_count_77 : decode cX7_count 77 = .ok (.ireturn, 1) := by decide +kernel
theorem dX7_count_78 : decode cX7_count 78 = .ok (.aload_n 0, 1) := by decide +kernel
theorem dX7_count_79 : decode cX7_count 79 = .ok (.getfield 176, 3) := by decide +kernel
theorem dX7_count_82 : decode cX7_count 82 = .ok (.ireturn, 1) := by decide +kernel
theorem dX7_count_83 : decode cX7_count 83 = .ok (.aload_n 0, 1) := by decide +kernel
theorem dX7_count_84 : decode cX7_count 84 = .ok (.getfield 90, 3) := by decide +kernel
theorem dX7_count_87 : decode cX7_count 87 = .ok (.ireturn, 1) := by decide +kernel
theorem dX7_count_88 : decode cX7_count 88 = .ok (.aload_n 0, 1) := by decide +kernel
theorem dX7_count_89 : decode cX7_count 89 = .ok (.invokevirtual 388, 3) := by decide +kernel
theorem dX7_count_92 : decode cX7_count 92 = .ok (.ireturn, 1) := by decide +kernel
theorem dX7_count_93 : decode cX7_count 93 = .ok (.aload_n 0, 1) := by decide +kernel
theorem dX7_count_94 : decode cX7_count 94 = .ok (.invokevirtual 391, 3) := by decide +kernel
theorem dX7_count_97 : decode cX7_count 97 = .ok (.ireturn, 1) := by decide +kernel
theorem dX7_count_98 : decode cX7_count 98 = .ok (.aload_n 0, 1) := by decide +kernel
theorem dX7_count_99 : decode cX7_count 99 = .ok (.getfield 367, 3) := by decide +kernel
theorem dX7_count_102 : decode cX7_count 102 = .ok (.ireturn, 1) := by decide +kernel
theorem dX7_count_103 : decode cX7_count 103 = .ok (.aload_n 0, 1) := by decide +kernel
theorem dX7_count_104 : decode cX7_count 104 = .ok (.getfield 220, 3) := by decide +kernel
theorem dX7_count_107 : decode cX7_count 107 = .ok (.ireturn, 1) := by decide +kernel
theorem dX7_count_108 : decode cX7_count 108 = .ok (.bipush (-9), 2) := by decide +kernel
theorem dX7_count_110 : decode cX7_count 110 = .ok (.ireturn, 1) := by decide +kernel
theorem dJ6_bitCount_0f7a4_0 : decode cJ6_bitCount_0f7a4 0 = .ok (.iload_n 0, 1) := by decide +kernel
theorem dJ6_bitCount_0f7a4_1 : decode cJ6_bitCount_0f7a4 1 = .ok (.iload_n 0, 1) := by decide +kernel
theorem dJ6_bitCount_0f7a4_2 : decode cJ6_bitCount_0f7a4 2 = .ok (.iconst 1, 1) := by decide +kernel
theorem dJ6_bitCount_0f7a4_3 : decode cJ6_bitCount_0f7a4 3 = .ok (.iushr, 1) := by decide +kernel
theorem dJ6_bitCount_0f7a4_4 : decode cJ6_bitCount_0f7a4 4 = .ok (.ldc_w 265, 3) := by decide +kernel
theorem dJ6_bitCount_0f7a4_7 : decode cJ6_bitCount_0f7a4 7 = .ok (.iand, 1) := by decide +kernel
theorem dJ6_bitCount_0f7a4_8 : decode cJ6_bitCount_0f7a4 8 = .ok (.isub, 1) := by decide +kernel
theorem dJ6_bitCount_0f7a4_9 : decode cJ6_bitCount_0f7a4 9 = .ok (.istore_n 0, 1) := by decide +kernel
theorem dJ6_bitCount_0f7a4_10 : decode cJ6_bitCount_0f7a4 10 = .ok (.iload_n 0, 1) := by decide +kernel
theorem dJ6_bitCount_0f7a4_11 : decode cJ6_bitCount_0f7a4 11 = .ok (.ldc_w 266, 3) := by decide +kernel
theorem dJ6_bitCount_0f7a4_14 : decode cJ6_bitCount_0f7a4 14 = .ok (.iand, 1) := by decide +kernel
theorem dJ6_bitCount_0f7a4_15 : decode cJ6_bitCount_0f7a4 15 = .ok (.iload_n 0, 1) := by decide +kernel
theorem dJ6_bitCount_0f7a4_16 : decode cJ6_bitCount_0f7a4 16 = .ok (.iconst 2, 1) := by decide +kernel
theorem dJ6_bitCount_0f7a4_17 : decode cJ6_bitCount_0f7a4 17 = .ok (.iushr, 1) := by decide +kernel
theorem dJ6_bitCount_0f7a4_18 : decode cJ6_bitCount_0f7a4 18 = .ok (.ldc_w 266, 3) := by decide +kernel
theorem dJ6_bitCount_0f7a4_21 : decode cJ6_bitCount_0f7a4 21 = .ok (.iand, 1) := by decide +kernel
theorem dJ6_bitCount_0f7a4_22 : decode cJ6_bitCount_0f7a4 22 = .ok (.iadd, 1) := by decide +kernel
theorem dJ6_bitCount_0f7a4_23 : decode cJ6_bitCount_0f7a4 23 = .ok (.istore_n 0, 1) := by decide +kernel
theorem dJ6_bitCount_0f7a4_24 : decode cJ6_bitCount_0f7a4 24 = .ok (.iload_n 0, 1) := by decide +kernel
theorem dJ6_bitCount_0f7a4_25 : decode cJ6_bitCount_0f7a4 25 = .ok (.iload_n 0, 1) := by decide +kernel
theorem dJ6_bitCount_0f7a4_26 : decode cJ6_bitCount_0f7a4 26 = .ok (.iconst 4, 1) := by decide +kernel
theorem dJ6_bitCount_0f7a4_27 : decode cJ6_bitCount_0f7a4 27 = .ok (.iushr, 1) := by decide +kernel
theorem dJ6_bitCount_0f7a4_28 : decode cJ6_bitCount_0f7a4 28 = .ok (.iadd, 1) := by decide +kernel
theorem dJ6_bitCount_0f7a4_29 : decode cJ6_bitCount_0f7a4 29 = .ok (.ldc_w 267, 3) := by decide +kernel
theorem dJ6_bitCount_0f7a4_32 : decode cJ6_bitCount_0f7a4 32 = .ok (.iand, 1) := by decide +kernel
theorem dJ6_bitCount_0f7a4_33 : decode cJ6_bitCount_0f7a4 33 = .ok (.istore_n 0, 1) := by decide +kernel
theorem dJ6_bitCount_0f7a4_34 : decode cJ6_bitCount_0f7a4 34 = .ok (.iload_n 0, 1) := by decide +kernel
theorem dJ6_bitCount_0f7a4_35 : decode cJ6_bitCount_0f7a4 35 = .ok (.iload_n 0, 1) := by decide +kernel
theorem dJ6_bitCount_0f7a4_36 : decode cJ6_bitCount_0f7a4 36 = .ok (.bipush 8, 2) := by decide +kernel
theorem dJ6_bitCount_0f7a4_38 : decode cJ6_bitCount_0f7a4 38 = .ok (.iushr, 1) := by decide +kernel
theorem dJ6_bitCount_0f7a4_39 : decode cJ6_bitCount_0f7a4 39 = .ok (.iadd, 1) := by decide +kernel
theorem dJ6_bitCount_0f7a4_40 : decode cJ6_bitCount_0f7a4 40 = .ok (.istore_n 0, 1) := by decide +kernel
theorem dJ6_bitCount_0f7a4_41 : decode cJ6_bitCount_0f7a4 41 = .ok (.iload_n 0, 1) := by decide +kernel
theorem dJ6_bitCount_0f7a4_42 : decode cJ6_bitCount_0f7a4 42 = .ok (.iload_n 0, 1) := by decide +kernel
theorem dJ6_bitCount_0f7a4_43 : decode cJ6_bitCount_0f7a4 43 = .ok (.bipush 16, 2) := by decide +kernel
theorem dJ6_bitCount_0f7a4_45 : decode cJ6_bitCount_0f7a4 45 = .ok (.iushr, 1) := by decide +kernel
theorem dJ6_bitCount_0f7a4_46 : decode cJ6_bitCount_0f7a4 46 = .ok (.iadd, 1) := by decide +kernel
theorem dJ6_bitCount_0f7a4_47 : decode cJ6_bitCount_0f7a4 47 = .ok (.istore_n 0, 1) := by decide +kernel
theorem dJ6_bitCount_0f7a4_48 : decode cJ6_bitCount_0f7a4 48 = .ok (.iload_n 0, 1) := by decide +kernel
theorem dJ6_bitCount_0f7a4_49 : decode cJ6_bitCount_0f7a4 49 = .ok (.bipush 63, 2) := by decide +kernel
theorem dJ6_bitCount_0f7a4_51 : decode cJ6_bitCount_0f7a4 51 = .ok (.iand, 1) := by decide +kernel
theorem dJ6_bitCount_0f7a4_52 : decode cJ6_bitCount_0f7a4 52 = .ok (.ireturn, 1) := by decide +kernel
theorem dJ9_floorDiv_7cf53_0 : decode cJ9_floorDiv_7cf53 0 = .ok (.iload_n 0, 1) := by decide +kernel
theorem dJ9_floorDiv_7cf53_1 : decode cJ9_floorDiv_7cf53 1 = .ok (.iload_n 1, 1) := by decide +kernel
theorem dJ9_floorDiv_7cf53_2 : decode cJ9_floorDiv_7cf53 2 = .ok (.idiv, 1) := by decide +kernel
theorem dJ9_floorDiv_7cf53_3 : decode cJ9_floorDiv_7cf53 3 = .ok (.istore_n 2, 1) := by decide +kernel
theorem dJ9_floorDiv_7cf53_4 : decode cJ9_floorDiv_7cf53 4 = .ok (.iload_n 0, 1) := by decide +kernel
theorem dJ9_floorDiv_7cf53_5 : decode cJ9_floorDiv_7cf53 5 = .ok (.iload_n 1, 1) := by decide +kernel
theorem dJ9_floorDiv_7cf53_6 : decode cJ9_floorDiv_7cf53 6 = .ok (.ixor, 1) := by decide +kernel
theorem dJ9_floorDiv_7cf53_7 : decode cJ9_floorDiv_7cf53 7 = .ok (.ifCond .ge 14, 3) := by decide +kernel
theorem dJ9_floorDiv_7cf53_10 : decode cJ9_floorDiv_7cf53 10 = .ok (.iload_n 2, 1) := by decide +kernel
theorem dJ9_floorDiv_7cf53_11 : decode cJ9_floorDiv_7cf53 11 = .ok (.iload_n 1, 1) := by decide +kernel
theorem dJ9_floorDiv_7cf53_12 : decode cJ9_floorDiv_7cf53 12 = .ok (.imul, 1) := by decide +kernel
theorem dJ9_floorDiv_7cf53_13 : decode cJ9_floorDiv_7cf53 13 = .ok (.iload_n 0, 1) := by decide +kernel
theorem dJ9_floorDiv_7cf53_14 : decode cJ9_floorDiv_7cf53 14 = .ok (.if_icmp .eq 7, 3) := by decide +kernel
theorem dJ9_floorDiv_7cf53_17 : decode cJ9_floorDiv_7cf53 17 = .ok (.iload_n 2, 1) := by decide +kernel
theorem dJ9_floorDiv_7cf53_18 : decode cJ9_floorDiv_7cf53 18 = .ok (.iconst 1, 1) := by decide +kernel
theorem dJ9_floorDiv_7cf53_19 : decode cJ9_floorDiv_7cf53 19 = .ok (.isub, 1) := by decide +kernel
theorem dJ9_floorDiv_7cf53_20 : decode cJ9_floorDiv_7cf53 20 = .ok (.ireturn, 1) := by decide +kernel
theorem dJ9_floorDiv_7cf53_21 : decode cJ9_floorDiv_7cf53 21 = .ok (.iload_n 2, 1) := by decide +kernel
theorem dJ9_floorDiv_7cf53_22 : decode cJ9_floorDiv_7cf53 22 = .ok (.ireturn, 1) := by decide +kernel
theorem dJ9_abs_067f4_0 : decode cJ9_abs_067f4 0 = .ok (.lload_n 0, 1) := by decide +kernel
theorem dJ9_abs_067f4_1 : decode cJ9_abs_067f4 1 = .ok (.lconst 0, 1) := by decide +kernel
theorem dJ9_abs_067f4_2 : decode cJ9_abs_067f4 2 = .ok (.lcmp, 1) := by decide +kernel
theorem dJ9_abs_067f4_3 : decode cJ9_abs_067f4 3 = .ok (.ifCond .ge 8, 3) := by decide +kernel
theorem dJ9_abs_067f4_6 : decode cJ9_abs_067f4 6 = .ok (.lload_n 0, 1) := by decide +kernel
theorem dJ9_abs_067f4_7 : decode cJ9_abs_067f4 7 = .ok (.lneg, 1) := by decide +kernel
theorem dJ9_abs_067f4_8 : decode cJ9_abs_067f4 8 = .ok (.goto 4, 3) := by decide +kernel
theorem dJ9_abs_067f4_11 : decode cJ9_abs_067f4 11 = .ok (.lload_n 0, 1) := by decide +kernel
theorem dJ9_abs_067f4_12 : decode cJ9_abs_067f4 12 = .ok (.lreturn, 1) := by decide +kernel
theorem dJ9_max_7cf53_0 : decode cJ9_max_7cf53 0 = .ok (.iload_n 0, 1) := by decide +kernel
theorem dJ9_max_7cf53_1 : decode cJ9_max_7cf53 1 = .ok (.iload_n 1, 1) := by decide +kernel
theorem dJ9_max_7cf53_2 : decode cJ9_max_7cf53 2 = .ok (.if_icmp .lt 7, 3) := by decide +kernel
theorem dJ9_max_7cf53_5 : decode cJ9_max_7cf53 5 = .ok (.iload_n 0, 1) := by decide +kernel
theorem dJ9_max_7cf53_6 : decode cJ9_max_7cf53 6 = .ok (.goto 4, 3) := by decide +kernel
theorem dJ9_max_7cf53_9 : decode cJ9_max_7cf53 9 = .ok (.iload_n 1, 1) := by decide +kernel
theorem dJ9_max_7cf53_10 : decode cJ9_max_7cf53 10 = .ok (.ireturn, 1) := by decide +kernel
theorem dJ9_min_7cf53_0 : decode cJ9_min_7cf53 0 = .ok (.iload_n 0, 1) := by decide +kernel
theorem dJ9_min_7cf53_1 : decode cJ9_min_7cf53 1 = .ok (.iload_n 1, 1) := by decide +kernel
theorem dJ9_min_7cf53_2 : decode cJ9_min_7cf53 2 = .ok (.if_icmp .gt 7, 3) := by decide +kernel
theorem dJ9_min_7cf53_5 : decode cJ9_min_7cf53 5 = .ok (.iload_n 0, 1) := by decide +kernel
theorem dJ9_min_7cf53_6 : decode cJ9_min_7cf53 6 = .ok (.goto 4, 3) := by decide +kernel
theorem dJ9_min_7cf53_9 : decode cJ9_min_7cf53 9 = .ok (.iload_n 1, 1) := by decide +kernel
theorem dJ9_min_7cf53_10 : decode cJ9_min_7cf53 10 = .ok (.ireturn, 1) := by decide +kernel
theorem dL_law_0 : decode cL_law 0 = .ok (.new 7, 3) := by decide +kernel
theorem dL_law_3 : decode cL_law 3 = .ok (.dup, 1) := by decide +kernel
theorem dL_law_4 : decode cL_law 4 = .ok (.invokespecial 9, 3) := by decide +kernel
theorem dL_law_7 : decode cL_law 7 = .ok (.astore_n 1, 1) := by decide +kernel
theorem dL_law_8 : decode cL_law 8 = .ok (.new 10, 3) := by decide +kernel
theorem dL_law_11 : decode cL_law 11 = .ok (.dup, 1) := by decide +kernel
theorem dL_law_12 : decode cL_law 12 = .ok (.invokespecial 12, 3) := by decide +kernel
theorem dL_law_15 : decode cL_law 15 = .ok (.astore_n 2, 1) := by decide +kernel
theorem dL_law_16 : decode cL_law 16 = .ok (.iconst 0, 1) := by decide +kernel
theorem dL_law_17 : decode cL_law 17 = .ok (.istore_n 3, 1) := by decide +kernel
theorem dL_law_18 : decode cL_law 18 = .ok (.iload_n 3, 1) := by decide +kernel
theorem dL_law_19 : decode cL_law 19 = .ok (.aload_n 0, 1) := by decide +kernel
theorem dL_law_20 : decode cL_law 20 = .ok (.arraylength, 1) := by decide +kernel
theorem dL_law_21 : decode cL_law 21 = .ok (.iconst 5, 1) := by decide +kernel
theorem dL_law_22 : decode cL_law 22 = .ok (.isub, 1) := by decide +kernel
theorem dL_law_23 : decode cL_law 23 = .ok (.if_icmp .gt 1059, 3) := by decide +kernel
theorem dL_law_26 : decode cL_law 26 = .ok (.aload_n 0, 1) := by decide +kernel
theorem dL_law_27 : decode cL_law 27 = .ok (.iload_n 3, 1) := by decide +kernel
theorem dL_law_28 : decode cL_law 28 = .ok (.iaload, 1) := by decide +kernel
theorem dL_law_29 : decode cL_law 29 = .ok (.bipush 31, 2) := by decide +kernel
theorem dL_law_31 : decode cL_law 31 = .ok (.iand, 1) := by decide +kernel
theorem dL_law_32 : decode cL_law 32 = .ok (.tableswitch 1044 0 31 #[144, 167, 180, 213, 246, 279, 312, 355, 378, 401, 444, 487, 510, 543, 567, 611, 624, 657, 670, 723, 776, 809, 832, 856, 880, 903, 926, 939, 952, 995, 1008, 1021], 144) := by decide +kernel
theorem dL_law_176 : decode cL_law 176 = .ok (.aload_n 1, 1) := by decide +kernel
theorem dL_law_177 : decode cL_law 177 = .ok (.aload_n 0, 1) := by decide +kernel
theorem dL_law_178 : decode cL_law 178 = .ok (.iload_n 3, 1) := by decide +kernel
theorem dL_law_179 : decode cL_law 179 = .ok (.iconst 1, 1) := by decide +kernel
theorem dL_law_180 : decode cL_law 180 = .ok (.iadd, 1) := by decide +kernel
theorem dL_law_181 : decode cL_law 181 = .ok (.iaload, 1) := by decide +kernel
theorem dL_law_182 : decode cL_law 182 = .ok (.invokevirtual 13, 3) := by decide +kernel
theorem dL_law_185 : decode cL_law 185 = .ok (.aload_n 2, 1) := by decide +kernel
theorem dL_law_186 : decode cL_law 186 = .ok (.aload_n 0, 1) := by decide +kernel
theorem dL_law_187 : decode cL_law 187 = .ok (.iload_n 3, 1) := by decide +kernel
theorem dL_law_188 : decode cL_law 188 = .ok (.iconst 1, 1) := by decide +kernel
theorem dL_law_189 : decode cL_law 189 = .ok (.iadd, 1) := by decide +kernel
theorem dL_law_190 : decode cL_law 190 = .ok (.iaload, 1) := by decide +kernel
theorem dL_law_191 : decode cL_law 191 = .ok (.invokevirtual 17, 3) := by decide +kernel
theorem dL_law_194 : decode cL_law 194 = .ok (.if_icmp .eq 882, 3) := by decide +kernel
theorem dL_law_197 : decode cL_law 197 = .ok (.iconst 0, 1) := by decide +kernel
theorem dL_law_198 : decode cL_law 198 = .ok (.ireturn, 1) := by decide +kernel
theorem dL_law_199 : decode cL_law 199 = .ok (.aload_n 1, 1) := by decide +kernel
theorem dL_law_200 : decode cL_law 200 = .ok (.invokevirtual 18, 3) := by decide +kernel
theorem dL_law_203 : decode cL_law 203 = .ok (.aload_n 2, 1) := by decide +kernel
theorem dL_law_204 : decode cL_law 204 = .ok (.invokevirtual 22, 3) := by decide +kernel
theorem dL_law_207 : decode cL_law 207 = .ok (.if_icmp .eq 869, 3) := by decide +kernel
theorem dL_law_210 : decode cL_law 210 = .ok (.iconst 0, 1) := by decide +kernel
theorem dL_law_211 : decode cL_law 211 = .ok (.ireturn, 1) := by decide +kernel
theorem dL_law_212 : decode cL_law 212 = .ok (.aload_n 1, 1) := by decide +kernel
theorem dL_law_213 : decode cL_law 213 = .ok (.aload_n 0, 1) := by decide +kernel
theorem dL_law_214 : decode cL_law 214 = .ok (.iload_n 3, 1) := by decide +kernel
theorem dL_law_215 : decode cL_law 215 = .ok (.iconst 1, 1) := by decide +kernel
theorem dL_law_216 : decode cL_law 216 = .ok (.iadd, 1) := by decide +kernel
theorem dL_law_217 : decode cL_law 217 = .ok (.iaload, 1) := by decide +kernel
theorem dL_law_218 : decode cL_law 218 = .ok (.aload_n 0, 1) := by decide +kernel
theorem dL_law_219 : decode cL_law 219 = .ok (.iload_n 3, 1) := by decide +kernel
theorem dL_law_220 : decode cL_law 220 = .ok (.iconst 2, 1) := by decide +kernel
theorem dL_law_221 : decode cL_law 221 = .ok (.iadd, 1) := by decide +kernel
theorem dL_law_222 : decode cL_law 222 = .ok (.iaload, 1) := by decide +kernel
theorem dL_law_223 : decode cL_law 223 = .ok (.invokevirtual 23, 3) := by decide +kernel
theorem dL_law_226 : decode cL_law 226 = .ok (.aload_n 2, 1) := by decide +kernel
theorem dL_law_227 : decode cL_law 227 = .ok (.aload_n 0, 1) := by decide +kernel
theorem dL_law_228 : decode cL_law 228 = .ok (.iload_n 3, 1) := by decide +kernel
theorem dL_law_229 : decode cL_law 229 = .ok (.iconst 1, 1) := by decide +kernel
theorem dL_law_230 : decode cL_law 230 = .ok (.iadd, 1) := by decide +kernel
theorem dL_law_231 : decode cL_law 231 = .ok (.iaload, 1) := by decide +kernel
theorem dL_law_232 : decode cL_law 232 = .ok (.aload_n 0, 1) := by decide +kernel
theorem dL_law_233 : decode cL_law 233 = .ok (.iload_n 3, 1) := by decide +kernel
theorem dL_law_234 : decode cL_law 234 = .ok (.iconst 2, 1) := by decide +kernel
theorem dL_law_235 : decode cL_law 235 = .ok (.iadd, 1) := by decide +kernel
theorem dL_law_236 : decode cL_law 236 = .ok (.iaload, 1) := by decide +kernel
theorem dL_law_237 : decode cL_law 237 = .ok (.invokevirtual 27, 3) := by decide +kernel
theorem dL_law_240 : decode cL_law 240 = .ok (.if_icmp .eq 836, 3) := by decide +kernel
theorem dL_law_243 : decode cL_law 243 = .ok (.iconst 0, 1) := by decide +kernel
theorem dL_law_244 : decode cL_law 244 = .ok (.ireturn, 1) := by decide +kernel
theorem dL_law_245 : decode cL_law 245 = .ok (.aload_n 1, 1) := by decide +kernel
theorem dL_law_246 : decode cL_law 246 = .ok (.aload_n 0, 1) := by decide +kernel
theorem dL_law_247 : decode cL_law 247 = .ok (.iload_n 3, 1) := by decide +kernel
theorem dL_law_248 : decode cL_law 248 = .ok (.iconst 1, 1) := by decide +kernel
theorem dL_law_249 : decode cL_law 249 = .ok (.iadd, 1) := by decide +kernel
theorem dL_law_250 : decode cL_law 250 = .ok (.iaload, 1) := by decide +kernel
theorem dL_law_251 : decode cL_law 251 = .ok (.aload_n 0, 1) := by decide +kernel
theorem dL_law_252 : decode cL_law 252 = .ok (.iload_n 3, 1) := by decide +kernel
theorem dL_law_253 : decode cL_law 253 = .ok (.iconst 2, 1) := by decide +kernel
theorem dL_law_254 : decode cL_law 254 = .ok (.iadd, 1) := by decide +kernel
theorem dL_law_255 : decode cL_law 255 = .ok (.iaload, 1) := by decide +kernel
theorem dL_law_256 : decode cL_law 256 = .ok (.invokevirtual 28, 3) := by decide +kernel
theorem dL_law_259 : decode cL_law 259 = .ok (.aload_n 2, 1) := by decide +kernel
theorem dL_law_260 : decode cL_law 260 = .ok (.aload_n 0, 1) := by decide +kernel
theorem dL_law_261 : decode cL_law 261 = .ok (.iload_n 3, 1) := by decide +kernel
theorem dL_law_262 : decode cL_law 262 = .ok (.iconst 1, 1) := by decide +kernel
theorem dL_law_263 : decode cL_law 263 = .ok (.iadd, 1) := by decide +kernel
theorem dL_law_264 : decode cL_law 264 = .ok (.iaload, 1) := by decide +kernel
theorem dL_law_265 : decode cL_law 265 = .ok (.aload_n 0, 1) := by decide +kernel
theorem dL_law_266 : decode cL_law 266 = .ok (.iload_n 3, 1) := by decide +kernel
theorem dL_law_267 : decode cL_law 267 = .ok (.iconst 2, 1) := by decide +kernel
theorem dL_law_268 : decode cL_law 268 = .ok (.iadd, 1) := by decide +kernel
theorem dL_law_269 : decode cL_law 269 = .ok (.iaload, 1) := by decide +kernel
theorem dL_law_270 : decode cL_law 270 = .ok (.invokevirtual 31, 3) := by decide +kernel
theorem dL_law_273 : decode cL_law 273 = .ok (.if_icmp .eq 803, 3) := by decide +kernel
theorem dL_law_276 : decode cL_law 276 = .ok (.iconst 0, 1) := by decide +kernel
theorem dL_law_277 : decode cL_law 277 = .ok (.ireturn, 1) := by decide +kernel
theorem dL_law_278 : decode cL_law 278 = .ok (.aload_n 1, 1) := by decide +kernel
theorem dL_law_279 : decode cL_law 279 = .ok (.aload_n 0, 1) := by decide +kernel
theorem dL_law_280 : decode cL_law 280 = .ok (.iload_n 3, 1) := by decide +kernel
theorem dL_law_281 : decode cL_law 281 = .ok (.iconst 1, 1) := by decide +kernel
theorem dL_law_282 : decode cL_law 282 = .ok (.iadd, 1) := by decide +kernel
theorem dL_law_283 : decode cL_law 283 = .ok (.iaload, 1) := by decide +kernel
theorem dL_law_284 : decode cL_law 284 = .ok (.aload_n 0, 1) := by decide +kernel
theorem dL_law_285 : decode cL_law 285 = .ok (.iload_n 3, 1) := by decide +kernel
theorem dL_law_286 : decode cL_law 286 = .ok (.iconst 2, 1) := by decide +kernel
theorem dL_law_287 : decode cL_law 287 = .ok (.iadd, 1) := by decide +kernel
theorem dL_law_288 : decode cL_law 288 = .ok (.iaload, 1) := by decide +kernel
theorem dL_law_289 : decode cL_law 289 = .ok (.invokevirtual 32, 3) := by decide +kernel
theorem dL_law_292 : decode cL_law 292 = .ok (.aload_n 2, 1) := by decide +kernel
theorem dL_law_293 : decode cL_law 293 = .ok (.aload_n 0, 1) := by decide +kernel
theorem dL_law_294 : decode cL_law 294 = .ok (.iload_n 3, 1) := by decide +kernel
theorem dL_law_295 : decode cL_law 295 = .ok (.iconst 1, 1) := by decide +kernel
theorem dL_law_296 : decode cL_law 296 = .ok (.iadd, 1) := by decide +kernel
theorem dL_law_297 : decode cL_law 297 = .ok (.iaload, 1) := by decide +kernel
theorem dL_law_298 : decode cL_law 298 = .ok (.aload_n 0, 1) := by decide +kernel
theorem dL_law_299 : decode cL_law 299 = .ok (.iload_n 3, 1) := by decide +kernel
theorem dL_law_300 : decode cL_law 300 = .ok (.iconst 2, 1) := by decide +kernel
theorem dL_law_301 : decode cL_law 301 = .ok (.iadd, 1) := by decide +kernel
theorem dL_law_302 : decode cL_law 302 = .ok (.iaload, 1) := by decide +kernel
theorem dL_law_303 : decode cL_law 303 = .ok (.invokevirtual 35, 3) := by decide +kernel
theorem dL_law_306 : decode cL_law 306 = .ok (.if_icmp .eq 770, 3) := by decide +kernel
theorem dL_law_309 : decode cL_law 309 = .ok (.iconst 0, 1) := by decide +kernel
theorem dL_law_310 : decode cL_law 310 = .ok (.ireturn, 1) := by decide +kernel
theorem dL_law_311 : decode cL_law 311 = .ok (.aload_n 1, 1) := by decide +kernel
theorem dL_law_312 : decode cL_law 312 = .ok (.aload_n 0, 1) := by decide +kernel
theorem dL_law_313 : decode cL_law 313 = .ok (.iload_n 3, 1) := by decide +kernel
theorem dL_law_314 : decode cL_law 314 = .ok (.iconst 1, 1) := by decide +kernel
theorem dL_law_315 : decode cL_law 315 = .ok (.iadd, 1) := by decide +kernel
theorem dL_law_316 : decode cL_law 316 = .ok (.iaload, 1) := by decide +kernel
theorem dL_law_317 : decode cL_law 317 = .ok (.aload_n 0, 1) := by decide +kernel
theorem dL_law_318 : decode cL_law 318 = .ok (.iload_n 3, 1) := by decide +kernel
theorem dL_law_319 : decode cL_law 319 = .ok (.iconst 2, 1) := by decide +kernel
theorem dL_law_320 : decode cL_law 320 = .ok (.iadd, 1) := by decide +kernel
theorem dL_law_321 : decode cL_law 321 = .ok (.iaload, 1) := by decide +kernel
theorem dL_law_322 : decode cL_law 322 = .ok (.invokevirtual 36, 3) := by decide +kernel
theorem dL_law_325 : decode cL_law 325 = .ok (.aload_n 2, 1) := by decide +kernel
theorem dL_law_326 : decode cL_law 326 = .ok (.aload_n 0, 1) := by decide +kernel
theorem dL_law_327 : decode cL_law 327 = .ok (.iload_n 3, 1) := by decide +kernel
theorem dL_law_328 : decode cL_law 328 = .ok (.iconst 1, 1) := by decide +kernel
theorem dL_law_329 : decode cL_law 329 = .ok (.iadd, 1) := by decide +kernel
theorem dL_law_330 : decode cL_law 330 = .ok (.iaload, 1) := by decide +kernel
theorem dL_law_331 : decode cL_law 331 = .ok (.aload_n 0, 1) := by decide +kernel
theorem dL_law_332 : decode cL_law 332 = .ok (.iload_n 3, 1) := by decide +kernel
theorem dL_law_333 : decode cL_law 333 = .ok (.iconst 2, 1) := by decide +kernel
theorem dL_law_334 : decode cL_law 334 = .ok (.iadd, 1) := by decide +kernel
theorem dL_law_335 : decode cL_law 335 = .ok (.iaload, 1) := by decide +kernel
theorem dL_law_336 : decode cL_law 336 = .ok (.invokevirtual 39, 3) := by decide +kernel
theorem dL_law_339 : decode cL_law 339 = .ok (.if_icmp .eq 737, 3) := by decide +kernel
theorem dL_law_342 : decode cL_law 342 = .ok (.iconst 0, 1) := by decide +kernel
theorem dL_law_343 : decode cL_law 343 = .ok (.ireturn, 1) := by decide +kernel
theorem dL_law_344 : decode cL_law 344 = .ok (.aload_n 1, 1) := by decide +kernel
theorem dL_law_345 : decode cL_law 345 = .ok (.aload_n 0, 1) := by decide +kernel
theorem dL_law_346 : decode cL_law 346 = .ok (.iload_n 3, 1) := by decide +kernel
theorem dL_law_347 : decode cL_law 347 = .ok (.iconst 1, 1) := by decide +kernel
theorem dL_law_348 : decode cL_law 348 = .ok (.iadd, 1) := by decide +kernel
theorem dL_law_349 : decode cL_law 349 = .ok (.iaload, 1) := by decide +kernel
theorem dL_law_350 : decode cL_law 350 = .ok (.aload_n 0, 1) := by decide +kernel
theorem dL_law_351 : decode cL_law 351 = .ok (.iload_n 3, 1) := by decide +kernel
theorem dL_law_352 : decode cL_law 352 = .ok (.iconst 2, 1) := by decide +kernel
theorem dL_law_353 : decode cL_law 353 = .ok (.iadd, 1) := by decide +kernel
theorem dL_law_354 : decode cL_law 354 = .ok (.iaload, 1) := by decide +kernel
theorem dL_law_355 : decode cL_law 355 = .ok (.aload_n 0, 1) := by decide +kernel
theorem dL_law_356 : decode cL_law 356 = .ok (.iload_n 3, 1) := by decide +kernel
theorem dL_law_357 : decode cL_law 357 = .ok (.iconst 3, 1) := by decide +kernel
theorem dL_law_358 : decode cL_law 358 = .ok (.iadd, 1) := by decide +kernel
theorem dL_law_359 : decode cL_law 359 = .ok (.iaload, 1) := by decide +kernel
theorem dL_law_360 : decode cL_law 360 = .ok (.invokevirtual 40, 3) := by decide +kernel
theorem dL_law_363 : decode cL_law 363 = .ok (.aload_n 2, 1) := by decide +kernel
theorem dL_law_364 : decode cL_law 364 = .ok (.aload_n 0, 1) := by decide +kernel
theorem dL_law_365 : decode cL_law 365 = .ok (.iload_n 3, 1) := by decide +kernel
theorem dL_law_366 : decode cL_law 366 = .ok (.iconst 1, 1) := by decide +kernel
theorem dL_law_367 : decode cL_law 367 = .ok (.iadd, 1) := by decide +kernel
theorem dL_law_368 : decode cL_law 368 = .ok (.iaload, 1) := by decide +kernel
theorem dL_law_369 : decode cL_law 369 = .ok (.aload_n 0, 1) := by decide +kernel
theorem dL_law_370 : decode cL_law 370 = .ok (.iload_n 3, 1) := by decide +kernel
theorem dL_law_371 : decode cL_law 371 = .ok (.iconst 2, 1) := by decide +kernel
theorem dL_law_372 : decode cL_law 372 = .ok (.iadd, 1) := by decide +kernel
theorem dL_law_373 : decode cL_law 373 = .ok (.iaload, 1) := by decide +kernel
theorem dL_law_374 : decode cL_law 374 = .ok (.aload_n 0, 1) := by decide +kernel
theorem dL_law_375 : decode cL_law 375 = .ok (.iload_n 3, 1) := by decide +kernel
theorem dL_law_376 : decode cL_law 376 = .ok (.iconst 3, 1) := by decide +kernel
theorem dL_law_377 : decode cL_law 377 = .ok (.iadd, 1) := by decide +kernel
theorem dL_law_378 : decode cL_law 378 = .ok (.iaload, 1) := by decide +kernel
theorem dL_law_379 : decode cL_law 379 = .ok (.invokevirtual 44, 3) := by decide +kernel
theorem dL_law_382 : decode cL_law 382 = .ok (.if_icmp .eq 694, 3) := by decide +kernel
theorem dL_law_385 : decode cL_law 385 = .ok (.iconst 0, 1) := by decide +kernel
theorem dL_law_386 : decode cL_law 386 = .ok (.ireturn, 1) := by decide +kernel
theorem dL_law_387 : decode cL_law 387 = .ok (.aload_n 1, 1) := by decide +kernel
theorem dL_law_388 : decode cL_law 388 = .ok (.aload_n 0, 1) := by decide +kernel
theorem dL_law_389 : decode cL_law 389 = .ok (.iload_n 3, 1) := by decide +kernel
theorem dL_law_390 : decode cL_law 390 = .ok (.iconst 1, 1) := by decide +kernel
theorem dL_law_391 : decode cL_law 391 = .ok (.iadd, 1) := by decide +kernel
theorem dL_law_392 : decode cL_law 392 = .ok (.iaload, 1) := by decide +kernel
theorem dL_law_393 : decode cL_law 393 = .ok (.invokevirtual 45, 3) := by decide +kernel
theorem dL_law_396 : decode cL_law 396 = .ok (.aload_n 2, 1) := by decide +kernel
theorem dL_law_397 : decode cL_law 397 = .ok (.aload_n 0, 1) := by decide +kernel
theorem dL_law_398 : decode cL_law 398 = .ok (.iload_n 3, 1) := by decide +kernel
theorem dL_law_399 : decode cL_law 399 = .ok (.iconst 1, 1) := by decide +kernel
theorem dL_law_400 : decode cL_law 400 = .ok (.iadd, 1) := by decide +kernel
theorem dL_law_401 : decode cL_law 401 = .ok (.iaload, 1) := by decide +kernel
theorem dL_law_402 : decode cL_law 402 = .ok (.invokevirtual 48, 3) := by decide +kernel
theorem dL_law_405 : decode cL_law 405 = .ok (.if_icmp .eq 671, 3) := by decide +kernel
theorem dL_law_408 : decode cL_law 408 = .ok (.iconst 0, 1) := by decide +kernel
theorem dL_law_409 : decode cL_law 409 = .ok (.ireturn, 1) := by decide +kernel
theorem dL_law_410 : decode cL_law 410 = .ok (.aload_n 1, 1) := by decide +kernel
theorem dL_law_411 : decode cL_law 411 = .ok (.aload_n 0, 1) := by decide +kernel
theorem dL_law_412 : decode cL_law 412 = .ok (.iload_n 3, 1) := by decide +kernel
theorem dL_law_413 : decode cL_law 413 = .ok (.iconst 1, 1) := by decide +kernel
theorem dL_law_414 : decode cL_law 414 = .ok (.iadd, 1) := by decide +kernel
theorem dL_law_415 : decode cL_law 415 = .ok (.iaload, 1) := by decide +kernel
theorem dL_law_416 : decode cL_law 416 = .ok (.invokevirtual 49, 3) := by decide +kernel
theorem dL_law_419 : decode cL_law 419 = .ok (.aload_n 2, 1) := by decide +kernel
theorem dL_law_420 : decode cL_law 420 = .ok (.aload_n 0, 1) := by decide +kernel
theorem dL_law_421 : decode cL_law 421 = .ok (.iload_n 3, 1) := by decide +kernel
theorem dL_law_422 : decode cL_law 422 = .ok (.iconst 1, 1) := by decide +kernel
theorem dL_law_423 : decode cL_law 423 = .ok (.iadd, 1) := by decide +kernel
theorem dL_law_424 : decode cL_law 424 = .ok (.iaload, 1) := by decide +kernel
theorem dL_law_425 : decode cL_law 425 = .ok (.invokevirtual 52, 3) := by decide +kernel
theorem dL_law_428 : decode cL_law 428 = .ok (.if_icmp .eq 648, 3) := by decide +kernel
theorem dL_law_431 : decode cL_law 431 = .ok (.iconst 0, 1) := by decide +kernel
theorem dL_law_432 : decode cL_law 432 = .ok (.ireturn, 1) := by decide +kernel
theorem dL_law_433 : decode cL_law 433 = .ok (.aload_n 1, 1) := by decide +kernel
theorem dL_law_434 : decode cL_law 434 = .ok (.aload_n 0, 1) := by decide +kernel
theorem dL_law_435 : decode cL_law 435 = .ok (.iload_n 3, 1) := by decide +kernel
theorem dL_law_436 : decode cL_law 436 = .ok (.iconst 1, 1) := by decide +kernel
theorem dL_law_437 : decode cL_law 437 = .ok (.iadd, 1) := by decide +kernel
theorem dL_law_438 : decode cL_law 438 = .ok (.iaload, 1) := by decide +kernel
theorem dL_law_439 : decode cL_law 439 = .ok (.aload_n 0, 1) := by decide +kernel
theorem dL_law_440 : decode cL_law 440 = .ok (.iload_n 3, 1) := by decide +kernel
theorem dL_law_441 : decode cL_law 441 = .ok (.iconst 2, 1) := by decide +kernel
theorem dL_law_442 : decode cL_law 442 = .ok (.iadd, 1) := by decide +kernel
theorem dL_law_443 : decode cL_law 443 = .ok (.iaload, 1) := by decide +kernel
theorem dL_law_444 : decode cL_law 444 = .ok (.aload_n 0, 1) := by decide +kernel
theorem dL_law_445 : decode cL_law 445 = .ok (.iload_n 3, 1) := by decide +kernel
theorem dL_law_446 : decode cL_law 446 = .ok (.iconst 3, 1) := by decide +kernel
theorem dL_law_447 : decode cL_law 447 = .ok (.iadd, 1) := by decide +kernel
theorem dL_law_448 : decode cL_law 448 = .ok (.iaload, 1) := by decide +kernel
theorem dL_law_449 : decode cL_law 449 = .ok (.invokevirtual 53, 3) := by decide +kernel
theorem dL_law_452 : decode cL_law 452 = .ok (.aload_n 2, 1) := by decide +kernel
theorem dL_law_453 : decode cL_law 453 = .ok (.aload_n 0, 1) := by decide +kernel
theorem dL_law_454 : decode cL_law 454 = .ok (.iload_n 3, 1) := by decide +kernel
theorem dL_law_455 : decode cL_law 455 = .ok (.iconst 1, 1) := by decide +kernel
theorem dL_law_456 : decode cL_law 456 = .ok (.iadd, 1) := by decide +kernel
theorem dL_law_457 : decode cL_law 457 = .ok (.iaload, 1) := by decide +kernel
theorem dL_law_458 : decode cL_law 458 = .ok (.aload_n 0, 1) := by decide +kernel
theorem dL_law_459 : decode cL_law 459 = .ok (.iload_n 3, 1) := by decide +kernel
theorem dL_law_460 : decode cL_law 460 = .ok (.iconst 2, 1) := by decide +kernel
theorem dL_law_461 : decode cL_law 461 = .ok (.iadd, 1) := by decide +kernel
theorem dL_law_462 : decode cL_law 462 = .ok (.iaload, 1) := by decide +kernel
theorem dL_law_463 : decode cL_law 463 = .ok (.aload_n 0, 1) := by decide +kernel
theorem dL_law_464 : decode cL_law 464 = .ok (.iload_n 3, 1) := by decide +kernel
theorem dL_law_465 : decode cL_law 465 = .ok (.iconst 3, 1) := by decide +kernel
theorem dL_law_466 : decode cL_law 466 = .ok (.iadd, 1) := by decide +kernel
theorem dL_law_467 : decode cL_law 467 = .ok (.iaload, 1) := by decide +kernel
theorem dL_law_468 : decode cL_law 468 = .ok (.invokevirtual 56, 3) := by decide +kernel
theorem dL_law_471 : decode cL_law 471 = .ok (.if_icmp .eq 605, 3) := by decide +kernel
theorem dL_law_474 : decode cL_law 474 = .ok (.iconst 0, 1) := by decide +kernel
theorem dL_law_475 : decode cL_law 475 = .ok (.ireturn, 1) := by decide +kernel
theorem dL_law_476 : decode cL_law 476 = .ok (.aload_n 1, 1) := by decide +kernel
theorem dL_law_477 : decode cL_law 477 = .ok (.aload_n 0, 1) := by decide +kernel
theorem dL_law_478 : decode cL_law 478 = .ok (.iload_n 3, 1) := by decide +kernel
theorem dL_law_479 : decode cL_law 479 = .ok (.iconst 1, 1) := by decide +kernel
theorem dL_law_480 : decode cL_law 480 = .ok (.iadd, 1) := by decide +kernel
theorem dL_law_481 : decode cL_law 481 = .ok (.iaload, 1) := by decide +kernel
theorem dL_law_482 : decode cL_law 482 = .ok (.aload_n 0, 1) := by decide +kernel
theorem dL_law_483 : decode cL_law 483 = .ok (.iload_n 3, 1) := by decide +kernel
theorem dL_law_484 : decode cL_law 484 = .ok (.iconst 2, 1) := by decide +kernel
theorem dL_law_485 : decode cL_law 485 = .ok (.iadd, 1) := by decide +kernel
theorem dL_law_486 : decode cL_law 486 = .ok (.iaload, 1) := by decide +kernel
theorem dL_law_487 : decode cL_law 487 = .ok (.aload_n 0, 1) := by decide +kernel
theorem dL_law_488 : decode cL_law 488 = .ok (.iload_n 3, 1) := by decide +kernel
theorem dL_law_489 : decode cL_law 489 = .ok (.iconst 3, 1) := by decide +kernel
theorem dL_law_490 : decode cL_law 490 = .ok (.iadd, 1) := by decide +kernel
theorem dL_law_491 : decode cL_law 491 = .ok (.iaload, 1) := by decide +kernel
theorem dL_law_492 : decode cL_law 492 = .ok (.invokevirtual 57, 3) := by decide +kernel
theorem dL_law_495 : decode cL_law 495 = .ok (.aload_n 2, 1) := by decide +kernel
theorem dL_law_496 : decode cL_law 496 = .ok (.aload_n 0, 1) := by decide +kernel
theorem dL_law_497 : decode cL_law 497 = .ok (.iload_n 3, 1) := by decide +kernel
theorem dL_law_498 : decode cL_law 498 = .ok (.iconst 1, 1) := by decide +kernel
theorem dL_law_499 : decode cL_law 499 = .ok (.iadd, 1) := by decide +kernel
theorem dL_law_500 : decode cL_law 500 = .ok (.iaload, 1) := by decide +kernel
theorem dL_law_501 : decode cL_law 501 = .ok (.aload_n 0, 1) := by decide +kernel
theorem dL_law_502 : decode cL_law 502 = .ok (.iload_n 3, 1) := by decide +kernel
theorem dL_law_503 : decode cL_law 503 = .ok (.iconst 2, 1) := by decide +kernel
theorem dL_law_504 : decode cL_law 504 = .ok (.iadd, 1) := by decide +kernel
theorem dL_law_505 : decode cL_law 505 = .ok (.iaload, 1) := by decide +kernel
theorem dL_law_506 : decode cL_law 506 = .ok (.aload_n 0, 1) := by decide +kernel
theorem dL_law_507 : decode cL_law 507 = .ok (.iload_n 3, 1) := by decide +kernel
theorem dL_law_508 : decode cL_law 508 = .ok (.iconst 3, 1) := by decide +kernel
theorem dL_law_509 : decode cL_law 509 = .ok (.iadd, 1) := by decide +kernel
theorem dL_law_510 : decode cL_law 510 = .ok (.iaload, 1) := by decide +kernel
theorem dL_law_511 : decode cL_law 511 = .ok (.invokevirtual 60, 3) := by decide +kernel
theorem dL_law_514 : decode cL_law 514 = .ok (.if_icmp .eq 562, 3) := by decide +kernel
theorem dL_law_517 : decode cL_law 517 = .ok (.iconst 0, 1) := by decide +kernel
theorem dL_law_518 : decode cL_law 518 = .ok (.ireturn, 1) := by decide +kernel
theorem dL_law_519 : decode cL_law 519 = .ok (.aload_n 1, 1) := by decide +kernel
theorem dL_law_520 : decode cL_law 520 = .ok (.aload_n 0, 1) := by decide +kernel
theorem dL_law_521 : decode cL_law 521 = .ok (.iload_n 3, 1) := by decide +kernel
theorem dL_law_522 : decode cL_law 522 = .ok (.iconst 1, 1) := by decide +kernel
theorem dL_law_523 : decode cL_law 523 = .ok (.iadd, 1) := by decide +kernel
theorem dL_law_524 : decode cL_law 524 = .ok (.iaload, 1) := by decide +kernel
theorem dL_law_525 : decode cL_law 525 = .ok (.invokevirtual 61, 3) := by decide +kernel
theorem dL_law_528 : decode cL_law 528 = .ok (.aload_n 2, 1) := by decide +kernel
theorem dL_law_529 : decode cL_law 529 = .ok (.aload_n 0, 1) := by decide +kernel
theorem dL_law_530 : decode cL_law 530 = .ok (.iload_n 3, 1) := by decide +kernel
theorem dL_law_531 : decode cL_law 531 = .ok (.iconst 1, 1) := by decide +kernel
theorem dL_law_532 : decode cL_law 532 = .ok (.iadd, 1) := by decide +kernel
theorem dL_law_533 : decode cL_law 533 = .ok (.iaload, 1) := by decide +kernel
theorem dL_law_534 : decode cL_law 534 = .ok (.invokevirtual 64, 3) := by decide +kernel
theorem dL_law_537 : decode cL_law 537 = .ok (.if_icmp .eq 539, 3) := by decide +kernel
theorem dL_law_540 : decode cL_law 540 = .ok (.iconst 0, 1) := by decide +kernel
theorem dL_law_541 : decode cL_law 541 = .ok (.ireturn, 1) := by decide +kernel
theorem dL_law_542 : decode cL_law 542 = .ok (.aload_n 1, 1) := by decide +kernel
theorem dL_law_543 : decode cL_law 543 = .ok (.aload_n 0, 1) := by decide +kernel
theorem dL_law_544 : decode cL_law 544 = .ok (.iload_n 3, 1) := by decide +kernel
theorem dL_law_545 : decode cL_law 545 = .ok (.iconst 1, 1) := by decide +kernel
theorem dL_law_546 : decode cL_law 546 = .ok (.iadd, 1) := by decide +kernel
theorem dL_law_547 : decode cL_law 547 = .ok (.iaload, 1) := by decide +kernel
theorem dL_law_548 : decode cL_law 548 = .ok (.aload_n 0, 1) := by decide +kernel
theorem dL_law_549 : decode cL_law 549 = .ok (.iload_n 3, 1) := by decide +kernel
theorem dL_law_550 : decode cL_law 550 = .ok (.iconst 2, 1) := by decide +kernel
theorem dL_law_551 : decode cL_law 551 = .ok (.iadd, 1) := by decide +kernel
theorem dL_law_552 : decode cL_law 552 = .ok (.iaload, 1) := by decide +kernel
theorem dL_law_553 : decode cL_law 553 = .ok (.invokevirtual 65, 3) := by decide +kernel
theorem dL_law_556 : decode cL_law 556 = .ok (.aload_n 2, 1) := by decide +kernel
theorem dL_law_557 : decode cL_law 557 = .ok (.aload_n 0, 1) := by decide +kernel
theorem dL_law_558 : decode cL_law 558 = .ok (.iload_n 3, 1) := by decide +kernel
theorem dL_law_559 : decode cL_law 559 = .ok (.iconst 1, 1) := by decide +kernel
theorem dL_law_560 : decode cL_law 560 = .ok (.iadd, 1) := by decide +kernel
theorem dL_law_561 : decode cL_law 561 = .ok (.iaload, 1) := by decide +kernel
theorem dL_law_562 : decode cL_law 562 = .ok (.aload_n 0, 1) := by decide +kernel
theorem dL_law_563 : decode cL_law 563 = .ok (.iload_n 3, 1) := by decide +kernel
theorem dL_law_564 : decode cL_law 564 = .ok (.iconst 2, 1) := by decide +kernel
theorem dL_law_565 : decode cL_law 565 = .ok (.iadd, 1) := by decide +kernel
theorem dL_law_566 : decode cL_law 566 = .ok (.iaload, 1) := by decide +kernel
theorem dL_law_567 : decode cL_law 567 = .ok (.invokevirtual 68, 3) := by decide +kernel
theorem dL_law_570 : decode cL_law 570 = .ok (.if_icmp .eq 506, 3) := by decide +kernel
theorem dL_law_573 : decode cL_law 573 = .ok (.iconst 0, 1) := by decide +kernel
theorem dL_law_574 : decode cL_law 574 = .ok (.ireturn, 1) := by decide +kernel
theorem dL_law_575 : decode cL_law 575 = .ok (.aload_n 1, 1) := by decide +kernel
theorem dL_law_576 : decode cL_law 576 = .ok (.aload_n 0, 1) := by decide +kernel
theorem dL_law_577 : decode cL_law 577 = .ok (.iload_n 3, 1) := by decide +kernel
theorem dL_law_578 : decode cL_law 578 = .ok (.iconst 1, 1) := by decide +kernel
theorem dL_law_579 : decode cL_law 579 = .ok (.iadd, 1) := by decide +kernel
theorem dL_law_580 : decode cL_law 580 = .ok (.iaload, 1) := by decide +kernel
theorem dL_law_581 : decode cL_law 581 = .ok (.invokevirtual 69, 3) := by decide +kernel
theorem dL_law_584 : decode cL_law 584 = .ok (.aload_n 2, 1) := by decide +kernel
theorem dL_law_585 : decode cL_law 585 = .ok (.aload_n 0, 1) := by decide +kernel
theorem dL_law_586 : decode cL_law 586 = .ok (.iload_n 3, 1) := by decide +kernel
theorem dL_law_587 : decode cL_law 587 = .ok (.iconst 1, 1) := by decide +kernel
theorem dL_law_588 : decode cL_law 588 = .ok (.iadd, 1) := by decide +kernel
theorem dL_law_589 : decode cL_law 589 = .ok (.iaload, 1) := by decide +kernel
theorem dL_law_590 : decode cL_law 590 = .ok (.invokevirtual 73, 3) := by decide +kernel
theorem dL_law_593 : decode cL_law 593 = .ok (.lcmp, 1) := by decide +kernel
theorem dL_law_594 : decode cL_law 594 = .ok (.ifCond .eq 482, 3) := by decide +kernel
theorem dL_law_597 : decode cL_law 597 = .ok (.iconst 0, 1) := by decide +kernel
theorem dL_law_598 : decode cL_law 598 = .ok (.ireturn, 1) := by decide +kernel
theorem dL_law_599 : decode cL_law 599 = .ok (.aload_n 1, 1) := by decide +kernel
theorem dL_law_600 : decode cL_law 600 = .ok (.aload_n 0, 1) := by decide +kernel
theorem dL_law_601 : decode cL_law 601 = .ok (.iload_n 3, 1) := by decide +kernel
theorem dL_law_602 : decode cL_law 602 = .ok (.iconst 1, 1) := by decide +kernel
theorem dL_law_603 : decode cL_law 603 = .ok (.iadd, 1) := by decide +kernel
theorem dL_law_604 : decode cL_law 604 = .ok (.iaload, 1) := by decide +kernel
theorem dL_law_605 : decode cL_law 605 = .ok (.aload_n 0, 1) := by decide +kernel
theorem dL_law_606 : decode cL_law 606 = .ok (.iload_n 3, 1) := by decide +kernel
theorem dL_law_607 : decode cL_law 607 = .ok (.iconst 2, 1) := by decide +kernel
theorem dL_law_608 : decode cL_law 608 = .ok (.iadd, 1) := by decide +kernel
theorem dL_law_609 : decode cL_law 609 = .ok (.iaload, 1) := by decide +kernel
theorem dL_law_610 : decode cL_law 610 = .ok (.aload_n 0, 1) := by decide +kernel
theorem dL_law_611 : decode cL_law 611 = .ok (.iload_n 3, 1) := by decide +kernel
theorem dL_law_612 : decode cL_law 612 = .ok (.iconst 3, 1) := by decide +kernel
theorem dL_law_613 : decode cL_law 613 = .ok (.iadd, 1) := by decide +kernel
theorem dL_law_614 : decode cL_law 614 = .ok (.iaload, 1) := by decide +kernel
theorem dL_law_615 : decode cL_law 615 = .ok (.invokevirtual 74, 3) := by decide +kernel
theorem dL_law_618 : decode cL_law 618 = .ok (.aload_n 2, 1) := by decide +kernel
theorem dL_law_619 : decode cL_law 619 = .ok (.aload_n 0, 1) := by decide +kernel
theorem dL_law_620 : decode cL_law 620 = .ok (.iload_n 3, 1) := by decide +kernel
theorem dL_law_621 : decode cL_law 621 = .ok (.iconst 1, 1) := by decide +kernel
theorem dL_law_622 : decode cL_law 622 = .ok (.iadd, 1) := by decide +kernel
theorem dL_law_623 : decode cL_law 623 = .ok (.iaload, 1) := by decide +kernel
theorem dL_law_624 : decode cL_law 624 = .ok (.aload_n 0, 1) := by decide +kernel
theorem dL_law_625 : decode cL_law 625 = .ok (.iload_n 3, 1) := by decide +kernel
theorem dL_law_626 : decode cL_law 626 = .ok (.iconst 2, 1) := by decide +kernel
theorem dL_law_627 : decode cL_law 627 = .ok (.iadd, 1) := by decide +kernel
theorem dL_law_628 : decode cL_law 628 = .ok (.iaload, 1) := by decide +kernel
theorem dL_law_629 : decode cL_law 629 = .ok (.aload_n 0, 1) := by decide +kernel
theorem dL_law_630 : decode cL_law 630 = .ok (.iload_n 3, 1) := by decide +kernel
theorem dL_law_631 : decode cL_law 631 = .ok (.iconst 3, 1) := by decide +kernel
theorem dL_law_632 : decode cL_law 632 = .ok (.iadd, 1) := by decide +kernel
theorem dL_law_633 : decode cL_law 633 = .ok (.iaload, 1) := by decide +kernel
theorem dL_law_634 : decode cL_law 634 = .ok (.invokevirtual 78, 3) := by decide +kernel
theorem dL_law_637 : decode cL_law 637 = .ok (.lcmp, 1) := by decide +kernel
theorem dL_law_638 : decode cL_law 638 = .ok (.ifCond .eq 438, 3) := by decide +kernel
theorem dL_law_641 : decode cL_law 641 = .ok (.iconst 0, 1) := by decide +kernel
theorem dL_law_642 : decode cL_law 642 = .ok (.ireturn, 1) := by decide +kernel
theorem dL_law_643 : decode cL_law 643 = .ok (.aload_n 1, 1) := by decide +kernel
theorem dL_law_644 : decode cL_law 644 = .ok (.invokevirtual 79, 3) := by decide +kernel
theorem dL_law_647 : decode cL_law 647 = .ok (.aload_n 2, 1) := by decide +kernel
theorem dL_law_648 : decode cL_law 648 = .ok (.invokevirtual 82, 3) := by decide +kernel
theorem dL_law_651 : decode cL_law 651 = .ok (.if_icmp .eq 425, 3) := by decide +kernel
theorem dL_law_654 : decode cL_law 654 = .ok (.iconst 0, 1) := by decide +kernel
theorem dL_law_655 : decode cL_law 655 = .ok (.ireturn, 1) := by decide +kernel
theorem dL_law_656 : decode cL_law 656 = .ok (.aload_n 1, 1) := by decide +kernel
theorem dL_law_657 : decode cL_law 657 = .ok (.aload_n 0, 1) := by decide +kernel
theorem dL_law_658 : decode cL_law 658 = .ok (.iload_n 3, 1) := by decide +kernel
theorem dL_law_659 : decode cL_law 659 = .ok (.iconst 1, 1) := by decide +kernel
theorem dL_law_660 : decode cL_law 660 = .ok (.iadd, 1) := by decide +kernel
theorem dL_law_661 : decode cL_law 661 = .ok (.iaload, 1) := by decide +kernel
theorem dL_law_662 : decode cL_law 662 = .ok (.aload_n 0, 1) := by decide +kernel
theorem dL_law_663 : decode cL_law 663 = .ok (.iload_n 3, 1) := by decide +kernel
theorem dL_law_664 : decode cL_law 664 = .ok (.iconst 2, 1) := by decide +kernel
theorem dL_law_665 : decode cL_law 665 = .ok (.iadd, 1) := by decide +kernel
theorem dL_law_666 : decode cL_law 666 = .ok (.iaload, 1) := by decide +kernel
theorem dL_law_667 : decode cL_law 667 = .ok (.invokevirtual 83, 3) := by decide +kernel
theorem dL_law_670 : decode cL_law 670 = .ok (.aload_n 2, 1) := by decide +kernel
theorem dL_law_671 : decode cL_law 671 = .ok (.aload_n 0, 1) := by decide +kernel
theorem dL_law_672 : decode cL_law 672 = .ok (.iload_n 3, 1) := by decide +kernel
theorem dL_law_673 : decode cL_law 673 = .ok (.iconst 1, 1) := by decide +kernel
theorem dL_law_674 : decode cL_law 674 = .ok (.iadd, 1) := by decide +kernel
theorem dL_law_675 : decode cL_law 675 = .ok (.iaload, 1) := by decide +kernel
theorem dL_law_676 : decode cL_law 676 = .ok (.aload_n 0, 1) := by decide +kernel
theorem dL_law_677 : decode cL_law 677 = .ok (.iload_n 3, 1) := by decide +kernel
theorem dL_law_678 : decode cL_law 678 = .ok (.iconst 2, 1) := by decide +kernel
theorem dL_law_679 : decode cL_law 679 = .ok (.iadd, 1) := by decide +kernel
theorem dL_law_680 : decode cL_law 680 = .ok (.iaload, 1) := by decide +kernel
theorem dL_law_681 : decode cL_law 681 = .ok (.invokevirtual 86, 3) := by decide +kernel
theorem dL_law_684 : decode cL_law 684 = .ok (.if_icmp .eq 392, 3) := by decide +kernel
theorem dL_law_687 : decode cL_law 687 = .ok (.iconst 0, 1) := by decide +kernel
theorem dL_law_688 : decode cL_law 688 = .ok (.ireturn, 1) := by decide +kernel
theorem dL_law_689 : decode cL_law 689 = .ok (.aload_n 1, 1) := by decide +kernel
theorem dL_law_690 : decode cL_law 690 = .ok (.invokevirtual 87, 3) := by decide +kernel
theorem dL_law_693 : decode cL_law 693 = .ok (.aload_n 2, 1) := by decide +kernel
theorem dL_law_694 : decode cL_law 694 = .ok (.invokevirtual 90, 3) := by decide +kernel
theorem dL_law_697 : decode cL_law 697 = .ok (.if_icmp .eq 379, 3) := by decide +kernel
theorem dL_law_700 : decode cL_law 700 = .ok (.iconst 0, 1) := by decide +kernel
theorem dL_law_701 : decode cL_law 701 = .ok (.ireturn, 1) := by decide +kernel
theorem dL_law_702 : decode cL_law 702 = .ok (.aload_n 1, 1) := by decide +kernel
theorem dL_law_703 : decode cL_law 703 = .ok (.aload_n 0, 1) := by decide +kernel
theorem dL_law_704 : decode cL_law 704 = .ok (.iload_n 3, 1) := by decide +kernel
theorem dL_law_705 : decode cL_law 705 = .ok (.iconst 1, 1) := by decide +kernel
theorem dL_law_706 : decode cL_law 706 = .ok (.iadd, 1) := by decide +kernel
theorem dL_law_707 : decode cL_law 707 = .ok (.iaload, 1) := by decide +kernel
theorem dL_law_708 : decode cL_law 708 = .ok (.aload_n 0, 1) := by decide +kernel
theorem dL_law_709 : decode cL_law 709 = .ok (.iload_n 3, 1) := by decide +kernel
theorem dL_law_710 : decode cL_law 710 = .ok (.iconst 2, 1) := by decide +kernel
theorem dL_law_711 : decode cL_law 711 = .ok (.iadd, 1) := by decide +kernel
theorem dL_law_712 : decode cL_law 712 = .ok (.iaload, 1) := by decide +kernel
theorem dL_law_713 : decode cL_law 713 = .ok (.aload_n 0, 1) := by decide +kernel
theorem dL_law_714 : decode cL_law 714 = .ok (.iload_n 3, 1) := by decide +kernel
theorem dL_law_715 : decode cL_law 715 = .ok (.iconst 3, 1) := by decide +kernel
theorem dL_law_716 : decode cL_law 716 = .ok (.iadd, 1) := by decide +kernel
theorem dL_law_717 : decode cL_law 717 = .ok (.iaload, 1) := by decide +kernel
theorem dL_law_718 : decode cL_law 718 = .ok (.aload_n 0, 1) := by decide +kernel
theorem dL_law_719 : decode cL_law 719 = .ok (.iload_n 3, 1) := by decide +kernel
theorem dL_law_720 : decode cL_law 720 = .ok (.iconst 4, 1) := by decide +kernel
theorem dL_law_721 : decode cL_law 721 = .ok (.iadd, 1) := by decide +kernel
theorem dL_law_722 : decode cL_law 722 = .ok (.iaload, 1) := by decide +kernel
theorem dL_law_723 : decode cL_law 723 = .ok (.invokevirtual 91, 3) := by decide +kernel
theorem dL_law_726 : decode cL_law 726 = .ok (.aload_n 2, 1) := by decide +kernel
theorem dL_law_727 : decode cL_law 727 = .ok (.aload_n 0, 1) := by decide +kernel
theorem dL_law_728 : decode cL_law 728 = .ok (.iload_n 3, 1) := by decide +kernel
theorem dL_law_729 : decode cL_law 729 = .ok (.iconst 1, 1) := by decide +kernel
theorem dL_law_730 : decode cL_law 730 = .ok (.iadd, 1) := by decide +kernel
theorem dL_law_731 : decode cL_law 731 = .ok (.iaload, 1) := by decide +kernel
theorem dL_law_732 : decode cL_law 732 = .ok (.aload_n 0, 1) := by decide +kernel
theorem dL_law_733 : decode cL_law 733 = .ok (.iload_n 3, 1) := by decide +kernel
theorem dL_law_734 : decode cL_law 734 = .ok (.iconst 2, 1) := by decide +kernel
theorem dL_law_735 : decode cL_law 735 = .ok (.iadd, 1) := by decide +kernel
theorem dL_law_736 : decode cL_law 736 = .ok (.iaload, 1) := by decide +kernel
theorem dL_law_737 : decode cL_law 737 = .ok (.aload_n 0, 1) := by decide +kernel
theorem dL_law_738 : decode cL_law 738 = .ok (.iload_n 3, 1) := by decide +kernel
theorem dL_law_739 : decode cL_law 739 = .ok (.iconst 3, 1) := by decide +kernel
theorem dL_law_740 : decode cL_law 740 = .ok (.iadd, 1) := by decide +kernel
theorem dL_law_741 : decode cL_law 741 = .ok (.iaload, 1) := by decide +kernel
theorem dL_law_742 : decode cL_law 742 = .ok (.aload_n 0, 1) := by decide +kernel
theorem dL_law_743 : decode cL_law 743 = .ok (.iload_n 3, 1) := by decide +kernel
theorem dL_law_744 : decode cL_law 744 = .ok (.iconst 4, 1) := by decide +kernel
theorem dL_law_745 : decode cL_law 745 = .ok (.iadd, 1) := by decide +kernel
theorem dL_law_746 : decode cL_law 746 = .ok (.iaload, 1) := by decide +kernel
theorem dL_law_747 : decode cL_law 747 = .ok (.invokevirtual 95, 3) := by decide +kernel
theorem dL_law_750 : decode cL_law 750 = .ok (.if_icmp .eq 326, 3) := by decide +kernel
theorem dL_law_753 : decode cL_law 753 = .ok (.iconst 0, 1) := by decide +kernel
theorem dL_law_754 : decode cL_law 754 = .ok (.ireturn, 1) := by decide +kernel
theorem dL_law_755 : decode cL_law 755 = .ok (.aload_n 1, 1) := by decide +kernel
theorem dL_law_756 : decode cL_law 756 = .ok (.aload_n 0, 1) := by decide +kernel
theorem dL_law_757 : decode cL_law 757 = .ok (.iload_n 3, 1) := by decide +kernel
theorem dL_law_758 : decode cL_law 758 = .ok (.iconst 1, 1) := by decide +kernel
theorem dL_law_759 : decode cL_law 759 = .ok (.iadd, 1) := by decide +kernel
theorem dL_law_760 : decode cL_law 760 = .ok (.iaload, 1) := by decide +kernel
theorem dL_law_761 : decode cL_law 761 = .ok (.aload_n 0, 1) := by decide +kernel
theorem dL_law_762 : decode cL_law 762 = .ok (.iload_n 3, 1) := by decide +kernel
theorem dL_law_763 : decode cL_law 763 = .ok (.iconst 2, 1) := by decide +kernel
theorem dL_law_764 : decode cL_law 764 = .ok (.iadd, 1) := by decide +kernel
theorem dL_law_765 : decode cL_law 765 = .ok (.iaload, 1) := by decide +kernel
theorem dL_law_766 : decode cL_law 766 = .ok (.aload_n 0, 1) := by decide +kernel
theorem dL_law_767 : decode cL_law 767 = .ok (.iload_n 3, 1) := by decide +kernel
theorem dL_law_768 : decode cL_law 768 = .ok (.iconst 3, 1) := by decide +kernel
theorem dL_law_769 : decode cL_law 769 = .ok (.iadd, 1) := by decide +kernel
theorem dL_law_770 : decode cL_law 770 = .ok (.iaload, 1) := by decide +kernel
theorem dL_law_771 : decode cL_law 771 = .ok (.aload_n 0, 1) := by decide +kernel
theorem dL_law_772 : decode cL_law 772 = .ok (.iload_n 3, 1) := by decide +kernel
theorem dL_law_773 : decode cL_law 773 = .ok (.iconst 4, 1) := by decide +kernel
theorem dL_law_774 : decode cL_law 774 = .ok (.iadd, 1) := by decide +kernel
theorem dL_law_775 : decode cL_law 775 = .ok (.iaload, 1) := by decide +kernel
theorem dL_law_776 : decode cL_law 776 = .ok (.invokevirtual 96, 3) := by decide +kernel
theorem dL_law_779 : decode cL_law 779 = .ok (.aload_n 2, 1) := by decide +kernel
theorem dL_law_780 : decode cL_law 780 = .ok (.aload_n 0, 1) := by decide +kernel
theorem dL_law_781 : decode cL_law 781 = .ok (.iload_n 3, 1) := by decide +kernel
theorem dL_law_782 : decode cL_law 782 = .ok (.iconst 1, 1) := by decide +kernel
theorem dL_law_783 : decode cL_law 783 = .ok (.iadd, 1) := by decide +kernel
theorem dL_law_784 : decode cL_law 784 = .ok (.iaload, 1) := by decide +kernel
theorem dL_law_785 : decode cL_law 785 = .ok (.aload_n 0, 1) := by decide +kernel
theorem dL_law_786 : decode cL_law 786 = .ok (.iload_n 3, 1) := by decide +kernel
theorem dL_law_787 : decode cL_law 787 = .ok (.iconst 2, 1) := by decide +kernel
theorem dL_law_788 : decode cL_law 788 = .ok (.iadd, 1) := by decide +kernel
theorem dL_law_789 : decode cL_law 789 = .ok (.iaload, 1) := by decide +kernel
theorem dL_law_790 : decode cL_law 790 = .ok (.aload_n 0, 1) := by decide +kernel
theorem dL_law_791 : decode cL_law 791 = .ok (.iload_n 3, 1) := by decide +kernel
theorem dL_law_792 : decode cL_law 792 = .ok (.iconst 3, 1) := by decide +kernel
theorem dL_law_793 : decode cL_law 793 = .ok (.iadd, 1) := by decide +kernel
theorem dL_law_794 : decode cL_law 794 = .ok (.iaload, 1) := by decide +kernel
theorem dL_law_795 : decode cL_law 795 = .ok (.aload_n 0, 1) := by decide +kernel
theorem dL_law_796 : decode cL_law 796 = .ok (.iload_n 3, 1) := by decide +kernel
theorem dL_law_797 : decode cL_law 797 = .ok (.iconst 4, 1) := by decide +kernel
theorem dL_law_798 : decode cL_law 798 = .ok (.iadd, 1) := by decide +kernel
theorem dL_law_799 : decode cL_law 799 = .ok (.iaload, 1) := by decide +kernel
theorem dL_law_800 : decode cL_law 800 = .ok (.invokevirtual 99, 3) := by decide +kernel
theorem dL_law_803 : decode cL_law 803 = .ok (.if_icmp .eq 273, 3) := by decide +kernel
theorem dL_law_806 : decode cL_law 806 = .ok (.iconst 0, 1) := by decide +kernel
theorem dL_law_807 : decode cL_law 807 = .ok (.ireturn, 1) := by decide +kernel
theorem dL_law_808 : decode cL_law 808 = .ok (.aload_n 1, 1) := by decide +kernel
theorem dL_law_809 : decode cL_law 809 = .ok (.aload_n 0, 1) := by decide +kernel
theorem dL_law_810 : decode cL_law 810 = .ok (.iload_n 3, 1) := by decide +kernel
theorem dL_law_811 : decode cL_law 811 = .ok (.iconst 1, 1) := by decide +kernel
theorem dL_law_812 : decode cL_law 812 = .ok (.iadd, 1) := by decide +kernel
theorem dL_law_813 : decode cL_law 813 = .ok (.iaload, 1) := by decide +kernel
theorem dL_law_814 : decode cL_law 814 = .ok (.aload_n 0, 1) := by decide +kernel
theorem dL_law_815 : decode cL_law 815 = .ok (.iload_n 3, 1) := by decide +kernel
theorem dL_law_816 : decode cL_law 816 = .ok (.iconst 2, 1) := by decide +kernel
theorem dL_law_817 : decode cL_law 817 = .ok (.iadd, 1) := by decide +kernel
theorem dL_law_818 : decode cL_law 818 = .ok (.iaload, 1) := by decide +kernel
theorem dL_law_819 : decode cL_law 819 = .ok (.invokevirtual 100, 3) := by decide +kernel
theorem dL_law_822 : decode cL_law 822 = .ok (.aload_n 2, 1) := by decide +kernel
theorem dL_law_823 : decode cL_law 823 = .ok (.aload_n 0, 1) := by decide +kernel
theorem dL_law_824 : decode cL_law 824 = .ok (.iload_n 3, 1) := by decide +kernel
theorem dL_law_825 : decode cL_law 825 = .ok (.iconst 1, 1) := by decide +kernel
theorem dL_law_826 : decode cL_law 826 = .ok (.iadd, 1) := by decide +kernel
theorem dL_law_827 : decode cL_law 827 = .ok (.iaload, 1) := by decide +kernel
theorem dL_law_828 : decode cL_law 828 = .ok (.aload_n 0, 1) := by decide +kernel
theorem dL_law_829 : decode cL_law 829 = .ok (.iload_n 3, 1) := by decide +kernel
theorem dL_law_830 : decode cL_law 830 = .ok (.iconst 2, 1) := by decide +kernel
theorem dL_law_831 : decode cL_law 831 = .ok (.iadd, 1) := by decide +kernel
theorem dL_law_832 : decode cL_law 832 = .ok (.iaload, 1) := by decide +kernel
theorem dL_law_833 : decode cL_law 833 = .ok (.invokevirtual 103, 3) := by decide +kernel
theorem dL_law_836 : decode cL_law 836 = .ok (.if_icmp .eq 240, 3) := by decide +kernel
theorem dL_law_839 : decode cL_law 839 = .ok (.iconst 0, 1) := by decide +kernel
theorem dL_law_840 : decode cL_law 840 = .ok (.ireturn, 1) := by decide +kernel
theorem dL_law_841 : decode cL_law 841 = .ok (.aload_n 1, 1) := by decide +kernel
theorem dL_law_842 : decode cL_law 842 = .ok (.aload_n 0, 1) := by decide +kernel
theorem dL_law_843 : decode cL_law 843 = .ok (.iload_n 3, 1) := by decide +kernel
theorem dL_law_844 : decode cL_law 844 = .ok (.iconst 1, 1) := by decide +kernel
theorem dL_law_845 : decode cL_law 845 = .ok (.iadd, 1) := by decide +kernel
theorem dL_law_846 : decode cL_law 846 = .ok (.iaload, 1) := by decide +kernel
theorem dL_law_847 : decode cL_law 847 = .ok (.invokevirtual 104, 3) := by decide +kernel
theorem dL_law_850 : decode cL_law 850 = .ok (.aload_n 2, 1) := by decide +kernel
theorem dL_law_851 : decode cL_law 851 = .ok (.aload_n 0, 1) := by decide +kernel
theorem dL_law_852 : decode cL_law 852 = .ok (.iload_n 3, 1) := by decide +kernel
theorem dL_law_853 : decode cL_law 853 = .ok (.iconst 1, 1) := by decide +kernel
theorem dL_law_854 : decode cL_law 854 = .ok (.iadd, 1) := by decide +kernel
theorem dL_law_855 : decode cL_law 855 = .ok (.iaload, 1) := by decide +kernel
theorem dL_law_856 : decode cL_law 856 = .ok (.invokevirtual 107, 3) := by decide +kernel
theorem dL_law_859 : decode cL_law 859 = .ok (.if_icmp .eq 217, 3) := by decide +kernel
theorem dL_law_862 : decode cL_law 862 = .ok (.iconst 0, 1) := by decide +kernel
theorem dL_law_863 : decode cL_law 863 = .ok (.ireturn, 1) := by decide +kernel
theorem dL_law_864 : decode cL_law 864 = .ok (.aload_n 1, 1) := by decide +kernel
theorem dL_law_865 : decode cL_law 865 = .ok (.aload_n 0, 1) := by decide +kernel
theorem dL_law_866 : decode cL_law 866 = .ok (.iload_n 3, 1) := by decide +kernel
theorem dL_law_867 : decode cL_law 867 = .ok (.iconst 1, 1) := by decide +kernel
theorem dL_law_868 : decode cL_law 868 = .ok (.iadd, 1) := by decide +kernel
theorem dL_law_869 : decode cL_law 869 = .ok (.iaload, 1) := by decide +kernel
theorem dL_law_870 : decode cL_law 870 = .ok (.invokevirtual 108, 3) := by decide +kernel
theorem dL_law_873 : decode cL_law 873 = .ok (.aload_n 2, 1) := by decide +kernel
theorem dL_law_874 : decode cL_law 874 = .ok (.aload_n 0, 1) := by decide +kernel
theorem dL_law_875 : decode cL_law 875 = .ok (.iload_n 3, 1) := by decide +kernel
theorem dL_law_876 : decode cL_law 876 = .ok (.iconst 1, 1) := by decide +kernel
theorem dL_law_877 : decode cL_law 877 = .ok (.iadd, 1) := by decide +kernel
theorem dL_law_878 : decode cL_law 878 = .ok (.iaload, 1) := by decide +kernel
theorem dL_law_879 : decode cL_law 879 = .ok (.invokevirtual 111, 3) := by decide +kernel
theorem dL_law_882 : decode cL_law 882 = .ok (.lcmp, 1) := by decide +kernel
theorem dL_law_883 : decode cL_law 883 = .ok (.ifCond .eq 193, 3) := by decide +kernel
theorem dL_law_886 : decode cL_law 886 = .ok (.iconst 0, 1) := by decide +kernel
theorem dL_law_887 : decode cL_law 887 = .ok (.ireturn, 1) := by decide +kernel
theorem dL_law_888 : decode cL_law 888 = .ok (.aload_n 1, 1) := by decide +kernel
theorem dL_law_889 : decode cL_law 889 = .ok (.aload_n 0, 1) := by decide +kernel
theorem dL_law_890 : decode cL_law 890 = .ok (.iload_n 3, 1) := by decide +kernel
theorem dL_law_891 : decode cL_law 891 = .ok (.iconst 1, 1) := by decide +kernel
theorem dL_law_892 : decode cL_law 892 = .ok (.iadd, 1) := by decide +kernel
theorem dL_law_893 : decode cL_law 893 = .ok (.iaload, 1) := by decide +kernel
theorem dL_law_894 : decode cL_law 894 = .ok (.invokevirtual 112, 3) := by decide +kernel
theorem dL_law_897 : decode cL_law 897 = .ok (.aload_n 2, 1) := by decide +kernel
theorem dL_law_898 : decode cL_law 898 = .ok (.aload_n 0, 1) := by decide +kernel
theorem dL_law_899 : decode cL_law 899 = .ok (.iload_n 3, 1) := by decide +kernel
theorem dL_law_900 : decode cL_law 900 = .ok (.iconst 1, 1) := by decide +kernel
theorem dL_law_901 : decode cL_law 901 = .ok (.iadd, 1) := by decide +kernel
theorem dL_law_902 : decode cL_law 902 = .ok (.iaload, 1) := by decide +kernel
theorem dL_law_903 : decode cL_law 903 = .ok (.invokevirtual 115, 3) := by decide +kernel
theorem dL_law_906 : decode cL_law 906 = .ok (.lcmp, 1) := by decide +kernel
theorem dL_law_907 : decode cL_law 907 = .ok (.ifCond .eq 169, 3) := by decide +kernel
theorem dL_law_910 : decode cL_law 910 = .ok (.iconst 0, 1) := by decide +kernel
theorem dL_law_911 : decode cL_law 911 = .ok (.ireturn, 1) := by decide +kernel
theorem dL_law_912 : decode cL_law 912 = .ok (.aload_n 1, 1) := by decide +kernel
theorem dL_law_913 : decode cL_law 913 = .ok (.aload_n 0, 1) := by decide +kernel
theorem dL_law_914 : decode cL_law 914 = .ok (.iload_n 3, 1) := by decide +kernel
theorem dL_law_915 : decode cL_law 915 = .ok (.iconst 1, 1) := by decide +kernel
theorem dL_law_916 : decode cL_law 916 = .ok (.iadd, 1) := by decide +kernel
theorem dL_law_917 : decode cL_law 917 = .ok (.iaload, 1) := by decide +kernel
theorem dL_law_918 : decode cL_law 918 = .ok (.invokevirtual 116, 3) := by decide +kernel
theorem dL_law_921 : decode cL_law 921 = .ok (.aload_n 2, 1) := by decide +kernel
theorem dL_law_922 : decode cL_law 922 = .ok (.aload_n 0, 1) := by decide +kernel
theorem dL_law_923 : decode cL_law 923 = .ok (.iload_n 3, 1) := by decide +kernel
theorem dL_law_924 : decode cL_law 924 = .ok (.iconst 1, 1) := by decide +kernel
theorem dL_law_925 : decode cL_law 925 = .ok (.iadd, 1) := by decide +kernel
theorem dL_law_926 : decode cL_law 926 = .ok (.iaload, 1) := by decide +kernel
theorem dL_law_927 : decode cL_law 927 = .ok (.invokevirtual 119, 3) := by decide +kernel
theorem dL_law_930 : decode cL_law 930 = .ok (.if_icmp .eq 146, 3) := by decide +kernel
theorem dL_law_933 : decode cL_law 933 = .ok (.iconst 0, 1) := by decide +kernel
theorem dL_law_934 : decode cL_law 934 = .ok (.ireturn, 1) := by decide +kernel
theorem dL_law_935 : decode cL_law 935 = .ok (.aload_n 1, 1) := by decide +kernel
theorem dL_law_936 : decode cL_law 936 = .ok (.aload_n 0, 1) := by decide +kernel
theorem dL_law_937 : decode cL_law 937 = .ok (.iload_n 3, 1) := by decide +kernel
theorem dL_law_938 : decode cL_law 938 = .ok (.iconst 1, 1) := by decide +kernel
theorem dL_law_939 : decode cL_law 939 = .ok (.iadd, 1) := by decide +kernel
theorem dL_law_940 : decode cL_law 940 = .ok (.iaload, 1) := by decide +kernel
theorem dL_law_941 : decode cL_law 941 = .ok (.invokevirtual 120, 3) := by decide +kernel
theorem dL_law_944 : decode cL_law 944 = .ok (.aload_n 2, 1) := by decide +kernel
theorem dL_law_945 : decode cL_law 945 = .ok (.aload_n 0, 1) := by decide +kernel
theorem dL_law_946 : decode cL_law 946 = .ok (.iload_n 3, 1) := by decide +kernel
theorem dL_law_947 : decode cL_law 947 = .ok (.iconst 1, 1) := by decide +kernel
theorem dL_law_948 : decode cL_law 948 = .ok (.iadd, 1) := by decide +kernel
theorem dL_law_949 : decode cL_law 949 = .ok (.iaload, 1) := by decide +kernel
theorem dL_law_950 : decode cL_law 950 = .ok (.invokevirtual 123, 3) := by decide +kernel
theorem dL_law_953 : decode cL_law 953 = .ok (.if_icmp .eq 123, 3) := by decide +kernel
theorem dL_law_956 : decode cL_law 956 = .ok (.iconst 0, 1) := by decide +kernel
theorem dL_law_957 : decode cL_law 957 = .ok (.ireturn, 1) := by decide +kernel
theorem dL_law_958 : decode cL_law 958 = .ok (.aload_n 1, 1) := by decide +kernel
theorem dL_law_959 : decode cL_law 959 = .ok (.invokevirtual 124, 3) := by decide +kernel
theorem dL_law_962 : decode cL_law 962 = .ok (.aload_n 2, 1) := by decide +kernel
theorem dL_law_963 : decode cL_law 963 = .ok (.invokevirtual 127, 3) := by decide +kernel
theorem dL_law_966 : decode cL_law 966 = .ok (.if_icmp .eq 110, 3) := by decide +kernel
theorem dL_law_969 : decode cL_law 969 = .ok (.iconst 0, 1) := by decide +kernel
theorem dL_law_970 : decode cL_law 970 = .ok (.ireturn, 1) := by decide +kernel
theorem dL_law_971 : decode cL_law 971 = .ok (.aload_n 1, 1) := by decide +kernel
theorem dL_law_972 : decode cL_law 972 = .ok (.invokevirtual 128, 3) := by decide +kernel
theorem dL_law_975 : decode cL_law 975 = .ok (.aload_n 2, 1) := by decide +kernel
theorem dL_law_976 : decode cL_law 976 = .ok (.invokevirtual 131, 3) := by decide +kernel
theorem dL_law_979 : decode cL_law 979 = .ok (.if_icmp .eq 97, 3) := by decide +kernel
theorem dL_law_982 : decode cL_law 982 = .ok (.iconst 0, 1) := by decide +kernel
theorem dL_law_983 : decode cL_law 983 = .ok (.ireturn, 1) := by decide +kernel
theorem dL_law_984 : decode cL_law 984 = .ok (.aload_n 1, 1) := by decide +kernel
theorem dL_law_985 : decode cL_law 985 = .ok (.aload_n 0, 1) := by decide +kernel
theorem dL_law_986 : decode cL_law 986 = .ok (.iload_n 3, 1) := by decide +kernel
theorem dL_law_987 : decode cL_law 987 = .ok (.iconst 1, 1) := by decide +kernel
theorem dL_law_988 : decode cL_law 988 = .ok (.iadd, 1) := by decide +kernel
theorem dL_law_989 : decode cL_law 989 = .ok (.iaload, 1) := by decide +kernel
theorem dL_law_990 : decode cL_law 990 = .ok (.aload_n 0, 1) := by decide +kernel
theorem dL_law_991 : decode cL_law 991 = .ok (.iload_n 3, 1) := by decide +kernel
theorem dL_law_992 : decode cL_law 992 = .ok (.iconst 2, 1) := by decide +kernel
theorem dL_law_993 : decode cL_law 993 = .ok (.iadd, 1) := by decide +kernel
theorem dL_law_994 : decode cL_law 994 = .ok (.iaload, 1) := by decide +kernel
theorem dL_law_995 : decode cL_law 995 = .ok (.aload_n 0, 1) := by decide +kernel
theorem dL_law_996 : decode cL_law 996 = .ok (.iload_n 3, 1) := by decide +kernel
theorem dL_law_997 : decode cL_law 997 = .ok (.iconst 3, 1) := by decide +kernel
theorem dL_law_998 : decode cL_law 998 = .ok (.iadd, 1) := by decide +kernel
theorem dL_law_999 : decode cL_law 999 = .ok (.iaload, 1) := by decide +kernel
theorem dL_law_1000 : decode cL_law 1000 = .ok (.invokevirtual 132, 3) := by decide +kernel
theorem dL_law_1003 : decode cL_law 1003 = .ok (.aload_n 2, 1) := by decide +kernel
theorem dL_law_1004 : decode cL_law 1004 = .ok (.aload_n 0, 1) := by decide +kernel
theorem dL_law_1005 : decode cL_law 1005 = .ok (.iload_n 3, 1) := by decide +kernel
theorem dL_law_1006 : decode cL_law 1006 = .ok (.iconst 1, 1) := by decide +kernel
theorem dL_law_1007 : decode cL_law 1007 = .ok (.iadd, 1) := by decide +kernel
theorem dL_law_1008 : decode cL_law 1008 = .ok (.iaload, 1) := by decide +kernel
theorem dL_law_1009 : decode cL_law 1009 = .ok (.aload_n 0, 1) := by decide +kernel
theorem dL_law_1010 : decode cL_law 1010 = .ok (.iload_n 3, 1) := by decide +kernel
theorem dL_law_1011 : decode cL_law 1011 = .ok (.iconst 2, 1) := by decide +kernel
theorem dL_law_1012 : decode cL_law 1012 = .ok (.iadd, 1) := by decide +kernel
theorem dL_law_1013 : decode cL_law 1013 = .ok (.iaload, 1) := by decide +kernel
theorem dL_law_1014 : decode cL_law 1014 = .ok (.aload_n 0, 1) := by decide +kernel
theorem dL_law_1015 : decode cL_law 1015 = .ok (.iload_n 3, 1) := by decide +kernel
theorem dL_law_1016 : decode cL_law 1016 = .ok (.iconst 3, 1) := by decide +kernel
theorem dL_law_1017 : decode cL_law 1017 = .ok (.iadd, 1) := by decide +kernel
theorem dL_law_1018 : decode cL_law 1018 = .ok (.iaload, 1) := by decide +kernel
theorem dL_law_1019 : decode cL_law 1019 = .ok (.invokevirtual 135, 3) := by decide +kernel
theorem dL_law_1022 : decode cL_law 1022 = .ok (.if_icmp .eq 54, 3) := by decide +kernel
theorem dL_law_1025 : decode cL_law 1025 = .ok (.iconst 0, 1) := by decide +kernel
theorem dL_law_1026 : decode cL_law 1026 = .ok (.ireturn, 1) := by decide +kernel
theorem dL_law_1027 : decode cL_law 1027 = .ok (.aload_n 1, 1) := by decide +kernel
theorem dL_law_1028 : decode cL_law 1028 = .ok (.invokevirtual 136, 3) := by decide +kernel
theorem dL_law_1031 : decode cL_law 1031 = .ok (.aload_n 2, 1) := by decide +kernel
theorem dL_law_1032 : decode cL_law 1032 = .ok (.invokevirtual 139, 3) := by decide +kernel
theorem dL_law_1035 : decode cL_law 1035 = .ok (.if_icmp .eq 41, 3) := by decide +kernel
theorem dL_law_1038 : decode cL_law 1038 = .ok (.iconst 0, 1) := by decide +kernel
theorem dL_law_1039 : decode cL_law 1039 = .ok (.ireturn, 1) := by decide +kernel
theorem dL_law_1040 : decode cL_law 1040 = .ok (.aload_n 1, 1) := by decide +kernel
theorem dL_law_1041 : decode cL_law 1041 = .ok (.invokevirtual 140, 3) := by decide +kernel
theorem dL_law_1044 : decode cL_law 1044 = .ok (.aload_n 2, 1) := by decide +kernel
theorem dL_law_1045 : decode cL_law 1045 = .ok (.invokevirtual 143, 3) := by decide +kernel
theorem dL_law_1048 : decode cL_law 1048 = .ok (.if_icmp .eq 28, 3) := by decide +kernel
theorem dL_law_1051 : decode cL_law 1051 = .ok (.iconst 0, 1) := by decide +kernel
theorem dL_law_1052 : decode cL_law 1052 = .ok (.ireturn, 1) := by decide +kernel
theorem dL_law_1053 : decode cL_law 1053 = .ok (.aload_n 1, 1) := by decide +kernel
theorem dL_law_1054 : decode cL_law 1054 = .ok (.aload_n 0, 1) := by decide +kernel
theorem dL_law_1055 : decode cL_law 1055 = .ok (.iload_n 3, 1) := by decide +kernel
theorem dL_law_1056 : decode cL_law 1056 = .ok (.iconst 1, 1) := by decide +kernel
theorem dL_law_1057 : decode cL_law 1057 = .ok (.iadd, 1) := by decide +kernel
theorem dL_law_1058 : decode cL_law 1058 = .ok (.iaload, 1) := by decide +kernel
theorem dL_law_1059 : decode cL_law 1059 = .ok (.invokevirtual 144, 3) := by decide +kernel
theorem dL_law_1062 : decode cL_law 1062 = .ok (.aload_n 2, 1) := by decide +kernel
theorem dL_law_1063 : decode cL_law 1063 = .ok (.aload_n 0, 1) := by decide +kernel
theorem dL_law_1064 : decode cL_law 1064 = .ok (.iload_n 3, 1) := by decide +kernel
theorem dL_law_1065 : decode cL_law 1065 = .ok (.iconst 1, 1) := by decide +kernel
theorem dL_law_1066 : decode cL_law 1066 = .ok (.iadd, 1) := by decide +kernel
theorem dL_law_1067 : decode cL_law 1067 = .ok (.iaload, 1) := by decide +kernel
theorem dL_law_1068 : decode cL_law 1068 = .ok (.invokevirtual 147, 3) := by decide +kernel
theorem dL_law_1071 : decode cL_law 1071 = .ok (.if_icmp .eq 5, 3) := by decide +kernel
theorem dL_law_1074 : decode cL_law 1074 = .ok (.iconst 0, 1) := by decide +kernel
theorem dL_law_1075 : decode cL_law 1075 = .ok (.ireturn, 1) := by decide +kernel
theorem dL_law_1076 : decode cL_law 1076 = .ok (.iinc 3 5, 3) := by decide +kernel
theorem dL_law_1079 : decode cL_law 1079 = .ok (.goto (-1061), 3) := by decide +kernel
theorem dL_law_1082 : decode cL_law 1082 = .ok (.iconst 1, 1) := by decide +kernel
theorem dL_law_1083 : decode cL_law 1083 = .ok (.ireturn, 1) := by decide +kernel
end
section
-- the words that every contract carries
theorem zz_good {x : Cond} {big : List Cond} (hx : x ∈ zz_all) (hb : ∀ w ∈ zz_all, w ∈ big) : GoodIn big (x :: zz_all) := by
  intro w hw
  rcases List.mem_cons.mp hw with rfl | h
  · exact ⟨hb _ hx, good_of_word (List.mem_filter.mp hx).2⟩
  · exact ⟨hb _ h, good_of_word (List.mem_filter.mp h).2⟩
-- numbers of the classes, of the array classes of int, long, int[], long[]
abbrev zz_G : Type := va_G × ClassId × ClassId × ClassId × ClassId
def zz_tys (G : zz_G) : List (ClassId × FieldType) := [(G.2.1, .int), (G.2.2.1, .long), (G.2.2.2.1, .array .int), (G.2.2.2.2, .array .long)]
def zz_K (G : zz_G) (U : State) : Prop := va_K G.1 classes (zz_tys G) U ∧ ∀ q ∈ zz_nest, va_Nw (.methodLinkNest q.1 q.2.1 q.2.2.1 q.2.2.2) U
theorem zz_K.warm {G : zz_G} {s U : State} (hW : s.WarmedH U.vm) (h : zz_K G s) : zz_K G U := ⟨va_K.moved hW.alike h.1, fun q hq => va_Nw.warmM hW (h.2 q hq)⟩
theorem zz_K.same {G : zz_G} {s U : State} (e : s.vm = U.vm) (h : zz_K G s) : zz_K G U := ⟨va_K.moved (by rw [e]; exact Vm.Alike.refl _) h.1, fun q hq => va_Nw.same rfl e (h.2 q hq)⟩
-- memory: ints and longs by offset and place
abbrev Sg : Type := (Nat → Nat → Int32) × (Nat → Nat → Int64)
abbrev Sh : Type := Nat × Nat × List Nat
-- a layout: how many cells from the base on, and the shape at each offset
abbrev Ly : Type := Nat × (Nat → Option Sh)
def setI (S : Sg) (o k : Nat) (v : Int32) : Sg := (fun o' k' => if o' = o ∧ k' = k then v else S.1 o' k', S.2)
def setJ (S : Sg) (o k : Nat) (v : Int64) : Sg := (S.1, fun o' k' => if o' = o ∧ k' = k then v else S.2 o' k')
def fillI (S : Sg) (o : Nat) (f : Nat → Int32) : Sg := (fun o' => if o' = o then f else S.1 o', S.2)
def fillJ (S : Sg) (o : Nat) (f : Nat → Int64) : Sg := (S.1, fun o' => if o' = o then f else S.2 o')
theorem setI_o {S : Sg} {o k o' : Nat} {v : Int32} (h : o' ≠ o) : (setI S o k v).1 o' = S.1 o' ∧ (setI S o k v).2 o' = S.2 o' := by
  refine ⟨funext fun j => ?_, rfl⟩
  show (if o' = o ∧ j = k then v else S.1 o' j) = _
  rw [if_neg (fun q => h q.1)]
theorem setJ_o {S : Sg} {o k o' : Nat} {v : Int64} (h : o' ≠ o) : (setJ S o k v).1 o' = S.1 o' ∧ (setJ S o k v).2 o' = S.2 o' := by
  refine ⟨rfl, funext fun j => ?_⟩
  show (if o' = o ∧ j = k then v else S.2 o' j) = _
  rw [if_neg (fun q => h q.1)]
theorem fillI_o {S : Sg} {o o' : Nat} {f : Nat → Int32} (h : o' ≠ o) : (fillI S o f).1 o' = S.1 o' ∧ (fillI S o f).2 o' = S.2 o' := ⟨if_neg h, rfl⟩
theorem fillJ_o {S : Sg} {o o' : Nat} {f : Nat → Int64} (h : o' ≠ o) : (fillJ S o f).1 o' = S.1 o' ∧ (fillJ S o f).2 o' = S.2 o' := ⟨rfl, if_neg h⟩
-- a field by its kind: 0 an int, 1 a long, 2 null, r + 3 the object at r
def fldv (b : Nat) (S : Sg) (o k : Nat) : Nat → Value
  | 0 => .int (S.1 o k)
  | 1 => .long (S.2 o k)
  | 2 => .null
  | r + 3 => .ref (b + r)
def obV (b : Nat) (S : Sg) (o : Nat) (ks : List Nat) : Nat → Value := fun k => fldv b S o k (ks.getD k 2)
def atE (G : zz_G) (b : Nat) (S : Sg) (H : Heap) (o : Nat) : Sh → Prop
  | (0, ci, ks) => ∃ r : vw_C, classes[ci]? = some r ∧ t_OB (b + o) (G.1.1 ci) r.2.2 (G.1.2 ci) H (obV b S o ks)
  | (1, n, _) => H[b + o]? = some (arrV G.2.1 n (fun j => .int (S.1 o j)))
  | (2, n, _) => H[b + o]? = some (arrV G.2.2.1 n (fun j => .long (S.2 o j)))
  | (3, n, ks) => H[b + o]? = some (arrV G.2.2.2.1 n (fun j => .ref (b + (ks.headD 0 + j))))
  | (_, n, ks) => H[b + o]? = some (arrV G.2.2.2.2 n (fun j => .ref (b + (ks.headD 0 + j))))
def HM (G : zz_G) (L : Ly) (b : Nat) (S : Sg) (H : Heap) : Prop := H.size = b + L.1 ∧ ∀ (o : Nat) (sh : Sh), L.2 o = some sh → atE G b S H o sh
theorem atE.kept {G : zz_G} {b o : Nat} {S S' : Sg} {H H' : Heap} {sh : Sh} (h : atE G b S H o sh) (hH : H'[b + o]? = H[b + o]?) (hS : S'.1 o = S.1 o ∧ S'.2 o = S.2 o) : atE G b S' H' o sh := by
  obtain ⟨t, n, ks⟩ := sh
  have e : obV b S' o ks = obV b S o ks := by
    funext k
    unfold obV
    match ks.getD k 2 with
    | 0 => show Value.int (S'.1 o k) = Value.int (S.1 o k); rw [hS.1]
    | 1 => show Value.long (S'.2 o k) = Value.long (S.2 o k); rw [hS.2]
    | 2 => rfl
    | r + 3 => rfl
  match t, h with
  | 0, h =>
    obtain ⟨r, h1, h2⟩ := h
    refine ⟨r, h1, ?_⟩
    rw [e]
    exact h2.kept hH
  | 1, h => show _ = _; rw [hH, hS.1]; exact h
  | 2, h => show _ = _; rw [hH, hS.2]; exact h
  | 3, h => show _ = _; rw [hH]; exact h
  | t + 4, h => show _ = _; rw [hH]; exact h
theorem HM.put {G : zz_G} {L : Ly} {b o : Nat} {S S' : Sg} {H H' : Heap} {sh : Sh} (h : HM G L b S H) (hL : L.2 o = some sh) (hn : atE G b S' H' o sh) (hz : H'.size = H.size) (hH : ∀ q : Nat, q ≠ b + o → H'[q]? = H[q]?) (hS : ∀ o' : Nat, o' ≠ o → S'.1 o' = S.1 o' ∧ S'.2 o' = S.2 o') : HM G L b S' H' := by
  refine ⟨hz.trans h.1, fun o' sh' hL' => ?_⟩
  by_cases e : o' = o
  · subst e
    cases hL.symm.trans hL'
    exact hn
  · exact (h.2 o' sh' hL').kept (hH _ (by omega)) (hS o' e)
-- peeling what a function's text says
def lt {α β : Sort _} (x : α) (f : α → β) : β := f x
def lt2 {α β γ : Type _} (p : α × β) (f : α → β → γ) : γ := f p.1 p.2
def gd {α : Type _} (c : Bool) (a : Option α) : Option α := match c with
  | true => a
  | false => none
def bd {α β : Type _} (x : Option α) (f : α → Option β) : Option β := match x with
  | some a => f a
  | none => none
def bd2 {α β γ : Type _} (x : Option (α × β)) (f : α → β → Option γ) : Option γ := match x with
  | some a => f a.1 a.2
  | none => none
theorem of_lt {α β : Sort _} {x : α} {f : α → β} {y : β} (h : lt x f = y) : ∃ v, v = x ∧ f v = y := ⟨x, rfl, h⟩
theorem of_lt2 {α β γ : Type _} {p : α × β} {f : α → β → γ} {y : γ} (h : lt2 p f = y) : ∃ u v, p = (u, v) ∧ f u v = y := ⟨p.1, p.2, rfl, h⟩
theorem of_gd {α : Type _} {c : Bool} {a : Option α} {y : α} (h : gd c a = some y) : c = true ∧ a = some y := by
  cases c with
  | true => exact ⟨rfl, h⟩
  | false => cases h
theorem of_bd {α β : Type _} {x : Option α} {f : α → Option β} {y : β} (h : bd x f = some y) : ∃ v, x = some v ∧ f v = some y := by
  cases x with
  | none => cases h
  | some a => exact ⟨a, rfl, h⟩
theorem of_bd2 {α β γ : Type _} {x : Option (α × β)} {f : α → β → Option γ} {y : γ} (h : bd2 x f = some y) : ∃ u v, x = some (u, v) ∧ f u v = some y := by
  cases x with
  | none => cases h
  | some a => exact ⟨a.1, a.2, rfl, h⟩
theorem of_s1 {α : Type _} {x y : α} (h : some x = some y) : x = y := Option.some.inj h
theorem of_p {α β : Type _} {x y : α} {u v : β} (h : (x, u) = (y, v)) : x = y ∧ u = v := ⟨congrArg Prod.fst h, congrArg Prod.snd h⟩
theorem of_sp {α β : Type _} {x y : α} {u v : β} (h : some (x, u) = some (y, v)) : x = y ∧ u = v := of_p (Option.some.inj h)
def inb (i : Int32) (n : Nat) : Bool := decide (¬ (i < 0 ∨ n ≤ i.toNatClampNeg))
def nz (y : Int32) : Bool := decide (¬ y = 0)
def nzJ (y : Int64) : Bool := decide (¬ y = 0)
def isb (y : Int32) : Bool := decide (y = 0 ∨ y = 1)
def inn (y : Int32) : Bool := decide (¬ y < 0)
theorem inb_vp {i : Int32} {n : Nat} (h : inb i n = true) : vp_in i n := (of_decide_eq_true h : ¬ (i < 0 ∨ n ≤ i.toNatClampNeg))
def irem (x y : Int32) : Int32 := x - x / y * y
def jrem (x y : Int64) : Int64 := x - x / y * y
def isl (x y : Int32) : Int32 := x <<< (y &&& 31)
def isr (x y : Int32) : Int32 := x >>> (y &&& 31)
def iusr (x y : Int32) : Int32 := (x.toUInt32 >>> (y.toUInt32 &&& Int32.toUInt32 31)).toInt32
def ix (i : Int32) : Nat := i.toNatClampNeg
def cpI (S : Sg) (a : Nat) (sp : Int32) (d : Nat) (dp n : Int32) : Sg := fillI S d (va_cpy (S.1 a) (S.1 d) (ix sp) (ix dp) (ix n))
def cpJ (S : Sg) (a : Nat) (sp : Int32) (d : Nat) (dp n : Int32) : Sg := fillJ S d (va_cpy (S.2 a) (S.2 d) (ix sp) (ix dp) (ix n))
def cpok (sp dp n : Int32) (n0 n1 : Nat) : Bool := decide (¬ sp < 0 ∧ ¬ dp < 0 ∧ ¬ n < 0 ∧ ix sp + ix n ≤ n0 ∧ ix dp + ix n ≤ n1)
-- the judgement: from pc, with these locals, this stack and this memory, to the end
def CX (p : Program) (G : zz_G) (s : State) (m : MethodId) (args : Array Value) (meth : Method) (c : Code) (cc : ByteArray) (y : MethodName) (nL : Nat) (ret : Option FieldType) : Prop :=
  p.tables.exec = Jvm.exec ∧ c.code = cc ∧ c.maxLocals = nL ∧ s.vm.findClass y.cls = some m.cls ∧ (∀ w ∈ zz_all, w.before args s = true) ∧ zz_K G s ∧ meth.locks = false ∧ meth.sig.returnType = ret ∧ meth.name = y.name
def X (p : Program) (l : Launch) (e : Env) (R : Room) (s : State) (m : MethodId) (args : Array Value) (below : List Frame) (meth : Method) (c : Code) (cells slots : Nat) (Q : State → Prop) (nL : Nat) (G : zz_G) (L : Ly) (b : Nat) (S : Sg) (pc : Nat) (lv : List (Nat × Value)) (st : List Value) : Prop :=
  ∀ (H : Heap) (locs : List Loc) (ls : Array Slot), HM G L b S H → va_S (fun q => b ≤ q) s.heap H locs → lv_has ls nL lv → W p l e R s m args below meth c H locs cells slots Q (F0 m pc ls st)
def PC (G : zz_G) (L : Ly) (b : Nat) (S : Sg) (av : List Value) : Array Value → State → Prop := fun v U => v = av.toArray ∧ HM G L b S U.heap ∧ zz_K G U
def QC (G : zz_G) (L : Ly) (b : Nat) (S : Sg) (r : Option Value) (ex : Prop) : Array Value → State → Outcome → State → Prop := fun _ st o t => o = .returned r ∧ ex ∧ HM G L b S t.heap ∧ va_F (fun q => b ≤ q) st t
def rmz (f k : Nat) : Room := { frames := f, cells := 0, slots := 0, locals := k }
theorem zc_eq {x y : Int64} : lg_cmp x y = 0 ↔ x = y := by
  unfold lg_cmp
  by_cases h1 : x > y
  · rw [if_pos h1]
    exact ⟨fun h => absurd h (by decide), fun h => absurd h1 (by rw [h]; exact Int64.lt_irrefl)⟩
  · rw [if_neg h1]
    by_cases h2 : x = y
    · rw [if_pos h2]; exact ⟨fun _ => h2, fun _ => rfl⟩
    · rw [if_neg h2]; exact ⟨fun h => absurd h (by decide), fun h => absurd h h2⟩
theorem zc_ne {x y : Int64} : ¬ lg_cmp x y = 0 ↔ ¬ x = y := not_congr zc_eq
theorem zc_gt {x y : Int64} : 0 < lg_cmp x y ↔ y < x := by
  unfold lg_cmp
  by_cases h1 : x > y
  · rw [if_pos h1]; exact ⟨fun _ => h1, fun _ => by decide⟩
  · rw [if_neg h1]
    by_cases h2 : x = y
    · rw [if_pos h2]; exact ⟨fun h => absurd h (by decide), fun h => absurd h h1⟩
    · rw [if_neg h2]; exact ⟨fun h => absurd h (by decide), fun h => absurd h h1⟩
theorem zc_ge {x y : Int64} : 0 ≤ lg_cmp x y ↔ y ≤ x := lg_cmp_ge x y
theorem zc_le {x y : Int64} : lg_cmp x y ≤ 0 ↔ x ≤ y := lg_cmp_le x y
theorem zc_lt {x y : Int64} : lg_cmp x y < 0 ↔ x < y := by
  rw [← Int32.not_le, zc_ge, Int64.not_le]
theorem zc_eqn {x y : Int64} (h : ¬ lg_cmp x y = 0) : ¬ x = y := fun q => h (zc_eq.mpr q)
theorem zc_nen {x y : Int64} (h : lg_cmp x y = 0) : x = y := zc_eq.mp h
theorem zc_gtn {x y : Int64} (h : ¬ 0 < lg_cmp x y) : ¬ y < x := fun q => h (zc_gt.mpr q)
theorem zc_gen {x y : Int64} (h : ¬ 0 ≤ lg_cmp x y) : ¬ y ≤ x := fun q => h (zc_ge.mpr q)
theorem zc_len {x y : Int64} (h : ¬ lg_cmp x y ≤ 0) : ¬ x ≤ y := fun q => h (zc_le.mpr q)
theorem zc_ltn {x y : Int64} (h : ¬ lg_cmp x y < 0) : ¬ x < y := fun q => h (zc_lt.mpr q)
section ZX
variable {p : Program} {l : Launch} {e : Env} {R : Room} {s : State} {m : MethodId} {args : Array Value} {below : List Frame} {meth : Method} {c : Code} {cells slots : Nat} {Q : State → Prop} {nL : Nat} {G : zz_G} {L : Ly} {b : Nat} {S : Sg} {pc : Nat} {lv : List (Nat × Value)} {st : List Value} {cc : ByteArray} {y : MethodName} {ret : Option FieldType}
theorem x_iconst (C : CX p G s m args meth c cc y nL ret) {n : Int} {v : Int32} (d : decode cc pc = .ok (.iconst n, 1)) (ee : Int32.ofInt n = v) (k : X p l e R s m args below meth c cells slots Q nL G L b S (pc + 1) lv (.int v :: st)) : X p l e R s m args below meth c cells slots Q nL G L b S pc lv (st) := fun H locs ls h1 h2 h3 => lv_iconst C.1 C.2.1 d ee (k H locs ls h1 h2 h3)
theorem x_bipush (C : CX p G s m args meth c cc y nL ret) {n : Int} {v : Int32} (d : decode cc pc = .ok (.bipush n, 2)) (ee : (Int8.ofInt n).toInt32 = v) (k : X p l e R s m args below meth c cells slots Q nL G L b S (pc + 2) lv (.int v :: st)) : X p l e R s m args below meth c cells slots Q nL G L b S pc lv (st) := fun H locs ls h1 h2 h3 => lv_bipush C.1 C.2.1 d ee (k H locs ls h1 h2 h3)
theorem x_sipush (C : CX p G s m args meth c cc y nL ret) {n : Int} {v : Int32} (d : decode cc pc = .ok (.sipush n, 3)) (ee : (Int16.ofInt n).toInt32 = v) (k : X p l e R s m args below meth c cells slots Q nL G L b S (pc + 3) lv (.int v :: st)) : X p l e R s m args below meth c cells slots Q nL G L b S pc lv (st) := fun H locs ls h1 h2 h3 => lv_sipush C.1 C.2.1 d ee (k H locs ls h1 h2 h3)
theorem x_lconst (C : CX p G s m args meth c cc y nL ret) {n : Fin 2} {v : Int64} (d : decode cc pc = .ok (.lconst n, 1)) (ee : Int64.ofNat (n : Nat) = v) (k : X p l e R s m args below meth c cells slots Q nL G L b S (pc + 1) lv (.long v :: st)) : X p l e R s m args below meth c cells slots Q nL G L b S pc lv (st) := fun H locs ls h1 h2 h3 => lv_lconst C.1 C.2.1 d ee (k H locs ls h1 h2 h3)
theorem x_iload_n (C : CX p G s m args meth c cc y nL ret) {k : Fin 4} {x : Int32} (q : Nat) (d : decode cc pc = .ok (.iload_n k, 1)) (ee : lv[q]? = some (k.val, .int x)) (kk : X p l e R s m args below meth c cells slots Q nL G L b S (pc + 1) lv (.int x :: st)) : X p l e R s m args below meth c cells slots Q nL G L b S pc lv st := fun H locs ls h1 h2 h3 => lv_iload_n C.1 C.2.1 d rfl (lv_at h3 q ee) (kk H locs ls h1 h2 h3)
theorem x_iload (C : CX p G s m args meth c cc y nL ret) {i : Nat} {x : Int32} (q : Nat) (d : decode cc pc = .ok (.iload i, 2)) (ee : lv[q]? = some (i, .int x)) (kk : X p l e R s m args below meth c cells slots Q nL G L b S (pc + 2) lv (.int x :: st)) : X p l e R s m args below meth c cells slots Q nL G L b S pc lv st := fun H locs ls h1 h2 h3 => lv_iload C.1 C.2.1 d (lv_at h3 q ee) (kk H locs ls h1 h2 h3)
theorem x_istore_n (C : CX p G s m args meth c cc y nL ret) {k : Fin 4} {x v : Int32} (i : Nat) (lv' : List (Nat × Value)) (d : decode cc pc = .ok (.istore_n k, 1)) (hi : k.val = i) (hn : i < nL) (ev : v = x) (hl : (i, Value.int v) :: lv.filter (fun q => !(q.1 == i) && !(q.1 + 1 == i && q.2.category == 2)) = lv') (kk : X p l e R s m args below meth c cells slots Q nL G L b S (pc + 1) lv' st) : X p l e R s m args below meth c cells slots Q nL G L b S pc lv (.int x :: st) := by
  subst ev
  exact fun H locs ls h1 h2 h3 => lv_istore_n C.1 C.2.1 d hi h3 hn hl (fun ls' h => kk H locs ls' h1 h2 h)
theorem x_istore (C : CX p G s m args meth c cc y nL ret) {i : Nat} {x v : Int32} (lv' : List (Nat × Value)) (d : decode cc pc = .ok (.istore i, 2)) (hn : i < nL) (ev : v = x) (hl : (i, Value.int v) :: lv.filter (fun q => !(q.1 == i) && !(q.1 + 1 == i && q.2.category == 2)) = lv') (kk : X p l e R s m args below meth c cells slots Q nL G L b S (pc + 2) lv' st) : X p l e R s m args below meth c cells slots Q nL G L b S pc lv (.int x :: st) := by
  subst ev
  exact fun H locs ls h1 h2 h3 => lv_istore C.1 C.2.1 d h3 hn hl (fun ls' h => kk H locs ls' h1 h2 h)
theorem x_lload_n (C : CX p G s m args meth c cc y nL ret) {k : Fin 4} {x : Int64} (q : Nat) (d : decode cc pc = .ok (.lload_n k, 1)) (ee : lv[q]? = some (k.val, .long x)) (kk : X p l e R s m args below meth c cells slots Q nL G L b S (pc + 1) lv (.long x :: st)) : X p l e R s m args below meth c cells slots Q nL G L b S pc lv st := fun H locs ls h1 h2 h3 => lv_lload_n C.1 C.2.1 d rfl (lv_at h3 q ee) (kk H locs ls h1 h2 h3)
theorem x_lload (C : CX p G s m args meth c cc y nL ret) {i : Nat} {x : Int64} (q : Nat) (d : decode cc pc = .ok (.lload i, 2)) (ee : lv[q]? = some (i, .long x)) (kk : X p l e R s m args below meth c cells slots Q nL G L b S (pc + 2) lv (.long x :: st)) : X p l e R s m args below meth c cells slots Q nL G L b S pc lv st := fun H locs ls h1 h2 h3 => lv_lload C.1 C.2.1 d (lv_at h3 q ee) (kk H locs ls h1 h2 h3)
theorem x_lstore_n (C : CX p G s m args meth c cc y nL ret) {k : Fin 4} {x v : Int64} (i : Nat) (lv' : List (Nat × Value)) (d : decode cc pc = .ok (.lstore_n k, 1)) (hi : k.val = i) (hn : i + 1 < nL) (ev : v = x) (hl : (i, Value.long v) :: lv.filter (fun q => !(q.1 == i) && (!(q.1 == i + 1) && !(q.1 + 1 == i && q.2.category == 2))) = lv') (kk : X p l e R s m args below meth c cells slots Q nL G L b S (pc + 1) lv' st) : X p l e R s m args below meth c cells slots Q nL G L b S pc lv (.long x :: st) := by
  subst ev
  exact fun H locs ls h1 h2 h3 => lv_lstore_n C.1 C.2.1 d hi h3 hn hl (fun ls' h => kk H locs ls' h1 h2 h)
theorem x_lstore (C : CX p G s m args meth c cc y nL ret) {i : Nat} {x v : Int64} (lv' : List (Nat × Value)) (d : decode cc pc = .ok (.lstore i, 2)) (hn : i + 1 < nL) (ev : v = x) (hl : (i, Value.long v) :: lv.filter (fun q => !(q.1 == i) && (!(q.1 == i + 1) && !(q.1 + 1 == i && q.2.category == 2))) = lv') (kk : X p l e R s m args below meth c cells slots Q nL G L b S (pc + 2) lv' st) : X p l e R s m args below meth c cells slots Q nL G L b S pc lv (.long x :: st) := by
  subst ev
  exact fun H locs ls h1 h2 h3 => lv_lstore C.1 C.2.1 d h3 hn hl (fun ls' h => kk H locs ls' h1 h2 h)
theorem x_aload_n (C : CX p G s m args meth c cc y nL ret) {k : Fin 4} {x : Nat} (q : Nat) (d : decode cc pc = .ok (.aload_n k, 1)) (ee : lv[q]? = some (k.val, .ref x)) (kk : X p l e R s m args below meth c cells slots Q nL G L b S (pc + 1) lv (.ref x :: st)) : X p l e R s m args below meth c cells slots Q nL G L b S pc lv st := fun H locs ls h1 h2 h3 => lv_aload_n C.1 C.2.1 d rfl (lv_at h3 q ee) (kk H locs ls h1 h2 h3)
theorem x_aload (C : CX p G s m args meth c cc y nL ret) {i : Nat} {x : Nat} (q : Nat) (d : decode cc pc = .ok (.aload i, 2)) (ee : lv[q]? = some (i, .ref x)) (kk : X p l e R s m args below meth c cells slots Q nL G L b S (pc + 2) lv (.ref x :: st)) : X p l e R s m args below meth c cells slots Q nL G L b S pc lv st := fun H locs ls h1 h2 h3 => lv_aload C.1 C.2.1 d (lv_at h3 q ee) (kk H locs ls h1 h2 h3)
theorem x_astore_n (C : CX p G s m args meth c cc y nL ret) {k : Fin 4} {x v : Nat} (i : Nat) (lv' : List (Nat × Value)) (d : decode cc pc = .ok (.astore_n k, 1)) (hi : k.val = i) (hn : i < nL) (ev : v = x) (hl : (i, Value.ref v) :: lv.filter (fun q => !(q.1 == i) && !(q.1 + 1 == i && q.2.category == 2)) = lv') (kk : X p l e R s m args below meth c cells slots Q nL G L b S (pc + 1) lv' st) : X p l e R s m args below meth c cells slots Q nL G L b S pc lv (.ref x :: st) := by
  subst ev
  exact fun H locs ls h1 h2 h3 => lv_astore_n C.1 C.2.1 d hi h3 hn hl (fun ls' h => kk H locs ls' h1 h2 h)
theorem x_astore (C : CX p G s m args meth c cc y nL ret) {i : Nat} {x v : Nat} (lv' : List (Nat × Value)) (d : decode cc pc = .ok (.astore i, 2)) (hn : i < nL) (ev : v = x) (hl : (i, Value.ref v) :: lv.filter (fun q => !(q.1 == i) && !(q.1 + 1 == i && q.2.category == 2)) = lv') (kk : X p l e R s m args below meth c cells slots Q nL G L b S (pc + 2) lv' st) : X p l e R s m args below meth c cells slots Q nL G L b S pc lv (.ref x :: st) := by
  subst ev
  exact fun H locs ls h1 h2 h3 => lv_astore C.1 C.2.1 d h3 hn hl (fun ls' h => kk H locs ls' h1 h2 h)
theorem x_iinc (C : CX p G s m args meth c cc y nL ret) {i : Nat} {n : Int} {x v w : Int32} (q : Nat) (lv' : List (Nat × Value)) (d : decode cc pc = .ok (.iinc i n, 3)) (ee : lv[q]? = some (i, .int x)) (ew : Int32.ofInt n = w) (hn : i < nL) (ev : v = x + w) (hl : (i, Value.int v) :: lv.filter (fun q => !(q.1 == i) && !(q.1 + 1 == i && q.2.category == 2)) = lv') (kk : X p l e R s m args below meth c cells slots Q nL G L b S (pc + 3) lv' st) : X p l e R s m args below meth c cells slots Q nL G L b S pc lv st := by
  subst ev; subst ew
  exact fun H locs ls h1 h2 h3 => lv_iinc C.1 C.2.1 d h3 ee rfl hn hl (fun ls' h => kk H locs ls' h1 h2 h)
theorem x_iadd (C : CX p G s m args meth c cc y nL ret) {x y' : Int32} (d : decode cc pc = .ok (.iadd, 1)) (k : X p l e R s m args below meth c cells slots Q nL G L b S (pc + 1) lv (.int (x + y') :: st)) : X p l e R s m args below meth c cells slots Q nL G L b S pc lv (.int y' :: .int x :: st) := fun H locs ls h1 h2 h3 => lv_iadd C.1 C.2.1 d (k H locs ls h1 h2 h3)
theorem x_isub (C : CX p G s m args meth c cc y nL ret) {x y' : Int32} (d : decode cc pc = .ok (.isub, 1)) (k : X p l e R s m args below meth c cells slots Q nL G L b S (pc + 1) lv (.int (x - y') :: st)) : X p l e R s m args below meth c cells slots Q nL G L b S pc lv (.int y' :: .int x :: st) := fun H locs ls h1 h2 h3 => lv_isub C.1 C.2.1 d (k H locs ls h1 h2 h3)
theorem x_imul (C : CX p G s m args meth c cc y nL ret) {x y' : Int32} (d : decode cc pc = .ok (.imul, 1)) (k : X p l e R s m args below meth c cells slots Q nL G L b S (pc + 1) lv (.int (x * y') :: st)) : X p l e R s m args below meth c cells slots Q nL G L b S pc lv (.int y' :: .int x :: st) := fun H locs ls h1 h2 h3 => lv_imul C.1 C.2.1 d (k H locs ls h1 h2 h3)
theorem x_iand (C : CX p G s m args meth c cc y nL ret) {x y' : Int32} (d : decode cc pc = .ok (.iand, 1)) (k : X p l e R s m args below meth c cells slots Q nL G L b S (pc + 1) lv (.int (x &&& y') :: st)) : X p l e R s m args below meth c cells slots Q nL G L b S pc lv (.int y' :: .int x :: st) := fun H locs ls h1 h2 h3 => lv_iand C.1 C.2.1 d (k H locs ls h1 h2 h3)
theorem x_ior (C : CX p G s m args meth c cc y nL ret) {x y' : Int32} (d : decode cc pc = .ok (.ior, 1)) (k : X p l e R s m args below meth c cells slots Q nL G L b S (pc + 1) lv (.int (x ||| y') :: st)) : X p l e R s m args below meth c cells slots Q nL G L b S pc lv (.int y' :: .int x :: st) := fun H locs ls h1 h2 h3 => lv_ior C.1 C.2.1 d (k H locs ls h1 h2 h3)
theorem x_ixor (C : CX p G s m args meth c cc y nL ret) {x y' : Int32} (d : decode cc pc = .ok (.ixor, 1)) (k : X p l e R s m args below meth c cells slots Q nL G L b S (pc + 1) lv (.int (x ^^^ y') :: st)) : X p l e R s m args below meth c cells slots Q nL G L b S pc lv (.int y' :: .int x :: st) := fun H locs ls h1 h2 h3 => lv_ixor C.1 C.2.1 d (k H locs ls h1 h2 h3)
theorem x_ishl (C : CX p G s m args meth c cc y nL ret) {x y' : Int32} (d : decode cc pc = .ok (.ishl, 1)) (k : X p l e R s m args below meth c cells slots Q nL G L b S (pc + 1) lv (.int (isl x y') :: st)) : X p l e R s m args below meth c cells slots Q nL G L b S pc lv (.int y' :: .int x :: st) := fun H locs ls h1 h2 h3 => lv_ishl C.1 C.2.1 d (k H locs ls h1 h2 h3)
theorem x_ishr (C : CX p G s m args meth c cc y nL ret) {x y' : Int32} (d : decode cc pc = .ok (.ishr, 1)) (k : X p l e R s m args below meth c cells slots Q nL G L b S (pc + 1) lv (.int (isr x y') :: st)) : X p l e R s m args below meth c cells slots Q nL G L b S pc lv (.int y' :: .int x :: st) := fun H locs ls h1 h2 h3 => lv_ishr C.1 C.2.1 d (k H locs ls h1 h2 h3)
theorem x_iushr (C : CX p G s m args meth c cc y nL ret) {x y' : Int32} (d : decode cc pc = .ok (.iushr, 1)) (k : X p l e R s m args below meth c cells slots Q nL G L b S (pc + 1) lv ((.int (iusr x y')) :: st)) : X p l e R s m args below meth c cells slots Q nL G L b S pc lv (.int y' :: .int x :: st) := fun H locs ls h1 h2 h3 => lv_iushr C.1 C.2.1 d rfl (k H locs ls h1 h2 h3)
theorem x_ineg (C : CX p G s m args meth c cc y nL ret) {x : Int32} (d : decode cc pc = .ok (.ineg, 1)) (k : X p l e R s m args below meth c cells slots Q nL G L b S (pc + 1) lv (.int (-x) :: st)) : X p l e R s m args below meth c cells slots Q nL G L b S pc lv (.int x :: st) := fun H locs ls h1 h2 h3 => lv_ineg C.1 C.2.1 d (k H locs ls h1 h2 h3)
theorem x_idiv (C : CX p G s m args meth c cc y nL ret) {x y' : Int32} (d : decode cc pc = .ok (.idiv, 1)) (hz : nz y' = true) (k : X p l e R s m args below meth c cells slots Q nL G L b S (pc + 1) lv (.int (x / y') :: st)) : X p l e R s m args below meth c cells slots Q nL G L b S pc lv (.int y' :: .int x :: st) := fun H locs ls h1 h2 h3 => lv_idiv C.1 C.2.1 d (of_decide_eq_true hz) (k H locs ls h1 h2 h3)
theorem x_irem (C : CX p G s m args meth c cc y nL ret) {x y' : Int32} (d : decode cc pc = .ok (.irem, 1)) (hz : nz y' = true) (k : X p l e R s m args below meth c cells slots Q nL G L b S (pc + 1) lv (.int (irem x y') :: st)) : X p l e R s m args below meth c cells slots Q nL G L b S pc lv (.int y' :: .int x :: st) := fun H locs ls h1 h2 h3 => lv_irem C.1 C.2.1 d (of_decide_eq_true hz) (k H locs ls h1 h2 h3)
theorem x_ladd (C : CX p G s m args meth c cc y nL ret) {x y' : Int64} (d : decode cc pc = .ok (.ladd, 1)) (k : X p l e R s m args below meth c cells slots Q nL G L b S (pc + 1) lv (.long (x + y') :: st)) : X p l e R s m args below meth c cells slots Q nL G L b S pc lv (.long y' :: .long x :: st) := fun H locs ls h1 h2 h3 => lv_ladd C.1 C.2.1 d (k H locs ls h1 h2 h3)
theorem x_lsub (C : CX p G s m args meth c cc y nL ret) {x y' : Int64} (d : decode cc pc = .ok (.lsub, 1)) (k : X p l e R s m args below meth c cells slots Q nL G L b S (pc + 1) lv (.long (x - y') :: st)) : X p l e R s m args below meth c cells slots Q nL G L b S pc lv (.long y' :: .long x :: st) := fun H locs ls h1 h2 h3 => lv_lsub C.1 C.2.1 d (k H locs ls h1 h2 h3)
theorem x_lmul (C : CX p G s m args meth c cc y nL ret) {x y' : Int64} (d : decode cc pc = .ok (.lmul, 1)) (k : X p l e R s m args below meth c cells slots Q nL G L b S (pc + 1) lv (.long (x * y') :: st)) : X p l e R s m args below meth c cells slots Q nL G L b S pc lv (.long y' :: .long x :: st) := fun H locs ls h1 h2 h3 => lv_lmul C.1 C.2.1 d (k H locs ls h1 h2 h3)
theorem x_lneg (C : CX p G s m args meth c cc y nL ret) {x : Int64} (d : decode cc pc = .ok (.lneg, 1)) (k : X p l e R s m args below meth c cells slots Q nL G L b S (pc + 1) lv (.long (-x) :: st)) : X p l e R s m args below meth c cells slots Q nL G L b S pc lv (.long x :: st) := fun H locs ls h1 h2 h3 => lv_lneg C.1 C.2.1 d (k H locs ls h1 h2 h3)
theorem x_ldiv (C : CX p G s m args meth c cc y nL ret) {x y' : Int64} (d : decode cc pc = .ok (.ldiv, 1)) (hz : nzJ y' = true) (k : X p l e R s m args below meth c cells slots Q nL G L b S (pc + 1) lv (.long (x / y') :: st)) : X p l e R s m args below meth c cells slots Q nL G L b S pc lv (.long y' :: .long x :: st) := fun H locs ls h1 h2 h3 => lv_ldiv C.1 C.2.1 d (of_decide_eq_true hz) (k H locs ls h1 h2 h3)
theorem x_lrem (C : CX p G s m args meth c cc y nL ret) {x y' : Int64} (d : decode cc pc = .ok (.lrem, 1)) (hz : nzJ y' = true) (k : X p l e R s m args below meth c cells slots Q nL G L b S (pc + 1) lv (.long (jrem x y') :: st)) : X p l e R s m args below meth c cells slots Q nL G L b S pc lv (.long y' :: .long x :: st) := fun H locs ls h1 h2 h3 => lv_lrem C.1 C.2.1 d (of_decide_eq_true hz) (k H locs ls h1 h2 h3)
theorem x_i2l (C : CX p G s m args meth c cc y nL ret) {x : Int32} (d : decode cc pc = .ok (.i2l, 1)) (k : X p l e R s m args below meth c cells slots Q nL G L b S (pc + 1) lv (.long x.toInt64 :: st)) : X p l e R s m args below meth c cells slots Q nL G L b S pc lv (.int x :: st) := fun H locs ls h1 h2 h3 => lv_i2l C.1 C.2.1 d rfl (k H locs ls h1 h2 h3)
theorem x_dup (C : CX p G s m args meth c cc y nL ret) {va : Value} (d : decode cc pc = .ok (.dup, 1)) (hv : va.category = 1) (k : X p l e R s m args below meth c cells slots Q nL G L b S (pc + 1) lv (va :: va :: st)) : X p l e R s m args below meth c cells slots Q nL G L b S pc lv (va :: st) := fun H locs ls h1 h2 h3 => lv_dup C.1 C.2.1 d hv (k H locs ls h1 h2 h3)
theorem x_dup2 (C : CX p G s m args meth c cc y nL ret) {va vb : Value} (d : decode cc pc = .ok (.dup2, 1)) (hv : va.category = 1) (hw : vb.category = 1) (k : X p l e R s m args below meth c cells slots Q nL G L b S (pc + 1) lv (va :: vb :: va :: vb :: st)) : X p l e R s m args below meth c cells slots Q nL G L b S pc lv (va :: vb :: st) := fun H locs ls h1 h2 h3 => lv_dup2_11 C.1 C.2.1 d hv hw (k H locs ls h1 h2 h3)
theorem x_pop (C : CX p G s m args meth c cc y nL ret) {va : Value} (d : decode cc pc = .ok (.pop, 1)) (hv : va.category = 1) (k : X p l e R s m args below meth c cells slots Q nL G L b S (pc + 1) lv (st)) : X p l e R s m args below meth c cells slots Q nL G L b S pc lv (va :: st) := fun H locs ls h1 h2 h3 => lv_pop C.1 C.2.1 d hv (k H locs ls h1 h2 h3)
theorem x_goto (C : CX p G s m args meth c cc y nL ret) {off : Int} (tgt : Nat) (d : decode cc pc = .ok (.goto off, 3)) (ht : (pc : Int) + off = (tgt : Int)) (k : X p l e R s m args below meth c cells slots Q nL G L b S tgt lv st) : X p l e R s m args below meth c cells slots Q nL G L b S pc lv st := fun H locs ls h1 h2 h3 => lv_goto C.1 C.2.1 d ht (k H locs ls h1 h2 h3)
theorem x_if_eq (C : CX p G s m args meth c cc y nL ret) {x : Int32} {off : Int} (tgt : Nat) (d : decode cc pc = .ok (.ifCond .eq off, 3)) (ht : (pc : Int) + off = (tgt : Int)) (kt : x = 0 → X p l e R s m args below meth c cells slots Q nL G L b S tgt lv st) (kf : ¬ x = 0 → X p l e R s m args below meth c cells slots Q nL G L b S (pc + 3) lv st) : X p l e R s m args below meth c cells slots Q nL G L b S pc lv (.int x :: st) := fun H locs ls h1 h2 h3 => lv_if_eq C.1 C.2.1 d ht (fun q => kt (q) H locs ls h1 h2 h3) (fun q => kf (q) H locs ls h1 h2 h3)
theorem x_icmp_eq (C : CX p G s m args meth c cc y nL ret) {x y' : Int32} {off : Int} (tgt : Nat) (d : decode cc pc = .ok (.if_icmp .eq off, 3)) (ht : (pc : Int) + off = (tgt : Int)) (kt : x = y' → X p l e R s m args below meth c cells slots Q nL G L b S tgt lv st) (kf : ¬ x = y' → X p l e R s m args below meth c cells slots Q nL G L b S (pc + 3) lv st) : X p l e R s m args below meth c cells slots Q nL G L b S pc lv (.int y' :: .int x :: st) := fun H locs ls h1 h2 h3 => lv_icmp_eq C.1 C.2.1 d ht (fun q => kt (q) H locs ls h1 h2 h3) (fun q => kf (q) H locs ls h1 h2 h3)
theorem x_lcmp_eq (C : CX p G s m args meth c cc y nL ret) {x y' : Int64} {off : Int} (tgt : Nat) (d0 : decode cc pc = .ok (.lcmp, 1)) (d : decode cc (pc + 1) = .ok (.ifCond .eq off, 3)) (ht : (pc : Int) + 1 + off = (tgt : Int)) (kt : x = y' → X p l e R s m args below meth c cells slots Q nL G L b S tgt lv st) (kf : ¬ x = y' → X p l e R s m args below meth c cells slots Q nL G L b S (pc + 4) lv st) : X p l e R s m args below meth c cells slots Q nL G L b S pc lv (.long y' :: .long x :: st) := fun H locs ls h1 h2 h3 => W.lcmp C.1 C.2.1 d0 (lv_if_eq C.1 C.2.1 d (by rw [← ht]; rfl) (fun q => kt (zc_eq.mp q) H locs ls h1 h2 h3) (fun q => kf (zc_eqn q) H locs ls h1 h2 h3))
theorem x_if_ne (C : CX p G s m args meth c cc y nL ret) {x : Int32} {off : Int} (tgt : Nat) (d : decode cc pc = .ok (.ifCond .ne off, 3)) (ht : (pc : Int) + off = (tgt : Int)) (kt : ¬ x = 0 → X p l e R s m args below meth c cells slots Q nL G L b S tgt lv st) (kf : x = 0 → X p l e R s m args below meth c cells slots Q nL G L b S (pc + 3) lv st) : X p l e R s m args below meth c cells slots Q nL G L b S pc lv (.int x :: st) := fun H locs ls h1 h2 h3 => lv_if_ne C.1 C.2.1 d ht (fun q => kt (q) H locs ls h1 h2 h3) (fun q => kf (q) H locs ls h1 h2 h3)
theorem x_icmp_ne (C : CX p G s m args meth c cc y nL ret) {x y' : Int32} {off : Int} (tgt : Nat) (d : decode cc pc = .ok (.if_icmp .ne off, 3)) (ht : (pc : Int) + off = (tgt : Int)) (kt : ¬ x = y' → X p l e R s m args below meth c cells slots Q nL G L b S tgt lv st) (kf : x = y' → X p l e R s m args below meth c cells slots Q nL G L b S (pc + 3) lv st) : X p l e R s m args below meth c cells slots Q nL G L b S pc lv (.int y' :: .int x :: st) := fun H locs ls h1 h2 h3 => lv_icmp_ne C.1 C.2.1 d ht (fun q => kt (q) H locs ls h1 h2 h3) (fun q => kf (q) H locs ls h1 h2 h3)
theorem x_lcmp_ne (C : CX p G s m args meth c cc y nL ret) {x y' : Int64} {off : Int} (tgt : Nat) (d0 : decode cc pc = .ok (.lcmp, 1)) (d : decode cc (pc + 1) = .ok (.ifCond .ne off, 3)) (ht : (pc : Int) + 1 + off = (tgt : Int)) (kt : ¬ x = y' → X p l e R s m args below meth c cells slots Q nL G L b S tgt lv st) (kf : x = y' → X p l e R s m args below meth c cells slots Q nL G L b S (pc + 4) lv st) : X p l e R s m args below meth c cells slots Q nL G L b S pc lv (.long y' :: .long x :: st) := fun H locs ls h1 h2 h3 => W.lcmp C.1 C.2.1 d0 (lv_if_ne C.1 C.2.1 d (by rw [← ht]; rfl) (fun q => kt (fun r => q (zc_eq.mpr r)) H locs ls h1 h2 h3) (fun q => kf (zc_nen q) H locs ls h1 h2 h3))
theorem x_if_lt (C : CX p G s m args meth c cc y nL ret) {x : Int32} {off : Int} (tgt : Nat) (d : decode cc pc = .ok (.ifCond .lt off, 3)) (ht : (pc : Int) + off = (tgt : Int)) (kt : x < 0 → X p l e R s m args below meth c cells slots Q nL G L b S tgt lv st) (kf : ¬ x < 0 → X p l e R s m args below meth c cells slots Q nL G L b S (pc + 3) lv st) : X p l e R s m args below meth c cells slots Q nL G L b S pc lv (.int x :: st) := fun H locs ls h1 h2 h3 => lv_if_lt C.1 C.2.1 d ht (fun q => kt (q) H locs ls h1 h2 h3) (fun q => kf (q) H locs ls h1 h2 h3)
theorem x_icmp_lt (C : CX p G s m args meth c cc y nL ret) {x y' : Int32} {off : Int} (tgt : Nat) (d : decode cc pc = .ok (.if_icmp .lt off, 3)) (ht : (pc : Int) + off = (tgt : Int)) (kt : x < y' → X p l e R s m args below meth c cells slots Q nL G L b S tgt lv st) (kf : ¬ x < y' → X p l e R s m args below meth c cells slots Q nL G L b S (pc + 3) lv st) : X p l e R s m args below meth c cells slots Q nL G L b S pc lv (.int y' :: .int x :: st) := fun H locs ls h1 h2 h3 => lv_icmp_lt C.1 C.2.1 d ht (fun q => kt (q) H locs ls h1 h2 h3) (fun q => kf (q) H locs ls h1 h2 h3)
theorem x_lcmp_lt (C : CX p G s m args meth c cc y nL ret) {x y' : Int64} {off : Int} (tgt : Nat) (d0 : decode cc pc = .ok (.lcmp, 1)) (d : decode cc (pc + 1) = .ok (.ifCond .lt off, 3)) (ht : (pc : Int) + 1 + off = (tgt : Int)) (kt : x < y' → X p l e R s m args below meth c cells slots Q nL G L b S tgt lv st) (kf : ¬ x < y' → X p l e R s m args below meth c cells slots Q nL G L b S (pc + 4) lv st) : X p l e R s m args below meth c cells slots Q nL G L b S pc lv (.long y' :: .long x :: st) := fun H locs ls h1 h2 h3 => W.lcmp C.1 C.2.1 d0 (lv_if_lt C.1 C.2.1 d (by rw [← ht]; rfl) (fun q => kt (zc_lt.mp q) H locs ls h1 h2 h3) (fun q => kf (zc_ltn q) H locs ls h1 h2 h3))
theorem x_if_ge (C : CX p G s m args meth c cc y nL ret) {x : Int32} {off : Int} (tgt : Nat) (d : decode cc pc = .ok (.ifCond .ge off, 3)) (ht : (pc : Int) + off = (tgt : Int)) (kt : ¬ x < 0 → X p l e R s m args below meth c cells slots Q nL G L b S tgt lv st) (kf : x < 0 → X p l e R s m args below meth c cells slots Q nL G L b S (pc + 3) lv st) : X p l e R s m args below meth c cells slots Q nL G L b S pc lv (.int x :: st) := fun H locs ls h1 h2 h3 => lv_if_ge C.1 C.2.1 d ht (fun q => kt (Int32.not_lt.mpr q) H locs ls h1 h2 h3) (fun q => kf (Int32.not_le.mp q) H locs ls h1 h2 h3)
theorem x_icmp_ge (C : CX p G s m args meth c cc y nL ret) {x y' : Int32} {off : Int} (tgt : Nat) (d : decode cc pc = .ok (.if_icmp .ge off, 3)) (ht : (pc : Int) + off = (tgt : Int)) (kt : ¬ x < y' → X p l e R s m args below meth c cells slots Q nL G L b S tgt lv st) (kf : x < y' → X p l e R s m args below meth c cells slots Q nL G L b S (pc + 3) lv st) : X p l e R s m args below meth c cells slots Q nL G L b S pc lv (.int y' :: .int x :: st) := fun H locs ls h1 h2 h3 => lv_icmp_ge C.1 C.2.1 d ht (fun q => kt (Int32.not_lt.mpr q) H locs ls h1 h2 h3) (fun q => kf (Int32.not_le.mp q) H locs ls h1 h2 h3)
theorem x_lcmp_ge (C : CX p G s m args meth c cc y nL ret) {x y' : Int64} {off : Int} (tgt : Nat) (d0 : decode cc pc = .ok (.lcmp, 1)) (d : decode cc (pc + 1) = .ok (.ifCond .ge off, 3)) (ht : (pc : Int) + 1 + off = (tgt : Int)) (kt : ¬ x < y' → X p l e R s m args below meth c cells slots Q nL G L b S tgt lv st) (kf : x < y' → X p l e R s m args below meth c cells slots Q nL G L b S (pc + 4) lv st) : X p l e R s m args below meth c cells slots Q nL G L b S pc lv (.long y' :: .long x :: st) := fun H locs ls h1 h2 h3 => W.lcmp C.1 C.2.1 d0 (lv_if_ge C.1 C.2.1 d (by rw [← ht]; rfl) (fun q => kt (Int64.not_lt.mpr (zc_ge.mp q)) H locs ls h1 h2 h3) (fun q => kf (Int64.not_le.mp (zc_gen q)) H locs ls h1 h2 h3))
theorem x_if_gt (C : CX p G s m args meth c cc y nL ret) {x : Int32} {off : Int} (tgt : Nat) (d : decode cc pc = .ok (.ifCond .gt off, 3)) (ht : (pc : Int) + off = (tgt : Int)) (kt : 0 < x → X p l e R s m args below meth c cells slots Q nL G L b S tgt lv st) (kf : ¬ 0 < x → X p l e R s m args below meth c cells slots Q nL G L b S (pc + 3) lv st) : X p l e R s m args below meth c cells slots Q nL G L b S pc lv (.int x :: st) := fun H locs ls h1 h2 h3 => lv_if_gt C.1 C.2.1 d ht (fun q => kt (q) H locs ls h1 h2 h3) (fun q => kf (q) H locs ls h1 h2 h3)
theorem x_icmp_gt (C : CX p G s m args meth c cc y nL ret) {x y' : Int32} {off : Int} (tgt : Nat) (d : decode cc pc = .ok (.if_icmp .gt off, 3)) (ht : (pc : Int) + off = (tgt : Int)) (kt : y' < x → X p l e R s m args below meth c cells slots Q nL G L b S tgt lv st) (kf : ¬ y' < x → X p l e R s m args below meth c cells slots Q nL G L b S (pc + 3) lv st) : X p l e R s m args below meth c cells slots Q nL G L b S pc lv (.int y' :: .int x :: st) := fun H locs ls h1 h2 h3 => lv_icmp_gt C.1 C.2.1 d ht (fun q => kt (q) H locs ls h1 h2 h3) (fun q => kf (q) H locs ls h1 h2 h3)
theorem x_lcmp_gt (C : CX p G s m args meth c cc y nL ret) {x y' : Int64} {off : Int} (tgt : Nat) (d0 : decode cc pc = .ok (.lcmp, 1)) (d : decode cc (pc + 1) = .ok (.ifCond .gt off, 3)) (ht : (pc : Int) + 1 + off = (tgt : Int)) (kt : y' < x → X p l e R s m args below meth c cells slots Q nL G L b S tgt lv st) (kf : ¬ y' < x → X p l e R s m args below meth c cells slots Q nL G L b S (pc + 4) lv st) : X p l e R s m args below meth c cells slots Q nL G L b S pc lv (.long y' :: .long x :: st) := fun H locs ls h1 h2 h3 => W.lcmp C.1 C.2.1 d0 (lv_if_gt C.1 C.2.1 d (by rw [← ht]; rfl) (fun q => kt (zc_gt.mp q) H locs ls h1 h2 h3) (fun q => kf (zc_gtn q) H locs ls h1 h2 h3))
theorem x_if_le (C : CX p G s m args meth c cc y nL ret) {x : Int32} {off : Int} (tgt : Nat) (d : decode cc pc = .ok (.ifCond .le off, 3)) (ht : (pc : Int) + off = (tgt : Int)) (kt : ¬ 0 < x → X p l e R s m args below meth c cells slots Q nL G L b S tgt lv st) (kf : 0 < x → X p l e R s m args below meth c cells slots Q nL G L b S (pc + 3) lv st) : X p l e R s m args below meth c cells slots Q nL G L b S pc lv (.int x :: st) := fun H locs ls h1 h2 h3 => lv_if_le C.1 C.2.1 d ht (fun q => kt (Int32.not_lt.mpr q) H locs ls h1 h2 h3) (fun q => kf (Int32.not_le.mp q) H locs ls h1 h2 h3)
theorem x_icmp_le (C : CX p G s m args meth c cc y nL ret) {x y' : Int32} {off : Int} (tgt : Nat) (d : decode cc pc = .ok (.if_icmp .le off, 3)) (ht : (pc : Int) + off = (tgt : Int)) (kt : ¬ y' < x → X p l e R s m args below meth c cells slots Q nL G L b S tgt lv st) (kf : y' < x → X p l e R s m args below meth c cells slots Q nL G L b S (pc + 3) lv st) : X p l e R s m args below meth c cells slots Q nL G L b S pc lv (.int y' :: .int x :: st) := fun H locs ls h1 h2 h3 => lv_icmp_le C.1 C.2.1 d ht (fun q => kt (Int32.not_lt.mpr q) H locs ls h1 h2 h3) (fun q => kf (Int32.not_le.mp q) H locs ls h1 h2 h3)
theorem x_lcmp_le (C : CX p G s m args meth c cc y nL ret) {x y' : Int64} {off : Int} (tgt : Nat) (d0 : decode cc pc = .ok (.lcmp, 1)) (d : decode cc (pc + 1) = .ok (.ifCond .le off, 3)) (ht : (pc : Int) + 1 + off = (tgt : Int)) (kt : ¬ y' < x → X p l e R s m args below meth c cells slots Q nL G L b S tgt lv st) (kf : y' < x → X p l e R s m args below meth c cells slots Q nL G L b S (pc + 4) lv st) : X p l e R s m args below meth c cells slots Q nL G L b S pc lv (.long y' :: .long x :: st) := fun H locs ls h1 h2 h3 => W.lcmp C.1 C.2.1 d0 (lv_if_le C.1 C.2.1 d (by rw [← ht]; rfl) (fun q => kt (Int64.not_lt.mpr (zc_le.mp q)) H locs ls h1 h2 h3) (fun q => kf (Int64.not_le.mp (zc_len q)) H locs ls h1 h2 h3))
theorem x_sub (ks : List Nat) {lv' : List (Nat × Value)} (ee : lv_pick lv ks = lv') (k : X p l e R s m args below meth c cells slots Q nL G L b S pc lv' st) : X p l e R s m args below meth c cells slots Q nL G L b S pc lv st := fun H locs ls h1 h2 h3 => k H locs ls h1 h2 (lv_sub h3 ks ee)
theorem x_ldc (C : CX p G s m args meth c cc y nL ret) {index : Nat} {v : Int32} (w : Jvm.Cond.constant y.cls index v ∈ zz_all) (d : decode cc pc = .ok (.ldc index, 2)) (k : X p l e R s m args below meth c cells slots Q nL G L b S (pc + 2) lv (.int v :: st)) : X p l e R s m args below meth c cells slots Q nL G L b S pc lv st := fun H locs ls h1 h2 h3 => lv_ldc C.1 C.2.1 C.2.2.2.1 (C.2.2.2.2.1 _ w) d (k H locs ls h1 h2 h3)
theorem x_ldcw (C : CX p G s m args meth c cc y nL ret) {index : Nat} {v : Int32} (w : Jvm.Cond.constant y.cls index v ∈ zz_all) (d : decode cc pc = .ok (.ldc_w index, 3)) (k : X p l e R s m args below meth c cells slots Q nL G L b S (pc + 3) lv (.int v :: st)) : X p l e R s m args below meth c cells slots Q nL G L b S pc lv st := fun H locs ls h1 h2 h3 => lv_ldcw C.1 C.2.1 C.2.2.2.1 (C.2.2.2.2.1 _ w) d (k H locs ls h1 h2 h3)
theorem x_ldc2 (C : CX p G s m args meth c cc y nL ret) {index : Nat} {v : Int64} (w : Jvm.Cond.constantLong y.cls index v ∈ zz_all) (d : decode cc pc = .ok (.ldc2_w index, 3)) (k : X p l e R s m args below meth c cells slots Q nL G L b S (pc + 3) lv (.long v :: st)) : X p l e R s m args below meth c cells slots Q nL G L b S pc lv st := fun H locs ls h1 h2 h3 => lv_ldc2 C.1 C.2.1 C.2.2.2.1 (C.2.2.2.2.1 _ w) d (k H locs ls h1 h2 h3)
-- fields
theorem x_getv (C : CX p G s m args meth c cc y nL ret) {o ci k N index : Nat} {T : u_T} {D n t : String} {ks : List Nat} {fin : Bool} (hL : L.2 o = some (0, ci, ks)) (hc : classes[ci]? = some (D, T, N)) (hk : k < N) (hT : T k = (D, n, t, fin)) (w : Cond.fieldLink y.cls index D n t ∈ zz_all) (d : decode cc pc = .ok (.getfield index, 3)) {v : Value} (hv : obV b S o ks k = v)
    (kk : X p l e R s m args below meth c cells slots Q nL G L b S (pc + 3) lv (v :: st)) : X p l e R s m args below meth c cells slots Q nL G L b S pc lv (.ref (b + o) :: st) := by
  intro H locs ls h1 h2 h3
  obtain ⟨r, g1, cell, q1, q2, q3, q4⟩ := h1.2 o _ hL
  have hr : r = (D, T, N) := Option.some.inj (g1.symm.trans hc)
  subst hr
  obtain ⟨hx, hb, hml, hown, hts, hK, -⟩ := C
  obtain ⟨hS, hfc, kC, hkC, hkind⟩ := hK.1.1 ci _ hc
  obtain ⟨cf, kf, fi, f, hi, hsl⟩ := hS k hk
  have hfac := u_facts hfc hkC (u_lays hts (cls_in ci _ hc) hk) hi
  rw [show (D, T, N).2.1 = T from rfl, hT] at hi
  refine W.getf hx hb hown (hts _ w) hi hfac.1 q1 (by rw [q3]; exact fun h => by cases h) (v := v) ?_ rfl rfl d (kk H locs ls h1 h2 h3)
  rw [hsl, q4 k hk, hv]
theorem x_geti (C : CX p G s m args meth c cc y nL ret) {o ci k N index : Nat} {T : u_T} {D n t : String} {ks : List Nat} {fin : Bool} (hL : L.2 o = some (0, ci, ks)) (hc : classes[ci]? = some (D, T, N)) (hT : T k = (D, n, t, fin)) (w : Cond.fieldLink y.cls index D n t ∈ zz_all) (d : decode cc pc = .ok (.getfield index, 3)) (hk : k < N ∧ ks.getD k 2 = 0)
    (kk : X p l e R s m args below meth c cells slots Q nL G L b S (pc + 3) lv (.int (S.1 o k) :: st)) : X p l e R s m args below meth c cells slots Q nL G L b S pc lv (.ref (b + o) :: st) :=
  x_getv C hL hc hk.1 hT w d (v := .int (S.1 o k)) (by unfold obV; rw [hk.2]; rfl) kk
theorem x_getj (C : CX p G s m args meth c cc y nL ret) {o ci k N index : Nat} {T : u_T} {D n t : String} {ks : List Nat} {fin : Bool} (hL : L.2 o = some (0, ci, ks)) (hc : classes[ci]? = some (D, T, N)) (hT : T k = (D, n, t, fin)) (w : Cond.fieldLink y.cls index D n t ∈ zz_all) (d : decode cc pc = .ok (.getfield index, 3)) (hk : k < N ∧ ks.getD k 2 = 1)
    (kk : X p l e R s m args below meth c cells slots Q nL G L b S (pc + 3) lv (.long (S.2 o k) :: st)) : X p l e R s m args below meth c cells slots Q nL G L b S pc lv (.ref (b + o) :: st) :=
  x_getv C hL hc hk.1 hT w d (v := .long (S.2 o k)) (by unfold obV; rw [hk.2]; rfl) kk
theorem x_getr (C : CX p G s m args meth c cc y nL ret) {o ci k N index : Nat} {T : u_T} {D n t : String} {ks : List Nat} {fin : Bool} (r : Nat) (hL : L.2 o = some (0, ci, ks)) (hc : classes[ci]? = some (D, T, N)) (hT : T k = (D, n, t, fin)) (w : Cond.fieldLink y.cls index D n t ∈ zz_all) (d : decode cc pc = .ok (.getfield index, 3)) (hk : k < N) (hr : ks.getD k 2 = r + 3)
    (kk : X p l e R s m args below meth c cells slots Q nL G L b S (pc + 3) lv (.ref (b + r) :: st)) : X p l e R s m args below meth c cells slots Q nL G L b S pc lv (.ref (b + o) :: st) :=
  x_getv C hL hc hk hT w d (v := .ref (b + r)) (by unfold obV; rw [hr]; rfl) kk
theorem zz_apart {ci : Nat} {D : String} {T : u_T} {N : Nat} (hts : ∀ w ∈ zz_all, w.before args s = true) (hK : zz_K G s) (hc : classes[ci]? = some (D, T, N)) : ∀ x y, x < N → y < N → x ≠ y → (G.1.2 ci) x ≠ (G.1.2 ci) y := by
  refine va_apart (own := "") hts (cls_in ci _ hc) (fun k => (parseFieldDescriptor (T k).2.2.1).getD .int) (fun k hk => ?_) (fun a ha b hb h => (cls_nm ci _ hc a ha b hb).1 h) hK.1 hc
  have := (cls_nm ci _ hc k hk k hk).2
  cases h : parseFieldDescriptor (T k).2.2.1 with
  | none => rw [show (D, T, N).2.1 = T from rfl] at this; rw [h] at this; cases this
  | some x => rfl
theorem x_putv (C : CX p G s m args meth c cc y nL ret) {o ci k N index : Nat} {T : u_T} {D n t : String} {ks : List Nat} {ty : FieldType} {v : Value} {S' : Sg} (hL : L.2 o = some (0, ci, ks)) (hc : classes[ci]? = some (D, T, N)) (hk : k < N) (hT : T k = (D, n, t, false)) (w : Cond.fieldLink y.cls index D n t ∈ zz_all) (d : decode cc pc = .ok (.putfield index, 3)) (hd : parseFieldDescriptor t = some ty) (hn : narrow ty v = v) (hf : fits ty v = true)
    (hv : ∀ j, obV b S' o ks j = if j = k then v else obV b S o ks j) (ho : ∀ o', o' ≠ o → S'.1 o' = S.1 o' ∧ S'.2 o' = S.2 o')
    (kk : X p l e R s m args below meth c cells slots Q nL G L b S' (pc + 3) lv st) : X p l e R s m args below meth c cells slots Q nL G L b S pc lv (v :: .ref (b + o) :: st) := by
  intro H locs ls h1 h2 h3
  obtain ⟨r, g1, cell, q1, q2, q3, q4⟩ := h1.2 o _ hL
  have hr : r = (D, T, N) := Option.some.inj (g1.symm.trans hc)
  subst hr
  have hap := zz_apart C.2.2.2.2.1 C.2.2.2.2.2.1 hc
  obtain ⟨hx, hb, hml, hown, hts, hK, -⟩ := C
  obtain ⟨hS, hfc, kC, hkC, hkind⟩ := hK.1.1 ci _ hc
  obtain ⟨cf, kf, fi, f, hi, hsl⟩ := hS k hk
  have hlay := hts _ (cls_in ci _ hc _ (u_in_lay hk))
  unfold u_lay at hlay
  rw [show (D, T, N).2.1 = T from rfl, hT, if_neg (show ¬ (false = true) by decide)] at hlay
  have hst := (u_facts hfc hkC (u_lays hts (cls_in ci _ hc) hk) hi).1
  rw [show (D, T, N).2.1 = T from rfl, hT] at hi
  have h6 := u_store hfc hkC hkind hlay hi hd hn hf
  refine W.putK hx hb (f := f) ⟨hown, hts _ w, ⟨_, _, _, hi⟩, hst⟩ (by rw [q2]; exact h6) q1 q3 (by rw [hsl]; exact k2_hasslot (q4 k hk)) rfl rfl d fun H' e1 e2 e3 => ?_
  rw [hsl] at e1 ⊢
  refine kk H' _ ls (h1.put hL ⟨_, hc, t_OB.to (V := updV (obV b S o ks) k v) ⟨_, e1, q2, q3, t_set q4 hap hk v⟩ (fun j _ => ?_)⟩ e2 e3 ho) (h2.put e2 e3 (Nat.le_add_right b o)) h3
  rw [hv j]
  rfl
theorem x_puti (C : CX p G s m args meth c cc y nL ret) {o ci k N index : Nat} {T : u_T} {D n : String} {ks : List Nat} {v : Int32} {S' : Sg} (hL : L.2 o = some (0, ci, ks)) (hc : classes[ci]? = some (D, T, N)) (hT : T k = (D, n, "I", false)) (w : Cond.fieldLink y.cls index D n "I" ∈ zz_all) (d : decode cc pc = .ok (.putfield index, 3)) (hk : k < N ∧ ks.getD k 2 = 0) (hS' : S' = setI S o k v)
    (kk : X p l e R s m args below meth c cells slots Q nL G L b S' (pc + 3) lv st) : X p l e R s m args below meth c cells slots Q nL G L b S pc lv (.int v :: .ref (b + o) :: st) := by
  subst hS'
  refine x_putv C hL hc hk.1 hT w d (ty := .int) (by decide +kernel) rfl rfl (fun j => ?_) (fun o' h => setI_o h) kk
  by_cases e : j = k
  · rw [if_pos e, e]
    unfold obV
    rw [hk.2]
    show Value.int (if o = o ∧ k = k then v else _) = _
    rw [if_pos ⟨rfl, rfl⟩]
  · rw [if_neg e]
    unfold obV
    match ks.getD j 2 with
    | 0 => show Value.int (if o = o ∧ j = k then v else _) = _; rw [if_neg (fun q => e q.2)]; rfl
    | 1 => rfl
    | 2 => rfl
    | r + 3 => rfl
theorem x_putz (C : CX p G s m args meth c cc y nL ret) {o ci k N index : Nat} {T : u_T} {D n : String} {ks : List Nat} {v : Int32} {S' : Sg} (hL : L.2 o = some (0, ci, ks)) (hc : classes[ci]? = some (D, T, N)) (hT : T k = (D, n, "Z", false)) (w : Cond.fieldLink y.cls index D n "Z" ∈ zz_all) (d : decode cc pc = .ok (.putfield index, 3)) (hk : k < N ∧ ks.getD k 2 = 0) (hb : isb v = true) (hS' : S' = setI S o k v)
    (kk : X p l e R s m args below meth c cells slots Q nL G L b S' (pc + 3) lv st) : X p l e R s m args below meth c cells slots Q nL G L b S pc lv (.int v :: .ref (b + o) :: st) := by
  subst hS'
  have hv : v = 0 ∨ v = 1 := of_decide_eq_true hb
  refine x_putv C hL hc hk.1 hT w d (ty := .boolean) (by decide +kernel) (by rcases hv with rfl | rfl <;> rfl) (by rcases hv with rfl | rfl <;> rfl) (fun j => ?_) (fun o' h => setI_o h) kk
  by_cases e : j = k
  · rw [if_pos e, e]
    unfold obV
    rw [hk.2]
    show Value.int (if o = o ∧ k = k then v else _) = _
    rw [if_pos ⟨rfl, rfl⟩]
  · rw [if_neg e]
    unfold obV
    match ks.getD j 2 with
    | 0 => show Value.int (if o = o ∧ j = k then v else _) = _; rw [if_neg (fun q => e q.2)]; rfl
    | 1 => rfl
    | 2 => rfl
    | r + 3 => rfl
theorem x_putj (C : CX p G s m args meth c cc y nL ret) {o ci k N index : Nat} {T : u_T} {D n : String} {ks : List Nat} {v : Int64} {S' : Sg} (hL : L.2 o = some (0, ci, ks)) (hc : classes[ci]? = some (D, T, N)) (hT : T k = (D, n, "J", false)) (w : Cond.fieldLink y.cls index D n "J" ∈ zz_all) (d : decode cc pc = .ok (.putfield index, 3)) (hk : k < N ∧ ks.getD k 2 = 1) (hS' : S' = setJ S o k v)
    (kk : X p l e R s m args below meth c cells slots Q nL G L b S' (pc + 3) lv st) : X p l e R s m args below meth c cells slots Q nL G L b S pc lv (.long v :: .ref (b + o) :: st) := by
  subst hS'
  refine x_putv C hL hc hk.1 hT w d (ty := .long) (by decide +kernel) rfl rfl (fun j => ?_) (fun o' h => setJ_o h) kk
  by_cases e : j = k
  · rw [if_pos e, e]
    unfold obV
    rw [hk.2]
    show Value.long (if o = o ∧ k = k then v else _) = _
    rw [if_pos ⟨rfl, rfl⟩]
  · rw [if_neg e]
    unfold obV
    match ks.getD j 2 with
    | 0 => rfl
    | 1 => show Value.long (if o = o ∧ j = k then v else _) = _; rw [if_neg (fun q => e q.2)]; rfl
    | 2 => rfl
    | r + 3 => rfl
-- arrays
theorem zz_ai (C : CX p G s m args meth c cc y nL ret) : ArrOfT s G.2.1 .int := (C.2.2.2.2.2.1.1.2 0 _ rfl).1
theorem zz_aj (C : CX p G s m args meth c cc y nL ret) : ArrOfT s G.2.2.1 .long := (C.2.2.2.2.2.1.1.2 1 _ rfl).1
theorem zz_aii (C : CX p G s m args meth c cc y nL ret) : ArrOfT s G.2.2.2.1 (.array .int) := (C.2.2.2.2.2.1.1.2 2 _ rfl).1
theorem zz_ajj (C : CX p G s m args meth c cc y nL ret) : ArrOfT s G.2.2.2.2 (.array .long) := (C.2.2.2.2.2.1.1.2 3 _ rfl).1
theorem x_iaload (C : CX p G s m args meth c cc y nL ret) {o n : Nat} {ks : List Nat} {i : Int32} (hL : L.2 o = some (1, n, ks)) (hin : inb i n = true) (d : decode cc pc = .ok (.iaload, 1))
    (kk : X p l e R s m args below meth c cells slots Q nL G L b S (pc + 1) lv (.int (S.1 o (ix i)) :: st)) : X p l e R s m args below meth c cells slots Q nL G L b S pc lv (.int i :: .ref (b + o) :: st) := by
  intro H locs ls h1 h2 h3
  have hin := inb_vp hin
  have hlt : i.toNatClampNeg < n := Nat.not_le.mp fun q => hin (Or.inr q)
  exact W.iald (v := .int (S.1 o (ix i))) C.1 C.2.1 (h1.2 o _ hL) (zz_ai C n (fun j => .int (S.1 o j))) (fun q => by cases q) (by show ¬ (i < 0 ∨ (arrV _ _ _).slots.size ≤ _); rw [arrV_size]; exact hin) (by show (arrV _ _ _).slots[_]? = _; rw [arrV_read _ _ hlt]; rfl) rfl rfl d (kk H locs ls h1 h2 h3)
theorem x_laload (C : CX p G s m args meth c cc y nL ret) {o n : Nat} {ks : List Nat} {i : Int32} (hL : L.2 o = some (2, n, ks)) (hin : inb i n = true) (d : decode cc pc = .ok (.laload, 1))
    (kk : X p l e R s m args below meth c cells slots Q nL G L b S (pc + 1) lv (.long (S.2 o (ix i)) :: st)) : X p l e R s m args below meth c cells slots Q nL G L b S pc lv (.int i :: .ref (b + o) :: st) := by
  intro H locs ls h1 h2 h3
  have hin := inb_vp hin
  have hlt : i.toNatClampNeg < n := Nat.not_le.mp fun q => hin (Or.inr q)
  exact W.lald (v := .long (S.2 o (ix i))) C.1 C.2.1 (h1.2 o _ hL) (zz_aj C n (fun j => .long (S.2 o j))) (fun q => by cases q) (by show ¬ (i < 0 ∨ (arrV _ _ _).slots.size ≤ _); rw [arrV_size]; exact hin) (by show (arrV _ _ _).slots[_]? = _; rw [arrV_read _ _ hlt]; rfl) rfl rfl d (kk H locs ls h1 h2 h3)
theorem x_aaloadI (C : CX p G s m args meth c cc y nL ret) {o n f : Nat} {i : Int32} (hL : L.2 o = some (3, n, [f])) (hin : inb i n = true) (d : decode cc pc = .ok (.aaload, 1))
    (kk : X p l e R s m args below meth c cells slots Q nL G L b S (pc + 1) lv (.ref (b + (f + ix i)) :: st)) : X p l e R s m args below meth c cells slots Q nL G L b S pc lv (.int i :: .ref (b + o) :: st) := by
  intro H locs ls h1 h2 h3
  have hin := inb_vp hin
  have hlt : i.toNatClampNeg < n := Nat.not_le.mp fun q => hin (Or.inr q)
  exact W.aald (v := .ref (b + (f + ix i))) (ty := .array .int) C.1 C.2.1 (h1.2 o _ hL) (zz_aii C n (fun j => .ref (b + (f + j)))) rfl (fun q => by cases q) (by show ¬ (i < 0 ∨ (arrV _ _ _).slots.size ≤ _); rw [arrV_size]; exact hin) (by show (arrV _ _ _).slots[_]? = _; rw [arrV_read _ _ hlt]; rfl) rfl rfl d (kk H locs ls h1 h2 h3)
theorem x_aaloadJ (C : CX p G s m args meth c cc y nL ret) {o n f : Nat} {i : Int32} (hL : L.2 o = some (4, n, [f])) (hin : inb i n = true) (d : decode cc pc = .ok (.aaload, 1))
    (kk : X p l e R s m args below meth c cells slots Q nL G L b S (pc + 1) lv (.ref (b + (f + ix i)) :: st)) : X p l e R s m args below meth c cells slots Q nL G L b S pc lv (.int i :: .ref (b + o) :: st) := by
  intro H locs ls h1 h2 h3
  have hin := inb_vp hin
  have hlt : i.toNatClampNeg < n := Nat.not_le.mp fun q => hin (Or.inr q)
  exact W.aald (v := .ref (b + (f + ix i))) (ty := .array .long) C.1 C.2.1 (h1.2 o _ hL) (zz_ajj C n (fun j => .ref (b + (f + j)))) rfl (fun q => by cases q) (by show ¬ (i < 0 ∨ (arrV _ _ _).slots.size ≤ _); rw [arrV_size]; exact hin) (by show (arrV _ _ _).slots[_]? = _; rw [arrV_read _ _ hlt]; rfl) rfl rfl d (kk H locs ls h1 h2 h3)
theorem x_alenI (C : CX p G s m args meth c cc y nL ret) {o n : Nat} {ks : List Nat} {v : Int32} (hL : L.2 o = some (1, n, ks)) (hv : Int32.ofNat n = v) (d : decode cc pc = .ok (.arraylength, 1))
    (kk : X p l e R s m args below meth c cells slots Q nL G L b S (pc + 1) lv (.int v :: st)) : X p l e R s m args below meth c cells slots Q nL G L b S pc lv (.ref (b + o) :: st) := by
  intro H locs ls h1 h2 h3
  subst hv
  exact W.alen (n := Int32.ofNat n) C.1 C.2.1 (h1.2 o _ hL) (zz_ai C n (fun j => .int (S.1 o j))) (by rw [arrV_size] <;> rfl) rfl rfl d (kk H locs ls h1 h2 h3)
theorem x_iastore (C : CX p G s m args meth c cc y nL ret) {o n : Nat} {ks : List Nat} {i v : Int32} {S' : Sg} (hL : L.2 o = some (1, n, ks)) (hin : inb i n = true) (hS' : S' = setI S o (ix i) v) (d : decode cc pc = .ok (.iastore, 1))
    (kk : X p l e R s m args below meth c cells slots Q nL G L b S' (pc + 1) lv st) : X p l e R s m args below meth c cells slots Q nL G L b S pc lv (.int v :: .int i :: .ref (b + o) :: st) := by
  subst hS'
  intro H locs ls h1 h2 h3
  have hin := inb_vp hin
  refine W.iast C.1 C.2.1 (h1.2 o _ hL) (zz_ai C n (fun j => .int (S.1 o j))) (fun q => by cases q) (by show ¬ (i < 0 ∨ (arrV _ _ _).slots.size ≤ _); rw [arrV_size]; exact hin) rfl rfl d fun H1 e z oq => ?_
  refine kk H1 _ ls (h1.put hL ?_ z oq (fun o' h => setI_o h)) (h2.put z oq (Nat.le_add_right b o)) h3
  show H1[b + o]? = some (arrV _ _ _)
  rw [e, arrV_store]
  congr 2
  funext q
  show (if q = i.toNatClampNeg then Value.int v else .int (S.1 o q)) = .int (if o = o ∧ q = ix i then v else S.1 o q)
  by_cases hq : q = i.toNatClampNeg
  · rw [if_pos hq, if_pos ⟨rfl, hq⟩]
  · rw [if_neg hq, if_neg (fun z => hq z.2)]
theorem x_lastore (C : CX p G s m args meth c cc y nL ret) {o n : Nat} {ks : List Nat} {i : Int32} {v : Int64} {S' : Sg} (hL : L.2 o = some (2, n, ks)) (hin : inb i n = true) (hS' : S' = setJ S o (ix i) v) (d : decode cc pc = .ok (.lastore, 1))
    (kk : X p l e R s m args below meth c cells slots Q nL G L b S' (pc + 1) lv st) : X p l e R s m args below meth c cells slots Q nL G L b S pc lv (.long v :: .int i :: .ref (b + o) :: st) := by
  subst hS'
  intro H locs ls h1 h2 h3
  have hin := inb_vp hin
  refine W.last C.1 C.2.1 (h1.2 o _ hL) (zz_aj C n (fun j => .long (S.2 o j))) (fun q => by cases q) (by show ¬ (i < 0 ∨ (arrV _ _ _).slots.size ≤ _); rw [arrV_size]; exact hin) rfl rfl d fun H1 e z oq => ?_
  refine kk H1 _ ls (h1.put hL ?_ z oq (fun o' h => setJ_o h)) (h2.put z oq (Nat.le_add_right b o)) h3
  show H1[b + o]? = some (arrV _ _ _)
  rw [e, arrV_store]
  congr 2
  funext q
  show (if q = i.toNatClampNeg then Value.long v else .long (S.2 o q)) = .long (if o = o ∧ q = ix i then v else S.2 o q)
  by_cases hq : q = i.toNatClampNeg
  · rw [if_pos hq, if_pos ⟨rfl, hq⟩]
  · rw [if_neg hq, if_neg (fun z => hq z.2)]
-- returns
theorem zz_end (C : CX p G s m args meth c cc y nL ret) {H : Heap} {locs : List Loc} {r : Option Value} {ex : Prop} (he : ex) (h1 : HM G L b S H) (h2 : va_S (fun q => b ≤ q) s.heap H locs) : ∀ t : State, t.heap = H → s.WarmedH t.vm → QC G L b S r ex args s (.returned r) t := fun t ht hW => ⟨rfl, he, by rw [ht]; exact h1, by show s.heap.size ≤ t.heap.size; rw [ht]; exact h2.1, fun q hq hA => by rw [ht]; exact h2.2.1 q hq hA⟩
theorem x_ireturn (C : CX p G s m args meth c cc y nL (some .int)) {S' : Sg} {v r : Int32} (d : decode cc pc = .ok (.ireturn, 1)) (hv : v = r) (hS : S = S') : X p l e R s m args below meth c cells slots (MQ below (QC G L b S' (some (.int r)) True) args s cells slots (fun q => b ≤ q)) nL G L b S pc lv [.int v] := by
  subst hv; subst hS
  intro H locs ls h1 h2 h3
  exact W.iret C.1 C.2.1 C.2.2.2.2.2.2.2.1 (zz_end C trivial h1 h2) h2.2.2 d C.2.2.2.2.2.2.1
theorem x_zreturn (C : CX p G s m args meth c cc y nL (some .boolean)) {S' : Sg} {v r : Int32} (hb : v = 0 ∨ v = 1) (d : decode cc pc = .ok (.ireturn, 1)) (hv : v = r) (hS : S = S') : X p l e R s m args below meth c cells slots (MQ below (QC G L b S' (some (.int r)) (r = 0 ∨ r = 1)) args s cells slots (fun q => b ≤ q)) nL G L b S pc lv [.int v] := by
  subst hv; subst hS
  intro H locs ls h1 h2 h3
  exact W.zret C.1 C.2.1 C.2.2.2.2.2.2.2.1 (by rcases hb with rfl | rfl <;> rfl) (zz_end C hb h1 h2) h2.2.2 d C.2.2.2.2.2.2.1
theorem x_lreturn (C : CX p G s m args meth c cc y nL (some .long)) {S' : Sg} {v r : Int64} (d : decode cc pc = .ok (.lreturn, 1)) (hv : v = r) (hS : S = S') : X p l e R s m args below meth c cells slots (MQ below (QC G L b S' (some (.long r)) True) args s cells slots (fun q => b ≤ q)) nL G L b S pc lv [.long v] := by
  subst hv; subst hS
  intro H locs ls h1 h2 h3
  exact W.lret C.1 C.2.1 C.2.2.2.2.2.2.2.1 (zz_end C trivial h1 h2) h2.2.2 d C.2.2.2.2.2.2.1
theorem x_vreturn (C : CX p G s m args meth c cc y nL none) {S' : Sg} (d : decode cc pc = .ok (.return_, 1)) (hS : S = S') : X p l e R s m args below meth c cells slots (MQ below (QC G L b S' none True) args s cells slots (fun q => b ≤ q)) nL G L b S pc lv [] := by
  subst hS
  intro H locs ls h1 h2 h3
  exact W.vret C.1 C.2.1 C.2.2.2.2.2.2.2.1 (zz_end C trivial h1 h2) h2.2.2 d C.2.2.2.2.2.2.1
end ZX
end
section
-- a method's contract out of a walk of its body
theorem x_met {l : Launch} {y : MethodName} {cc : ByteArray} {nL : Nat} {ret : Option FieldType} {rm : Room} {G : zz_G} {L : Ly} {b : Nat} {S : Sg} {Qc : Array Value → State → Outcome → State → Prop} {mc ms : Nat} (av : List Value) (hy : plainName y.cls = true) (hn : (lg_sl av).length ≤ nL)
    (body : ∀ (p : Program) (e : Env) (s : State) (m : MethodId) (args : Array Value) (below : List Frame) (meth : Method) (c : Code), CX p G s m args meth c cc y nL ret → X p l e rm s m args below meth c 0 0 (MQ below Qc args s mc ms (fun q => b ≤ q)) nL G L b S 0 (lv_args 0 av) []) :
    Met l y (Cond.code y cc nL ret :: zz_all) rm (PC G L b S av) Qc mc ms (fun q => b ≤ q) := by
  refine Met.ofW (cc := cc) (maxL := nL) (ret := ret) hy rfl ?_
  intro p e s m args below meth c s₁ B hml hv
  obtain ⟨rfl, hM, hK⟩ := hv
  have hts := atoms_spec (ws := Cond.code y cc nL ret :: zz_all) B.pre
  have hCX : CX p G s m av.toArray meth c cc y nL ret := ⟨B.exec, B.bytes, hml, findClass_of_methodNamed B.named, fun w hw => hts w (List.mem_cons_of_mem _ hw), hK, B.notSynchronized, B.returns, (name_of_methodNamed B.named B.method).1⟩
  rw [lg_entry_eq]
  exact body p e s m av.toArray below meth c hCX s.heap [] _ hM va_S.rf (lv_entry av hn)
theorem PC.blind {G : zz_G} {L : Ly} {b : Nat} {S : Sg} {av : List Value} : FrameBlind (PC G L b S av) := fun a U g mk q => ⟨q.1, q.2.1, q.2.2.same rfl⟩
/-- what a call's row asks of the words -/
def zz_cw (own : String) (idx : Nat) (y : MethodName) (cc : ByteArray) (nL : Nat) (ret : Option FieldType) (n : Nat) : Prop :=
  Cond.methodLink own idx y ∈ zz_all ∧ Cond.code y cc nL ret ∈ zz_all ∧ Cond.initialized y.cls ∈ zz_all ∧ (y.cls ≠ "java/lang/invoke/MethodHandle" ∧ y.cls ≠ "java/lang/invoke/VarHandle") ∧ (parseMethodDescriptor y.desc).map (fun d => d.parameters.length) = some n
def zz_cn (own : String) (idx : Nat) (y : MethodName) (cc : ByteArray) (nL : Nat) (ret : Option FieldType) (n : Nat) (host : String) : Prop :=
  (own, idx, y, host) ∈ zz_nest ∧ Cond.code y cc nL ret ∈ zz_all ∧ Cond.initialized y.cls ∈ zz_all ∧ (y.cls ≠ "java/lang/invoke/MethodHandle" ∧ y.cls ≠ "java/lang/invoke/VarHandle") ∧ (parseMethodDescriptor y.desc).map (fun d => d.parameters.length) = some n
def zz_fit (R rm : Room) (mc ms nL : Nat) : Prop := rm.cells = mc ∧ rm.slots = ms ∧ rm.frames + 1 ≤ R.frames ∧ 8 + (nL + 11) + rm.locals ≤ R.locals
section ZC
variable {p : Program} {l : Launch} {e : Env} {R : Room} {s : State} {m : MethodId} {args : Array Value} {below : List Frame} {meth : Method} {c : Code} {cells slots : Nat} {Q : State → Prop} {nL : Nat} {G : zz_G} {L : Ly} {b : Nat} {S : Sg} {pc : Nat} {lv : List (Nat × Value)} {st : List Value} {cc : ByteArray} {y : MethodName} {ret : Option FieldType}
variable {H : Heap} {locs : List Loc}
theorem zz_len {y2 : MethodName} {n : Nat} (h : (parseMethodDescriptor y2.desc).map (fun d => d.parameters.length) = some n) : ∀ sig, parseMethodDescriptor y2.desc = some sig → n = sig.parameters.length := by
  intro sig hs
  rw [hs] at h
  exact (Option.some.inj h).symm
theorem zz_callB (C : CX p G s m args meth c cc y nL ret) {idx n2 k mc ms : Nat} {y2 : MethodName} {c2 : ByteArray} {r2 : Option FieldType} {rm : Room} (w : zz_cw y.cls idx y2 c2 n2 r2 k) (hr : zz_fit R rm mc ms n2) : CallB R s args y.cls idx y2 c2 n2 r2 (Cond.code y2 c2 n2 r2 :: zz_all) rm mc ms k := by
  obtain ⟨w1, w2, w3, w4, w5⟩ := w
  obtain ⟨r1, r2', r3, r4⟩ := hr
  have ht := C.2.2.2.2.1
  exact ⟨r1, r2', r3, r4, pay_in ht (zz_good w2 (fun _ h => h)), List.mem_cons_self, ht _ w2, ht _ w3, w4, zz_len w5, ht _ w1⟩
theorem zz_callN (C : CX p G s m args meth c cc y nL ret) {idx n2 k mc ms : Nat} {y2 : MethodName} {c2 : ByteArray} {r2 : Option FieldType} {rm : Room} {host : String} (w : zz_cn y.cls idx y2 c2 n2 r2 k host) (hr : zz_fit R rm mc ms n2) : va_CN R s args y.cls idx y2 host c2 n2 r2 (Cond.code y2 c2 n2 r2 :: zz_all) rm mc ms k := by
  obtain ⟨w1, w2, w3, w4, w5⟩ := w
  obtain ⟨r1, r2', r3, r4⟩ := hr
  have ht := C.2.2.2.2.1
  exact ⟨⟨r1, r2', r3, r4, pay_in ht (zz_good w2 (fun _ h => h)), List.mem_cons_self⟩, ht _ w2, ht _ w3, w4, zz_len w5, va_Nw.use rfl (C.2.2.2.2.2.1.2 _ w1)⟩
theorem zz_fix (C : CX p G s m args meth c cc y nL ret) : CallFix p m c cc nL s args zz_all y.cls := ⟨C.1, C.2.1, C.2.2.1, C.2.2.2.1, C.2.2.2.2.1⟩
/-- what goes on behind a call -/
theorem zz_back {mc ms : Nat} {L' : Ly} {S' : Sg} {v : Option Value} {ex : Prop} {a : Array Value} {ls : Array Slot} {st0 rest : List Value} (hr : va_Run p l e R s m args below meth c H locs cells slots mc ms (F0 m pc ls st0) rest (QC G L' b S' v ex a) (fun q => b ≤ q)) (h2 : va_S (fun q => b ≤ q) s.heap H locs) (h3 : lv_has ls nL lv)
    (kk : ex → X p l e R s m args below meth c (cells + mc) (slots + ms) Q nL G L' b S' (pc + 3) lv (v.toList ++ rest)) : W p l e R s m args below meth c H locs cells slots Q (F0 m pc ls st0) := by
  intro T hT Y
  obtain ⟨v', st₀, t, T', Ls, h0, Y', hL, e1, e2, ⟨hv, hex, hM, hz, hk⟩, stp⟩ := hr T hT Y
  have hv := Outcome.returned.inj hv
  subst hv
  rw [h0] at hz hk
  obtain ⟨t2, a1, b1⟩ := kk hex T'.heap (locs ++ Ls) ls (by rw [e1]; exact hM) ⟨Nat.le_trans h2.1 (by rw [e1]; exact hz), fun q g1 g2 => by rw [e1, hk q (Nat.lt_of_lt_of_le g1 h2.1) g2]; exact h2.2.1 q g1 g2, fun q hq => by
      rcases List.mem_append.mp hq with h | h
      · exact h2.2.2 q h
      · exact hL q h⟩ h3 T' rfl Y'
  exact ⟨t2, stp t2 a1, b1⟩
theorem x_callV (C : CX p G s m args meth c cc y nL ret) {y2 : MethodName} {c2 : ByteArray} {r2 : Option FieldType} {rm : Room} {o k n2 idx mc ms : Nat} {L' : Ly} {S' : Sg} {v : Option Value} {ex : Prop} {sh : Sh} {q : vw_C} (As rest : List Value) (hM : Met l y2 (Cond.code y2 c2 n2 r2 :: zz_all) rm (PC G L b S (.ref (b + o) :: As)) (QC G L' b S' v ex) mc ms (fun q => b ≤ q))
    (w : zz_cw y.cls idx y2 c2 n2 r2 k) (ws : Cond.instanceMethod y2 ∈ zz_all ∧ Cond.selects y2.cls y2 y2 ∈ zz_all) (hr : zz_fit R rm mc ms n2) (hc : cells + mc ≤ R.cells ∧ slots + ms ≤ R.slots) (hL : L.2 o = some sh) (hq : sh.1 = 0 ∧ classes[sh.2.1]? = some q ∧ q.1 = y2.cls) (hst : st = As.reverse ++ .ref (b + o) :: rest) (hk : As.length = k ∧ (rest.map fun v => v.category).sum ≤ 8) (d : decode cc pc = .ok (.invokevirtual idx, 3))
    (kk : ex → X p l e R s m args below meth c (cells + mc) (slots + ms) Q nL G L' b S' (pc + 3) lv (v.toList ++ rest)) : X p l e R s m args below meth c cells slots Q nL G L b S pc lv st := by
  subst hst
  intro H locs ls h1 h2 h3
  refine zz_back (va_runV (C := y2.cls) (As := As) (rest := rest) (zz_fix C) hM ⟨zz_callB C w hr, C.2.2.2.2.1 _ ws.1, C.2.2.2.2.1 _ ws.2⟩ ⟨PC.blind, ?_, fun U hU hW => ⟨rfl, by rw [hU]; exact h1, C.2.2.2.2.2.1.warm hW⟩⟩ rfl hk.1 h3.1 rfl (lv_room hk.2) d hc) h2 h3 kk
  obtain ⟨t, ci, ks⟩ := sh
  obtain ⟨rfl, hc1, hc2⟩ := hq
  obtain ⟨r, g1, cell, q1, q2, q3, -⟩ := h1.2 o _ hL
  cases g1.symm.trans hc1
  exact ⟨cell, q1, by rw [q3]; rfl, by rw [q2, ← hc2]; exact (C.2.2.2.2.2.1.1.1 ci _ hc1).2.1⟩
theorem x_callS (C : CX p G s m args meth c cc y nL ret) {y2 : MethodName} {c2 : ByteArray} {r2 : Option FieldType} {rm : Room} {k n2 idx : Nat} {S' : Sg} {v : Option Value} {ex : Prop} (As rest : List Value) (hM : Met l y2 (Cond.code y2 c2 n2 r2 :: zz_all) rm (PC G L b S As) (QC G L b S' v ex) 0 0 (fun q => b ≤ q))
    (w : zz_cw y.cls idx y2 c2 n2 r2 k) (ws : Cond.static y2 ∈ zz_all) (hr : zz_fit R rm 0 0 n2) (hc : cells + 0 ≤ R.cells ∧ slots + 0 ≤ R.slots) (hst : st = As.reverse ++ rest) (hk : As.length = k ∧ (rest.map fun v => v.category).sum ≤ 8) (d : decode cc pc = .ok (.invokestatic idx, 3))
    (kk : ex → X p l e R s m args below meth c (cells + 0) (slots + 0) Q nL G L b S' (pc + 3) lv (v.toList ++ rest)) : X p l e R s m args below meth c cells slots Q nL G L b S pc lv st := by
  subst hst
  intro H locs ls h1 h2 h3
  exact zz_back (va_runS (As := As) (rest := rest) (zz_fix C) hM ⟨zz_callB C w hr, C.2.2.2.2.1 _ ws⟩ ⟨PC.blind, fun U hU hW => ⟨rfl, by rw [hU]; exact h1, C.2.2.2.2.2.1.warm hW⟩⟩ rfl hk.1 h3.1 rfl (lv_room hk.2) d hc) h2 h3 kk
theorem x_callSN (C : CX p G s m args meth c cc y nL ret) {y2 : MethodName} {c2 : ByteArray} {r2 : Option FieldType} {rm : Room} {k n2 idx : Nat} {S' : Sg} {v : Option Value} {ex : Prop} {host : String} (As rest : List Value) (hM : Met l y2 (Cond.code y2 c2 n2 r2 :: zz_all) rm (PC G L b S As) (QC G L b S' v ex) 0 0 (fun q => b ≤ q))
    (w : zz_cn y.cls idx y2 c2 n2 r2 k host) (ws : Cond.static y2 ∈ zz_all) (hr : zz_fit R rm 0 0 n2) (hc : cells + 0 ≤ R.cells ∧ slots + 0 ≤ R.slots) (hst : st = As.reverse ++ rest) (hk : As.length = k ∧ (rest.map fun v => v.category).sum ≤ 8) (d : decode cc pc = .ok (.invokestatic idx, 3))
    (kk : ex → X p l e R s m args below meth c (cells + 0) (slots + 0) Q nL G L b S' (pc + 3) lv (v.toList ++ rest)) : X p l e R s m args below meth c cells slots Q nL G L b S pc lv st := by
  subst hst
  intro H locs ls h1 h2 h3
  exact zz_back (va_runSN (As := As) (rest := rest) (zz_fix C) hM ⟨zz_callN C w hr, C.2.2.2.2.1 _ ws, trivial⟩ ⟨PC.blind, fun U hU hW => ⟨rfl, by rw [hU]; exact h1, C.2.2.2.2.2.1.warm hW⟩⟩ rfl hk.1 h3.1 rfl (lv_room hk.2) d hc) h2 h3 kk
theorem zz_nn (z : Int32) (hz : ¬ z < 0) : z.toInt = (z.toNatClampNeg : Int) := by
  have hz0 : (0 : Int) ≤ z.toInt := by
    have := Int32.not_lt.mp hz
    simpa using Int32.le_iff_toInt_le.mp this
  show z.toInt = ((z.toInt.toNat : Nat) : Int)
  omega
def zz_sysw (own : String) (idx : Nat) : Prop := Cond.methodLink own idx arraycopyName ∈ zz_all ∧ Cond.native arraycopyName ∈ zz_all ∧ Cond.static arraycopyName ∈ zz_all ∧ Cond.initialized "java/lang/System" ∈ zz_all
theorem x_acpI (C : CX p G s m args meth c cc y nL ret) {a dd n0 n1 idx : Nat} {sp dp n : Int32} {k0 k1 : List Nat} {S' : Sg} (w : zz_sysw y.cls idx) (hL0 : L.2 a = some (1, n0, k0)) (hL1 : L.2 dd = some (1, n1, k1)) (ok : cpok sp dp n n0 n1 = true) (hS' : S' = cpI S a sp dd dp n) (hR : 1 ≤ R.frames ∧ 26 ≤ R.locals) (hk : (st.map fun v => v.category).sum ≤ 8) (d : decode cc pc = .ok (.invokestatic idx, 3))
    (kk : X p l e R s m args below meth c cells slots Q nL G L b S' (pc + 3) lv st) : X p l e R s m args below meth c cells slots Q nL G L b S pc lv (.int n :: .int dp :: .ref (b + dd) :: .int sp :: .ref (b + a) :: st) := by
  subst hS'
  obtain ⟨o1, o2, o3, o4, o5⟩ := of_decide_eq_true ok
  intro H locs ls h1 h2 h3 T hT Y
  have hx := C.1
  have hb := C.2.1
  have hts := C.2.2.2.2.1
  have hc0 := h1.2 a _ hL0
  have hc1 := h1.2 dd _ hL1
  obtain ⟨-, k0, hk0, cm0, hkk0⟩ := zz_ai C n0 (fun j => .int (S.1 a j))
  obtain ⟨-, k1, hk1, cm1, hkk1⟩ := zz_ai C n1 (fun j => .int (S.1 dd j))
  obtain ⟨vm', Y', step⟩ := Y.arraycopy hx C.2.2.2.1 (hts _ w.1) (hts _ w.2.1) (hts _ w.2.2.1) (hts _ w.2.2.2) (src := b + a) (dst := b + dd) (srcPos := sp) (destPos := dp) (n := n) (by rw [hT]; exact hc0) (by rw [hT]; exact hc1)
    (fun _ h => by cases h) (fun _ h => by cases h) (fun h => by cases h) (fun h => by cases h) hk0 hk1 hkk0 hkk1 (by decide) o1 o2 o3
    (by rw [zz_nn sp o1, zz_nn n o3, arrV_size]; unfold ix at o4; omega)
    (by rw [zz_nn dp o2, zz_nn n o3, arrV_size]; unfold ix at o5; omega)
    (fun vm₁ _ i hi => by
      have e : (arrV G.2.1 n0 (fun j => Value.int (S.1 a j))).slots.getD (sp.toNatClampNeg + i) .null = .int (S.1 a (sp.toNatClampNeg + i)) := by
        rw [Array.getD_eq_getD_getElem?, arrV_read _ _ (by unfold ix at o4; omega)]
        rfl
      refine ⟨?_, ?_⟩
      · rw [e]; rfl
      · rw [e]
        exact trivial)
    (g := F0 m pc ls (.int n :: .int dp :: .ref (b + dd) :: .int sp :: .ref (b + a) :: st)) rfl (by rw [C.2.2.1]; exact h3.1) (rest := st) rfl (by rw [hb]; exact d) hR.1 (by show 2 * 0 + _ + (7 + 11) ≤ _; omega)
  have e1 : copied (arrV G.2.1 n0 (fun j => Value.int (S.1 a j))) (arrV G.2.1 n1 (fun j => Value.int (S.1 dd j))) sp dp n = arrV G.2.1 n1 (fun j => Value.int (va_cpy (S.1 a) (S.1 dd) (ix sp) (ix dp) (ix n) j)) := va_copied (fun z => Value.int z) G.2.1 G.2.1 (S.1 a) (S.1 dd) o4
  rw [e1] at Y' step
  have hl : b + dd < H.size := (Array.getElem?_eq_some_iff.mp hc1).1
  have hheap : ((T.setVm vm').setCell (b + dd) (arrV G.2.1 n1 (fun j => Value.int (va_cpy (S.1 a) (S.1 dd) (ix sp) (ix dp) (ix n) j)))).heap = H.setIfInBounds (b + dd) (arrV G.2.1 n1 (fun j => Value.int (va_cpy (S.1 a) (S.1 dd) (ix sp) (ix dp) (ix n) j))) := by rw [← hT]; rfl
  have oq : ∀ q : Nat, q ≠ b + dd → (H.setIfInBounds (b + dd) (arrV G.2.1 n1 (fun j => Value.int (va_cpy (S.1 a) (S.1 dd) (ix sp) (ix dp) (ix n) j))))[q]? = H[q]? := fun q hq => by simp [Array.getElem?_setIfInBounds, Ne.symm hq]
  obtain ⟨t, a1, b1⟩ := kk _ _ ls (h1.put (S' := cpI S a sp dd dp n) hL1 (by
      show (H.setIfInBounds (b + dd) _)[b + dd]? = some (arrV G.2.1 n1 (fun j => Value.int ((if dd = dd then va_cpy (S.1 a) (S.1 dd) (ix sp) (ix dp) (ix n) else S.1 dd) j)))
      rw [if_pos rfl]
      simp [Array.getElem?_setIfInBounds, hl]) (by simp) oq (fun o' h => fillI_o h)) ⟨by simp; exact h2.1, fun q g1 g2 => by
      rw [oq q (fun e => g2 (by rw [e]; exact Nat.le_add_right b dd))]
      exact h2.2.1 q g1 g2, fun q hq => by
      rcases List.mem_append.mp hq with h | h
      · exact h2.2.2 q h
      · obtain ⟨z, -, hz⟩ := List.mem_map.mp h
        rw [← hz]
        exact Nat.le_add_right b dd⟩ h3 _ hheap Y'
  exact ⟨t, step t a1, b1⟩
theorem x_acpJ (C : CX p G s m args meth c cc y nL ret) {a dd n0 n1 idx : Nat} {sp dp n : Int32} {k0 k1 : List Nat} {S' : Sg} (w : zz_sysw y.cls idx) (hL0 : L.2 a = some (2, n0, k0)) (hL1 : L.2 dd = some (2, n1, k1)) (ok : cpok sp dp n n0 n1 = true) (hS' : S' = cpJ S a sp dd dp n) (hR : 1 ≤ R.frames ∧ 26 ≤ R.locals) (hk : (st.map fun v => v.category).sum ≤ 8) (d : decode cc pc = .ok (.invokestatic idx, 3))
    (kk : X p l e R s m args below meth c cells slots Q nL G L b S' (pc + 3) lv st) : X p l e R s m args below meth c cells slots Q nL G L b S pc lv (.int n :: .int dp :: .ref (b + dd) :: .int sp :: .ref (b + a) :: st) := by
  subst hS'
  obtain ⟨o1, o2, o3, o4, o5⟩ := of_decide_eq_true ok
  intro H locs ls h1 h2 h3 T hT Y
  have hx := C.1
  have hb := C.2.1
  have hts := C.2.2.2.2.1
  have hc0 := h1.2 a _ hL0
  have hc1 := h1.2 dd _ hL1
  obtain ⟨-, k0, hk0, cm0, hkk0⟩ := zz_aj C n0 (fun j => .long (S.2 a j))
  obtain ⟨-, k1, hk1, cm1, hkk1⟩ := zz_aj C n1 (fun j => .long (S.2 dd j))
  obtain ⟨vm', Y', step⟩ := Y.arraycopy hx C.2.2.2.1 (hts _ w.1) (hts _ w.2.1) (hts _ w.2.2.1) (hts _ w.2.2.2) (src := b + a) (dst := b + dd) (srcPos := sp) (destPos := dp) (n := n) (by rw [hT]; exact hc0) (by rw [hT]; exact hc1)
    (fun _ h => by cases h) (fun _ h => by cases h) (fun h => by cases h) (fun h => by cases h) hk0 hk1 hkk0 hkk1 (by decide) o1 o2 o3
    (by rw [zz_nn sp o1, zz_nn n o3, arrV_size]; unfold ix at o4; omega)
    (by rw [zz_nn dp o2, zz_nn n o3, arrV_size]; unfold ix at o5; omega)
    (fun vm₁ _ i hi => by
      have e : (arrV G.2.2.1 n0 (fun j => Value.long (S.2 a j))).slots.getD (sp.toNatClampNeg + i) .null = .long (S.2 a (sp.toNatClampNeg + i)) := by
        rw [Array.getD_eq_getD_getElem?, arrV_read _ _ (by unfold ix at o4; omega)]
        rfl
      refine ⟨?_, ?_⟩
      · rw [e]; rfl
      · rw [e]
        exact trivial)
    (g := F0 m pc ls (.int n :: .int dp :: .ref (b + dd) :: .int sp :: .ref (b + a) :: st)) rfl (by rw [C.2.2.1]; exact h3.1) (rest := st) rfl (by rw [hb]; exact d) hR.1 (by show 2 * 0 + _ + (7 + 11) ≤ _; omega)
  have e1 : copied (arrV G.2.2.1 n0 (fun j => Value.long (S.2 a j))) (arrV G.2.2.1 n1 (fun j => Value.long (S.2 dd j))) sp dp n = arrV G.2.2.1 n1 (fun j => Value.long (va_cpy (S.2 a) (S.2 dd) (ix sp) (ix dp) (ix n) j)) := va_copied (fun z => Value.long z) G.2.2.1 G.2.2.1 (S.2 a) (S.2 dd) o4
  rw [e1] at Y' step
  have hl : b + dd < H.size := (Array.getElem?_eq_some_iff.mp hc1).1
  have hheap : ((T.setVm vm').setCell (b + dd) (arrV G.2.2.1 n1 (fun j => Value.long (va_cpy (S.2 a) (S.2 dd) (ix sp) (ix dp) (ix n) j)))).heap = H.setIfInBounds (b + dd) (arrV G.2.2.1 n1 (fun j => Value.long (va_cpy (S.2 a) (S.2 dd) (ix sp) (ix dp) (ix n) j))) := by rw [← hT]; rfl
  have oq : ∀ q : Nat, q ≠ b + dd → (H.setIfInBounds (b + dd) (arrV G.2.2.1 n1 (fun j => Value.long (va_cpy (S.2 a) (S.2 dd) (ix sp) (ix dp) (ix n) j))))[q]? = H[q]? := fun q hq => by simp [Array.getElem?_setIfInBounds, Ne.symm hq]
  obtain ⟨t, a1, b1⟩ := kk _ _ ls (h1.put (S' := cpJ S a sp dd dp n) hL1 (by
      show (H.setIfInBounds (b + dd) _)[b + dd]? = some (arrV G.2.2.1 n1 (fun j => Value.long ((if dd = dd then va_cpy (S.2 a) (S.2 dd) (ix sp) (ix dp) (ix n) else S.2 dd) j)))
      rw [if_pos rfl]
      simp [Array.getElem?_setIfInBounds, hl]) (by simp) oq (fun o' h => fillJ_o h)) ⟨by simp; exact h2.1, fun q g1 g2 => by
      rw [oq q (fun e => g2 (by rw [e]; exact Nat.le_add_right b dd))]
      exact h2.2.1 q g1 g2, fun q hq => by
      rcases List.mem_append.mp hq with h | h
      · exact h2.2.2 q h
      · obtain ⟨z, -, hz⟩ := List.mem_map.mp h
        rw [← hz]
        exact Nat.le_add_right b dd⟩ h3 _ hheap Y'
  exact ⟨t, step t a1, b1⟩
end ZC
theorem of_ifp {c : Prop} [Decidable c] {α : Sort _} {t e y : α} (hc : c) (h : (if c then t else e) = y) : t = y := by rw [if_pos hc] at h; exact h
theorem of_ifn {c : Prop} [Decidable c] {α : Sort _} {t e y : α} (hc : ¬ c) (h : (if c then t else e) = y) : e = y := by rw [if_neg hc] at h; exact h
theorem of_none {α : Type _} {y : α} {P : Prop} (h : (none : Option α) = some y) : P := by cases h
def bs {ρ σ τ : Type _} (x : Option (ρ ⊕ σ)) (f : ρ → Option τ) (g : σ → Option τ) : Option τ := match x with
  | some (.inl a) => f a
  | some (.inr a) => g a
  | none => none
theorem of_bs {ρ σ τ : Type _} {x : Option (ρ ⊕ σ)} {f : ρ → Option τ} {g : σ → Option τ} {y : τ} (h : bs x f g = some y) : ∃ z, x = some z ∧ (∀ a, z = .inl a → f a = some y) ∧ (∀ a, z = .inr a → g a = some y) := by
  match x, h with
  | some (.inl a), h => exact ⟨.inl a, rfl, fun b e => (Sum.inl.inj e) ▸ h, fun b e => (nomatch e)⟩
  | some (.inr a), h => exact ⟨.inr a, rfl, fun b e => (nomatch e), fun b e => (Sum.inr.inj e) ▸ h⟩
  | none, h => cases h
theorem of_s2 {α β : Type _} {x y : α} {u v : β} (h : some (x, u) = some (y, v)) : x = y ∧ u = v := of_sp h
theorem if01 {c : Prop} [Decidable c] {a b : Int32} (ha : a = 0 ∨ a = 1) (hb : b = 0 ∨ b = 1) : (if c then a else b) = 0 ∨ (if c then a else b) = 1 := by
  by_cases h : c
  · rw [if_pos h]; exact ha
  · rw [if_neg h]; exact hb
theorem of_isb {v : Int32} (h : isb v = true) : v = 0 ∨ v = 1 := of_decide_eq_true h
theorem inb_lt {i : Int32} {n : Nat} (h : inb i n = true) : ix i < n := Nat.not_le.mp fun q => inb_vp h (Or.inr q)
section ZL
variable {p : Program} {l : Launch} {e : Env} {R : Room} {s : State} {m : MethodId} {args : Array Value} {below : List Frame} {meth : Method} {c : Code} {cells slots : Nat} {Q : State → Prop} {nL : Nat} {G : zz_G} {L : Ly} {b : Nat} {S : Sg} {pc : Nat} {lv : List (Nat × Value)} {st : List Value} {cc : ByteArray} {y : MethodName} {ret : Option FieldType}
/-- a lookup switch: the target that is taken, as a chain of comparisons says it -/
theorem x_look (C : CX p G s m args meth c cc y nL ret) {dflt : Int} {ps : Array (Int × Int)} {len : Nat} {x : Int32} {off : Int} (tgt : Nat) (d : decode cc pc = .ok (.lookupswitch dflt ps, len)) (hp : (ps.toList.zip (ps.toList.drop 1)).all (fun (a, next) => a.1 < next.1) = true) (ho : Op.lookupswitch.offset ps.toList dflt x.toInt = off) (ht : (pc : Int) + off = (tgt : Int)) (k : X p l e R s m args below meth c cells slots Q nL G L b S tgt lv st) : X p l e R s m args below meth c cells slots Q nL G L b S pc lv (.int x :: st) := fun H locs ls h1 h2 h3 => lv_lookup C.1 C.2.1 d hp ho ht (k H locs ls h1 h2 h3)
theorem x_tabIn (C : CX p G s m args meth c cc y nL ret) {dflt lo hi : Int} {offs : Array Int} {len : Nat} {x v : Int32} {off : Int} (tgt : Nat) (d : decode cc pc = .ok (.tableswitch dflt lo hi offs, len)) (hx : x = v) (h1 : ¬ v.toInt < lo) (h2 : ¬ hi < v.toInt) (ho : offs[(v.toInt - lo).toNat]? = some off) (ht : (pc : Int) + off = (tgt : Int)) (k : X p l e R s m args below meth c cells slots Q nL G L b S tgt lv st) : X p l e R s m args below meth c cells slots Q nL G L b S pc lv (.int x :: st) := by
  subst hx
  exact fun H locs ls q1 q2 q3 => lv_tableIn C.1 C.2.1 d h1 h2 ho ht (k H locs ls q1 q2 q3)
theorem x_tabOut (C : CX p G s m args meth c cc y nL ret) {dflt lo hi : Int} {offs : Array Int} {len : Nat} {x : Int32} (tgt : Nat) (d : decode cc pc = .ok (.tableswitch dflt lo hi offs, len)) (h : x.toInt < lo ∨ hi < x.toInt) (ht : (pc : Int) + dflt = (tgt : Int)) (k : X p l e R s m args below meth c cells slots Q nL G L b S tgt lv st) : X p l e R s m args below meth c cells slots Q nL G L b S pc lv (.int x :: st) := fun H locs ls q1 q2 q3 => lv_tableOut C.1 C.2.1 d h ht (k H locs ls q1 q2 q3)
theorem x_callV0 (C : CX p G s m args meth c cc y nL ret) {y2 : MethodName} {c2 : ByteArray} {r2 : Option FieldType} {rm : Room} {o k n2 idx : Nat} {S' : Sg} {v : Option Value} {ex : Prop} {sh : Sh} {q : vw_C} (As rest : List Value) (hM : Met l y2 (Cond.code y2 c2 n2 r2 :: zz_all) rm (PC G L b S (.ref (b + o) :: As)) (QC G L b S' v ex) 0 0 (fun q => b ≤ q))
    (w : zz_cw y.cls idx y2 c2 n2 r2 k) (ws : Cond.instanceMethod y2 ∈ zz_all ∧ Cond.selects y2.cls y2 y2 ∈ zz_all) (hr : zz_fit R rm 0 0 n2) (hc : cells ≤ R.cells ∧ slots ≤ R.slots) (hL : L.2 o = some sh) (hq : sh.1 = 0 ∧ classes[sh.2.1]? = some q ∧ q.1 = y2.cls) (hst : st = As.reverse ++ .ref (b + o) :: rest) (hk : As.length = k ∧ (rest.map fun v => v.category).sum ≤ 8) (d : decode cc pc = .ok (.invokevirtual idx, 3))
    (kk : ex → X p l e R s m args below meth c cells slots Q nL G L b S' (pc + 3) lv (v.toList ++ rest)) : X p l e R s m args below meth c cells slots Q nL G L b S pc lv st :=
  x_callV C As rest hM w ws hr hc hL hq hst hk d kk
theorem x_callS0 (C : CX p G s m args meth c cc y nL ret) {y2 : MethodName} {c2 : ByteArray} {r2 : Option FieldType} {rm : Room} {k n2 idx : Nat} {S' : Sg} {v : Option Value} {ex : Prop} (As rest : List Value) (hM : Met l y2 (Cond.code y2 c2 n2 r2 :: zz_all) rm (PC G L b S As) (QC G L b S' v ex) 0 0 (fun q => b ≤ q))
    (w : zz_cw y.cls idx y2 c2 n2 r2 k) (ws : Cond.static y2 ∈ zz_all) (hr : zz_fit R rm 0 0 n2) (hc : cells ≤ R.cells ∧ slots ≤ R.slots) (hst : st = As.reverse ++ rest) (hk : As.length = k ∧ (rest.map fun v => v.category).sum ≤ 8) (d : decode cc pc = .ok (.invokestatic idx, 3))
    (kk : ex → X p l e R s m args below meth c cells slots Q nL G L b S' (pc + 3) lv (v.toList ++ rest)) : X p l e R s m args below meth c cells slots Q nL G L b S pc lv st :=
  x_callS C As rest hM w ws hr hc hst hk d kk
theorem x_callSN0 (C : CX p G s m args meth c cc y nL ret) {y2 : MethodName} {c2 : ByteArray} {r2 : Option FieldType} {rm : Room} {k n2 idx : Nat} {S' : Sg} {v : Option Value} {ex : Prop} {host : String} (As rest : List Value) (hM : Met l y2 (Cond.code y2 c2 n2 r2 :: zz_all) rm (PC G L b S As) (QC G L b S' v ex) 0 0 (fun q => b ≤ q))
    (w : zz_cn y.cls idx y2 c2 n2 r2 k host) (ws : Cond.static y2 ∈ zz_all) (hr : zz_fit R rm 0 0 n2) (hc : cells ≤ R.cells ∧ slots ≤ R.slots) (hst : st = As.reverse ++ rest) (hk : As.length = k ∧ (rest.map fun v => v.category).sum ≤ 8) (d : decode cc pc = .ok (.invokestatic idx, 3))
    (kk : ex → X p l e R s m args below meth c cells slots Q nL G L b S' (pc + 3) lv (v.toList ++ rest)) : X p l e R s m args below meth c cells slots Q nL G L b S pc lv st :=
  x_callSN C As rest hM w ws hr hc hst hk d kk
theorem x_eq {lv' : List (Nat × Value)} {st' : List Value} (k : X p l e R s m args below meth c cells slots Q nL G L b S pc lv' st') (h1 : lv = lv') (h2 : st = st') : X p l e R s m args below meth c cells slots Q nL G L b S pc lv st := by
  subst h1; subst h2; exact k
end ZL
end
