def isNum (L : Ly) (o n : Nat) : Prop := L.2 o = some (0, 1, [0, (o + 1) + 3]) ∧ L.2 (o + 1) = some (1, n, [])
def isQ (L : Ly) (o : Nat) : Prop := L.2 o = some (0, 2, [(o + 1) + 3]) ∧ L.2 (o + 1) = some (1, 8, [])
def isNa (L : Ly) (o : Nat) : Prop := L.2 o = some (0, 0, [(o + 1) + 3, (o + 2) + 3, 0]) ∧ L.2 (o + 1) = some (1, 10, []) ∧ L.2 (o + 2) = some (1, 10, [])
def isSp (L : Ly) (o : Nat) : Prop := L.2 o = some (0, 3, [(o + 1) + 3, 1, 0]) ∧ L.2 (o + 1) = some (4, 10, [(o + 2)]) ∧ (∀ j, j < 10 → L.2 ((o + 2) + j) = some (2, 10, []))
def isW (L : Ly) (o : Nat) : Prop := L.2 o = some (0, 4, [(o + 1) + 3, (o + 2) + 3, (o + 3) + 3, (o + 4) + 3, 0, 0, 0, (o + 5) + 3, (o + 16) + 3, 0, (o + 17) + 3, (o + 29) + 3, (o + 41) + 3, (o + 42) + 3]) ∧ L.2 (o + 1) = some (1, 8, []) ∧ L.2 (o + 2) = some (1, 10, []) ∧ L.2 (o + 3) = some (1, 10, []) ∧ L.2 (o + 4) = some (1, 10, []) ∧ L.2 (o + 5) = some (3, 10, [(o + 6)]) ∧ (∀ j, j < 10 → L.2 ((o + 6) + j) = some (1, 10, [])) ∧ L.2 (o + 16) = some (1, 10, []) ∧ isSp L (o + 17) ∧ isSp L (o + 29) ∧ L.2 (o + 41) = some (1, 10, []) ∧ L.2 (o + 42) = some (2, 10, [])
def isGu (L : Ly) : Prop := L.2 0 = some (0, 5, [1 + 3, 44 + 3, 87 + 3, 0, 130 + 3, 132 + 3, 135 + 3, 137 + 3, 139 + 3]) ∧ isW L 1 ∧ isW L 44 ∧ isW L 87 ∧ isQ L 130 ∧ isNa L 132 ∧ isNum L 135 96 ∧ isNum L 137 32 ∧ L.2 139 = some (1, 6, [])
theorem nh_J6 : RJ6 ≠ "java/lang/invoke/MethodHandle" ∧ RJ6 ≠ "java/lang/invoke/VarHandle" := ⟨by decide +kernel, by decide +kernel⟩
theorem nh_J9 : RJ9 ≠ "java/lang/invoke/MethodHandle" ∧ RJ9 ≠ "java/lang/invoke/VarHandle" := ⟨by decide +kernel, by decide +kernel⟩
theorem nh_L : RL ≠ "java/lang/invoke/MethodHandle" ∧ RL ≠ "java/lang/invoke/VarHandle" := ⟨by decide +kernel, by decide +kernel⟩
theorem nh_X0 : RX0 ≠ "java/lang/invoke/MethodHandle" ∧ RX0 ≠ "java/lang/invoke/VarHandle" := ⟨by decide +kernel, by decide +kernel⟩
theorem nh_X1 : RX1 ≠ "java/lang/invoke/MethodHandle" ∧ RX1 ≠ "java/lang/invoke/VarHandle" := ⟨by decide +kernel, by decide +kernel⟩
theorem nh_X2 : RX2 ≠ "java/lang/invoke/MethodHandle" ∧ RX2 ≠ "java/lang/invoke/VarHandle" := ⟨by decide +kernel, by decide +kernel⟩
theorem nh_X4 : RX4 ≠ "java/lang/invoke/MethodHandle" ∧ RX4 ≠ "java/lang/invoke/VarHandle" := ⟨by decide +kernel, by decide +kernel⟩
theorem nh_X5 : RX5 ≠ "java/lang/invoke/MethodHandle" ∧ RX5 ≠ "java/lang/invoke/VarHandle" := ⟨by decide +kernel, by decide +kernel⟩
theorem nh_X6 : RX6 ≠ "java/lang/invoke/MethodHandle" ∧ RX6 ≠ "java/lang/invoke/VarHandle" := ⟨by decide +kernel, by decide +kernel⟩
theorem pd_X0_init : (parseMethodDescriptor yX0_init.desc).map (fun d => d.parameters.length) = some 0 := by decide +kernel
theorem pd_X0_narrow : (parseMethodDescriptor yX0_narrow.desc).map (fun d => d.parameters.length) = some 1 := by decide +kernel
theorem vi_X0_narrow : Cond.instanceMethod yX0_narrow ∈ zz_all ∧ Cond.selects yX0_narrow.cls yX0_narrow yX0_narrow ∈ zz_all := ⟨wd_230, wd_231⟩
theorem pd_X0_narrowByRow : (parseMethodDescriptor yX0_narrowByRow.desc).map (fun d => d.parameters.length) = some 2 := by decide +kernel
theorem vi_X0_narrowByRow : Cond.instanceMethod yX0_narrowByRow ∈ zz_all ∧ Cond.selects yX0_narrowByRow.cls yX0_narrowByRow yX0_narrowByRow ∈ zz_all := ⟨wd_240, wd_2⟩
theorem pd_X0_narrowOne : (parseMethodDescriptor yX0_narrowOne.desc).map (fun d => d.parameters.length) = some 4 := by decide +kernel
theorem vi_X0_narrowOne : Cond.instanceMethod yX0_narrowOne ∈ zz_all ∧ Cond.selects yX0_narrowOne.cls yX0_narrowOne yX0_narrowOne ∈ zz_all := ⟨wd_266, wd_5⟩
theorem pd_X0_lowEnd : (parseMethodDescriptor yX0_lowEnd.desc).map (fun d => d.parameters.length) = some 2 := by decide +kernel
theorem vi_X0_lowEnd : Cond.instanceMethod yX0_lowEnd ∈ zz_all ∧ Cond.selects yX0_lowEnd.cls yX0_lowEnd yX0_lowEnd ∈ zz_all := ⟨wd_245, wd_3⟩
theorem pd_X0_highEnd : (parseMethodDescriptor yX0_highEnd.desc).map (fun d => d.parameters.length) = some 2 := by decide +kernel
theorem vi_X0_highEnd : Cond.instanceMethod yX0_highEnd ∈ zz_all ∧ Cond.selects yX0_highEnd.cls yX0_highEnd yX0_highEnd ∈ zz_all := ⟨wd_258, wd_4⟩
theorem pd_X0_leastOf : (parseMethodDescriptor yX0_leastOf.desc).map (fun d => d.parameters.length) = some 1 := by decide +kernel
theorem vi_X0_leastOf : Cond.instanceMethod yX0_leastOf ∈ zz_all ∧ Cond.selects yX0_leastOf.cls yX0_leastOf yX0_leastOf ∈ zz_all := ⟨wd_248, wd_249⟩
theorem pd_X0_mostOf : (parseMethodDescriptor yX0_mostOf.desc).map (fun d => d.parameters.length) = some 1 := by decide +kernel
theorem vi_X0_mostOf : Cond.instanceMethod yX0_mostOf ∈ zz_all ∧ Cond.selects yX0_mostOf.cls yX0_mostOf yX0_mostOf ∈ zz_all := ⟨wd_253, wd_254⟩
theorem pd_X0_widthOf : (parseMethodDescriptor yX0_widthOf.desc).map (fun d => d.parameters.length) = some 1 := by decide +kernel
theorem vi_X0_widthOf : Cond.instanceMethod yX0_widthOf ∈ zz_all ∧ Cond.selects yX0_widthOf.cls yX0_widthOf yX0_widthOf ∈ zz_all := ⟨wd_274, wd_275⟩
theorem pd_X1_init : (parseMethodDescriptor yX1_init.desc).map (fun d => d.parameters.length) = some 1 := by decide +kernel
theorem pd_X2_init : (parseMethodDescriptor yX2_init.desc).map (fun d => d.parameters.length) = some 0 := by decide +kernel
theorem pd_X2_misfitOf : (parseMethodDescriptor yX2_misfitOf.desc).map (fun d => d.parameters.length) = some 3 := by decide +kernel
theorem vs_X2_misfitOf : Cond.static yX2_misfitOf ∈ zz_all := wd_290
theorem pd_X2_make : (parseMethodDescriptor yX2_make.desc).map (fun d => d.parameters.length) = some 3 := by decide +kernel
theorem vi_X2_make : Cond.instanceMethod yX2_make ∈ zz_all ∧ Cond.selects yX2_make.cls yX2_make yX2_make ∈ zz_all := ⟨wd_294, wd_295⟩
theorem pd_X2_size : (parseMethodDescriptor yX2_size.desc).map (fun d => d.parameters.length) = some 0 := by decide +kernel
theorem vi_X2_size : Cond.instanceMethod yX2_size ∈ zz_all ∧ Cond.selects yX2_size.cls yX2_size yX2_size ∈ zz_all := ⟨wd_325, wd_326⟩
theorem pd_X4_init : (parseMethodDescriptor yX4_init.desc).map (fun d => d.parameters.length) = some 0 := by decide +kernel
theorem pd_X4_copyFrom : (parseMethodDescriptor yX4_copyFrom.desc).map (fun d => d.parameters.length) = some 1 := by decide +kernel
theorem vi_X4_copyFrom : Cond.instanceMethod yX4_copyFrom ∈ zz_all ∧ Cond.selects yX4_copyFrom.cls yX4_copyFrom yX4_copyFrom ∈ zz_all := ⟨wd_329, wd_330⟩
theorem pd_X4_leave : (parseMethodDescriptor yX4_leave.desc).map (fun d => d.parameters.length) = some 2 := by decide +kernel
theorem vi_X4_leave : Cond.instanceMethod yX4_leave ∈ zz_all ∧ Cond.selects yX4_leave.cls yX4_leave yX4_leave ∈ zz_all := ⟨wd_310, wd_311⟩
theorem pd_X4_join : (parseMethodDescriptor yX4_join.desc).map (fun d => d.parameters.length) = some 1 := by decide +kernel
theorem vi_X4_join : Cond.instanceMethod yX4_join ∈ zz_all ∧ Cond.selects yX4_join.cls yX4_join yX4_join ∈ zz_all := ⟨wd_336, wd_337⟩
theorem pd_X4_fixedBitsWith : (parseMethodDescriptor yX4_fixedBitsWith.desc).map (fun d => d.parameters.length) = some 1 := by decide +kernel
theorem vi_X4_fixedBitsWith : Cond.instanceMethod yX4_fixedBitsWith ∈ zz_all ∧ Cond.selects yX4_fixedBitsWith.cls yX4_fixedBitsWith yX4_fixedBitsWith ∈ zz_all := ⟨wd_317, wd_318⟩
theorem pd_X4_hasPair : (parseMethodDescriptor yX4_hasPair.desc).map (fun d => d.parameters.length) = some 0 := by decide +kernel
theorem vi_X4_hasPair : Cond.instanceMethod yX4_hasPair ∈ zz_all ∧ Cond.selects yX4_hasPair.cls yX4_hasPair yX4_hasPair ∈ zz_all := ⟨wd_341, wd_342⟩
theorem pd_X4_reducedPart : (parseMethodDescriptor yX4_reducedPart.desc).map (fun d => d.parameters.length) = some 3 := by decide +kernel
theorem vi_X4_reducedPart : Cond.instanceMethod yX4_reducedPart ∈ zz_all ∧ Cond.selects yX4_reducedPart.cls yX4_reducedPart yX4_reducedPart ∈ zz_all := ⟨wd_386, wd_387⟩
theorem pd_X4_pivotOf : (parseMethodDescriptor yX4_pivotOf.desc).map (fun d => d.parameters.length) = some 1 := by decide +kernel
theorem vi_X4_pivotOf : Cond.instanceMethod yX4_pivotOf ∈ zz_all ∧ Cond.selects yX4_pivotOf.cls yX4_pivotOf yX4_pivotOf ∈ zz_all := ⟨wd_391, wd_10⟩
theorem pd_X4_firstIn : (parseMethodDescriptor yX4_firstIn.desc).map (fun d => d.parameters.length) = some 1 := by decide +kernel
theorem vs_X4_firstIn : Cond.static yX4_firstIn ∈ zz_all := wd_314
theorem pd_X4_isOneLine : (parseMethodDescriptor yX4_isOneLine.desc).map (fun d => d.parameters.length) = some 3 := by decide +kernel
theorem vs_X4_isOneLine : Cond.static yX4_isOneLine ∈ zz_all := wd_322
theorem pd_X5_init : (parseMethodDescriptor yX5_init.desc).map (fun d => d.parameters.length) = some 0 := by decide +kernel
theorem pd_X5_copyFrom : (parseMethodDescriptor yX5_copyFrom.desc).map (fun d => d.parameters.length) = some 1 := by decide +kernel
theorem vi_X5_copyFrom : Cond.instanceMethod yX5_copyFrom ∈ zz_all ∧ Cond.selects yX5_copyFrom.cls yX5_copyFrom yX5_copyFrom ∈ zz_all := ⟨wd_420, wd_421⟩
theorem pd_X5_has : (parseMethodDescriptor yX5_has.desc).map (fun d => d.parameters.length) = some 1 := by decide +kernel
theorem vi_X5_has : Cond.instanceMethod yX5_has ∈ zz_all ∧ Cond.selects yX5_has.cls yX5_has yX5_has ∈ zz_all := ⟨wd_198, wd_199⟩
theorem pd_X5_variableOf : (parseMethodDescriptor yX5_variableOf.desc).map (fun d => d.parameters.length) = some 1 := by decide +kernel
theorem vi_X5_variableOf : Cond.instanceMethod yX5_variableOf ∈ zz_all ∧ Cond.selects yX5_variableOf.cls yX5_variableOf yX5_variableOf ∈ zz_all := ⟨wd_189, wd_190⟩
theorem pd_X5_valueOf : (parseMethodDescriptor yX5_valueOf.desc).map (fun d => d.parameters.length) = some 1 := by decide +kernel
theorem vi_X5_valueOf : Cond.instanceMethod yX5_valueOf ∈ zz_all ∧ Cond.selects yX5_valueOf.cls yX5_valueOf yX5_valueOf ∈ zz_all := ⟨wd_194, wd_195⟩
theorem pd_X5_lowOf : (parseMethodDescriptor yX5_lowOf.desc).map (fun d => d.parameters.length) = some 1 := by decide +kernel
theorem vi_X5_lowOf : Cond.instanceMethod yX5_lowOf ∈ zz_all ∧ Cond.selects yX5_lowOf.cls yX5_lowOf yX5_lowOf ∈ zz_all := ⟨wd_218, wd_219⟩
theorem pd_X5_highOf : (parseMethodDescriptor yX5_highOf.desc).map (fun d => d.parameters.length) = some 1 := by decide +kernel
theorem vi_X5_highOf : Cond.instanceMethod yX5_highOf ∈ zz_all ∧ Cond.selects yX5_highOf.cls yX5_highOf yX5_highOf ∈ zz_all := ⟨wd_222, wd_223⟩
theorem pd_X5_coefficient : (parseMethodDescriptor yX5_coefficient.desc).map (fun d => d.parameters.length) = some 2 := by decide +kernel
theorem vi_X5_coefficient : Cond.instanceMethod yX5_coefficient ∈ zz_all ∧ Cond.selects yX5_coefficient.cls yX5_coefficient yX5_coefficient ∈ zz_all := ⟨wd_206, wd_207⟩
theorem pd_X5_answerOf : (parseMethodDescriptor yX5_answerOf.desc).map (fun d => d.parameters.length) = some 1 := by decide +kernel
theorem vi_X5_answerOf : Cond.instanceMethod yX5_answerOf ∈ zz_all ∧ Cond.selects yX5_answerOf.cls yX5_answerOf yX5_answerOf ∈ zz_all := ⟨wd_261, wd_262⟩
theorem pd_X5_isFree : (parseMethodDescriptor yX5_isFree.desc).map (fun d => d.parameters.length) = some 1 := by decide +kernel
theorem vi_X5_isFree : Cond.instanceMethod yX5_isFree ∈ zz_all ∧ Cond.selects yX5_isFree.cls yX5_isFree yX5_isFree ∈ zz_all := ⟨wd_202, wd_203⟩
theorem pd_X5_usedBits : (parseMethodDescriptor yX5_usedBits.desc).map (fun d => d.parameters.length) = some 0 := by decide +kernel
theorem vi_X5_usedBits : Cond.instanceMethod yX5_usedBits ∈ zz_all ∧ Cond.selects yX5_usedBits.cls yX5_usedBits yX5_usedBits ∈ zz_all := ⟨wd_432, wd_433⟩
theorem pd_X5_valuesOfPeople : (parseMethodDescriptor yX5_valuesOfPeople.desc).map (fun d => d.parameters.length) = some 0 := by decide +kernel
theorem vi_X5_valuesOfPeople : Cond.instanceMethod yX5_valuesOfPeople ∈ zz_all ∧ Cond.selects yX5_valuesOfPeople.cls yX5_valuesOfPeople yX5_valuesOfPeople ∈ zz_all := ⟨wd_437, wd_438⟩
theorem pd_X5_takeTold : (parseMethodDescriptor yX5_takeTold.desc).map (fun d => d.parameters.length) = some 2 := by decide +kernel
theorem vi_X5_takeTold : Cond.instanceMethod yX5_takeTold ∈ zz_all ∧ Cond.selects yX5_takeTold.cls yX5_takeTold yX5_takeTold ∈ zz_all := ⟨wd_462, wd_463⟩
theorem pd_X5_takeChange : (parseMethodDescriptor yX5_takeChange.desc).map (fun d => d.parameters.length) = some 2 := by decide +kernel
theorem vi_X5_takeChange : Cond.instanceMethod yX5_takeChange ∈ zz_all ∧ Cond.selects yX5_takeChange.cls yX5_takeChange yX5_takeChange ∈ zz_all := ⟨wd_483, wd_484⟩
theorem pd_X5_set : (parseMethodDescriptor yX5_set.desc).map (fun d => d.parameters.length) = some 2 := by decide +kernel
theorem vi_X5_set : Cond.instanceMethod yX5_set ∈ zz_all ∧ Cond.selects yX5_set.cls yX5_set yX5_set ∈ zz_all := ⟨wd_468, wd_11⟩
theorem pd_X5_takeBounds : (parseMethodDescriptor yX5_takeBounds.desc).map (fun d => d.parameters.length) = some 3 := by decide +kernel
theorem vi_X5_takeBounds : Cond.instanceMethod yX5_takeBounds ∈ zz_all ∧ Cond.selects yX5_takeBounds.cls yX5_takeBounds yX5_takeBounds ∈ zz_all := ⟨wd_498, wd_499⟩
theorem pd_X5_takeRule : (parseMethodDescriptor yX5_takeRule.desc).map (fun d => d.parameters.length) = some 1 := by decide +kernel
theorem vi_X5_takeRule : Cond.instanceMethod yX5_takeRule ∈ zz_all ∧ Cond.selects yX5_takeRule.cls yX5_takeRule yX5_takeRule ∈ zz_all := ⟨wd_282, wd_283⟩
theorem pd_X5_takeLimit : (parseMethodDescriptor yX5_takeLimit.desc).map (fun d => d.parameters.length) = some 1 := by decide +kernel
theorem vi_X5_takeLimit : Cond.instanceMethod yX5_takeLimit ∈ zz_all ∧ Cond.selects yX5_takeLimit.cls yX5_takeLimit yX5_takeLimit ∈ zz_all := ⟨wd_475, wd_476⟩
theorem pd_X5_takeQuestion : (parseMethodDescriptor yX5_takeQuestion.desc).map (fun d => d.parameters.length) = some 1 := by decide +kernel
theorem vi_X5_takeQuestion : Cond.instanceMethod yX5_takeQuestion ∈ zz_all ∧ Cond.selects yX5_takeQuestion.cls yX5_takeQuestion yX5_takeQuestion ∈ zz_all := ⟨wd_298, wd_299⟩
theorem pd_X5_meetingBy : (parseMethodDescriptor yX5_meetingBy.desc).map (fun d => d.parameters.length) = some 3 := by decide +kernel
theorem vi_X5_meetingBy : Cond.instanceMethod yX5_meetingBy ∈ zz_all ∧ Cond.selects yX5_meetingBy.cls yX5_meetingBy yX5_meetingBy ∈ zz_all := ⟨wd_302, wd_303⟩
theorem pd_X5_fixedBitsWith : (parseMethodDescriptor yX5_fixedBitsWith.desc).map (fun d => d.parameters.length) = some 1 := by decide +kernel
theorem vi_X5_fixedBitsWith : Cond.instanceMethod yX5_fixedBitsWith ∈ zz_all ∧ Cond.selects yX5_fixedBitsWith.cls yX5_fixedBitsWith yX5_fixedBitsWith ∈ zz_all := ⟨wd_412, wd_413⟩
theorem pd_X5_join : (parseMethodDescriptor yX5_join.desc).map (fun d => d.parameters.length) = some 1 := by decide +kernel
theorem vi_X5_join : Cond.instanceMethod yX5_join ∈ zz_all ∧ Cond.selects yX5_join.cls yX5_join yX5_join ∈ zz_all := ⟨wd_345, wd_346⟩
theorem pd_X5_trueAnswer : (parseMethodDescriptor yX5_trueAnswer.desc).map (fun d => d.parameters.length) = some 1 := by decide +kernel
theorem vi_X5_trueAnswer : Cond.instanceMethod yX5_trueAnswer ∈ zz_all ∧ Cond.selects yX5_trueAnswer.cls yX5_trueAnswer yX5_trueAnswer ∈ zz_all := ⟨wd_350, wd_351⟩
theorem pd_X5_findRest : (parseMethodDescriptor yX5_findRest.desc).map (fun d => d.parameters.length) = some 1 := by decide +kernel
theorem vi_X5_findRest : Cond.instanceMethod yX5_findRest ∈ zz_all ∧ Cond.selects yX5_findRest.cls yX5_findRest yX5_findRest ∈ zz_all := ⟨wd_307, wd_6⟩
theorem pd_X6_init : (parseMethodDescriptor yX6_init.desc).map (fun d => d.parameters.length) = some 0 := by decide +kernel
theorem pd_X6_person : (parseMethodDescriptor yX6_person.desc).map (fun d => d.parameters.length) = some 2 := by decide +kernel
theorem vi_X6_person : Cond.instanceMethod yX6_person ∈ zz_all ∧ Cond.selects yX6_person.cls yX6_person yX6_person ∈ zz_all := ⟨wd_178, wd_179⟩
theorem pd_X6_variable : (parseMethodDescriptor yX6_variable.desc).map (fun d => d.parameters.length) = some 2 := by decide +kernel
theorem vi_X6_variable : Cond.instanceMethod yX6_variable ∈ zz_all ∧ Cond.selects yX6_variable.cls yX6_variable yX6_variable ∈ zz_all := ⟨wd_213, wd_214⟩
theorem pd_X6_narrowed : (parseMethodDescriptor yX6_narrowed.desc).map (fun d => d.parameters.length) = some 2 := by decide +kernel
theorem vi_X6_narrowed : Cond.instanceMethod yX6_narrowed ∈ zz_all ∧ Cond.selects yX6_narrowed.cls yX6_narrowed yX6_narrowed ∈ zz_all := ⟨wd_227, wd_1⟩
theorem pd_X6_tells : (parseMethodDescriptor yX6_tells.desc).map (fun d => d.parameters.length) = some 2 := by decide +kernel
theorem vi_X6_tells : Cond.instanceMethod yX6_tells ∈ zz_all ∧ Cond.selects yX6_tells.cls yX6_tells yX6_tells ∈ zz_all := ⟨wd_452, wd_453⟩
theorem pd_X6_changes : (parseMethodDescriptor yX6_changes.desc).map (fun d => d.parameters.length) = some 2 := by decide +kernel
theorem vi_X6_changes : Cond.instanceMethod yX6_changes ∈ zz_all ∧ Cond.selects yX6_changes.cls yX6_changes yX6_changes ∈ zz_all := ⟨wd_479, wd_480⟩
theorem pd_X6_misfitOfValue : (parseMethodDescriptor yX6_misfitOfValue.desc).map (fun d => d.parameters.length) = some 2 := by decide +kernel
theorem vs_X6_misfitOfValue : Cond.static yX6_misfitOfValue ∈ zz_all := wd_456
theorem pd_X6_bounds : (parseMethodDescriptor yX6_bounds.desc).map (fun d => d.parameters.length) = some 3 := by decide +kernel
theorem vi_X6_bounds : Cond.instanceMethod yX6_bounds ∈ zz_all ∧ Cond.selects yX6_bounds.cls yX6_bounds yX6_bounds ∈ zz_all := ⟨wd_494, wd_495⟩
theorem pd_X6_rule : (parseMethodDescriptor yX6_rule.desc).map (fun d => d.parameters.length) = some 1 := by decide +kernel
theorem vi_X6_rule : Cond.instanceMethod yX6_rule ∈ zz_all ∧ Cond.selects yX6_rule.cls yX6_rule yX6_rule ∈ zz_all := ⟨wd_278, wd_279⟩
theorem pd_X6_limit : (parseMethodDescriptor yX6_limit.desc).map (fun d => d.parameters.length) = some 1 := by decide +kernel
theorem vi_X6_limit : Cond.instanceMethod yX6_limit ∈ zz_all ∧ Cond.selects yX6_limit.cls yX6_limit yX6_limit ∈ zz_all := ⟨wd_471, wd_472⟩
theorem pd_X6_ask : (parseMethodDescriptor yX6_ask.desc).map (fun d => d.parameters.length) = some 3 := by decide +kernel
theorem vi_X6_ask : Cond.instanceMethod yX6_ask ∈ zz_all ∧ Cond.selects yX6_ask.cls yX6_ask yX6_ask ∈ zz_all := ⟨wd_286, wd_287⟩
theorem pd_X6_would : (parseMethodDescriptor yX6_would.desc).map (fun d => d.parameters.length) = some 3 := by decide +kernel
theorem vi_X6_would : Cond.instanceMethod yX6_would ∈ zz_all ∧ Cond.selects yX6_would.cls yX6_would yX6_would ∈ zz_all := ⟨wd_355, wd_356⟩
theorem pd_X6_sums : (parseMethodDescriptor yX6_sums.desc).map (fun d => d.parameters.length) = some 1 := by decide +kernel
theorem vi_X6_sums : Cond.instanceMethod yX6_sums ∈ zz_all ∧ Cond.selects yX6_sums.cls yX6_sums yX6_sums ∈ zz_all := ⟨wd_360, wd_361⟩
theorem pd_X6_leastJoining : (parseMethodDescriptor yX6_leastJoining.desc).map (fun d => d.parameters.length) = some 0 := by decide +kernel
theorem vi_X6_leastJoining : Cond.instanceMethod yX6_leastJoining ∈ zz_all ∧ Cond.selects yX6_leastJoining.cls yX6_leastJoining yX6_leastJoining ∈ zz_all := ⟨wd_365, wd_7⟩
theorem pd_X6_howMany : (parseMethodDescriptor yX6_howMany.desc).map (fun d => d.parameters.length) = some 1 := by decide +kernel
theorem vi_X6_howMany : Cond.instanceMethod yX6_howMany ∈ zz_all ∧ Cond.selects yX6_howMany.cls yX6_howMany yX6_howMany ∈ zz_all := ⟨wd_373, wd_9⟩
theorem pd_X6_meetingOfSum : (parseMethodDescriptor yX6_meetingOfSum.desc).map (fun d => d.parameters.length) = some 2 := by decide +kernel
theorem vi_X6_meetingOfSum : Cond.instanceMethod yX6_meetingOfSum ∈ zz_all ∧ Cond.selects yX6_meetingOfSum.cls yX6_meetingOfSum yX6_meetingOfSum ∈ zz_all := ⟨wd_369, wd_8⟩
theorem pd_X6_answer : (parseMethodDescriptor yX6_answer.desc).map (fun d => d.parameters.length) = some 1 := by decide +kernel
theorem vi_X6_answer : Cond.instanceMethod yX6_answer ∈ zz_all ∧ Cond.selects yX6_answer.cls yX6_answer yX6_answer ∈ zz_all := ⟨wd_376, wd_377⟩
theorem pd_X6_reduced : (parseMethodDescriptor yX6_reduced.desc).map (fun d => d.parameters.length) = some 3 := by decide +kernel
theorem vi_X6_reduced : Cond.instanceMethod yX6_reduced ∈ zz_all ∧ Cond.selects yX6_reduced.cls yX6_reduced yX6_reduced ∈ zz_all := ⟨wd_382, wd_383⟩
theorem pd_X6_pivots : (parseMethodDescriptor yX6_pivots.desc).map (fun d => d.parameters.length) = some 0 := by decide +kernel
theorem vi_X6_pivots : Cond.instanceMethod yX6_pivots ∈ zz_all ∧ Cond.selects yX6_pivots.cls yX6_pivots yX6_pivots ∈ zz_all := ⟨wd_404, wd_405⟩
theorem pd_X6_attack : (parseMethodDescriptor yX6_attack.desc).map (fun d => d.parameters.length) = some 2 := by decide +kernel
theorem vi_X6_attack : Cond.instanceMethod yX6_attack ∈ zz_all ∧ Cond.selects yX6_attack.cls yX6_attack yX6_attack ∈ zz_all := ⟨wd_408, wd_409⟩
theorem pd_X6_image : (parseMethodDescriptor yX6_image.desc).map (fun d => d.parameters.length) = some 0 := by decide +kernel
theorem vi_X6_image : Cond.instanceMethod yX6_image ∈ zz_all ∧ Cond.selects yX6_image.cls yX6_image yX6_image ∈ zz_all := ⟨wd_416, wd_417⟩
theorem pd_X6_on : (parseMethodDescriptor yX6_on.desc).map (fun d => d.parameters.length) = some 0 := by decide +kernel
theorem vi_X6_on : Cond.instanceMethod yX6_on ∈ zz_all ∧ Cond.selects yX6_on.cls yX6_on yX6_on ∈ zz_all := ⟨wd_424, wd_425⟩
theorem pd_X6_count : (parseMethodDescriptor yX6_count.desc).map (fun d => d.parameters.length) = some 1 := by decide +kernel
theorem vi_X6_count : Cond.instanceMethod yX6_count ∈ zz_all ∧ Cond.selects yX6_count.cls yX6_count yX6_count ∈ zz_all := ⟨wd_428, wd_429⟩
theorem pd_X6_refuse : (parseMethodDescriptor yX6_refuse.desc).map (fun d => d.parameters.length) = some 1 := by decide +kernel
theorem vi_X6_refuse : Cond.instanceMethod yX6_refuse ∈ zz_all ∧ Cond.selects yX6_refuse.cls yX6_refuse yX6_refuse ∈ zz_all := ⟨wd_186, wd_0⟩
theorem pd_X6_misfit : (parseMethodDescriptor yX6_misfit.desc).map (fun d => d.parameters.length) = some 3 := by decide +kernel
theorem vs_X6_misfit : Cond.static yX6_misfit ∈ zz_all := wd_459
theorem pd_X6_isWithin : (parseMethodDescriptor yX6_isWithin.desc).map (fun d => d.parameters.length) = some 2 := by decide +kernel
theorem vs_X6_isWithin : Cond.static yX6_isWithin ∈ zz_all := wd_182
theorem pd_X6_asNumber : (parseMethodDescriptor yX6_asNumber.desc).map (fun d => d.parameters.length) = some 1 := by decide +kernel
theorem vs_X6_asNumber : Cond.static yX6_asNumber ∈ zz_all := wd_210
theorem pd_X6_partInLeastTerms : (parseMethodDescriptor yX6_partInLeastTerms.desc).map (fun d => d.parameters.length) = some 3 := by decide +kernel
theorem vs_X6_partInLeastTerms : Cond.static yX6_partInLeastTerms ∈ zz_all := wd_395
theorem pd_X6_greatestDivisor : (parseMethodDescriptor yX6_greatestDivisor.desc).map (fun d => d.parameters.length) = some 2 := by decide +kernel
theorem vs_X6_greatestDivisor : Cond.static yX6_greatestDivisor ∈ zz_all := wd_401
theorem pd_J6_bitCount_0f7a4 : (parseMethodDescriptor yJ6_bitCount_0f7a4.desc).map (fun d => d.parameters.length) = some 1 := by decide +kernel
theorem vs_J6_bitCount_0f7a4 : Cond.static yJ6_bitCount_0f7a4 ∈ zz_all := wd_502
theorem pd_J9_floorDiv_7cf53 : (parseMethodDescriptor yJ9_floorDiv_7cf53.desc).map (fun d => d.parameters.length) = some 2 := by decide +kernel
theorem vs_J9_floorDiv_7cf53 : Cond.static yJ9_floorDiv_7cf53 ∈ zz_all := wd_269
theorem pd_J9_abs_067f4 : (parseMethodDescriptor yJ9_abs_067f4.desc).map (fun d => d.parameters.length) = some 1 := by decide +kernel
theorem vs_J9_abs_067f4 : Cond.static yJ9_abs_067f4 ∈ zz_all := wd_398
theorem pd_J9_max_7cf53 : (parseMethodDescriptor yJ9_max_7cf53.desc).map (fun d => d.parameters.length) = some 2 := by decide +kernel
theorem vs_J9_max_7cf53 : Cond.static yJ9_max_7cf53 ∈ zz_all := wd_490
theorem pd_J9_min_7cf53 : (parseMethodDescriptor yJ9_min_7cf53.desc).map (fun d => d.parameters.length) = some 2 := by decide +kernel
theorem vs_J9_min_7cf53 : Cond.static yJ9_min_7cf53 ∈ zz_all := wd_234
theorem pd_L_cell : (parseMethodDescriptor yL_cell.desc).map (fun d => d.parameters.length) = some 2 := by decide +kernel
theorem vs_L_cell : Cond.static yL_cell ∈ zz_all := wd_442
theorem pd_L_pick : (parseMethodDescriptor yL_pick.desc).map (fun d => d.parameters.length) = some 2 := by decide +kernel
theorem vs_L_pick : Cond.static yL_pick ∈ zz_all := wd_445
theorem pd_L_guard : (parseMethodDescriptor yL_guard.desc).map (fun d => d.parameters.length) = some 3 := by decide +kernel
theorem vs_L_guard : Cond.static yL_guard ∈ zz_all := wd_449
theorem pd_L_bound : (parseMethodDescriptor yL_bound.desc).map (fun d => d.parameters.length) = some 4 := by decide +kernel
theorem vs_L_bound : Cond.static yL_bound ∈ zz_all := wd_487
theorem cw_L_62 : zz_cw RL 62 yX6_init cX6_init 1 none 0 := ⟨wd_24, wd_26, wd_13, nh_X6, pd_X6_init⟩
theorem cw_X6_9 : zz_cw RX6 9 yX5_init cX5_init 2 none 0 := ⟨wd_32, wd_34, wd_14, nh_X5, pd_X5_init⟩
theorem cw_X5_41 : zz_cw RX5 41 yX4_init cX4_init 2 none 0 := ⟨wd_40, wd_42, wd_15, nh_X4, pd_X4_init⟩
theorem cw_X6_38 : zz_cw RX6 38 yX1_init cX1_init 2 none 1 := ⟨wd_138, wd_140, wd_18, nh_X1, pd_X1_init⟩
theorem cw_L_75 : zz_cw RL 75 yX6_person cX6_person 4 (some .int) 2 := ⟨wd_177, wd_180, wd_13, nh_X6, pd_X6_person⟩
theorem cw_X6_69 : zz_cw RX6 69 yX6_isWithin cX6_isWithin 2 (some .boolean) 2 := ⟨wd_181, wd_183, wd_13, nh_X6, pd_X6_isWithin⟩
theorem cw_X6_73 : zz_cw RX6 73 yX6_refuse cX6_refuse 3 (some .int) 1 := ⟨wd_184, wd_187, wd_13, nh_X6, pd_X6_refuse⟩
theorem cw_X6_77 : zz_cw RX6 77 yX5_variableOf cX5_variableOf 2 (some .int) 1 := ⟨wd_188, wd_191, wd_14, nh_X5, pd_X5_variableOf⟩
theorem cw_X6_80 : zz_cw RX6 80 yX5_valueOf cX5_valueOf 2 (some .int) 1 := ⟨wd_193, wd_196, wd_14, nh_X5, pd_X5_valueOf⟩
theorem cw_X5_76 : zz_cw RX5 76 yX5_has cX5_has 2 (some .boolean) 1 := ⟨wd_197, wd_200, wd_14, nh_X5, pd_X5_has⟩
theorem cw_X6_83 : zz_cw RX6 83 yX5_isFree cX5_isFree 3 (some .boolean) 1 := ⟨wd_201, wd_204, wd_14, nh_X5, pd_X5_isFree⟩
theorem cw_X5_80 : zz_cw RX5 80 yX5_coefficient cX5_coefficient 3 (some .int) 2 := ⟨wd_205, wd_208, wd_14, nh_X5, pd_X5_coefficient⟩
theorem cw_X6_87 : zz_cw RX6 87 yX6_asNumber cX6_asNumber 1 (some .int) 1 := ⟨wd_209, wd_211, wd_13, nh_X6, pd_X6_asNumber⟩
theorem cw_L_48 : zz_cw RL 48 yX6_variable cX6_variable 3 (some .int) 2 := ⟨wd_212, wd_215, wd_13, nh_X6, pd_X6_variable⟩
theorem cw_X6_91 : zz_cw RX6 91 yX5_has cX5_has 2 (some .boolean) 1 := ⟨wd_216, wd_200, wd_14, nh_X5, pd_X5_has⟩
theorem cw_X6_94 : zz_cw RX6 94 yX5_lowOf cX5_lowOf 2 (some .int) 1 := ⟨wd_217, wd_220, wd_14, nh_X5, pd_X5_lowOf⟩
theorem cw_X6_97 : zz_cw RX6 97 yX5_highOf cX5_highOf 2 (some .int) 1 := ⟨wd_221, wd_224, wd_14, nh_X5, pd_X5_highOf⟩
theorem cw_X6_100 : zz_cw RX6 100 yX6_narrowed cX6_narrowed 3 (some .int) 2 := ⟨wd_225, wd_228, wd_13, nh_X6, pd_X6_narrowed⟩
theorem cw_X6_104 : zz_cw RX6 104 yX0_narrow cX0_narrow 5 none 1 := ⟨wd_229, wd_232, wd_17, nh_X0, pd_X0_narrow⟩
theorem cw_X0_24 : zz_cw RX0 24 yJ9_min_7cf53 cJ9_min_7cf53 2 (some .int) 2 := ⟨wd_233, wd_235, wd_20, nh_J9, pd_J9_min_7cf53⟩
theorem cw_X0_31 : zz_cw RX0 31 yX5_lowOf cX5_lowOf 2 (some .int) 1 := ⟨wd_236, wd_220, wd_14, nh_X5, pd_X5_lowOf⟩
theorem cw_X0_35 : zz_cw RX0 35 yX5_highOf cX5_highOf 2 (some .int) 1 := ⟨wd_237, wd_224, wd_14, nh_X5, pd_X5_highOf⟩
theorem cw_X0_41 : zz_cw RX0 41 yX0_narrowByRow cX0_narrowByRow 11 (some .boolean) 2 := ⟨wd_238, wd_241, wd_17, nh_X0, pd_X0_narrowByRow⟩
theorem cw_X0_45 : zz_cw RX0 45 yX5_coefficient cX5_coefficient 3 (some .int) 2 := ⟨wd_242, wd_208, wd_14, nh_X5, pd_X5_coefficient⟩
theorem cw_X0_48 : zz_cw RX0 48 yX0_lowEnd cX0_lowEnd 3 (some .int) 2 := ⟨wd_243, wd_246, wd_17, nh_X0, pd_X0_lowEnd⟩
theorem cw_X0_68 : zz_cw RX0 68 yX0_leastOf cX0_leastOf 2 (some .int) 1 := ⟨wd_247, wd_250, wd_17, nh_X0, pd_X0_leastOf⟩
theorem cw_X0_71 : zz_cw RX0 71 yX0_mostOf cX0_mostOf 2 (some .int) 1 := ⟨wd_252, wd_255, wd_17, nh_X0, pd_X0_mostOf⟩
theorem cw_X0_51 : zz_cw RX0 51 yX0_highEnd cX0_highEnd 3 (some .int) 2 := ⟨wd_256, wd_259, wd_17, nh_X0, pd_X0_highEnd⟩
theorem cw_X0_54 : zz_cw RX0 54 yX5_answerOf cX5_answerOf 2 (some .int) 1 := ⟨wd_260, wd_263, wd_14, nh_X5, pd_X5_answerOf⟩
theorem cw_X0_57 : zz_cw RX0 57 yX0_narrowOne cX0_narrowOne 8 (some .boolean) 4 := ⟨wd_264, wd_267, wd_17, nh_X0, pd_X0_narrowOne⟩
theorem cw_X0_65 : zz_cw RX0 65 yJ9_floorDiv_7cf53 cJ9_floorDiv_7cf53 3 (some .int) 2 := ⟨wd_268, wd_270, wd_20, nh_J9, pd_J9_floorDiv_7cf53⟩
theorem cw_X6_107 : zz_cw RX6 107 yX0_leastOf cX0_leastOf 2 (some .int) 1 := ⟨wd_271, wd_250, wd_17, nh_X0, pd_X0_leastOf⟩
theorem cw_X6_110 : zz_cw RX6 110 yX0_mostOf cX0_mostOf 2 (some .int) 1 := ⟨wd_272, wd_255, wd_17, nh_X0, pd_X0_mostOf⟩
theorem cw_X6_113 : zz_cw RX6 113 yX0_widthOf cX0_widthOf 2 (some .int) 1 := ⟨wd_273, wd_276, wd_17, nh_X0, pd_X0_widthOf⟩
theorem cw_L_34 : zz_cw RL 34 yX6_rule cX6_rule 3 (some .int) 1 := ⟨wd_277, wd_280, wd_13, nh_X6, pd_X6_rule⟩
theorem cw_X6_137 : zz_cw RX6 137 yX5_takeRule cX5_takeRule 2 (some .boolean) 1 := ⟨wd_281, wd_284, wd_14, nh_X5, pd_X5_takeRule⟩
theorem cw_L_37 : zz_cw RL 37 yX6_ask cX6_ask 5 (some .int) 3 := ⟨wd_285, wd_288, wd_13, nh_X6, pd_X6_ask⟩
theorem cw_X6_146 : zz_cw RX6 146 yX2_misfitOf cX2_misfitOf 5 (some .int) 3 := ⟨wd_289, wd_291, wd_16, nh_X2, pd_X2_misfitOf⟩
theorem cw_X6_150 : zz_cw RX6 150 yX2_make cX2_make 8 none 3 := ⟨wd_293, wd_296, wd_16, nh_X2, pd_X2_make⟩
theorem cw_X6_154 : zz_cw RX6 154 yX5_takeQuestion cX5_takeQuestion 3 (some .int) 1 := ⟨wd_297, wd_300, wd_14, nh_X5, pd_X5_takeQuestion⟩
theorem cw_X5_106 : zz_cw RX5 106 yX5_meetingBy cX5_meetingBy 6 (some .int) 3 := ⟨wd_301, wd_304, wd_14, nh_X5, pd_X5_meetingBy⟩
theorem cw_X5_114 : zz_cw RX5 114 yX5_findRest cX5_findRest 4 none 1 := ⟨wd_305, wd_308, wd_14, nh_X5, pd_X5_findRest⟩
theorem cw_X5_143 : zz_cw RX5 143 yX4_leave cX4_leave 6 none 2 := ⟨wd_309, wd_312, wd_15, nh_X4, pd_X4_leave⟩
theorem cw_X5_117 : zz_cw RX5 117 yX4_firstIn cX4_firstIn 2 (some .int) 1 := ⟨wd_313, wd_315, wd_15, nh_X4, pd_X4_firstIn⟩
theorem cw_X5_121 : zz_cw RX5 121 yX4_fixedBitsWith cX4_fixedBitsWith 5 (some .int) 1 := ⟨wd_316, wd_319, wd_15, nh_X4, pd_X4_fixedBitsWith⟩
theorem cw_X4_30 : zz_cw RX4 30 yX4_firstIn cX4_firstIn 2 (some .int) 1 := ⟨wd_320, wd_315, wd_15, nh_X4, pd_X4_firstIn⟩
theorem cw_X4_38 : zz_cw RX4 38 yX4_isOneLine cX4_isOneLine 4 (some .boolean) 3 := ⟨wd_321, wd_323, wd_15, nh_X4, pd_X4_isOneLine⟩
theorem cw_X5_124 : zz_cw RX5 124 yX2_size cX2_size 3 (some .int) 0 := ⟨wd_324, wd_327, wd_16, nh_X2, pd_X2_size⟩
theorem cw_X5_68 : zz_cw RX5 68 yX4_copyFrom cX4_copyFrom 3 none 1 := ⟨wd_328, wd_331, wd_15, nh_X4, pd_X4_copyFrom⟩
theorem cw_X5_129 : zz_cw RX5 129 yX4_join cX4_join 9 none 1 := ⟨wd_335, wd_338, wd_15, nh_X4, pd_X4_join⟩
theorem cw_X5_132 : zz_cw RX5 132 yX4_hasPair cX4_hasPair 4 (some .boolean) 0 := ⟨wd_340, wd_343, wd_15, nh_X4, pd_X4_hasPair⟩
theorem cw_X5_110 : zz_cw RX5 110 yX5_join cX5_join 2 none 1 := ⟨wd_344, wd_347, wd_14, nh_X5, pd_X5_join⟩
theorem cw_X5_136 : zz_cw RX5 136 yX5_trueAnswer cX5_trueAnswer 5 (some .int) 1 := ⟨wd_349, wd_352, wd_14, nh_X5, pd_X5_trueAnswer⟩
theorem cw_X6_158 : zz_cw RX6 158 yX5_trueAnswer cX5_trueAnswer 5 (some .int) 1 := ⟨wd_353, wd_352, wd_14, nh_X5, pd_X5_trueAnswer⟩
theorem cw_L_72 : zz_cw RL 72 yX6_would cX6_would 5 (some .int) 3 := ⟨wd_354, wd_357, wd_13, nh_X6, pd_X6_would⟩
theorem cw_X6_161 : zz_cw RX6 161 yX5_meetingBy cX5_meetingBy 6 (some .int) 3 := ⟨wd_358, wd_304, wd_14, nh_X5, pd_X5_meetingBy⟩
theorem cw_L_93 : zz_cw RL 93 yX6_sums cX6_sums 2 (some .int) 1 := ⟨wd_359, wd_362, wd_13, nh_X6, pd_X6_sums⟩
theorem cw_X6_165 : zz_cw RX6 165 yX6_leastJoining cX6_leastJoining 2 (some .int) 0 := ⟨wd_363, wd_366, wd_13, nh_X6, pd_X6_leastJoining⟩
theorem cw_X6_172 : zz_cw RX6 172 yX6_meetingOfSum cX6_meetingOfSum 3 (some .int) 2 := ⟨wd_367, wd_370, wd_13, nh_X6, pd_X6_meetingOfSum⟩
theorem cw_X6_169 : zz_cw RX6 169 yX6_howMany cX6_howMany 4 (some .int) 1 := ⟨wd_371, wd_374, wd_13, nh_X6, pd_X6_howMany⟩
theorem cw_L_100 : zz_cw RL 100 yX6_answer cX6_answer 2 (some .long) 1 := ⟨wd_375, wd_378, wd_13, nh_X6, pd_X6_answer⟩
theorem cw_X6_184 : zz_cw RX6 184 yX5_answerOf cX5_answerOf 2 (some .int) 1 := ⟨wd_380, wd_263, wd_14, nh_X5, pd_X5_answerOf⟩
theorem cw_L_96 : zz_cw RL 96 yX6_reduced cX6_reduced 4 (some .long) 3 := ⟨wd_381, wd_384, wd_13, nh_X6, pd_X6_reduced⟩
theorem cw_X6_191 : zz_cw RX6 191 yX4_reducedPart cX4_reducedPart 5 (some .long) 3 := ⟨wd_385, wd_388, wd_15, nh_X4, pd_X4_reducedPart⟩
theorem cw_X4_42 : zz_cw RX4 42 yX4_pivotOf cX4_pivotOf 4 (some .int) 1 := ⟨wd_389, wd_392, wd_15, nh_X4, pd_X4_pivotOf⟩
theorem cw_X6_287 : zz_cw RX6 287 yJ9_abs_067f4 cJ9_abs_067f4 2 (some .long) 1 := ⟨wd_397, wd_399, wd_20, nh_J9, pd_J9_abs_067f4⟩
theorem cw_X6_291 : zz_cw RX6 291 yX6_greatestDivisor cX6_greatestDivisor 11 (some .long) 2 := ⟨wd_400, wd_402, wd_13, nh_X6, pd_X6_greatestDivisor⟩
theorem cw_L_85 : zz_cw RL 85 yX6_pivots cX6_pivots 1 (some .int) 0 := ⟨wd_403, wd_406, wd_13, nh_X6, pd_X6_pivots⟩
theorem cw_L_82 : zz_cw RL 82 yX6_attack cX6_attack 6 (some .int) 2 := ⟨wd_407, wd_410, wd_13, nh_X6, pd_X6_attack⟩
theorem cw_X6_200 : zz_cw RX6 200 yX5_fixedBitsWith cX5_fixedBitsWith 2 (some .int) 1 := ⟨wd_411, wd_414, wd_14, nh_X5, pd_X5_fixedBitsWith⟩
theorem cw_L_66 : zz_cw RL 66 yX6_image cX6_image 1 (some .int) 0 := ⟨wd_415, wd_418, wd_13, nh_X6, pd_X6_image⟩
theorem cw_X6_56 : zz_cw RX6 56 yX5_copyFrom cX5_copyFrom 3 none 1 := ⟨wd_419, wd_422, wd_14, nh_X5, pd_X5_copyFrom⟩
theorem cw_L_79 : zz_cw RL 79 yX6_on cX6_on 1 (some .int) 0 := ⟨wd_423, wd_426, wd_13, nh_X6, pd_X6_on⟩
theorem cw_L_69 : zz_cw RL 69 yX6_count cX6_count 2 (some .int) 1 := ⟨wd_427, wd_430, wd_13, nh_X6, pd_X6_count⟩
theorem cw_X6_278 : zz_cw RX6 278 yX5_usedBits cX5_usedBits 3 (some .int) 0 := ⟨wd_431, wd_434, wd_14, nh_X5, pd_X5_usedBits⟩
theorem cw_X5_84 : zz_cw RX5 84 yX5_isFree cX5_isFree 3 (some .boolean) 1 := ⟨wd_435, wd_204, wd_14, nh_X5, pd_X5_isFree⟩
theorem cw_X6_281 : zz_cw RX6 281 yX5_valuesOfPeople cX5_valuesOfPeople 3 (some .int) 0 := ⟨wd_436, wd_439, wd_14, nh_X5, pd_X5_valuesOfPeople⟩
theorem cw_X5_87 : zz_cw RX5 87 yX5_valueOf cX5_valueOf 2 (some .int) 1 := ⟨wd_440, wd_196, wd_14, nh_X5, pd_X5_valueOf⟩
theorem cw_L_18 : zz_cw RL 18 yL_cell cL_cell 2 (some .int) 2 := ⟨wd_441, wd_443, wd_12, nh_L, pd_L_cell⟩
theorem cw_L_24 : zz_cw RL 24 yL_pick cL_pick 2 (some .int) 2 := ⟨wd_444, wd_446, wd_12, nh_L, pd_L_pick⟩
theorem cw_L_63 : zz_cw RL 63 yL_guard cL_guard 7 none 3 := ⟨wd_448, wd_450, wd_12, nh_L, pd_L_guard⟩
theorem cw_L_28 : zz_cw RL 28 yX6_tells cX6_tells 5 (some .int) 2 := ⟨wd_451, wd_454, wd_13, nh_X6, pd_X6_tells⟩
theorem cw_X6_116 : zz_cw RX6 116 yX6_misfitOfValue cX6_misfitOfValue 2 (some .int) 2 := ⟨wd_455, wd_457, wd_13, nh_X6, pd_X6_misfitOfValue⟩
theorem cw_X6_125 : zz_cw RX6 125 yX6_misfit cX6_misfit 3 (some .int) 3 := ⟨wd_458, wd_460, wd_13, nh_X6, pd_X6_misfit⟩
theorem cw_X6_119 : zz_cw RX6 119 yX5_takeTold cX5_takeTold 4 (some .boolean) 2 := ⟨wd_461, wd_464, wd_14, nh_X5, pd_X5_takeTold⟩
theorem cw_X5_99 : zz_cw RX5 99 yX5_variableOf cX5_variableOf 2 (some .int) 1 := ⟨wd_465, wd_191, wd_14, nh_X5, pd_X5_variableOf⟩
theorem cw_X5_102 : zz_cw RX5 102 yX5_set cX5_set 3 none 2 := ⟨wd_466, wd_469, wd_14, nh_X5, pd_X5_set⟩
theorem cw_L_31 : zz_cw RL 31 yX6_limit cX6_limit 4 (some .int) 1 := ⟨wd_470, wd_473, wd_13, nh_X6, pd_X6_limit⟩
theorem cw_X6_143 : zz_cw RX6 143 yX5_takeLimit cX5_takeLimit 2 (some .boolean) 1 := ⟨wd_474, wd_477, wd_14, nh_X5, pd_X5_takeLimit⟩
theorem cw_L_41 : zz_cw RL 41 yX6_changes cX6_changes 4 (some .int) 2 := ⟨wd_478, wd_481, wd_13, nh_X6, pd_X6_changes⟩
theorem cw_X6_122 : zz_cw RX6 122 yX5_takeChange cX5_takeChange 3 (some .boolean) 2 := ⟨wd_482, wd_485, wd_14, nh_X5, pd_X5_takeChange⟩
theorem cw_L_44 : zz_cw RL 44 yL_bound cL_bound 5 none 4 := ⟨wd_486, wd_488, wd_12, nh_L, pd_L_bound⟩
theorem cw_L_51 : zz_cw RL 51 yJ9_max_7cf53 cJ9_max_7cf53 2 (some .int) 2 := ⟨wd_489, wd_491, wd_20, nh_J9, pd_J9_max_7cf53⟩
theorem cw_L_56 : zz_cw RL 56 yJ9_min_7cf53 cJ9_min_7cf53 2 (some .int) 2 := ⟨wd_492, wd_235, wd_20, nh_J9, pd_J9_min_7cf53⟩
theorem cw_L_59 : zz_cw RL 59 yX6_bounds cX6_bounds 4 (some .int) 3 := ⟨wd_493, wd_496, wd_13, nh_X6, pd_X6_bounds⟩
theorem cw_X6_129 : zz_cw RX6 129 yX5_takeBounds cX5_takeBounds 4 (some .boolean) 3 := ⟨wd_497, wd_500, wd_14, nh_X5, pd_X5_takeBounds⟩
theorem cw_L_88 : zz_cw RL 88 yJ6_bitCount_0f7a4 cJ6_bitCount_0f7a4 1 (some .int) 1 := ⟨wd_501, wd_503, wd_21, nh_J6, pd_J6_bitCount_0f7a4⟩
theorem cn_X6_24 : zz_cn RX6 24 yX2_init cX2_init 1 none 0 RX6 := ⟨by decide +kernel, wd_113, wd_16, nh_X2, pd_X2_init⟩
theorem cn_X6_31 : zz_cn RX6 31 yX0_init cX0_init 1 none 0 RX6 := ⟨by decide +kernel, wd_124, wd_17, nh_X0, pd_X0_init⟩
theorem cn_X5_72 : zz_cn RX5 72 yX6_isWithin cX6_isWithin 2 (some .boolean) 2 RX6 := ⟨by decide +kernel, wd_183, wd_13, nh_X6, pd_X6_isWithin⟩
theorem cn_X0_61 : zz_cn RX0 61 yX6_isWithin cX6_isWithin 2 (some .boolean) 2 RX6 := ⟨by decide +kernel, wd_183, wd_13, nh_X6, pd_X6_isWithin⟩
theorem cn_X4_34 : zz_cn RX4 34 yX6_isWithin cX6_isWithin 2 (some .boolean) 2 RX6 := ⟨by decide +kernel, wd_183, wd_13, nh_X6, pd_X6_isWithin⟩
theorem cn_X4_46 : zz_cn RX4 46 yX6_asNumber cX6_asNumber 1 (some .int) 1 RX6 := ⟨by decide +kernel, wd_211, wd_13, nh_X6, pd_X6_asNumber⟩
theorem cn_X4_50 : zz_cn RX4 50 yX6_partInLeastTerms cX6_partInLeastTerms 9 (some .long) 3 RX6 := ⟨by decide +kernel, wd_396, wd_13, nh_X6, pd_X6_partInLeastTerms⟩
theorem sysw_X4 : zz_sysw RX4 20 := ⟨wd_332, wd_334, wd_333, wd_19⟩
theorem sysw_X5 : zz_sysw RX5 56 := ⟨wd_348, wd_334, wd_333, wd_19⟩
