def isNum (L : Ly) (o n : Nat) : Prop := L.2 o = some (0, 1, [0, (o + 1) + 3]) ∧ L.2 (o + 1) = some (1, n, [])
def isQ (L : Ly) (o : Nat) : Prop := L.2 o = some (0, 2, [(o + 1) + 3]) ∧ L.2 (o + 1) = some (1, 8, [])
def isNa (L : Ly) (o : Nat) : Prop := L.2 o = some (0, 0, [(o + 1) + 3, (o + 2) + 3, 0]) ∧ L.2 (o + 1) = some (1, 10, []) ∧ L.2 (o + 2) = some (1, 10, [])
def isSp (L : Ly) (o : Nat) : Prop := L.2 o = some (0, 3, [(o + 1) + 3, 1, 0]) ∧ L.2 (o + 1) = some (4, 10, [(o + 2)]) ∧ (∀ j, j < 10 → L.2 ((o + 2) + j) = some (2, 10, []))
def isW (L : Ly) (o : Nat) : Prop := L.2 o = some (0, 4, [(o + 1) + 3, (o + 2) + 3, (o + 3) + 3, (o + 4) + 3, 0, 0, 0, (o + 5) + 3, (o + 16) + 3, 0, (o + 17) + 3, (o + 29) + 3, (o + 41) + 3, (o + 42) + 3]) ∧ L.2 (o + 1) = some (1, 8, []) ∧ L.2 (o + 2) = some (1, 10, []) ∧ L.2 (o + 3) = some (1, 10, []) ∧ L.2 (o + 4) = some (1, 10, []) ∧ L.2 (o + 5) = some (3, 10, [(o + 6)]) ∧ (∀ j, j < 10 → L.2 ((o + 6) + j) = some (1, 10, [])) ∧ L.2 (o + 16) = some (1, 10, []) ∧ isSp L (o + 17) ∧ isSp L (o + 29) ∧ L.2 (o + 41) = some (1, 10, []) ∧ L.2 (o + 42) = some (2, 10, [])
def isGu (L : Ly) : Prop := L.2 0 = some (0, 5, [1 + 3, 44 + 3, 87 + 3, 0, 130 + 3, 132 + 3, 135 + 3, 137 + 3, 139 + 3]) ∧ isW L 1 ∧ isW L 44 ∧ isW L 87 ∧ isQ L 130 ∧ isNa L 132 ∧ isNum L 135 96 ∧ isNum L 137 32 ∧ L.2 139 = some (1, 6, [])
def isMo (L : Ly) : Prop := L.2 140 = some (0, 6, [141 + 3, 142 + 3, 143 + 3, 144 + 3, 145 + 3, 146 + 3, 147 + 3, 0, 0, 0, 0, 148 + 3, 0, 149 + 3, 150 + 3, 151 + 3, 152 + 3, 153 + 3, 0, 0, 154 + 3, 0, 0, 0, 155 + 3, 156 + 3, 157 + 3, 158 + 3, 0, 0, 0, 0, 159 + 3, 160 + 3, 161 + 3, 162 + 3, 163 + 3, 164 + 3, 165 + 3, 0, 0]) ∧ L.2 141 = some (1, 7, []) ∧ L.2 142 = some (1, 10, []) ∧ L.2 143 = some (1, 10, []) ∧ L.2 144 = some (1, 10, []) ∧ L.2 145 = some (1, 8, []) ∧ L.2 146 = some (1, 100, []) ∧ L.2 147 = some (1, 10, []) ∧ L.2 148 = some (1, 10, []) ∧ L.2 149 = some (2, 110, []) ∧ L.2 150 = some (2, 110, []) ∧ L.2 151 = some (2, 10, []) ∧ L.2 152 = some (1, 11, []) ∧ L.2 153 = some (1, 11, []) ∧ L.2 154 = some (1, 456, []) ∧ L.2 155 = some (1, 96, []) ∧ L.2 156 = some (1, 33, []) ∧ L.2 157 = some (1, 33, []) ∧ L.2 158 = some (1, 297, []) ∧ L.2 159 = some (1, 256, []) ∧ L.2 160 = some (1, 3, []) ∧ L.2 161 = some (1, 10, []) ∧ L.2 162 = some (1, 10, []) ∧ L.2 163 = some (1, 3, []) ∧ L.2 164 = some (1, 8, []) ∧ L.2 165 = some (1, 32, [])
theorem nh_J6 : RJ6 ≠ "java/lang/invoke/MethodHandle" ∧ RJ6 ≠ "java/lang/invoke/VarHandle" := ⟨by decide +kernel, by decide +kernel⟩
theorem nh_J9 : RJ9 ≠ "java/lang/invoke/MethodHandle" ∧ RJ9 ≠ "java/lang/invoke/VarHandle" := ⟨by decide +kernel, by decide +kernel⟩
theorem nh_X0 : RX0 ≠ "java/lang/invoke/MethodHandle" ∧ RX0 ≠ "java/lang/invoke/VarHandle" := ⟨by decide +kernel, by decide +kernel⟩
theorem nh_X1 : RX1 ≠ "java/lang/invoke/MethodHandle" ∧ RX1 ≠ "java/lang/invoke/VarHandle" := ⟨by decide +kernel, by decide +kernel⟩
theorem nh_X2 : RX2 ≠ "java/lang/invoke/MethodHandle" ∧ RX2 ≠ "java/lang/invoke/VarHandle" := ⟨by decide +kernel, by decide +kernel⟩
theorem nh_X3 : RX3 ≠ "java/lang/invoke/MethodHandle" ∧ RX3 ≠ "java/lang/invoke/VarHandle" := ⟨by decide +kernel, by decide +kernel⟩
theorem nh_X4 : RX4 ≠ "java/lang/invoke/MethodHandle" ∧ RX4 ≠ "java/lang/invoke/VarHandle" := ⟨by decide +kernel, by decide +kernel⟩
theorem nh_X5 : RX5 ≠ "java/lang/invoke/MethodHandle" ∧ RX5 ≠ "java/lang/invoke/VarHandle" := ⟨by decide +kernel, by decide +kernel⟩
theorem nh_X6 : RX6 ≠ "java/lang/invoke/MethodHandle" ∧ RX6 ≠ "java/lang/invoke/VarHandle" := ⟨by decide +kernel, by decide +kernel⟩
theorem nh_X7 : RX7 ≠ "java/lang/invoke/MethodHandle" ∧ RX7 ≠ "java/lang/invoke/VarHandle" := ⟨by decide +kernel, by decide +kernel⟩
theorem pd_X0_init : (parseMethodDescriptor yX0_init.desc).map (fun d => d.parameters.length) = some 0 := by decide +kernel
theorem pd_X0_narrow : (parseMethodDescriptor yX0_narrow.desc).map (fun d => d.parameters.length) = some 1 := by decide +kernel
theorem vi_X0_narrow : Cond.instanceMethod yX0_narrow ∈ zz_all ∧ Cond.selects yX0_narrow.cls yX0_narrow yX0_narrow ∈ zz_all := ⟨wd_443, wd_444⟩
theorem pd_X0_narrowByRow : (parseMethodDescriptor yX0_narrowByRow.desc).map (fun d => d.parameters.length) = some 2 := by decide +kernel
theorem vi_X0_narrowByRow : Cond.instanceMethod yX0_narrowByRow ∈ zz_all ∧ Cond.selects yX0_narrowByRow.cls yX0_narrowByRow yX0_narrowByRow ∈ zz_all := ⟨wd_453, wd_5⟩
theorem pd_X0_narrowOne : (parseMethodDescriptor yX0_narrowOne.desc).map (fun d => d.parameters.length) = some 4 := by decide +kernel
theorem vi_X0_narrowOne : Cond.instanceMethod yX0_narrowOne ∈ zz_all ∧ Cond.selects yX0_narrowOne.cls yX0_narrowOne yX0_narrowOne ∈ zz_all := ⟨wd_479, wd_8⟩
theorem pd_X0_lowEnd : (parseMethodDescriptor yX0_lowEnd.desc).map (fun d => d.parameters.length) = some 2 := by decide +kernel
theorem vi_X0_lowEnd : Cond.instanceMethod yX0_lowEnd ∈ zz_all ∧ Cond.selects yX0_lowEnd.cls yX0_lowEnd yX0_lowEnd ∈ zz_all := ⟨wd_458, wd_6⟩
theorem pd_X0_highEnd : (parseMethodDescriptor yX0_highEnd.desc).map (fun d => d.parameters.length) = some 2 := by decide +kernel
theorem vi_X0_highEnd : Cond.instanceMethod yX0_highEnd ∈ zz_all ∧ Cond.selects yX0_highEnd.cls yX0_highEnd yX0_highEnd ∈ zz_all := ⟨wd_471, wd_7⟩
theorem pd_X0_leastOf : (parseMethodDescriptor yX0_leastOf.desc).map (fun d => d.parameters.length) = some 1 := by decide +kernel
theorem vi_X0_leastOf : Cond.instanceMethod yX0_leastOf ∈ zz_all ∧ Cond.selects yX0_leastOf.cls yX0_leastOf yX0_leastOf ∈ zz_all := ⟨wd_461, wd_462⟩
theorem pd_X0_mostOf : (parseMethodDescriptor yX0_mostOf.desc).map (fun d => d.parameters.length) = some 1 := by decide +kernel
theorem vi_X0_mostOf : Cond.instanceMethod yX0_mostOf ∈ zz_all ∧ Cond.selects yX0_mostOf.cls yX0_mostOf yX0_mostOf ∈ zz_all := ⟨wd_466, wd_467⟩
theorem pd_X0_widthOf : (parseMethodDescriptor yX0_widthOf.desc).map (fun d => d.parameters.length) = some 1 := by decide +kernel
theorem vi_X0_widthOf : Cond.instanceMethod yX0_widthOf ∈ zz_all ∧ Cond.selects yX0_widthOf.cls yX0_widthOf yX0_widthOf ∈ zz_all := ⟨wd_487, wd_488⟩
theorem pd_X0_widths : (parseMethodDescriptor yX0_widths.desc).map (fun d => d.parameters.length) = some 0 := by decide +kernel
theorem vi_X0_widths : Cond.instanceMethod yX0_widths ∈ zz_all ∧ Cond.selects yX0_widths.cls yX0_widths yX0_widths ∈ zz_all := ⟨wd_622, wd_623⟩
theorem pd_X0_narrowest : (parseMethodDescriptor yX0_narrowest.desc).map (fun d => d.parameters.length) = some 0 := by decide +kernel
theorem vi_X0_narrowest : Cond.instanceMethod yX0_narrowest ∈ zz_all ∧ Cond.selects yX0_narrowest.cls yX0_narrowest yX0_narrowest ∈ zz_all := ⟨wd_608, wd_609⟩
theorem pd_X0_knownBits : (parseMethodDescriptor yX0_knownBits.desc).map (fun d => d.parameters.length) = some 0 := by decide +kernel
theorem vi_X0_knownBits : Cond.instanceMethod yX0_knownBits ∈ zz_all ∧ Cond.selects yX0_knownBits.cls yX0_knownBits yX0_knownBits ∈ zz_all := ⟨wd_598, wd_599⟩
theorem pd_X1_init : (parseMethodDescriptor yX1_init.desc).map (fun d => d.parameters.length) = some 1 := by decide +kernel
theorem pd_X1_add : (parseMethodDescriptor yX1_add.desc).map (fun d => d.parameters.length) = some 1 := by decide +kernel
theorem vi_X1_add : Cond.instanceMethod yX1_add ∈ zz_all ∧ Cond.selects yX1_add.cls yX1_add yX1_add ∈ zz_all := ⟨wd_267, wd_268⟩
theorem pd_X1_at : (parseMethodDescriptor yX1_at.desc).map (fun d => d.parameters.length) = some 1 := by decide +kernel
theorem vi_X1_at : Cond.instanceMethod yX1_at ∈ zz_all ∧ Cond.selects yX1_at.cls yX1_at yX1_at ∈ zz_all := ⟨wd_294, wd_295⟩
theorem pd_X1_forget : (parseMethodDescriptor yX1_forget.desc).map (fun d => d.parameters.length) = some 0 := by decide +kernel
theorem vi_X1_forget : Cond.instanceMethod yX1_forget ∈ zz_all ∧ Cond.selects yX1_forget.cls yX1_forget yX1_forget ∈ zz_all := ⟨wd_409, wd_410⟩
theorem pd_X2_init : (parseMethodDescriptor yX2_init.desc).map (fun d => d.parameters.length) = some 0 := by decide +kernel
theorem pd_X2_misfitOf : (parseMethodDescriptor yX2_misfitOf.desc).map (fun d => d.parameters.length) = some 3 := by decide +kernel
theorem vs_X2_misfitOf : Cond.static yX2_misfitOf ∈ zz_all := wd_354
theorem pd_X2_make : (parseMethodDescriptor yX2_make.desc).map (fun d => d.parameters.length) = some 3 := by decide +kernel
theorem vi_X2_make : Cond.instanceMethod yX2_make ∈ zz_all ∧ Cond.selects yX2_make.cls yX2_make yX2_make ∈ zz_all := ⟨wd_357, wd_358⟩
theorem pd_X2_size : (parseMethodDescriptor yX2_size.desc).map (fun d => d.parameters.length) = some 0 := by decide +kernel
theorem vi_X2_size : Cond.instanceMethod yX2_size ∈ zz_all ∧ Cond.selects yX2_size.cls yX2_size yX2_size ∈ zz_all := ⟨wd_388, wd_389⟩
theorem pd_X3_perform : (parseMethodDescriptor yX3_perform.desc).map (fun d => d.parameters.length) = some 3 := by decide +kernel
theorem vs_X3_perform : Cond.static yX3_perform ∈ zz_all := wd_288
theorem pd_X3_firstMisfit : (parseMethodDescriptor yX3_firstMisfit.desc).map (fun d => d.parameters.length) = some 1 := by decide +kernel
theorem vs_X3_firstMisfit : Cond.static yX3_firstMisfit ∈ zz_all := wd_291
theorem pd_X3_digitsBehind : (parseMethodDescriptor yX3_digitsBehind.desc).map (fun d => d.parameters.length) = some 1 := by decide +kernel
theorem vs_X3_digitsBehind : Cond.static yX3_digitsBehind ∈ zz_all := wd_298
theorem pd_X3_performOne : (parseMethodDescriptor yX3_performOne.desc).map (fun d => d.parameters.length) = some 4 := by decide +kernel
theorem vs_X3_performOne : Cond.static yX3_performOne ∈ zz_all := wd_301
theorem pd_X3_readQuestion : (parseMethodDescriptor yX3_readQuestion.desc).map (fun d => d.parameters.length) = some 3 := by decide +kernel
theorem vs_X3_readQuestion : Cond.static yX3_readQuestion ∈ zz_all := wd_351
theorem pd_X3_digit : (parseMethodDescriptor yX3_digit.desc).map (fun d => d.parameters.length) = some 2 := by decide +kernel
theorem vs_X3_digit : Cond.static yX3_digit ∈ zz_all := wd_304
theorem pd_X3_pair : (parseMethodDescriptor yX3_pair.desc).map (fun d => d.parameters.length) = some 2 := by decide +kernel
theorem vs_X3_pair : Cond.static yX3_pair ∈ zz_all := wd_307
theorem pd_X4_init : (parseMethodDescriptor yX4_init.desc).map (fun d => d.parameters.length) = some 0 := by decide +kernel
theorem pd_X4_copyFrom : (parseMethodDescriptor yX4_copyFrom.desc).map (fun d => d.parameters.length) = some 1 := by decide +kernel
theorem vi_X4_copyFrom : Cond.instanceMethod yX4_copyFrom ∈ zz_all ∧ Cond.selects yX4_copyFrom.cls yX4_copyFrom yX4_copyFrom ∈ zz_all := ⟨wd_283, wd_284⟩
theorem pd_X4_leave : (parseMethodDescriptor yX4_leave.desc).map (fun d => d.parameters.length) = some 2 := by decide +kernel
theorem vi_X4_leave : Cond.instanceMethod yX4_leave ∈ zz_all ∧ Cond.selects yX4_leave.cls yX4_leave yX4_leave ∈ zz_all := ⟨wd_373, wd_374⟩
theorem pd_X4_join : (parseMethodDescriptor yX4_join.desc).map (fun d => d.parameters.length) = some 1 := by decide +kernel
theorem vi_X4_join : Cond.instanceMethod yX4_join ∈ zz_all ∧ Cond.selects yX4_join.cls yX4_join yX4_join ∈ zz_all := ⟨wd_392, wd_393⟩
theorem pd_X4_fixedBitsWith : (parseMethodDescriptor yX4_fixedBitsWith.desc).map (fun d => d.parameters.length) = some 1 := by decide +kernel
theorem vi_X4_fixedBitsWith : Cond.instanceMethod yX4_fixedBitsWith ∈ zz_all ∧ Cond.selects yX4_fixedBitsWith.cls yX4_fixedBitsWith yX4_fixedBitsWith ∈ zz_all := ⟨wd_380, wd_381⟩
theorem pd_X4_hasPair : (parseMethodDescriptor yX4_hasPair.desc).map (fun d => d.parameters.length) = some 0 := by decide +kernel
theorem vi_X4_hasPair : Cond.instanceMethod yX4_hasPair ∈ zz_all ∧ Cond.selects yX4_hasPair.cls yX4_hasPair yX4_hasPair ∈ zz_all := ⟨wd_397, wd_398⟩
theorem pd_X4_reducedPart : (parseMethodDescriptor yX4_reducedPart.desc).map (fun d => d.parameters.length) = some 3 := by decide +kernel
theorem vi_X4_reducedPart : Cond.instanceMethod yX4_reducedPart ∈ zz_all ∧ Cond.selects yX4_reducedPart.cls yX4_reducedPart yX4_reducedPart ∈ zz_all := ⟨wd_564, wd_565⟩
theorem pd_X4_pivotOf : (parseMethodDescriptor yX4_pivotOf.desc).map (fun d => d.parameters.length) = some 1 := by decide +kernel
theorem vi_X4_pivotOf : Cond.instanceMethod yX4_pivotOf ∈ zz_all ∧ Cond.selects yX4_pivotOf.cls yX4_pivotOf yX4_pivotOf ∈ zz_all := ⟨wd_569, wd_12⟩
theorem pd_X4_firstIn : (parseMethodDescriptor yX4_firstIn.desc).map (fun d => d.parameters.length) = some 1 := by decide +kernel
theorem vs_X4_firstIn : Cond.static yX4_firstIn ∈ zz_all := wd_377
theorem pd_X4_isOneLine : (parseMethodDescriptor yX4_isOneLine.desc).map (fun d => d.parameters.length) = some 3 := by decide +kernel
theorem vs_X4_isOneLine : Cond.static yX4_isOneLine ∈ zz_all := wd_385
theorem pd_X5_init : (parseMethodDescriptor yX5_init.desc).map (fun d => d.parameters.length) = some 0 := by decide +kernel
theorem pd_X5_copyFrom : (parseMethodDescriptor yX5_copyFrom.desc).map (fun d => d.parameters.length) = some 1 := by decide +kernel
theorem vi_X5_copyFrom : Cond.instanceMethod yX5_copyFrom ∈ zz_all ∧ Cond.selects yX5_copyFrom.cls yX5_copyFrom yX5_copyFrom ∈ zz_all := ⟨wd_276, wd_277⟩
theorem pd_X5_has : (parseMethodDescriptor yX5_has.desc).map (fun d => d.parameters.length) = some 1 := by decide +kernel
theorem vi_X5_has : Cond.instanceMethod yX5_has ∈ zz_all ∧ Cond.selects yX5_has.cls yX5_has yX5_has ∈ zz_all := ⟨wd_319, wd_320⟩
theorem pd_X5_variableOf : (parseMethodDescriptor yX5_variableOf.desc).map (fun d => d.parameters.length) = some 1 := by decide +kernel
theorem vi_X5_variableOf : Cond.instanceMethod yX5_variableOf ∈ zz_all ∧ Cond.selects yX5_variableOf.cls yX5_variableOf yX5_variableOf ∈ zz_all := ⟨wd_314, wd_315⟩
theorem pd_X5_valueOf : (parseMethodDescriptor yX5_valueOf.desc).map (fun d => d.parameters.length) = some 1 := by decide +kernel
theorem vi_X5_valueOf : Cond.instanceMethod yX5_valueOf ∈ zz_all ∧ Cond.selects yX5_valueOf.cls yX5_valueOf yX5_valueOf ∈ zz_all := ⟨wd_418, wd_419⟩
theorem pd_X5_lowOf : (parseMethodDescriptor yX5_lowOf.desc).map (fun d => d.parameters.length) = some 1 := by decide +kernel
theorem vi_X5_lowOf : Cond.instanceMethod yX5_lowOf ∈ zz_all ∧ Cond.selects yX5_lowOf.cls yX5_lowOf yX5_lowOf ∈ zz_all := ⟨wd_431, wd_432⟩
theorem pd_X5_highOf : (parseMethodDescriptor yX5_highOf.desc).map (fun d => d.parameters.length) = some 1 := by decide +kernel
theorem vi_X5_highOf : Cond.instanceMethod yX5_highOf ∈ zz_all ∧ Cond.selects yX5_highOf.cls yX5_highOf yX5_highOf ∈ zz_all := ⟨wd_435, wd_436⟩
theorem pd_X5_coefficient : (parseMethodDescriptor yX5_coefficient.desc).map (fun d => d.parameters.length) = some 2 := by decide +kernel
theorem vi_X5_coefficient : Cond.instanceMethod yX5_coefficient ∈ zz_all ∧ Cond.selects yX5_coefficient.cls yX5_coefficient yX5_coefficient ∈ zz_all := ⟨wd_327, wd_328⟩
theorem pd_X5_answerOf : (parseMethodDescriptor yX5_answerOf.desc).map (fun d => d.parameters.length) = some 1 := by decide +kernel
theorem vi_X5_answerOf : Cond.instanceMethod yX5_answerOf ∈ zz_all ∧ Cond.selects yX5_answerOf.cls yX5_answerOf yX5_answerOf ∈ zz_all := ⟨wd_474, wd_475⟩
theorem pd_X5_isFree : (parseMethodDescriptor yX5_isFree.desc).map (fun d => d.parameters.length) = some 1 := by decide +kernel
theorem vi_X5_isFree : Cond.instanceMethod yX5_isFree ∈ zz_all ∧ Cond.selects yX5_isFree.cls yX5_isFree yX5_isFree ∈ zz_all := ⟨wd_323, wd_324⟩
theorem pd_X5_usedBits : (parseMethodDescriptor yX5_usedBits.desc).map (fun d => d.parameters.length) = some 0 := by decide +kernel
theorem vi_X5_usedBits : Cond.instanceMethod yX5_usedBits ∈ zz_all ∧ Cond.selects yX5_usedBits.cls yX5_usedBits yX5_usedBits ∈ zz_all := ⟨wd_715, wd_716⟩
theorem pd_X5_valuesOfPeople : (parseMethodDescriptor yX5_valuesOfPeople.desc).map (fun d => d.parameters.length) = some 0 := by decide +kernel
theorem vi_X5_valuesOfPeople : Cond.instanceMethod yX5_valuesOfPeople ∈ zz_all ∧ Cond.selects yX5_valuesOfPeople.cls yX5_valuesOfPeople yX5_valuesOfPeople ∈ zz_all := ⟨wd_719, wd_720⟩
theorem pd_X5_answerByTold : (parseMethodDescriptor yX5_answerByTold.desc).map (fun d => d.parameters.length) = some 2 := by decide +kernel
theorem vi_X5_answerByTold : Cond.instanceMethod yX5_answerByTold ∈ zz_all ∧ Cond.selects yX5_answerByTold.cls yX5_answerByTold yX5_answerByTold ∈ zz_all := ⟨wd_697, wd_698⟩
theorem pd_X5_takeTold : (parseMethodDescriptor yX5_takeTold.desc).map (fun d => d.parameters.length) = some 2 := by decide +kernel
theorem vi_X5_takeTold : Cond.instanceMethod yX5_takeTold ∈ zz_all ∧ Cond.selects yX5_takeTold.cls yX5_takeTold yX5_takeTold ∈ zz_all := ⟨wd_310, wd_311⟩
theorem pd_X5_takeChange : (parseMethodDescriptor yX5_takeChange.desc).map (fun d => d.parameters.length) = some 2 := by decide +kernel
theorem vi_X5_takeChange : Cond.instanceMethod yX5_takeChange ∈ zz_all ∧ Cond.selects yX5_takeChange.cls yX5_takeChange yX5_takeChange ∈ zz_all := ⟨wd_335, wd_336⟩
theorem pd_X5_set : (parseMethodDescriptor yX5_set.desc).map (fun d => d.parameters.length) = some 2 := by decide +kernel
theorem vi_X5_set : Cond.instanceMethod yX5_set ∈ zz_all ∧ Cond.selects yX5_set.cls yX5_set yX5_set ∈ zz_all := ⟨wd_332, wd_2⟩
theorem pd_X5_takeBounds : (parseMethodDescriptor yX5_takeBounds.desc).map (fun d => d.parameters.length) = some 3 := by decide +kernel
theorem vi_X5_takeBounds : Cond.instanceMethod yX5_takeBounds ∈ zz_all ∧ Cond.selects yX5_takeBounds.cls yX5_takeBounds yX5_takeBounds ∈ zz_all := ⟨wd_339, wd_340⟩
theorem pd_X5_takeRule : (parseMethodDescriptor yX5_takeRule.desc).map (fun d => d.parameters.length) = some 1 := by decide +kernel
theorem vi_X5_takeRule : Cond.instanceMethod yX5_takeRule ∈ zz_all ∧ Cond.selects yX5_takeRule.cls yX5_takeRule yX5_takeRule ∈ zz_all := ⟨wd_343, wd_344⟩
theorem pd_X5_takeLimit : (parseMethodDescriptor yX5_takeLimit.desc).map (fun d => d.parameters.length) = some 1 := by decide +kernel
theorem vi_X5_takeLimit : Cond.instanceMethod yX5_takeLimit ∈ zz_all ∧ Cond.selects yX5_takeLimit.cls yX5_takeLimit yX5_takeLimit ∈ zz_all := ⟨wd_347, wd_348⟩
theorem pd_X5_takeQuestion : (parseMethodDescriptor yX5_takeQuestion.desc).map (fun d => d.parameters.length) = some 1 := by decide +kernel
theorem vi_X5_takeQuestion : Cond.instanceMethod yX5_takeQuestion ∈ zz_all ∧ Cond.selects yX5_takeQuestion.cls yX5_takeQuestion yX5_takeQuestion ∈ zz_all := ⟨wd_361, wd_362⟩
theorem pd_X5_meetingBy : (parseMethodDescriptor yX5_meetingBy.desc).map (fun d => d.parameters.length) = some 3 := by decide +kernel
theorem vi_X5_meetingBy : Cond.instanceMethod yX5_meetingBy ∈ zz_all ∧ Cond.selects yX5_meetingBy.cls yX5_meetingBy yX5_meetingBy ∈ zz_all := ⟨wd_365, wd_366⟩
theorem pd_X5_fixedBitsWith : (parseMethodDescriptor yX5_fixedBitsWith.desc).map (fun d => d.parameters.length) = some 1 := by decide +kernel
theorem vi_X5_fixedBitsWith : Cond.instanceMethod yX5_fixedBitsWith ∈ zz_all ∧ Cond.selects yX5_fixedBitsWith.cls yX5_fixedBitsWith yX5_fixedBitsWith ∈ zz_all := ⟨wd_590, wd_591⟩
theorem pd_X5_join : (parseMethodDescriptor yX5_join.desc).map (fun d => d.parameters.length) = some 1 := by decide +kernel
theorem vi_X5_join : Cond.instanceMethod yX5_join ∈ zz_all ∧ Cond.selects yX5_join.cls yX5_join yX5_join ∈ zz_all := ⟨wd_401, wd_402⟩
theorem pd_X5_trueAnswer : (parseMethodDescriptor yX5_trueAnswer.desc).map (fun d => d.parameters.length) = some 1 := by decide +kernel
theorem vi_X5_trueAnswer : Cond.instanceMethod yX5_trueAnswer ∈ zz_all ∧ Cond.selects yX5_trueAnswer.cls yX5_trueAnswer yX5_trueAnswer ∈ zz_all := ⟨wd_405, wd_406⟩
theorem pd_X5_findRest : (parseMethodDescriptor yX5_findRest.desc).map (fun d => d.parameters.length) = some 1 := by decide +kernel
theorem vi_X5_findRest : Cond.instanceMethod yX5_findRest ∈ zz_all ∧ Cond.selects yX5_findRest.cls yX5_findRest yX5_findRest ∈ zz_all := ⟨wd_370, wd_3⟩
theorem pd_X6_init : (parseMethodDescriptor yX6_init.desc).map (fun d => d.parameters.length) = some 0 := by decide +kernel
theorem pd_X6_letter : (parseMethodDescriptor yX6_letter.desc).map (fun d => d.parameters.length) = some 1 := by decide +kernel
theorem vi_X6_letter : Cond.instanceMethod yX6_letter ∈ zz_all ∧ Cond.selects yX6_letter.cls yX6_letter yX6_letter ∈ zz_all := ⟨wd_249, wd_250⟩
theorem pd_X6_guard : (parseMethodDescriptor yX6_guard.desc).map (fun d => d.parameters.length) = some 0 := by decide +kernel
theorem vi_X6_guard : Cond.instanceMethod yX6_guard ∈ zz_all ∧ Cond.selects yX6_guard.cls yX6_guard yX6_guard ∈ zz_all := ⟨wd_272, wd_273⟩
theorem pd_X6_person : (parseMethodDescriptor yX6_person.desc).map (fun d => d.parameters.length) = some 2 := by decide +kernel
theorem vi_X6_person : Cond.instanceMethod yX6_person ∈ zz_all ∧ Cond.selects yX6_person.cls yX6_person yX6_person ∈ zz_all := ⟨wd_413, wd_414⟩
theorem pd_X6_variable : (parseMethodDescriptor yX6_variable.desc).map (fun d => d.parameters.length) = some 2 := by decide +kernel
theorem vi_X6_variable : Cond.instanceMethod yX6_variable ∈ zz_all ∧ Cond.selects yX6_variable.cls yX6_variable yX6_variable ∈ zz_all := ⟨wd_426, wd_427⟩
theorem pd_X6_narrowed : (parseMethodDescriptor yX6_narrowed.desc).map (fun d => d.parameters.length) = some 2 := by decide +kernel
theorem vi_X6_narrowed : Cond.instanceMethod yX6_narrowed ∈ zz_all ∧ Cond.selects yX6_narrowed.cls yX6_narrowed yX6_narrowed ∈ zz_all := ⟨wd_440, wd_4⟩
theorem pd_X6_tells : (parseMethodDescriptor yX6_tells.desc).map (fun d => d.parameters.length) = some 2 := by decide +kernel
theorem vi_X6_tells : Cond.instanceMethod yX6_tells ∈ zz_all ∧ Cond.selects yX6_tells.cls yX6_tells yX6_tells ∈ zz_all := ⟨wd_491, wd_492⟩
theorem pd_X6_changes : (parseMethodDescriptor yX6_changes.desc).map (fun d => d.parameters.length) = some 2 := by decide +kernel
theorem vi_X6_changes : Cond.instanceMethod yX6_changes ∈ zz_all ∧ Cond.selects yX6_changes.cls yX6_changes yX6_changes ∈ zz_all := ⟨wd_499, wd_500⟩
theorem pd_X6_misfitOfValue : (parseMethodDescriptor yX6_misfitOfValue.desc).map (fun d => d.parameters.length) = some 2 := by decide +kernel
theorem vs_X6_misfitOfValue : Cond.static yX6_misfitOfValue ∈ zz_all := wd_495
theorem pd_X6_bounds : (parseMethodDescriptor yX6_bounds.desc).map (fun d => d.parameters.length) = some 3 := by decide +kernel
theorem vi_X6_bounds : Cond.instanceMethod yX6_bounds ∈ zz_all ∧ Cond.selects yX6_bounds.cls yX6_bounds yX6_bounds ∈ zz_all := ⟨wd_504, wd_505⟩
theorem pd_X6_rule : (parseMethodDescriptor yX6_rule.desc).map (fun d => d.parameters.length) = some 1 := by decide +kernel
theorem vi_X6_rule : Cond.instanceMethod yX6_rule ∈ zz_all ∧ Cond.selects yX6_rule.cls yX6_rule yX6_rule ∈ zz_all := ⟨wd_509, wd_510⟩
theorem pd_X6_limit : (parseMethodDescriptor yX6_limit.desc).map (fun d => d.parameters.length) = some 1 := by decide +kernel
theorem vi_X6_limit : Cond.instanceMethod yX6_limit ∈ zz_all ∧ Cond.selects yX6_limit.cls yX6_limit yX6_limit ∈ zz_all := ⟨wd_514, wd_515⟩
theorem pd_X6_ask : (parseMethodDescriptor yX6_ask.desc).map (fun d => d.parameters.length) = some 3 := by decide +kernel
theorem vi_X6_ask : Cond.instanceMethod yX6_ask ∈ zz_all ∧ Cond.selects yX6_ask.cls yX6_ask yX6_ask ∈ zz_all := ⟨wd_519, wd_520⟩
theorem pd_X6_would : (parseMethodDescriptor yX6_would.desc).map (fun d => d.parameters.length) = some 3 := by decide +kernel
theorem vi_X6_would : Cond.instanceMethod yX6_would ∈ zz_all ∧ Cond.selects yX6_would.cls yX6_would yX6_would ∈ zz_all := ⟨wd_528, wd_529⟩
theorem pd_X6_sums : (parseMethodDescriptor yX6_sums.desc).map (fun d => d.parameters.length) = some 1 := by decide +kernel
theorem vi_X6_sums : Cond.instanceMethod yX6_sums ∈ zz_all ∧ Cond.selects yX6_sums.cls yX6_sums yX6_sums ∈ zz_all := ⟨wd_533, wd_534⟩
theorem pd_X6_leastJoining : (parseMethodDescriptor yX6_leastJoining.desc).map (fun d => d.parameters.length) = some 0 := by decide +kernel
theorem vi_X6_leastJoining : Cond.instanceMethod yX6_leastJoining ∈ zz_all ∧ Cond.selects yX6_leastJoining.cls yX6_leastJoining yX6_leastJoining ∈ zz_all := ⟨wd_538, wd_9⟩
theorem pd_X6_howMany : (parseMethodDescriptor yX6_howMany.desc).map (fun d => d.parameters.length) = some 1 := by decide +kernel
theorem vi_X6_howMany : Cond.instanceMethod yX6_howMany ∈ zz_all ∧ Cond.selects yX6_howMany.cls yX6_howMany yX6_howMany ∈ zz_all := ⟨wd_546, wd_11⟩
theorem pd_X6_meetingOfSum : (parseMethodDescriptor yX6_meetingOfSum.desc).map (fun d => d.parameters.length) = some 2 := by decide +kernel
theorem vi_X6_meetingOfSum : Cond.instanceMethod yX6_meetingOfSum ∈ zz_all ∧ Cond.selects yX6_meetingOfSum.cls yX6_meetingOfSum yX6_meetingOfSum ∈ zz_all := ⟨wd_542, wd_10⟩
theorem pd_X6_takeSum : (parseMethodDescriptor yX6_takeSum.desc).map (fun d => d.parameters.length) = some 2 := by decide +kernel
theorem vi_X6_takeSum : Cond.instanceMethod yX6_takeSum ∈ zz_all ∧ Cond.selects yX6_takeSum.cls yX6_takeSum yX6_takeSum ∈ zz_all := ⟨wd_646, wd_14⟩
theorem pd_X6_ledger : (parseMethodDescriptor yX6_ledger.desc).map (fun d => d.parameters.length) = some 2 := by decide +kernel
theorem vi_X6_ledger : Cond.instanceMethod yX6_ledger ∈ zz_all ∧ Cond.selects yX6_ledger.cls yX6_ledger yX6_ledger ∈ zz_all := ⟨wd_549, wd_550⟩
theorem pd_X6_answer : (parseMethodDescriptor yX6_answer.desc).map (fun d => d.parameters.length) = some 1 := by decide +kernel
theorem vi_X6_answer : Cond.instanceMethod yX6_answer ∈ zz_all ∧ Cond.selects yX6_answer.cls yX6_answer yX6_answer ∈ zz_all := ⟨wd_554, wd_555⟩
theorem pd_X6_reduced : (parseMethodDescriptor yX6_reduced.desc).map (fun d => d.parameters.length) = some 3 := by decide +kernel
theorem vi_X6_reduced : Cond.instanceMethod yX6_reduced ∈ zz_all ∧ Cond.selects yX6_reduced.cls yX6_reduced yX6_reduced ∈ zz_all := ⟨wd_560, wd_561⟩
theorem pd_X6_pivots : (parseMethodDescriptor yX6_pivots.desc).map (fun d => d.parameters.length) = some 0 := by decide +kernel
theorem vi_X6_pivots : Cond.instanceMethod yX6_pivots ∈ zz_all ∧ Cond.selects yX6_pivots.cls yX6_pivots yX6_pivots ∈ zz_all := ⟨wd_582, wd_583⟩
theorem pd_X6_attack : (parseMethodDescriptor yX6_attack.desc).map (fun d => d.parameters.length) = some 2 := by decide +kernel
theorem vi_X6_attack : Cond.instanceMethod yX6_attack ∈ zz_all ∧ Cond.selects yX6_attack.cls yX6_attack yX6_attack ∈ zz_all := ⟨wd_586, wd_587⟩
theorem pd_X6_known : (parseMethodDescriptor yX6_known.desc).map (fun d => d.parameters.length) = some 0 := by decide +kernel
theorem vi_X6_known : Cond.instanceMethod yX6_known ∈ zz_all ∧ Cond.selects yX6_known.cls yX6_known yX6_known ∈ zz_all := ⟨wd_594, wd_595⟩
theorem pd_X6_learns : (parseMethodDescriptor yX6_learns.desc).map (fun d => d.parameters.length) = some 4 := by decide +kernel
theorem vi_X6_learns : Cond.instanceMethod yX6_learns ∈ zz_all ∧ Cond.selects yX6_learns.cls yX6_learns yX6_learns ∈ zz_all := ⟨wd_603, wd_604⟩
theorem pd_X6_mean : (parseMethodDescriptor yX6_mean.desc).map (fun d => d.parameters.length) = some 1 := by decide +kernel
theorem vi_X6_mean : Cond.instanceMethod yX6_mean ∈ zz_all ∧ Cond.selects yX6_mean.cls yX6_mean yX6_mean ∈ zz_all := ⟨wd_618, wd_619⟩
theorem pd_X6_order : (parseMethodDescriptor yX6_order.desc).map (fun d => d.parameters.length) = some 4 := by decide +kernel
theorem vi_X6_order : Cond.instanceMethod yX6_order ∈ zz_all ∧ Cond.selects yX6_order.cls yX6_order yX6_order ∈ zz_all := ⟨wd_627, wd_628⟩
theorem pd_X6_pick : (parseMethodDescriptor yX6_pick.desc).map (fun d => d.parameters.length) = some 4 := by decide +kernel
theorem vs_X6_pick : Cond.static yX6_pick ∈ zz_all := wd_638
theorem pd_X6_joinedInTurn : (parseMethodDescriptor yX6_joinedInTurn.desc).map (fun d => d.parameters.length) = some 3 := by decide +kernel
theorem vi_X6_joinedInTurn : Cond.instanceMethod yX6_joinedInTurn ∈ zz_all ∧ Cond.selects yX6_joinedInTurn.cls yX6_joinedInTurn yX6_joinedInTurn ∈ zz_all := ⟨wd_642, wd_13⟩
theorem pd_X6_two : (parseMethodDescriptor yX6_two.desc).map (fun d => d.parameters.length) = some 2 := by decide +kernel
theorem vi_X6_two : Cond.instanceMethod yX6_two ∈ zz_all ∧ Cond.selects yX6_two.cls yX6_two yX6_two ∈ zz_all := ⟨wd_649, wd_650⟩
theorem pd_X6_gain : (parseMethodDescriptor yX6_gain.desc).map (fun d => d.parameters.length) = some 1 := by decide +kernel
theorem vs_X6_gain : Cond.static yX6_gain ∈ zz_all := wd_653
theorem pd_X6_cheapest : (parseMethodDescriptor yX6_cheapest.desc).map (fun d => d.parameters.length) = some 1 := by decide +kernel
theorem vi_X6_cheapest : Cond.instanceMethod yX6_cheapest ∈ zz_all ∧ Cond.selects yX6_cheapest.cls yX6_cheapest yX6_cheapest ∈ zz_all := ⟨wd_656, wd_657⟩
theorem pd_X6_share : (parseMethodDescriptor yX6_share.desc).map (fun d => d.parameters.length) = some 1 := by decide +kernel
theorem vi_X6_share : Cond.instanceMethod yX6_share ∈ zz_all ∧ Cond.selects yX6_share.cls yX6_share yX6_share ∈ zz_all := ⟨wd_660, wd_661⟩
theorem pd_X6_lots : (parseMethodDescriptor yX6_lots.desc).map (fun d => d.parameters.length) = some 3 := by decide +kernel
theorem vi_X6_lots : Cond.instanceMethod yX6_lots ∈ zz_all ∧ Cond.selects yX6_lots.cls yX6_lots yX6_lots ∈ zz_all := ⟨wd_665, wd_666⟩
theorem pd_X6_row : (parseMethodDescriptor yX6_row.desc).map (fun d => d.parameters.length) = some 1 := by decide +kernel
theorem vi_X6_row : Cond.instanceMethod yX6_row ∈ zz_all ∧ Cond.selects yX6_row.cls yX6_row yX6_row ∈ zz_all := ⟨wd_672, wd_673⟩
theorem pd_X6_clear : (parseMethodDescriptor yX6_clear.desc).map (fun d => d.parameters.length) = some 0 := by decide +kernel
theorem vi_X6_clear : Cond.instanceMethod yX6_clear ∈ zz_all ∧ Cond.selects yX6_clear.cls yX6_clear yX6_clear ∈ zz_all := ⟨wd_676, wd_677⟩
theorem pd_X6_which : (parseMethodDescriptor yX6_which.desc).map (fun d => d.parameters.length) = some 1 := by decide +kernel
theorem vi_X6_which : Cond.instanceMethod yX6_which ∈ zz_all ∧ Cond.selects yX6_which.cls yX6_which yX6_which ∈ zz_all := ⟨wd_680, wd_681⟩
theorem pd_X6_isRowOfPairs : (parseMethodDescriptor yX6_isRowOfPairs.desc).map (fun d => d.parameters.length) = some 0 := by decide +kernel
theorem vi_X6_isRowOfPairs : Cond.instanceMethod yX6_isRowOfPairs ∈ zz_all ∧ Cond.selects yX6_isRowOfPairs.cls yX6_isRowOfPairs yX6_isRowOfPairs ∈ zz_all := ⟨wd_685, wd_15⟩
theorem pd_X6_isMetBy : (parseMethodDescriptor yX6_isMetBy.desc).map (fun d => d.parameters.length) = some 2 := by decide +kernel
theorem vi_X6_isMetBy : Cond.instanceMethod yX6_isMetBy ∈ zz_all ∧ Cond.selects yX6_isMetBy.cls yX6_isMetBy yX6_isMetBy ∈ zz_all := ⟨wd_690, wd_16⟩
theorem pd_X6_judge : (parseMethodDescriptor yX6_judge.desc).map (fun d => d.parameters.length) = some 0 := by decide +kernel
theorem vi_X6_judge : Cond.instanceMethod yX6_judge ∈ zz_all ∧ Cond.selects yX6_judge.cls yX6_judge yX6_judge ∈ zz_all := ⟨wd_693, wd_694⟩
theorem pd_X6_image : (parseMethodDescriptor yX6_image.desc).map (fun d => d.parameters.length) = some 0 := by decide +kernel
theorem vi_X6_image : Cond.instanceMethod yX6_image ∈ zz_all ∧ Cond.selects yX6_image.cls yX6_image yX6_image ∈ zz_all := ⟨wd_703, wd_704⟩
theorem pd_X6_on : (parseMethodDescriptor yX6_on.desc).map (fun d => d.parameters.length) = some 0 := by decide +kernel
theorem vi_X6_on : Cond.instanceMethod yX6_on ∈ zz_all ∧ Cond.selects yX6_on.cls yX6_on yX6_on ∈ zz_all := ⟨wd_707, wd_708⟩
theorem pd_X6_count : (parseMethodDescriptor yX6_count.desc).map (fun d => d.parameters.length) = some 1 := by decide +kernel
theorem vi_X6_count : Cond.instanceMethod yX6_count ∈ zz_all ∧ Cond.selects yX6_count.cls yX6_count yX6_count ∈ zz_all := ⟨wd_711, wd_712⟩
theorem pd_X6_refuse : (parseMethodDescriptor yX6_refuse.desc).map (fun d => d.parameters.length) = some 1 := by decide +kernel
theorem vi_X6_refuse : Cond.instanceMethod yX6_refuse ∈ zz_all ∧ Cond.selects yX6_refuse.cls yX6_refuse yX6_refuse ∈ zz_all := ⟨wd_261, wd_1⟩
theorem pd_X6_append : (parseMethodDescriptor yX6_append.desc).map (fun d => d.parameters.length) = some 2 := by decide +kernel
theorem vi_X6_append : Cond.instanceMethod yX6_append ∈ zz_all ∧ Cond.selects yX6_append.cls yX6_append yX6_append ∈ zz_all := ⟨wd_254, wd_0⟩
theorem pd_X6_misfitOfAll : (parseMethodDescriptor yX6_misfitOfAll.desc).map (fun d => d.parameters.length) = some 2 := by decide +kernel
theorem vs_X6_misfitOfAll : Cond.static yX6_misfitOfAll ∈ zz_all := wd_635
theorem pd_X6_misfit : (parseMethodDescriptor yX6_misfit.desc).map (fun d => d.parameters.length) = some 3 := by decide +kernel
theorem vs_X6_misfit : Cond.static yX6_misfit ∈ zz_all := wd_257
theorem pd_X6_isWithin : (parseMethodDescriptor yX6_isWithin.desc).map (fun d => d.parameters.length) = some 2 := by decide +kernel
theorem vs_X6_isWithin : Cond.static yX6_isWithin ∈ zz_all := wd_264
theorem pd_X6_asNumber : (parseMethodDescriptor yX6_asNumber.desc).map (fun d => d.parameters.length) = some 1 := by decide +kernel
theorem vs_X6_asNumber : Cond.static yX6_asNumber ∈ zz_all := wd_423
theorem pd_X6_partInLeastTerms : (parseMethodDescriptor yX6_partInLeastTerms.desc).map (fun d => d.parameters.length) = some 3 := by decide +kernel
theorem vs_X6_partInLeastTerms : Cond.static yX6_partInLeastTerms ∈ zz_all := wd_573
theorem pd_X6_greatestDivisor : (parseMethodDescriptor yX6_greatestDivisor.desc).map (fun d => d.parameters.length) = some 2 := by decide +kernel
theorem vs_X6_greatestDivisor : Cond.static yX6_greatestDivisor ∈ zz_all := wd_579
theorem pd_X7_init : (parseMethodDescriptor yX7_init.desc).map (fun d => d.parameters.length) = some 0 := by decide +kernel
theorem pd_X7_no : (parseMethodDescriptor yX7_no.desc).map (fun d => d.parameters.length) = some 1 := by decide +kernel
theorem vi_X7_no : Cond.instanceMethod yX7_no ∈ zz_all ∧ Cond.selects yX7_no.cls yX7_no yX7_no ∈ zz_all := ⟨wd_874, wd_20⟩
theorem pd_X7_lower : (parseMethodDescriptor yX7_lower.desc).map (fun d => d.parameters.length) = some 1 := by decide +kernel
theorem vi_X7_lower : Cond.instanceMethod yX7_lower ∈ zz_all ∧ Cond.selects yX7_lower.cls yX7_lower yX7_lower ∈ zz_all := ⟨wd_1077, wd_54⟩
theorem pd_X7_lowestOf : (parseMethodDescriptor yX7_lowestOf.desc).map (fun d => d.parameters.length) = some 1 := by decide +kernel
theorem vi_X7_lowestOf : Cond.instanceMethod yX7_lowestOf ∈ zz_all ∧ Cond.selects yX7_lowestOf.cls yX7_lowestOf yX7_lowestOf ∈ zz_all := ⟨wd_1117, wd_58⟩
theorem pd_X7_isIn : (parseMethodDescriptor yX7_isIn.desc).map (fun d => d.parameters.length) = some 3 := by decide +kernel
theorem vs_X7_isIn : Cond.static yX7_isIn ∈ zz_all := wd_904
theorem pd_X7_bound : (parseMethodDescriptor yX7_bound.desc).map (fun d => d.parameters.length) = some 3 := by decide +kernel
theorem vs_X7_bound : Cond.static yX7_bound ∈ zz_all := wd_881
theorem pd_X7_has : (parseMethodDescriptor yX7_has.desc).map (fun d => d.parameters.length) = some 2 := by decide +kernel
theorem vs_X7_has : Cond.static yX7_has ∈ zz_all := wd_968
theorem pd_X7_bits : (parseMethodDescriptor yX7_bits.desc).map (fun d => d.parameters.length) = some 1 := by decide +kernel
theorem vs_X7_bits : Cond.static yX7_bits ∈ zz_all := wd_1101
theorem pd_X7_isPerson : (parseMethodDescriptor yX7_isPerson.desc).map (fun d => d.parameters.length) = some 1 := by decide +kernel
theorem vs_X7_isPerson : Cond.static yX7_isPerson ∈ zz_all := wd_919
theorem pd_X7_isVariable : (parseMethodDescriptor yX7_isVariable.desc).map (fun d => d.parameters.length) = some 1 := by decide +kernel
theorem vi_X7_isVariable : Cond.instanceMethod yX7_isVariable ∈ zz_all ∧ Cond.selects yX7_isVariable.cls yX7_isVariable yX7_isVariable ∈ zz_all := ⟨wd_943, wd_33⟩
theorem pd_X7_isFree : (parseMethodDescriptor yX7_isFree.desc).map (fun d => d.parameters.length) = some 1 := by decide +kernel
theorem vi_X7_isFree : Cond.instanceMethod yX7_isFree ∈ zz_all ∧ Cond.selects yX7_isFree.cls yX7_isFree yX7_isFree ∈ zz_all := ⟨wd_923, wd_28⟩
theorem pd_X7_notQuestion : (parseMethodDescriptor yX7_notQuestion.desc).map (fun d => d.parameters.length) = some 3 := by decide +kernel
theorem vs_X7_notQuestion : Cond.static yX7_notQuestion ∈ zz_all := wd_958
theorem pd_X7_weight : (parseMethodDescriptor yX7_weight.desc).map (fun d => d.parameters.length) = some 4 := by decide +kernel
theorem vs_X7_weight : Cond.static yX7_weight ∈ zz_all := wd_965
theorem pd_X7_asks : (parseMethodDescriptor yX7_asks.desc).map (fun d => d.parameters.length) = some 3 := by decide +kernel
theorem vi_X7_asks : Cond.instanceMethod yX7_asks ∈ zz_all ∧ Cond.selects yX7_asks.cls yX7_asks yX7_asks ∈ zz_all := ⟨wd_962, wd_37⟩
theorem pd_X7_trueAnswer : (parseMethodDescriptor yX7_trueAnswer.desc).map (fun d => d.parameters.length) = some 0 := by decide +kernel
theorem vi_X7_trueAnswer : Cond.instanceMethod yX7_trueAnswer ∈ zz_all ∧ Cond.selects yX7_trueAnswer.cls yX7_trueAnswer yX7_trueAnswer ∈ zz_all := ⟨wd_1045, wd_53⟩
theorem pd_X7_sizeOf : (parseMethodDescriptor yX7_sizeOf.desc).map (fun d => d.parameters.length) = some 1 := by decide +kernel
theorem vs_X7_sizeOf : Cond.static yX7_sizeOf ∈ zz_all := wd_997
theorem pd_X7_divisor : (parseMethodDescriptor yX7_divisor.desc).map (fun d => d.parameters.length) = some 2 := by decide +kernel
theorem vs_X7_divisor : Cond.static yX7_divisor ∈ zz_all := wd_994
theorem pd_X7_makesLeast : (parseMethodDescriptor yX7_makesLeast.desc).map (fun d => d.parameters.length) = some 2 := by decide +kernel
theorem vs_X7_makesLeast : Cond.static yX7_makesLeast ∈ zz_all := wd_1000
theorem pd_X7_clears : (parseMethodDescriptor yX7_clears.desc).map (fun d => d.parameters.length) = some 5 := by decide +kernel
theorem vs_X7_clears : Cond.static yX7_clears ∈ zz_all := wd_991
theorem pd_X7_loads : (parseMethodDescriptor yX7_loads.desc).map (fun d => d.parameters.length) = some 0 := by decide +kernel
theorem vi_X7_loads : Cond.instanceMethod yX7_loads ∈ zz_all ∧ Cond.selects yX7_loads.cls yX7_loads yX7_loads ∈ zz_all := ⟨wd_1013, wd_45⟩
theorem pd_X7_reduces : (parseMethodDescriptor yX7_reduces.desc).map (fun d => d.parameters.length) = some 2 := by decide +kernel
theorem vi_X7_reduces : Cond.instanceMethod yX7_reduces ∈ zz_all ∧ Cond.selects yX7_reduces.cls yX7_reduces yX7_reduces ∈ zz_all := ⟨wd_988, wd_42⟩
theorem pd_X7_firstOfOne : (parseMethodDescriptor yX7_firstOfOne.desc).map (fun d => d.parameters.length) = some 0 := by decide +kernel
theorem vi_X7_firstOfOne : Cond.instanceMethod yX7_firstOfOne ∈ zz_all ∧ Cond.selects yX7_firstOfOne.cls yX7_firstOfOne yX7_firstOfOne ∈ zz_all := ⟨wd_1004, wd_43⟩
theorem pd_X7_adds : (parseMethodDescriptor yX7_adds.desc).map (fun d => d.parameters.length) = some 2 := by decide +kernel
theorem vi_X7_adds : Cond.instanceMethod yX7_adds ∈ zz_all ∧ Cond.selects yX7_adds.cls yX7_adds yX7_adds ∈ zz_all := ⟨wd_984, wd_41⟩
theorem pd_X7_builds : (parseMethodDescriptor yX7_builds.desc).map (fun d => d.parameters.length) = some 0 := by decide +kernel
theorem vi_X7_builds : Cond.instanceMethod yX7_builds ∈ zz_all ∧ Cond.selects yX7_builds.cls yX7_builds yX7_builds ∈ zz_all := ⟨wd_980, wd_40⟩
theorem pd_X7_manyNot0 : (parseMethodDescriptor yX7_manyNot0.desc).map (fun d => d.parameters.length) = some 1 := by decide +kernel
theorem vi_X7_manyNot0 : Cond.instanceMethod yX7_manyNot0 ∈ zz_all ∧ Cond.selects yX7_manyNot0.cls yX7_manyNot0 yX7_manyNot0 ∈ zz_all := ⟨wd_1025, wd_48⟩
theorem pd_X7_isFixed : (parseMethodDescriptor yX7_isFixed.desc).map (fun d => d.parameters.length) = some 1 := by decide +kernel
theorem vi_X7_isFixed : Cond.instanceMethod yX7_isFixed ∈ zz_all ∧ Cond.selects yX7_isFixed.cls yX7_isFixed yX7_isFixed ∈ zz_all := ⟨wd_1141, wd_60⟩
theorem pd_X7_isAnyFixed : (parseMethodDescriptor yX7_isAnyFixed.desc).map (fun d => d.parameters.length) = some 0 := by decide +kernel
theorem vi_X7_isAnyFixed : Cond.instanceMethod yX7_isAnyFixed ∈ zz_all ∧ Cond.selects yX7_isAnyFixed.cls yX7_isAnyFixed yX7_isAnyFixed ∈ zz_all := ⟨wd_1021, wd_47⟩
theorem pd_X7_isPivot : (parseMethodDescriptor yX7_isPivot.desc).map (fun d => d.parameters.length) = some 1 := by decide +kernel
theorem vi_X7_isPivot : Cond.instanceMethod yX7_isPivot ∈ zz_all ∧ Cond.selects yX7_isPivot.cls yX7_isPivot yX7_isPivot ∈ zz_all := ⟨wd_1037, wd_51⟩
theorem pd_X7_areAlike : (parseMethodDescriptor yX7_areAlike.desc).map (fun d => d.parameters.length) = some 2 := by decide +kernel
theorem vi_X7_areAlike : Cond.instanceMethod yX7_areAlike ∈ zz_all ∧ Cond.selects yX7_areAlike.cls yX7_areAlike yX7_areAlike ∈ zz_all := ⟨wd_1033, wd_50⟩
theorem pd_X7_isAnyPaired : (parseMethodDescriptor yX7_isAnyPaired.desc).map (fun d => d.parameters.length) = some 0 := by decide +kernel
theorem vi_X7_isAnyPaired : Cond.instanceMethod yX7_isAnyPaired ∈ zz_all ∧ Cond.selects yX7_isAnyPaired.cls yX7_isAnyPaired yX7_isAnyPaired ∈ zz_all := ⟨wd_1029, wd_49⟩
theorem pd_X7_isForbidden : (parseMethodDescriptor yX7_isForbidden.desc).map (fun d => d.parameters.length) = some 2 := by decide +kernel
theorem vi_X7_isForbidden : Cond.instanceMethod yX7_isForbidden ∈ zz_all ∧ Cond.selects yX7_isForbidden.cls yX7_isForbidden yX7_isForbidden ∈ zz_all := ⟨wd_1017, wd_46⟩
theorem pd_X7_meetsBy : (parseMethodDescriptor yX7_meetsBy.desc).map (fun d => d.parameters.length) = some 2 := by decide +kernel
theorem vi_X7_meetsBy : Cond.instanceMethod yX7_meetsBy ∈ zz_all ∧ Cond.selects yX7_meetsBy.cls yX7_meetsBy yX7_meetsBy ∈ zz_all := ⟨wd_1009, wd_44⟩
theorem pd_X7_meetsNow : (parseMethodDescriptor yX7_meetsNow.desc).map (fun d => d.parameters.length) = some 0 := by decide +kernel
theorem vi_X7_meetsNow : Cond.instanceMethod yX7_meetsNow ∈ zz_all ∧ Cond.selects yX7_meetsNow.cls yX7_meetsNow yX7_meetsNow ∈ zz_all := ⟨wd_976, wd_39⟩
theorem pd_X7_joins : (parseMethodDescriptor yX7_joins.desc).map (fun d => d.parameters.length) = some 0 := by decide +kernel
theorem vi_X7_joins : Cond.instanceMethod yX7_joins ∈ zz_all ∧ Cond.selects yX7_joins.cls yX7_joins yX7_joins ∈ zz_all := ⟨wd_1041, wd_52⟩
theorem pd_X7_isAsked : (parseMethodDescriptor yX7_isAsked.desc).map (fun d => d.parameters.length) = some 0 := by decide +kernel
theorem vi_X7_isAsked : Cond.instanceMethod yX7_isAsked ∈ zz_all ∧ Cond.selects yX7_isAsked.cls yX7_isAsked yX7_isAsked ∈ zz_all := ⟨wd_972, wd_38⟩
theorem pd_X7_passes : (parseMethodDescriptor yX7_passes.desc).map (fun d => d.parameters.length) = some 1 := by decide +kernel
theorem vi_X7_passes : Cond.instanceMethod yX7_passes ∈ zz_all ∧ Cond.selects yX7_passes.cls yX7_passes yX7_passes ∈ zz_all := ⟨wd_862, wd_18⟩
theorem pd_X7_passOne : (parseMethodDescriptor yX7_passOne.desc).map (fun d => d.parameters.length) = some 1 := by decide +kernel
theorem vi_X7_passOne : Cond.instanceMethod yX7_passOne ∈ zz_all ∧ Cond.selects yX7_passOne.cls yX7_passOne yX7_passOne ∈ zz_all := ⟨wd_866, wd_19⟩
theorem pd_X7_passesAll : (parseMethodDescriptor yX7_passesAll.desc).map (fun d => d.parameters.length) = some 2 := by decide +kernel
theorem vi_X7_passesAll : Cond.instanceMethod yX7_passesAll ∈ zz_all ∧ Cond.selects yX7_passesAll.cls yX7_passesAll yX7_passesAll ∈ zz_all := ⟨wd_858, wd_17⟩
theorem pd_X7_minds : (parseMethodDescriptor yX7_minds.desc).map (fun d => d.parameters.length) = some 0 := by decide +kernel
theorem vi_X7_minds : Cond.instanceMethod yX7_minds ∈ zz_all ∧ Cond.selects yX7_minds.cls yX7_minds yX7_minds ∈ zz_all := ⟨wd_1179, wd_65⟩
theorem pd_X7_forgets : (parseMethodDescriptor yX7_forgets.desc).map (fun d => d.parameters.length) = some 0 := by decide +kernel
theorem vi_X7_forgets : Cond.instanceMethod yX7_forgets ∈ zz_all ∧ Cond.selects yX7_forgets.cls yX7_forgets yX7_forgets ∈ zz_all := ⟨wd_1187, wd_67⟩
theorem pd_X7_image : (parseMethodDescriptor yX7_image.desc).map (fun d => d.parameters.length) = some 0 := by decide +kernel
theorem vi_X7_image : Cond.instanceMethod yX7_image ∈ zz_all ∧ Cond.selects yX7_image.cls yX7_image yX7_image ∈ zz_all := ⟨wd_853, wd_854⟩
theorem pd_X7_on : (parseMethodDescriptor yX7_on.desc).map (fun d => d.parameters.length) = some 0 := by decide +kernel
theorem vi_X7_on : Cond.instanceMethod yX7_on ∈ zz_all ∧ Cond.selects yX7_on.cls yX7_on yX7_on ∈ zz_all := ⟨wd_869, wd_870⟩
theorem pd_X7_letter : (parseMethodDescriptor yX7_letter.desc).map (fun d => d.parameters.length) = some 1 := by decide +kernel
theorem vi_X7_letter : Cond.instanceMethod yX7_letter ∈ zz_all ∧ Cond.selects yX7_letter.cls yX7_letter yX7_letter ∈ zz_all := ⟨wd_877, wd_878⟩
theorem pd_X7_letterNow : (parseMethodDescriptor yX7_letterNow.desc).map (fun d => d.parameters.length) = some 0 := by decide +kernel
theorem vi_X7_letterNow : Cond.instanceMethod yX7_letterNow ∈ zz_all ∧ Cond.selects yX7_letterNow.cls yX7_letterNow yX7_letterNow ∈ zz_all := ⟨wd_893, wd_22⟩
theorem pd_X7_readsDigits : (parseMethodDescriptor yX7_readsDigits.desc).map (fun d => d.parameters.length) = some 1 := by decide +kernel
theorem vi_X7_readsDigits : Cond.instanceMethod yX7_readsDigits ∈ zz_all ∧ Cond.selects yX7_readsDigits.cls yX7_readsDigits yX7_readsDigits ∈ zz_all := ⟨wd_901, wd_24⟩
theorem pd_X7_readsMany : (parseMethodDescriptor yX7_readsMany.desc).map (fun d => d.parameters.length) = some 1 := by decide +kernel
theorem vi_X7_readsMany : Cond.instanceMethod yX7_readsMany ∈ zz_all ∧ Cond.selects yX7_readsMany.cls yX7_readsMany yX7_readsMany ∈ zz_all := ⟨wd_908, wd_25⟩
theorem pd_X7_readsAll : (parseMethodDescriptor yX7_readsAll.desc).map (fun d => d.parameters.length) = some 1 := by decide +kernel
theorem vi_X7_readsAll : Cond.instanceMethod yX7_readsAll ∈ zz_all ∧ Cond.selects yX7_readsAll.cls yX7_readsAll yX7_readsAll ∈ zz_all := ⟨wd_897, wd_23⟩
theorem pd_X7_statement : (parseMethodDescriptor yX7_statement.desc).map (fun d => d.parameters.length) = some 0 := by decide +kernel
theorem vi_X7_statement : Cond.instanceMethod yX7_statement ∈ zz_all ∧ Cond.selects yX7_statement.cls yX7_statement yX7_statement ∈ zz_all := ⟨wd_889, wd_21⟩
theorem pd_X7_isTold : (parseMethodDescriptor yX7_isTold.desc).map (fun d => d.parameters.length) = some 2 := by decide +kernel
theorem vi_X7_isTold : Cond.instanceMethod yX7_isTold ∈ zz_all ∧ Cond.selects yX7_isTold.cls yX7_isTold yX7_isTold ∈ zz_all := ⟨wd_927, wd_29⟩
theorem pd_X7_comesTold : (parseMethodDescriptor yX7_comesTold.desc).map (fun d => d.parameters.length) = some 2 := by decide +kernel
theorem vi_X7_comesTold : Cond.instanceMethod yX7_comesTold ∈ zz_all ∧ Cond.selects yX7_comesTold.cls yX7_comesTold yX7_comesTold ∈ zz_all := ⟨wd_916, wd_27⟩
theorem pd_X7_changesTo : (parseMethodDescriptor yX7_changesTo.desc).map (fun d => d.parameters.length) = some 2 := by decide +kernel
theorem vi_X7_changesTo : Cond.instanceMethod yX7_changesTo ∈ zz_all ∧ Cond.selects yX7_changesTo.cls yX7_changesTo yX7_changesTo ∈ zz_all := ⟨wd_935, wd_31⟩
theorem pd_X7_comesChange : (parseMethodDescriptor yX7_comesChange.desc).map (fun d => d.parameters.length) = some 2 := by decide +kernel
theorem vi_X7_comesChange : Cond.instanceMethod yX7_comesChange ∈ zz_all ∧ Cond.selects yX7_comesChange.cls yX7_comesChange yX7_comesChange ∈ zz_all := ⟨wd_931, wd_30⟩
theorem pd_X7_comesBounds : (parseMethodDescriptor yX7_comesBounds.desc).map (fun d => d.parameters.length) = some 3 := by decide +kernel
theorem vi_X7_comesBounds : Cond.instanceMethod yX7_comesBounds ∈ zz_all ∧ Cond.selects yX7_comesBounds.cls yX7_comesBounds yX7_comesBounds ∈ zz_all := ⟨wd_939, wd_32⟩
theorem pd_X7_comesRule : (parseMethodDescriptor yX7_comesRule.desc).map (fun d => d.parameters.length) = some 2 := by decide +kernel
theorem vi_X7_comesRule : Cond.instanceMethod yX7_comesRule ∈ zz_all ∧ Cond.selects yX7_comesRule.cls yX7_comesRule yX7_comesRule ∈ zz_all := ⟨wd_947, wd_34⟩
theorem pd_X7_setTold : (parseMethodDescriptor yX7_setTold.desc).map (fun d => d.parameters.length) = some 3 := by decide +kernel
theorem vi_X7_setTold : Cond.instanceMethod yX7_setTold ∈ zz_all ∧ Cond.selects yX7_setTold.cls yX7_setTold yX7_setTold ∈ zz_all := ⟨wd_955, wd_36⟩
theorem pd_X7_comesQuestion : (parseMethodDescriptor yX7_comesQuestion.desc).map (fun d => d.parameters.length) = some 2 := by decide +kernel
theorem vi_X7_comesQuestion : Cond.instanceMethod yX7_comesQuestion ∈ zz_all ∧ Cond.selects yX7_comesQuestion.cls yX7_comesQuestion yX7_comesQuestion ∈ zz_all := ⟨wd_951, wd_35⟩
theorem pd_X7_comes : (parseMethodDescriptor yX7_comes.desc).map (fun d => d.parameters.length) = some 1 := by decide +kernel
theorem vi_X7_comes : Cond.instanceMethod yX7_comes ∈ zz_all ∧ Cond.selects yX7_comes.cls yX7_comes yX7_comes ∈ zz_all := ⟨wd_912, wd_26⟩
theorem pd_X7_guard : (parseMethodDescriptor yX7_guard.desc).map (fun d => d.parameters.length) = some 0 := by decide +kernel
theorem vi_X7_guard : Cond.instanceMethod yX7_guard ∈ zz_all ∧ Cond.selects yX7_guard.cls yX7_guard yX7_guard ∈ zz_all := ⟨wd_884, wd_885⟩
theorem pd_X7_person : (parseMethodDescriptor yX7_person.desc).map (fun d => d.parameters.length) = some 2 := by decide +kernel
theorem vi_X7_person : Cond.instanceMethod yX7_person ∈ zz_all ∧ Cond.selects yX7_person.cls yX7_person yX7_person ∈ zz_all := ⟨wd_1048, wd_1049⟩
theorem pd_X7_tells : (parseMethodDescriptor yX7_tells.desc).map (fun d => d.parameters.length) = some 2 := by decide +kernel
theorem vi_X7_tells : Cond.instanceMethod yX7_tells ∈ zz_all ∧ Cond.selects yX7_tells.cls yX7_tells yX7_tells ∈ zz_all := ⟨wd_1052, wd_1053⟩
theorem pd_X7_changes : (parseMethodDescriptor yX7_changes.desc).map (fun d => d.parameters.length) = some 2 := by decide +kernel
theorem vi_X7_changes : Cond.instanceMethod yX7_changes ∈ zz_all ∧ Cond.selects yX7_changes.cls yX7_changes yX7_changes ∈ zz_all := ⟨wd_1056, wd_1057⟩
theorem pd_X7_bounds : (parseMethodDescriptor yX7_bounds.desc).map (fun d => d.parameters.length) = some 3 := by decide +kernel
theorem vi_X7_bounds : Cond.instanceMethod yX7_bounds ∈ zz_all ∧ Cond.selects yX7_bounds.cls yX7_bounds yX7_bounds ∈ zz_all := ⟨wd_1060, wd_1061⟩
theorem pd_X7_rule : (parseMethodDescriptor yX7_rule.desc).map (fun d => d.parameters.length) = some 1 := by decide +kernel
theorem vi_X7_rule : Cond.instanceMethod yX7_rule ∈ zz_all ∧ Cond.selects yX7_rule.cls yX7_rule yX7_rule ∈ zz_all := ⟨wd_1064, wd_1065⟩
theorem pd_X7_limit : (parseMethodDescriptor yX7_limit.desc).map (fun d => d.parameters.length) = some 1 := by decide +kernel
theorem vi_X7_limit : Cond.instanceMethod yX7_limit ∈ zz_all ∧ Cond.selects yX7_limit.cls yX7_limit yX7_limit ∈ zz_all := ⟨wd_1068, wd_1069⟩
theorem pd_X7_ask : (parseMethodDescriptor yX7_ask.desc).map (fun d => d.parameters.length) = some 3 := by decide +kernel
theorem vi_X7_ask : Cond.instanceMethod yX7_ask ∈ zz_all ∧ Cond.selects yX7_ask.cls yX7_ask yX7_ask ∈ zz_all := ⟨wd_1072, wd_1073⟩
theorem pd_X7_would : (parseMethodDescriptor yX7_would.desc).map (fun d => d.parameters.length) = some 3 := by decide +kernel
theorem vi_X7_would : Cond.instanceMethod yX7_would ∈ zz_all ∧ Cond.selects yX7_would.cls yX7_would yX7_would ∈ zz_all := ⟨wd_1081, wd_1082⟩
theorem pd_X7_findSums : (parseMethodDescriptor yX7_findSums.desc).map (fun d => d.parameters.length) = some 0 := by decide +kernel
theorem vi_X7_findSums : Cond.instanceMethod yX7_findSums ∈ zz_all ∧ Cond.selects yX7_findSums.cls yX7_findSums yX7_findSums ∈ zz_all := ⟨wd_1090, wd_55⟩
theorem pd_X7_firstToJoin : (parseMethodDescriptor yX7_firstToJoin.desc).map (fun d => d.parameters.length) = some 0 := by decide +kernel
theorem vi_X7_firstToJoin : Cond.instanceMethod yX7_firstToJoin ∈ zz_all ∧ Cond.selects yX7_firstToJoin.cls yX7_firstToJoin yX7_firstToJoin ∈ zz_all := ⟨wd_1094, wd_56⟩
theorem pd_X7_sums : (parseMethodDescriptor yX7_sums.desc).map (fun d => d.parameters.length) = some 1 := by decide +kernel
theorem vi_X7_sums : Cond.instanceMethod yX7_sums ∈ zz_all ∧ Cond.selects yX7_sums.cls yX7_sums yX7_sums ∈ zz_all := ⟨wd_1085, wd_1086⟩
theorem pd_X7_cheapest : (parseMethodDescriptor yX7_cheapest.desc).map (fun d => d.parameters.length) = some 1 := by decide +kernel
theorem vi_X7_cheapest : Cond.instanceMethod yX7_cheapest ∈ zz_all ∧ Cond.selects yX7_cheapest.cls yX7_cheapest yX7_cheapest ∈ zz_all := ⟨wd_1097, wd_1098⟩
theorem pd_X7_isRow : (parseMethodDescriptor yX7_isRow.desc).map (fun d => d.parameters.length) = some 1 := by decide +kernel
theorem vi_X7_isRow : Cond.instanceMethod yX7_isRow ∈ zz_all ∧ Cond.selects yX7_isRow.cls yX7_isRow yX7_isRow ∈ zz_all := ⟨wd_1109, wd_57⟩
theorem pd_X7_ledger : (parseMethodDescriptor yX7_ledger.desc).map (fun d => d.parameters.length) = some 2 := by decide +kernel
theorem vi_X7_ledger : Cond.instanceMethod yX7_ledger ∈ zz_all ∧ Cond.selects yX7_ledger.cls yX7_ledger yX7_ledger ∈ zz_all := ⟨wd_1104, wd_1105⟩
theorem pd_X7_answer : (parseMethodDescriptor yX7_answer.desc).map (fun d => d.parameters.length) = some 1 := by decide +kernel
theorem vi_X7_answer : Cond.instanceMethod yX7_answer ∈ zz_all ∧ Cond.selects yX7_answer.cls yX7_answer yX7_answer ∈ zz_all := ⟨wd_1112, wd_1113⟩
theorem pd_X7_partOf : (parseMethodDescriptor yX7_partOf.desc).map (fun d => d.parameters.length) = some 3 := by decide +kernel
theorem vs_X7_partOf : Cond.static yX7_partOf ∈ zz_all := wd_1129
theorem pd_X7_byPivots : (parseMethodDescriptor yX7_byPivots.desc).map (fun d => d.parameters.length) = some 1 := by decide +kernel
theorem vi_X7_byPivots : Cond.instanceMethod yX7_byPivots ∈ zz_all ∧ Cond.selects yX7_byPivots.cls yX7_byPivots yX7_byPivots ∈ zz_all := ⟨wd_1126, wd_59⟩
theorem pd_X7_reduced : (parseMethodDescriptor yX7_reduced.desc).map (fun d => d.parameters.length) = some 3 := by decide +kernel
theorem vi_X7_reduced : Cond.instanceMethod yX7_reduced ∈ zz_all ∧ Cond.selects yX7_reduced.cls yX7_reduced yX7_reduced ∈ zz_all := ⟨wd_1121, wd_1122⟩
theorem pd_X7_pivots : (parseMethodDescriptor yX7_pivots.desc).map (fun d => d.parameters.length) = some 0 := by decide +kernel
theorem vi_X7_pivots : Cond.instanceMethod yX7_pivots ∈ zz_all ∧ Cond.selects yX7_pivots.cls yX7_pivots yX7_pivots ∈ zz_all := ⟨wd_1132, wd_1133⟩
theorem pd_X7_attack : (parseMethodDescriptor yX7_attack.desc).map (fun d => d.parameters.length) = some 2 := by decide +kernel
theorem vi_X7_attack : Cond.instanceMethod yX7_attack ∈ zz_all ∧ Cond.selects yX7_attack.cls yX7_attack yX7_attack ∈ zz_all := ⟨wd_1136, wd_1137⟩
theorem pd_X7_below : (parseMethodDescriptor yX7_below.desc).map (fun d => d.parameters.length) = some 2 := by decide +kernel
theorem vs_X7_below : Cond.static yX7_below ∈ zz_all := wd_1159
theorem pd_X7_above : (parseMethodDescriptor yX7_above.desc).map (fun d => d.parameters.length) = some 2 := by decide +kernel
theorem vs_X7_above : Cond.static yX7_above ∈ zz_all := wd_1156
theorem pd_X7_narrowsOne : (parseMethodDescriptor yX7_narrowsOne.desc).map (fun d => d.parameters.length) = some 2 := by decide +kernel
theorem vi_X7_narrowsOne : Cond.instanceMethod yX7_narrowsOne ∈ zz_all ∧ Cond.selects yX7_narrowsOne.cls yX7_narrowsOne yX7_narrowsOne ∈ zz_all := ⟨wd_1153, wd_62⟩
theorem pd_X7_narrows : (parseMethodDescriptor yX7_narrows.desc).map (fun d => d.parameters.length) = some 0 := by decide +kernel
theorem vi_X7_narrows : Cond.instanceMethod yX7_narrows ∈ zz_all ∧ Cond.selects yX7_narrows.cls yX7_narrows yX7_narrows ∈ zz_all := ⟨wd_1149, wd_61⟩
theorem pd_X7_width : (parseMethodDescriptor yX7_width.desc).map (fun d => d.parameters.length) = some 1 := by decide +kernel
theorem vi_X7_width : Cond.instanceMethod yX7_width ∈ zz_all ∧ Cond.selects yX7_width.cls yX7_width yX7_width ∈ zz_all := ⟨wd_1163, wd_63⟩
theorem pd_X7_variable : (parseMethodDescriptor yX7_variable.desc).map (fun d => d.parameters.length) = some 2 := by decide +kernel
theorem vi_X7_variable : Cond.instanceMethod yX7_variable ∈ zz_all ∧ Cond.selects yX7_variable.cls yX7_variable yX7_variable ∈ zz_all := ⟨wd_1144, wd_1145⟩
theorem pd_X7_knownNow : (parseMethodDescriptor yX7_knownNow.desc).map (fun d => d.parameters.length) = some 0 := by decide +kernel
theorem vi_X7_knownNow : Cond.instanceMethod yX7_knownNow ∈ zz_all ∧ Cond.selects yX7_knownNow.cls yX7_knownNow yX7_knownNow ∈ zz_all := ⟨wd_1171, wd_64⟩
theorem pd_X7_known : (parseMethodDescriptor yX7_known.desc).map (fun d => d.parameters.length) = some 0 := by decide +kernel
theorem vi_X7_known : Cond.instanceMethod yX7_known ∈ zz_all ∧ Cond.selects yX7_known.cls yX7_known yX7_known ∈ zz_all := ⟨wd_1166, wd_1167⟩
theorem pd_X7_narrowest : (parseMethodDescriptor yX7_narrowest.desc).map (fun d => d.parameters.length) = some 0 := by decide +kernel
theorem vi_X7_narrowest : Cond.instanceMethod yX7_narrowest ∈ zz_all ∧ Cond.selects yX7_narrowest.cls yX7_narrowest yX7_narrowest ∈ zz_all := ⟨wd_1183, wd_66⟩
theorem pd_X7_learns : (parseMethodDescriptor yX7_learns.desc).map (fun d => d.parameters.length) = some 4 := by decide +kernel
theorem vi_X7_learns : Cond.instanceMethod yX7_learns ∈ zz_all ∧ Cond.selects yX7_learns.cls yX7_learns yX7_learns ∈ zz_all := ⟨wd_1174, wd_1175⟩
theorem pd_X7_asksSum : (parseMethodDescriptor yX7_asksSum.desc).map (fun d => d.parameters.length) = some 1 := by decide +kernel
theorem vi_X7_asksSum : Cond.instanceMethod yX7_asksSum ∈ zz_all ∧ Cond.selects yX7_asksSum.cls yX7_asksSum yX7_asksSum ∈ zz_all := ⟨wd_1202, wd_69⟩
theorem pd_X7_joinsIn : (parseMethodDescriptor yX7_joinsIn.desc).map (fun d => d.parameters.length) = some 1 := by decide +kernel
theorem vi_X7_joinsIn : Cond.instanceMethod yX7_joinsIn ∈ zz_all ∧ Cond.selects yX7_joinsIn.cls yX7_joinsIn yX7_joinsIn ∈ zz_all := ⟨wd_1198, wd_68⟩
theorem pd_X7_isOrder : (parseMethodDescriptor yX7_isOrder.desc).map (fun d => d.parameters.length) = some 1 := by decide +kernel
theorem vs_X7_isOrder : Cond.static yX7_isOrder ∈ zz_all := wd_1194
theorem pd_X7_order : (parseMethodDescriptor yX7_order.desc).map (fun d => d.parameters.length) = some 4 := by decide +kernel
theorem vi_X7_order : Cond.instanceMethod yX7_order ∈ zz_all ∧ Cond.selects yX7_order.cls yX7_order yX7_order ∈ zz_all := ⟨wd_1190, wd_1191⟩
theorem pd_X7_getsFor : (parseMethodDescriptor yX7_getsFor.desc).map (fun d => d.parameters.length) = some 1 := by decide +kernel
theorem vi_X7_getsFor : Cond.instanceMethod yX7_getsFor ∈ zz_all ∧ Cond.selects yX7_getsFor.cls yX7_getsFor yX7_getsFor ∈ zz_all := ⟨wd_1214, wd_71⟩
theorem pd_X7_findEnds : (parseMethodDescriptor yX7_findEnds.desc).map (fun d => d.parameters.length) = some 2 := by decide +kernel
theorem vi_X7_findEnds : Cond.instanceMethod yX7_findEnds ∈ zz_all ∧ Cond.selects yX7_findEnds.cls yX7_findEnds yX7_findEnds ∈ zz_all := ⟨wd_1210, wd_70⟩
theorem pd_X7_two : (parseMethodDescriptor yX7_two.desc).map (fun d => d.parameters.length) = some 2 := by decide +kernel
theorem vi_X7_two : Cond.instanceMethod yX7_two ∈ zz_all ∧ Cond.selects yX7_two.cls yX7_two yX7_two ∈ zz_all := ⟨wd_1205, wd_1206⟩
theorem pd_X7_mean : (parseMethodDescriptor yX7_mean.desc).map (fun d => d.parameters.length) = some 1 := by decide +kernel
theorem vi_X7_mean : Cond.instanceMethod yX7_mean ∈ zz_all ∧ Cond.selects yX7_mean.cls yX7_mean yX7_mean ∈ zz_all := ⟨wd_1217, wd_1218⟩
theorem pd_X7_share : (parseMethodDescriptor yX7_share.desc).map (fun d => d.parameters.length) = some 1 := by decide +kernel
theorem vi_X7_share : Cond.instanceMethod yX7_share ∈ zz_all ∧ Cond.selects yX7_share.cls yX7_share yX7_share ∈ zz_all := ⟨wd_1221, wd_1222⟩
theorem pd_X7_isRowQuestions : (parseMethodDescriptor yX7_isRowQuestions.desc).map (fun d => d.parameters.length) = some 0 := by decide +kernel
theorem vi_X7_isRowQuestions : Cond.instanceMethod yX7_isRowQuestions ∈ zz_all ∧ Cond.selects yX7_isRowQuestions.cls yX7_isRowQuestions yX7_isRowQuestions ∈ zz_all := ⟨wd_1231, wd_72⟩
theorem pd_X7_isMetSo : (parseMethodDescriptor yX7_isMetSo.desc).map (fun d => d.parameters.length) = some 2 := by decide +kernel
theorem vi_X7_isMetSo : Cond.instanceMethod yX7_isMetSo ∈ zz_all ∧ Cond.selects yX7_isMetSo.cls yX7_isMetSo yX7_isMetSo ∈ zz_all := ⟨wd_1235, wd_73⟩
theorem pd_X7_which : (parseMethodDescriptor yX7_which.desc).map (fun d => d.parameters.length) = some 1 := by decide +kernel
theorem vi_X7_which : Cond.instanceMethod yX7_which ∈ zz_all ∧ Cond.selects yX7_which.cls yX7_which yX7_which ∈ zz_all := ⟨wd_1226, wd_1227⟩
theorem pd_X7_row : (parseMethodDescriptor yX7_row.desc).map (fun d => d.parameters.length) = some 1 := by decide +kernel
theorem vi_X7_row : Cond.instanceMethod yX7_row ∈ zz_all ∧ Cond.selects yX7_row.cls yX7_row yX7_row ∈ zz_all := ⟨wd_1238, wd_1239⟩
theorem pd_X7_answerBy : (parseMethodDescriptor yX7_answerBy.desc).map (fun d => d.parameters.length) = some 2 := by decide +kernel
theorem vi_X7_answerBy : Cond.instanceMethod yX7_answerBy ∈ zz_all ∧ Cond.selects yX7_answerBy.cls yX7_answerBy yX7_answerBy ∈ zz_all := ⟨wd_1247, wd_74⟩
theorem pd_X7_judge : (parseMethodDescriptor yX7_judge.desc).map (fun d => d.parameters.length) = some 0 := by decide +kernel
theorem vi_X7_judge : Cond.instanceMethod yX7_judge ∈ zz_all ∧ Cond.selects yX7_judge.cls yX7_judge yX7_judge ∈ zz_all := ⟨wd_1242, wd_1243⟩
theorem pd_X7_clear : (parseMethodDescriptor yX7_clear.desc).map (fun d => d.parameters.length) = some 0 := by decide +kernel
theorem vi_X7_clear : Cond.instanceMethod yX7_clear ∈ zz_all ∧ Cond.selects yX7_clear.cls yX7_clear yX7_clear ∈ zz_all := ⟨wd_1250, wd_1251⟩
theorem pd_X7_draw : (parseMethodDescriptor yX7_draw.desc).map (fun d => d.parameters.length) = some 1 := by decide +kernel
theorem vi_X7_draw : Cond.instanceMethod yX7_draw ∈ zz_all ∧ Cond.selects yX7_draw.cls yX7_draw yX7_draw ∈ zz_all := ⟨wd_1259, wd_75⟩
theorem pd_X7_lots : (parseMethodDescriptor yX7_lots.desc).map (fun d => d.parameters.length) = some 3 := by decide +kernel
theorem vi_X7_lots : Cond.instanceMethod yX7_lots ∈ zz_all ∧ Cond.selects yX7_lots.cls yX7_lots yX7_lots ∈ zz_all := ⟨wd_1254, wd_1255⟩
theorem pd_X7_notFree : (parseMethodDescriptor yX7_notFree.desc).map (fun d => d.parameters.length) = some 0 := by decide +kernel
theorem vi_X7_notFree : Cond.instanceMethod yX7_notFree ∈ zz_all ∧ Cond.selects yX7_notFree.cls yX7_notFree yX7_notFree ∈ zz_all := ⟨wd_1270, wd_76⟩
theorem pd_X7_allValues : (parseMethodDescriptor yX7_allValues.desc).map (fun d => d.parameters.length) = some 0 := by decide +kernel
theorem vi_X7_allValues : Cond.instanceMethod yX7_allValues ∈ zz_all ∧ Cond.selects yX7_allValues.cls yX7_allValues yX7_allValues ∈ zz_all := ⟨wd_1274, wd_77⟩
theorem pd_X7_count : (parseMethodDescriptor yX7_count.desc).map (fun d => d.parameters.length) = some 1 := by decide +kernel
theorem vi_X7_count : Cond.instanceMethod yX7_count ∈ zz_all ∧ Cond.selects yX7_count.cls yX7_count yX7_count ∈ zz_all := ⟨wd_1265, wd_1266⟩
theorem pd_J6_bitCount_0f7a4 : (parseMethodDescriptor yJ6_bitCount_0f7a4.desc).map (fun d => d.parameters.length) = some 1 := by decide +kernel
theorem vs_J6_bitCount_0f7a4 : Cond.static yJ6_bitCount_0f7a4 ∈ zz_all := wd_612
theorem pd_J9_floorDiv_7cf53 : (parseMethodDescriptor yJ9_floorDiv_7cf53.desc).map (fun d => d.parameters.length) = some 2 := by decide +kernel
theorem vs_J9_floorDiv_7cf53 : Cond.static yJ9_floorDiv_7cf53 ∈ zz_all := wd_482
theorem pd_J9_abs_067f4 : (parseMethodDescriptor yJ9_abs_067f4.desc).map (fun d => d.parameters.length) = some 1 := by decide +kernel
theorem vs_J9_abs_067f4 : Cond.static yJ9_abs_067f4 ∈ zz_all := wd_576
theorem pd_J9_max_7cf53 : (parseMethodDescriptor yJ9_max_7cf53.desc).map (fun d => d.parameters.length) = some 2 := by decide +kernel
theorem vs_J9_max_7cf53 : Cond.static yJ9_max_7cf53 ∈ zz_all := wd_632
theorem pd_J9_min_7cf53 : (parseMethodDescriptor yJ9_min_7cf53.desc).map (fun d => d.parameters.length) = some 2 := by decide +kernel
theorem vs_J9_min_7cf53 : Cond.static yJ9_min_7cf53 ∈ zz_all := wd_447
theorem cw_L_9 : zz_cw RL 9 yX6_init cX6_init 1 none 0 := ⟨wd_92, wd_94, wd_79, nh_X6, pd_X6_init⟩
theorem cw_X6_9 : zz_cw RX6 9 yX5_init cX5_init 2 none 0 := ⟨wd_100, wd_102, wd_80, nh_X5, pd_X5_init⟩
theorem cw_X5_41 : zz_cw RX5 41 yX4_init cX4_init 2 none 0 := ⟨wd_108, wd_110, wd_81, nh_X4, pd_X4_init⟩
theorem cw_X6_38 : zz_cw RX6 38 yX1_init cX1_init 2 none 1 := ⟨wd_206, wd_208, wd_84, nh_X1, pd_X1_init⟩
theorem cw_L_13 : zz_cw RL 13 yX6_letter cX6_letter 2 (some .int) 1 := ⟨wd_248, wd_251, wd_79, nh_X6, pd_X6_letter⟩
theorem cw_X6_52 : zz_cw RX6 52 yX6_append cX6_append 4 (some .int) 2 := ⟨wd_252, wd_255, wd_79, nh_X6, pd_X6_append⟩
theorem cw_X6_125 : zz_cw RX6 125 yX6_misfit cX6_misfit 3 (some .int) 3 := ⟨wd_256, wd_258, wd_79, nh_X6, pd_X6_misfit⟩
theorem cw_X6_73 : zz_cw RX6 73 yX6_refuse cX6_refuse 3 (some .int) 1 := ⟨wd_259, wd_262, wd_79, nh_X6, pd_X6_refuse⟩
theorem cw_X6_69 : zz_cw RX6 69 yX6_isWithin cX6_isWithin 2 (some .boolean) 2 := ⟨wd_263, wd_265, wd_79, nh_X6, pd_X6_isWithin⟩
theorem cw_X6_284 : zz_cw RX6 284 yX1_add cX1_add 2 (some .boolean) 1 := ⟨wd_266, wd_269, wd_84, nh_X1, pd_X1_add⟩
theorem cw_L_18 : zz_cw RL 18 yX6_guard cX6_guard 2 (some .int) 0 := ⟨wd_271, wd_274, wd_79, nh_X6, pd_X6_guard⟩
theorem cw_X6_56 : zz_cw RX6 56 yX5_copyFrom cX5_copyFrom 3 none 1 := ⟨wd_275, wd_278, wd_80, nh_X5, pd_X5_copyFrom⟩
theorem cw_X5_68 : zz_cw RX5 68 yX4_copyFrom cX4_copyFrom 3 none 1 := ⟨wd_282, wd_285, wd_81, nh_X4, pd_X4_copyFrom⟩
theorem cw_X6_60 : zz_cw RX6 60 yX3_perform cX3_perform 7 (some .int) 3 := ⟨wd_287, wd_289, wd_87, nh_X3, pd_X3_perform⟩
theorem cw_X3_9 : zz_cw RX3 9 yX3_firstMisfit cX3_firstMisfit 5 (some .int) 1 := ⟨wd_290, wd_292, wd_87, nh_X3, pd_X3_firstMisfit⟩
theorem cw_X3_25 : zz_cw RX3 25 yX1_at cX1_at 2 (some .int) 1 := ⟨wd_293, wd_296, wd_84, nh_X1, pd_X1_at⟩
theorem cw_X3_29 : zz_cw RX3 29 yX3_digitsBehind cX3_digitsBehind 1 (some .int) 1 := ⟨wd_297, wd_299, wd_87, nh_X3, pd_X3_digitsBehind⟩
theorem cw_X3_21 : zz_cw RX3 21 yX3_performOne cX3_performOne 4 (some .boolean) 4 := ⟨wd_300, wd_302, wd_87, nh_X3, pd_X3_performOne⟩
theorem cw_X3_32 : zz_cw RX3 32 yX3_digit cX3_digit 2 (some .int) 2 := ⟨wd_303, wd_305, wd_87, nh_X3, pd_X3_digit⟩
theorem cw_X3_36 : zz_cw RX3 36 yX3_pair cX3_pair 2 (some .int) 2 := ⟨wd_306, wd_308, wd_87, nh_X3, pd_X3_pair⟩
theorem cw_X3_39 : zz_cw RX3 39 yX5_takeTold cX5_takeTold 4 (some .boolean) 2 := ⟨wd_309, wd_312, wd_80, nh_X5, pd_X5_takeTold⟩
theorem cw_X5_99 : zz_cw RX5 99 yX5_variableOf cX5_variableOf 2 (some .int) 1 := ⟨wd_313, wd_316, wd_80, nh_X5, pd_X5_variableOf⟩
theorem cw_X5_76 : zz_cw RX5 76 yX5_has cX5_has 2 (some .boolean) 1 := ⟨wd_318, wd_321, wd_80, nh_X5, pd_X5_has⟩
theorem cw_X5_84 : zz_cw RX5 84 yX5_isFree cX5_isFree 3 (some .boolean) 1 := ⟨wd_322, wd_325, wd_80, nh_X5, pd_X5_isFree⟩
theorem cw_X5_80 : zz_cw RX5 80 yX5_coefficient cX5_coefficient 3 (some .int) 2 := ⟨wd_326, wd_329, wd_80, nh_X5, pd_X5_coefficient⟩
theorem cw_X5_102 : zz_cw RX5 102 yX5_set cX5_set 3 none 2 := ⟨wd_330, wd_333, wd_80, nh_X5, pd_X5_set⟩
theorem cw_X3_45 : zz_cw RX3 45 yX5_takeChange cX5_takeChange 3 (some .boolean) 2 := ⟨wd_334, wd_337, wd_80, nh_X5, pd_X5_takeChange⟩
theorem cw_X3_48 : zz_cw RX3 48 yX5_takeBounds cX5_takeBounds 4 (some .boolean) 3 := ⟨wd_338, wd_341, wd_80, nh_X5, pd_X5_takeBounds⟩
theorem cw_X3_52 : zz_cw RX3 52 yX5_takeRule cX5_takeRule 2 (some .boolean) 1 := ⟨wd_342, wd_345, wd_80, nh_X5, pd_X5_takeRule⟩
theorem cw_X3_56 : zz_cw RX3 56 yX5_takeLimit cX5_takeLimit 2 (some .boolean) 1 := ⟨wd_346, wd_349, wd_80, nh_X5, pd_X5_takeLimit⟩
theorem cw_X3_59 : zz_cw RX3 59 yX3_readQuestion cX3_readQuestion 9 (some .boolean) 3 := ⟨wd_350, wd_352, wd_87, nh_X3, pd_X3_readQuestion⟩
theorem cw_X3_67 : zz_cw RX3 67 yX2_misfitOf cX2_misfitOf 5 (some .int) 3 := ⟨wd_353, wd_355, wd_82, nh_X2, pd_X2_misfitOf⟩
theorem cw_X3_73 : zz_cw RX3 73 yX2_make cX2_make 8 none 3 := ⟨wd_356, wd_359, wd_82, nh_X2, pd_X2_make⟩
theorem cw_X3_63 : zz_cw RX3 63 yX5_takeQuestion cX5_takeQuestion 3 (some .int) 1 := ⟨wd_360, wd_363, wd_80, nh_X5, pd_X5_takeQuestion⟩
theorem cw_X5_106 : zz_cw RX5 106 yX5_meetingBy cX5_meetingBy 6 (some .int) 3 := ⟨wd_364, wd_367, wd_80, nh_X5, pd_X5_meetingBy⟩
theorem cw_X5_114 : zz_cw RX5 114 yX5_findRest cX5_findRest 4 none 1 := ⟨wd_368, wd_371, wd_80, nh_X5, pd_X5_findRest⟩
theorem cw_X5_143 : zz_cw RX5 143 yX4_leave cX4_leave 6 none 2 := ⟨wd_372, wd_375, wd_81, nh_X4, pd_X4_leave⟩
theorem cw_X5_117 : zz_cw RX5 117 yX4_firstIn cX4_firstIn 2 (some .int) 1 := ⟨wd_376, wd_378, wd_81, nh_X4, pd_X4_firstIn⟩
theorem cw_X5_121 : zz_cw RX5 121 yX4_fixedBitsWith cX4_fixedBitsWith 5 (some .int) 1 := ⟨wd_379, wd_382, wd_81, nh_X4, pd_X4_fixedBitsWith⟩
theorem cw_X4_30 : zz_cw RX4 30 yX4_firstIn cX4_firstIn 2 (some .int) 1 := ⟨wd_383, wd_378, wd_81, nh_X4, pd_X4_firstIn⟩
theorem cw_X4_38 : zz_cw RX4 38 yX4_isOneLine cX4_isOneLine 4 (some .boolean) 3 := ⟨wd_384, wd_386, wd_81, nh_X4, pd_X4_isOneLine⟩
theorem cw_X5_124 : zz_cw RX5 124 yX2_size cX2_size 3 (some .int) 0 := ⟨wd_387, wd_390, wd_82, nh_X2, pd_X2_size⟩
theorem cw_X5_129 : zz_cw RX5 129 yX4_join cX4_join 9 none 1 := ⟨wd_391, wd_394, wd_81, nh_X4, pd_X4_join⟩
theorem cw_X5_132 : zz_cw RX5 132 yX4_hasPair cX4_hasPair 4 (some .boolean) 0 := ⟨wd_396, wd_399, wd_81, nh_X4, pd_X4_hasPair⟩
theorem cw_X5_110 : zz_cw RX5 110 yX5_join cX5_join 2 none 1 := ⟨wd_400, wd_403, wd_80, nh_X5, pd_X5_join⟩
theorem cw_X5_136 : zz_cw RX5 136 yX5_trueAnswer cX5_trueAnswer 5 (some .int) 1 := ⟨wd_404, wd_407, wd_80, nh_X5, pd_X5_trueAnswer⟩
theorem cw_X6_66 : zz_cw RX6 66 yX1_forget cX1_forget 1 none 0 := ⟨wd_408, wd_411, wd_84, nh_X1, pd_X1_forget⟩
theorem cw_L_23 : zz_cw RL 23 yX6_person cX6_person 4 (some .int) 2 := ⟨wd_412, wd_415, wd_79, nh_X6, pd_X6_person⟩
theorem cw_X6_77 : zz_cw RX6 77 yX5_variableOf cX5_variableOf 2 (some .int) 1 := ⟨wd_416, wd_316, wd_80, nh_X5, pd_X5_variableOf⟩
theorem cw_X6_80 : zz_cw RX6 80 yX5_valueOf cX5_valueOf 2 (some .int) 1 := ⟨wd_417, wd_420, wd_80, nh_X5, pd_X5_valueOf⟩
theorem cw_X6_83 : zz_cw RX6 83 yX5_isFree cX5_isFree 3 (some .boolean) 1 := ⟨wd_421, wd_325, wd_80, nh_X5, pd_X5_isFree⟩
theorem cw_X6_87 : zz_cw RX6 87 yX6_asNumber cX6_asNumber 1 (some .int) 1 := ⟨wd_422, wd_424, wd_79, nh_X6, pd_X6_asNumber⟩
theorem cw_L_28 : zz_cw RL 28 yX6_variable cX6_variable 3 (some .int) 2 := ⟨wd_425, wd_428, wd_79, nh_X6, pd_X6_variable⟩
theorem cw_X6_91 : zz_cw RX6 91 yX5_has cX5_has 2 (some .boolean) 1 := ⟨wd_429, wd_321, wd_80, nh_X5, pd_X5_has⟩
theorem cw_X6_94 : zz_cw RX6 94 yX5_lowOf cX5_lowOf 2 (some .int) 1 := ⟨wd_430, wd_433, wd_80, nh_X5, pd_X5_lowOf⟩
theorem cw_X6_97 : zz_cw RX6 97 yX5_highOf cX5_highOf 2 (some .int) 1 := ⟨wd_434, wd_437, wd_80, nh_X5, pd_X5_highOf⟩
theorem cw_X6_100 : zz_cw RX6 100 yX6_narrowed cX6_narrowed 3 (some .int) 2 := ⟨wd_438, wd_441, wd_79, nh_X6, pd_X6_narrowed⟩
theorem cw_X6_104 : zz_cw RX6 104 yX0_narrow cX0_narrow 5 none 1 := ⟨wd_442, wd_445, wd_83, nh_X0, pd_X0_narrow⟩
theorem cw_X0_24 : zz_cw RX0 24 yJ9_min_7cf53 cJ9_min_7cf53 2 (some .int) 2 := ⟨wd_446, wd_448, wd_88, nh_J9, pd_J9_min_7cf53⟩
theorem cw_X0_31 : zz_cw RX0 31 yX5_lowOf cX5_lowOf 2 (some .int) 1 := ⟨wd_449, wd_433, wd_80, nh_X5, pd_X5_lowOf⟩
theorem cw_X0_35 : zz_cw RX0 35 yX5_highOf cX5_highOf 2 (some .int) 1 := ⟨wd_450, wd_437, wd_80, nh_X5, pd_X5_highOf⟩
theorem cw_X0_41 : zz_cw RX0 41 yX0_narrowByRow cX0_narrowByRow 11 (some .boolean) 2 := ⟨wd_451, wd_454, wd_83, nh_X0, pd_X0_narrowByRow⟩
theorem cw_X0_45 : zz_cw RX0 45 yX5_coefficient cX5_coefficient 3 (some .int) 2 := ⟨wd_455, wd_329, wd_80, nh_X5, pd_X5_coefficient⟩
theorem cw_X0_48 : zz_cw RX0 48 yX0_lowEnd cX0_lowEnd 3 (some .int) 2 := ⟨wd_456, wd_459, wd_83, nh_X0, pd_X0_lowEnd⟩
theorem cw_X0_68 : zz_cw RX0 68 yX0_leastOf cX0_leastOf 2 (some .int) 1 := ⟨wd_460, wd_463, wd_83, nh_X0, pd_X0_leastOf⟩
theorem cw_X0_71 : zz_cw RX0 71 yX0_mostOf cX0_mostOf 2 (some .int) 1 := ⟨wd_465, wd_468, wd_83, nh_X0, pd_X0_mostOf⟩
theorem cw_X0_51 : zz_cw RX0 51 yX0_highEnd cX0_highEnd 3 (some .int) 2 := ⟨wd_469, wd_472, wd_83, nh_X0, pd_X0_highEnd⟩
theorem cw_X0_54 : zz_cw RX0 54 yX5_answerOf cX5_answerOf 2 (some .int) 1 := ⟨wd_473, wd_476, wd_80, nh_X5, pd_X5_answerOf⟩
theorem cw_X0_57 : zz_cw RX0 57 yX0_narrowOne cX0_narrowOne 8 (some .boolean) 4 := ⟨wd_477, wd_480, wd_83, nh_X0, pd_X0_narrowOne⟩
theorem cw_X0_65 : zz_cw RX0 65 yJ9_floorDiv_7cf53 cJ9_floorDiv_7cf53 3 (some .int) 2 := ⟨wd_481, wd_483, wd_88, nh_J9, pd_J9_floorDiv_7cf53⟩
theorem cw_X6_107 : zz_cw RX6 107 yX0_leastOf cX0_leastOf 2 (some .int) 1 := ⟨wd_484, wd_463, wd_83, nh_X0, pd_X0_leastOf⟩
theorem cw_X6_110 : zz_cw RX6 110 yX0_mostOf cX0_mostOf 2 (some .int) 1 := ⟨wd_485, wd_468, wd_83, nh_X0, pd_X0_mostOf⟩
theorem cw_X6_113 : zz_cw RX6 113 yX0_widthOf cX0_widthOf 2 (some .int) 1 := ⟨wd_486, wd_489, wd_83, nh_X0, pd_X0_widthOf⟩
theorem cw_L_32 : zz_cw RL 32 yX6_tells cX6_tells 5 (some .int) 2 := ⟨wd_490, wd_493, wd_79, nh_X6, pd_X6_tells⟩
theorem cw_X6_116 : zz_cw RX6 116 yX6_misfitOfValue cX6_misfitOfValue 2 (some .int) 2 := ⟨wd_494, wd_496, wd_79, nh_X6, pd_X6_misfitOfValue⟩
theorem cw_X6_119 : zz_cw RX6 119 yX5_takeTold cX5_takeTold 4 (some .boolean) 2 := ⟨wd_497, wd_312, wd_80, nh_X5, pd_X5_takeTold⟩
theorem cw_L_36 : zz_cw RL 36 yX6_changes cX6_changes 4 (some .int) 2 := ⟨wd_498, wd_501, wd_79, nh_X6, pd_X6_changes⟩
theorem cw_X6_122 : zz_cw RX6 122 yX5_takeChange cX5_takeChange 3 (some .boolean) 2 := ⟨wd_502, wd_337, wd_80, nh_X5, pd_X5_takeChange⟩
theorem cw_L_40 : zz_cw RL 40 yX6_bounds cX6_bounds 4 (some .int) 3 := ⟨wd_503, wd_506, wd_79, nh_X6, pd_X6_bounds⟩
theorem cw_X6_129 : zz_cw RX6 129 yX5_takeBounds cX5_takeBounds 4 (some .boolean) 3 := ⟨wd_507, wd_341, wd_80, nh_X5, pd_X5_takeBounds⟩
theorem cw_L_45 : zz_cw RL 45 yX6_rule cX6_rule 3 (some .int) 1 := ⟨wd_508, wd_511, wd_79, nh_X6, pd_X6_rule⟩
theorem cw_X6_137 : zz_cw RX6 137 yX5_takeRule cX5_takeRule 2 (some .boolean) 1 := ⟨wd_512, wd_345, wd_80, nh_X5, pd_X5_takeRule⟩
theorem cw_L_49 : zz_cw RL 49 yX6_limit cX6_limit 4 (some .int) 1 := ⟨wd_513, wd_516, wd_79, nh_X6, pd_X6_limit⟩
theorem cw_X6_143 : zz_cw RX6 143 yX5_takeLimit cX5_takeLimit 2 (some .boolean) 1 := ⟨wd_517, wd_349, wd_80, nh_X5, pd_X5_takeLimit⟩
theorem cw_L_53 : zz_cw RL 53 yX6_ask cX6_ask 5 (some .int) 3 := ⟨wd_518, wd_521, wd_79, nh_X6, pd_X6_ask⟩
theorem cw_X6_146 : zz_cw RX6 146 yX2_misfitOf cX2_misfitOf 5 (some .int) 3 := ⟨wd_522, wd_355, wd_82, nh_X2, pd_X2_misfitOf⟩
theorem cw_X6_150 : zz_cw RX6 150 yX2_make cX2_make 8 none 3 := ⟨wd_524, wd_359, wd_82, nh_X2, pd_X2_make⟩
theorem cw_X6_154 : zz_cw RX6 154 yX5_takeQuestion cX5_takeQuestion 3 (some .int) 1 := ⟨wd_525, wd_363, wd_80, nh_X5, pd_X5_takeQuestion⟩
theorem cw_X6_158 : zz_cw RX6 158 yX5_trueAnswer cX5_trueAnswer 5 (some .int) 1 := ⟨wd_526, wd_407, wd_80, nh_X5, pd_X5_trueAnswer⟩
theorem cw_L_57 : zz_cw RL 57 yX6_would cX6_would 5 (some .int) 3 := ⟨wd_527, wd_530, wd_79, nh_X6, pd_X6_would⟩
theorem cw_X6_161 : zz_cw RX6 161 yX5_meetingBy cX5_meetingBy 6 (some .int) 3 := ⟨wd_531, wd_367, wd_80, nh_X5, pd_X5_meetingBy⟩
theorem cw_L_61 : zz_cw RL 61 yX6_sums cX6_sums 2 (some .int) 1 := ⟨wd_532, wd_535, wd_79, nh_X6, pd_X6_sums⟩
theorem cw_X6_165 : zz_cw RX6 165 yX6_leastJoining cX6_leastJoining 2 (some .int) 0 := ⟨wd_536, wd_539, wd_79, nh_X6, pd_X6_leastJoining⟩
theorem cw_X6_172 : zz_cw RX6 172 yX6_meetingOfSum cX6_meetingOfSum 3 (some .int) 2 := ⟨wd_540, wd_543, wd_79, nh_X6, pd_X6_meetingOfSum⟩
theorem cw_X6_169 : zz_cw RX6 169 yX6_howMany cX6_howMany 4 (some .int) 1 := ⟨wd_544, wd_547, wd_79, nh_X6, pd_X6_howMany⟩
theorem cw_L_65 : zz_cw RL 65 yX6_ledger cX6_ledger 3 (some .int) 2 := ⟨wd_548, wd_551, wd_79, nh_X6, pd_X6_ledger⟩
theorem cw_X6_179 : zz_cw RX6 179 yX5_coefficient cX5_coefficient 3 (some .int) 2 := ⟨wd_552, wd_329, wd_80, nh_X5, pd_X5_coefficient⟩
theorem cw_L_69 : zz_cw RL 69 yX6_answer cX6_answer 2 (some .long) 1 := ⟨wd_553, wd_556, wd_79, nh_X6, pd_X6_answer⟩
theorem cw_X6_184 : zz_cw RX6 184 yX5_answerOf cX5_answerOf 2 (some .int) 1 := ⟨wd_558, wd_476, wd_80, nh_X5, pd_X5_answerOf⟩
theorem cw_L_74 : zz_cw RL 74 yX6_reduced cX6_reduced 4 (some .long) 3 := ⟨wd_559, wd_562, wd_79, nh_X6, pd_X6_reduced⟩
theorem cw_X6_191 : zz_cw RX6 191 yX4_reducedPart cX4_reducedPart 5 (some .long) 3 := ⟨wd_563, wd_566, wd_81, nh_X4, pd_X4_reducedPart⟩
theorem cw_X4_42 : zz_cw RX4 42 yX4_pivotOf cX4_pivotOf 4 (some .int) 1 := ⟨wd_567, wd_570, wd_81, nh_X4, pd_X4_pivotOf⟩
theorem cw_X6_287 : zz_cw RX6 287 yJ9_abs_067f4 cJ9_abs_067f4 2 (some .long) 1 := ⟨wd_575, wd_577, wd_88, nh_J9, pd_J9_abs_067f4⟩
theorem cw_X6_291 : zz_cw RX6 291 yX6_greatestDivisor cX6_greatestDivisor 11 (some .long) 2 := ⟨wd_578, wd_580, wd_79, nh_X6, pd_X6_greatestDivisor⟩
theorem cw_L_79 : zz_cw RL 79 yX6_pivots cX6_pivots 1 (some .int) 0 := ⟨wd_581, wd_584, wd_79, nh_X6, pd_X6_pivots⟩
theorem cw_L_83 : zz_cw RL 83 yX6_attack cX6_attack 6 (some .int) 2 := ⟨wd_585, wd_588, wd_79, nh_X6, pd_X6_attack⟩
theorem cw_X6_200 : zz_cw RX6 200 yX5_fixedBitsWith cX5_fixedBitsWith 2 (some .int) 1 := ⟨wd_589, wd_592, wd_80, nh_X5, pd_X5_fixedBitsWith⟩
theorem cw_L_87 : zz_cw RL 87 yX6_known cX6_known 1 (some .int) 0 := ⟨wd_593, wd_596, wd_79, nh_X6, pd_X6_known⟩
theorem cw_X6_203 : zz_cw RX6 203 yX0_knownBits cX0_knownBits 3 (some .int) 0 := ⟨wd_597, wd_600, wd_83, nh_X0, pd_X0_knownBits⟩
theorem cw_X0_74 : zz_cw RX0 74 yX0_widthOf cX0_widthOf 2 (some .int) 1 := ⟨wd_601, wd_489, wd_83, nh_X0, pd_X0_widthOf⟩
theorem cw_L_91 : zz_cw RL 91 yX6_learns cX6_learns 7 (some .int) 4 := ⟨wd_602, wd_605, wd_79, nh_X6, pd_X6_learns⟩
theorem cw_X6_206 : zz_cw RX6 206 yX5_join cX5_join 2 none 1 := ⟨wd_606, wd_403, wd_80, nh_X5, pd_X5_join⟩
theorem cw_X6_210 : zz_cw RX6 210 yX0_narrowest cX0_narrowest 3 (some .int) 0 := ⟨wd_607, wd_610, wd_83, nh_X0, pd_X0_narrowest⟩
theorem cw_X6_213 : zz_cw RX6 213 yJ6_bitCount_0f7a4 cJ6_bitCount_0f7a4 1 (some .int) 1 := ⟨wd_611, wd_613, wd_89, nh_J6, pd_J6_bitCount_0f7a4⟩
theorem cw_L_108 : zz_cw RL 108 yX6_mean cX6_mean 2 (some .long) 1 := ⟨wd_617, wd_620, wd_79, nh_X6, pd_X6_mean⟩
theorem cw_X6_218 : zz_cw RX6 218 yX0_widths cX0_widths 3 (some .int) 0 := ⟨wd_621, wd_624, wd_83, nh_X0, pd_X0_widths⟩
theorem cw_X6_224 : zz_cw RX6 224 yX6_partInLeastTerms cX6_partInLeastTerms 9 (some .long) 3 := ⟨wd_625, wd_574, wd_79, nh_X6, pd_X6_partInLeastTerms⟩
theorem cw_L_96 : zz_cw RL 96 yX6_order cX6_order 12 (some .int) 4 := ⟨wd_626, wd_629, wd_79, nh_X6, pd_X6_order⟩
theorem cw_X6_228 : zz_cw RX6 228 yJ9_min_7cf53 cJ9_min_7cf53 2 (some .int) 2 := ⟨wd_630, wd_448, wd_88, nh_J9, pd_J9_min_7cf53⟩
theorem cw_X6_233 : zz_cw RX6 233 yJ9_max_7cf53 cJ9_max_7cf53 2 (some .int) 2 := ⟨wd_631, wd_633, wd_88, nh_J9, pd_J9_max_7cf53⟩
theorem cw_X6_236 : zz_cw RX6 236 yX6_misfitOfAll cX6_misfitOfAll 2 (some .int) 2 := ⟨wd_634, wd_636, wd_79, nh_X6, pd_X6_misfitOfAll⟩
theorem cw_X6_239 : zz_cw RX6 239 yX6_pick cX6_pick 4 (some .int) 4 := ⟨wd_637, wd_639, wd_79, nh_X6, pd_X6_pick⟩
theorem cw_X6_243 : zz_cw RX6 243 yX6_joinedInTurn cX6_joinedInTurn 4 (some .int) 3 := ⟨wd_640, wd_643, wd_79, nh_X6, pd_X6_joinedInTurn⟩
theorem cw_X6_246 : zz_cw RX6 246 yX6_takeSum cX6_takeSum 3 (some .int) 2 := ⟨wd_644, wd_647, wd_79, nh_X6, pd_X6_takeSum⟩
theorem cw_L_100 : zz_cw RL 100 yX6_two cX6_two 12 (some .int) 2 := ⟨wd_648, wd_651, wd_79, nh_X6, pd_X6_two⟩
theorem cw_X6_249 : zz_cw RX6 249 yX6_gain cX6_gain 1 (some .int) 1 := ⟨wd_652, wd_654, wd_79, nh_X6, pd_X6_gain⟩
theorem cw_L_104 : zz_cw RL 104 yX6_cheapest cX6_cheapest 6 (some .int) 1 := ⟨wd_655, wd_658, wd_79, nh_X6, pd_X6_cheapest⟩
theorem cw_L_112 : zz_cw RL 112 yX6_share cX6_share 2 (some .long) 1 := ⟨wd_659, wd_662, wd_79, nh_X6, pd_X6_share⟩
theorem cw_L_132 : zz_cw RL 132 yX6_lots cX6_lots 11 (some .int) 3 := ⟨wd_664, wd_667, wd_79, nh_X6, pd_X6_lots⟩
theorem cw_L_120 : zz_cw RL 120 yX6_row cX6_row 2 (some .int) 1 := ⟨wd_671, wd_674, wd_79, nh_X6, pd_X6_row⟩
theorem cw_L_128 : zz_cw RL 128 yX6_clear cX6_clear 2 (some .int) 0 := ⟨wd_675, wd_678, wd_79, nh_X6, pd_X6_clear⟩
theorem cw_L_116 : zz_cw RL 116 yX6_which cX6_which 6 (some .int) 1 := ⟨wd_679, wd_682, wd_79, nh_X6, pd_X6_which⟩
theorem cw_X6_260 : zz_cw RX6 260 yX6_isRowOfPairs cX6_isRowOfPairs 2 (some .boolean) 0 := ⟨wd_683, wd_686, wd_79, nh_X6, pd_X6_isRowOfPairs⟩
theorem cw_X6_267 : zz_cw RX6 267 yX1_at cX1_at 2 (some .int) 1 := ⟨wd_687, wd_296, wd_84, nh_X1, pd_X1_at⟩
theorem cw_X6_264 : zz_cw RX6 264 yX6_isMetBy cX6_isMetBy 4 (some .boolean) 2 := ⟨wd_688, wd_691, wd_79, nh_X6, pd_X6_isMetBy⟩
theorem cw_L_124 : zz_cw RL 124 yX6_judge cX6_judge 3 (some .int) 0 := ⟨wd_692, wd_695, wd_79, nh_X6, pd_X6_judge⟩
theorem cw_X6_270 : zz_cw RX6 270 yX5_answerByTold cX5_answerByTold 6 (some .int) 2 := ⟨wd_696, wd_699, wd_80, nh_X5, pd_X5_answerByTold⟩
theorem cw_X5_96 : zz_cw RX5 96 yX1_at cX1_at 2 (some .int) 1 := ⟨wd_700, wd_296, wd_84, nh_X1, pd_X1_at⟩
theorem cw_X5_87 : zz_cw RX5 87 yX5_valueOf cX5_valueOf 2 (some .int) 1 := ⟨wd_701, wd_420, wd_80, nh_X5, pd_X5_valueOf⟩
theorem cw_L_136 : zz_cw RL 136 yX6_image cX6_image 1 (some .int) 0 := ⟨wd_702, wd_705, wd_79, nh_X6, pd_X6_image⟩
theorem cw_L_140 : zz_cw RL 140 yX6_on cX6_on 1 (some .int) 0 := ⟨wd_706, wd_709, wd_79, nh_X6, pd_X6_on⟩
theorem cw_L_144 : zz_cw RL 144 yX6_count cX6_count 2 (some .int) 1 := ⟨wd_710, wd_713, wd_79, nh_X6, pd_X6_count⟩
theorem cw_X6_278 : zz_cw RX6 278 yX5_usedBits cX5_usedBits 3 (some .int) 0 := ⟨wd_714, wd_717, wd_80, nh_X5, pd_X5_usedBits⟩
theorem cw_X6_281 : zz_cw RX6 281 yX5_valuesOfPeople cX5_valuesOfPeople 3 (some .int) 0 := ⟨wd_718, wd_721, wd_80, nh_X5, pd_X5_valuesOfPeople⟩
theorem cw_L_12 : zz_cw RL 12 yX7_init cX7_init 2 none 0 := ⟨wd_724, wd_726, wd_85, nh_X7, pd_X7_init⟩
theorem cw_L_139 : zz_cw RL 139 yX7_image cX7_image 1 (some .int) 0 := ⟨wd_852, wd_855, wd_85, nh_X7, pd_X7_image⟩
theorem cw_X7_206 : zz_cw RX7 206 yX7_passesAll cX7_passesAll 3 none 2 := ⟨wd_856, wd_859, wd_85, nh_X7, pd_X7_passesAll⟩
theorem cw_X7_199 : zz_cw RX7 199 yX7_passes cX7_passes 3 none 1 := ⟨wd_860, wd_863, wd_85, nh_X7, pd_X7_passes⟩
theorem cw_X7_203 : zz_cw RX7 203 yX7_passOne cX7_passOne 3 (some .int) 1 := ⟨wd_864, wd_867, wd_85, nh_X7, pd_X7_passOne⟩
theorem cw_L_143 : zz_cw RL 143 yX7_on cX7_on 1 (some .int) 0 := ⟨wd_868, wd_871, wd_85, nh_X7, pd_X7_on⟩
theorem cw_X7_213 : zz_cw RX7 213 yX7_no cX7_no 2 (some .int) 1 := ⟨wd_872, wd_875, wd_85, nh_X7, pd_X7_no⟩
theorem cw_L_17 : zz_cw RL 17 yX7_letter cX7_letter 3 (some .int) 1 := ⟨wd_876, wd_879, wd_85, nh_X7, pd_X7_letter⟩
theorem cw_X7_216 : zz_cw RX7 216 yX7_bound cX7_bound 3 (some .int) 3 := ⟨wd_880, wd_882, wd_85, nh_X7, pd_X7_bound⟩
theorem cw_L_22 : zz_cw RL 22 yX7_guard cX7_guard 3 (some .int) 0 := ⟨wd_883, wd_886, wd_85, nh_X7, pd_X7_guard⟩
theorem cw_X7_288 : zz_cw RX7 288 yX7_statement cX7_statement 2 (some .boolean) 0 := ⟨wd_887, wd_890, wd_85, nh_X7, pd_X7_statement⟩
theorem cw_X7_226 : zz_cw RX7 226 yX7_letterNow cX7_letterNow 1 (some .int) 0 := ⟨wd_891, wd_894, wd_85, nh_X7, pd_X7_letterNow⟩
theorem cw_X7_241 : zz_cw RX7 241 yX7_readsAll cX7_readsAll 2 (some .boolean) 1 := ⟨wd_895, wd_898, wd_85, nh_X7, pd_X7_readsAll⟩
theorem cw_X7_232 : zz_cw RX7 232 yX7_readsDigits cX7_readsDigits 4 (some .boolean) 1 := ⟨wd_899, wd_902, wd_85, nh_X7, pd_X7_readsDigits⟩
theorem cw_X7_96 : zz_cw RX7 96 yX7_isIn cX7_isIn 3 (some .boolean) 3 := ⟨wd_903, wd_905, wd_85, nh_X7, pd_X7_isIn⟩
theorem cw_X7_235 : zz_cw RX7 235 yX7_readsMany cX7_readsMany 3 (some .boolean) 1 := ⟨wd_906, wd_909, wd_85, nh_X7, pd_X7_readsMany⟩
theorem cw_X7_291 : zz_cw RX7 291 yX7_comes cX7_comes 3 (some .boolean) 1 := ⟨wd_910, wd_913, wd_85, nh_X7, pd_X7_comes⟩
theorem cw_X7_273 : zz_cw RX7 273 yX7_comesTold cX7_comesTold 3 (some .boolean) 2 := ⟨wd_914, wd_917, wd_85, nh_X7, pd_X7_comesTold⟩
theorem cw_X7_244 : zz_cw RX7 244 yX7_isPerson cX7_isPerson 1 (some .boolean) 1 := ⟨wd_918, wd_920, wd_85, nh_X7, pd_X7_isPerson⟩
theorem cw_X7_247 : zz_cw RX7 247 yX7_isFree cX7_isFree 3 (some .boolean) 1 := ⟨wd_921, wd_924, wd_85, nh_X7, pd_X7_isFree⟩
theorem cw_X7_250 : zz_cw RX7 250 yX7_isTold cX7_isTold 3 none 2 := ⟨wd_925, wd_928, wd_85, nh_X7, pd_X7_isTold⟩
theorem cw_X7_276 : zz_cw RX7 276 yX7_comesChange cX7_comesChange 3 (some .boolean) 2 := ⟨wd_929, wd_932, wd_85, nh_X7, pd_X7_comesChange⟩
theorem cw_X7_254 : zz_cw RX7 254 yX7_changesTo cX7_changesTo 3 none 2 := ⟨wd_933, wd_936, wd_85, nh_X7, pd_X7_changesTo⟩
theorem cw_X7_279 : zz_cw RX7 279 yX7_comesBounds cX7_comesBounds 4 (some .boolean) 3 := ⟨wd_937, wd_940, wd_85, nh_X7, pd_X7_comesBounds⟩
theorem cw_X7_257 : zz_cw RX7 257 yX7_isVariable cX7_isVariable 2 (some .boolean) 1 := ⟨wd_941, wd_944, wd_85, nh_X7, pd_X7_isVariable⟩
theorem cw_X7_282 : zz_cw RX7 282 yX7_comesRule cX7_comesRule 3 (some .boolean) 2 := ⟨wd_945, wd_948, wd_85, nh_X7, pd_X7_comesRule⟩
theorem cw_X7_285 : zz_cw RX7 285 yX7_comesQuestion cX7_comesQuestion 6 (some .boolean) 2 := ⟨wd_949, wd_952, wd_85, nh_X7, pd_X7_comesQuestion⟩
theorem cw_X7_260 : zz_cw RX7 260 yX7_setTold cX7_setTold 6 (some .int) 3 := ⟨wd_953, wd_956, wd_85, nh_X7, pd_X7_setTold⟩
theorem cw_X7_263 : zz_cw RX7 263 yX7_notQuestion cX7_notQuestion 4 (some .int) 3 := ⟨wd_957, wd_959, wd_85, nh_X7, pd_X7_notQuestion⟩
theorem cw_X7_266 : zz_cw RX7 266 yX7_asks cX7_asks 6 none 3 := ⟨wd_960, wd_963, wd_85, nh_X7, pd_X7_asks⟩
theorem cw_X7_110 : zz_cw RX7 110 yX7_weight cX7_weight 4 (some .int) 4 := ⟨wd_964, wd_966, wd_85, nh_X7, pd_X7_weight⟩
theorem cw_X7_103 : zz_cw RX7 103 yX7_has cX7_has 2 (some .boolean) 2 := ⟨wd_967, wd_969, wd_85, nh_X7, pd_X7_has⟩
theorem cw_X7_270 : zz_cw RX7 270 yX7_isAsked cX7_isAsked 2 (some .int) 0 := ⟨wd_970, wd_973, wd_85, nh_X7, pd_X7_isAsked⟩
theorem cw_X7_186 : zz_cw RX7 186 yX7_meetsNow cX7_meetsNow 1 (some .int) 0 := ⟨wd_974, wd_977, wd_85, nh_X7, pd_X7_meetsNow⟩
theorem cw_X7_173 : zz_cw RX7 173 yX7_builds cX7_builds 2 none 0 := ⟨wd_978, wd_981, wd_85, nh_X7, pd_X7_builds⟩
theorem cw_X7_146 : zz_cw RX7 146 yX7_adds cX7_adds 7 none 2 := ⟨wd_982, wd_985, wd_85, nh_X7, pd_X7_adds⟩
theorem cw_X7_136 : zz_cw RX7 136 yX7_reduces cX7_reduces 4 none 2 := ⟨wd_986, wd_989, wd_85, nh_X7, pd_X7_reduces⟩
theorem cw_X7_132 : zz_cw RX7 132 yX7_clears cX7_clears 12 none 5 := ⟨wd_990, wd_992, wd_85, nh_X7, pd_X7_clears⟩
theorem cw_X7_118 : zz_cw RX7 118 yX7_divisor cX7_divisor 10 (some .long) 2 := ⟨wd_993, wd_995, wd_85, nh_X7, pd_X7_divisor⟩
theorem cw_X7_114 : zz_cw RX7 114 yX7_sizeOf cX7_sizeOf 2 (some .long) 1 := ⟨wd_996, wd_998, wd_85, nh_X7, pd_X7_sizeOf⟩
theorem cw_X7_122 : zz_cw RX7 122 yX7_makesLeast cX7_makesLeast 5 none 2 := ⟨wd_999, wd_1001, wd_85, nh_X7, pd_X7_makesLeast⟩
theorem cw_X7_140 : zz_cw RX7 140 yX7_firstOfOne cX7_firstOfOne 2 (some .int) 0 := ⟨wd_1002, wd_1005, wd_85, nh_X7, pd_X7_firstOfOne⟩
theorem cw_X7_179 : zz_cw RX7 179 yX7_meetsBy cX7_meetsBy 3 (some .int) 2 := ⟨wd_1007, wd_1010, wd_85, nh_X7, pd_X7_meetsBy⟩
theorem cw_X7_167 : zz_cw RX7 167 yX7_loads cX7_loads 2 none 0 := ⟨wd_1011, wd_1014, wd_85, nh_X7, pd_X7_loads⟩
theorem cw_X7_170 : zz_cw RX7 170 yX7_isForbidden cX7_isForbidden 3 (some .boolean) 2 := ⟨wd_1015, wd_1018, wd_85, nh_X7, pd_X7_isForbidden⟩
theorem cw_X7_160 : zz_cw RX7 160 yX7_isAnyFixed cX7_isAnyFixed 2 (some .boolean) 0 := ⟨wd_1019, wd_1022, wd_85, nh_X7, pd_X7_isAnyFixed⟩
theorem cw_X7_149 : zz_cw RX7 149 yX7_manyNot0 cX7_manyNot0 4 (some .int) 1 := ⟨wd_1023, wd_1026, wd_85, nh_X7, pd_X7_manyNot0⟩
theorem cw_X7_164 : zz_cw RX7 164 yX7_isAnyPaired cX7_isAnyPaired 3 (some .boolean) 0 := ⟨wd_1027, wd_1030, wd_85, nh_X7, pd_X7_isAnyPaired⟩
theorem cw_X7_157 : zz_cw RX7 157 yX7_areAlike cX7_areAlike 5 (some .boolean) 2 := ⟨wd_1031, wd_1034, wd_85, nh_X7, pd_X7_areAlike⟩
theorem cw_X7_153 : zz_cw RX7 153 yX7_isPivot cX7_isPivot 3 (some .boolean) 1 := ⟨wd_1035, wd_1038, wd_85, nh_X7, pd_X7_isPivot⟩
theorem cw_X7_189 : zz_cw RX7 189 yX7_joins cX7_joins 2 none 0 := ⟨wd_1039, wd_1042, wd_85, nh_X7, pd_X7_joins⟩
theorem cw_X7_183 : zz_cw RX7 183 yX7_trueAnswer cX7_trueAnswer 3 (some .int) 0 := ⟨wd_1043, wd_1046, wd_85, nh_X7, pd_X7_trueAnswer⟩
theorem cw_L_27 : zz_cw RL 27 yX7_person cX7_person 4 (some .int) 2 := ⟨wd_1047, wd_1050, wd_85, nh_X7, pd_X7_person⟩
theorem cw_L_35 : zz_cw RL 35 yX7_tells cX7_tells 5 (some .int) 2 := ⟨wd_1051, wd_1054, wd_85, nh_X7, pd_X7_tells⟩
theorem cw_L_39 : zz_cw RL 39 yX7_changes cX7_changes 4 (some .int) 2 := ⟨wd_1055, wd_1058, wd_85, nh_X7, pd_X7_changes⟩
theorem cw_L_44 : zz_cw RL 44 yX7_bounds cX7_bounds 5 (some .int) 3 := ⟨wd_1059, wd_1062, wd_85, nh_X7, pd_X7_bounds⟩
theorem cw_L_48 : zz_cw RL 48 yX7_rule cX7_rule 3 (some .int) 1 := ⟨wd_1063, wd_1066, wd_85, nh_X7, pd_X7_rule⟩
theorem cw_L_52 : zz_cw RL 52 yX7_limit cX7_limit 4 (some .int) 1 := ⟨wd_1067, wd_1070, wd_85, nh_X7, pd_X7_limit⟩
theorem cw_L_56 : zz_cw RL 56 yX7_ask cX7_ask 5 (some .int) 3 := ⟨wd_1071, wd_1074, wd_85, nh_X7, pd_X7_ask⟩
theorem cw_X7_294 : zz_cw RX7 294 yX7_lower cX7_lower 2 (some .int) 1 := ⟨wd_1075, wd_1078, wd_85, nh_X7, pd_X7_lower⟩
theorem cw_L_60 : zz_cw RL 60 yX7_would cX7_would 5 (some .int) 3 := ⟨wd_1080, wd_1083, wd_85, nh_X7, pd_X7_would⟩
theorem cw_L_64 : zz_cw RL 64 yX7_sums cX7_sums 2 (some .int) 1 := ⟨wd_1084, wd_1087, wd_85, nh_X7, pd_X7_sums⟩
theorem cw_X7_297 : zz_cw RX7 297 yX7_findSums cX7_findSums 2 none 0 := ⟨wd_1088, wd_1091, wd_85, nh_X7, pd_X7_findSums⟩
theorem cw_X7_300 : zz_cw RX7 300 yX7_firstToJoin cX7_firstToJoin 2 (some .int) 0 := ⟨wd_1092, wd_1095, wd_85, nh_X7, pd_X7_firstToJoin⟩
theorem cw_L_107 : zz_cw RL 107 yX7_cheapest cX7_cheapest 4 (some .int) 1 := ⟨wd_1096, wd_1099, wd_85, nh_X7, pd_X7_cheapest⟩
theorem cw_X7_303 : zz_cw RX7 303 yX7_bits cX7_bits 3 (some .int) 1 := ⟨wd_1100, wd_1102, wd_85, nh_X7, pd_X7_bits⟩
theorem cw_L_68 : zz_cw RL 68 yX7_ledger cX7_ledger 3 (some .int) 2 := ⟨wd_1103, wd_1106, wd_85, nh_X7, pd_X7_ledger⟩
theorem cw_X7_306 : zz_cw RX7 306 yX7_isRow cX7_isRow 2 (some .boolean) 1 := ⟨wd_1107, wd_1110, wd_85, nh_X7, pd_X7_isRow⟩
theorem cw_L_73 : zz_cw RL 73 yX7_answer cX7_answer 2 (some .long) 1 := ⟨wd_1111, wd_1114, wd_85, nh_X7, pd_X7_answer⟩
theorem cw_X7_309 : zz_cw RX7 309 yX7_lowestOf cX7_lowestOf 2 (some .long) 1 := ⟨wd_1115, wd_1118, wd_85, nh_X7, pd_X7_lowestOf⟩
theorem cw_L_78 : zz_cw RL 78 yX7_reduced cX7_reduced 6 (some .long) 3 := ⟨wd_1120, wd_1123, wd_85, nh_X7, pd_X7_reduced⟩
theorem cw_X7_313 : zz_cw RX7 313 yX7_byPivots cX7_byPivots 5 (some .int) 1 := ⟨wd_1124, wd_1127, wd_85, nh_X7, pd_X7_byPivots⟩
theorem cw_X7_316 : zz_cw RX7 316 yX7_partOf cX7_partOf 5 (some .long) 3 := ⟨wd_1128, wd_1130, wd_85, nh_X7, pd_X7_partOf⟩
theorem cw_L_82 : zz_cw RL 82 yX7_pivots cX7_pivots 3 (some .int) 0 := ⟨wd_1131, wd_1134, wd_85, nh_X7, pd_X7_pivots⟩
theorem cw_L_86 : zz_cw RL 86 yX7_attack cX7_attack 7 (some .int) 2 := ⟨wd_1135, wd_1138, wd_85, nh_X7, pd_X7_attack⟩
theorem cw_X7_320 : zz_cw RX7 320 yX7_isFixed cX7_isFixed 3 (some .boolean) 1 := ⟨wd_1139, wd_1142, wd_85, nh_X7, pd_X7_isFixed⟩
theorem cw_L_31 : zz_cw RL 31 yX7_variable cX7_variable 3 (some .int) 2 := ⟨wd_1143, wd_1146, wd_85, nh_X7, pd_X7_variable⟩
theorem cw_X7_332 : zz_cw RX7 332 yX7_narrows cX7_narrows 5 none 0 := ⟨wd_1147, wd_1150, wd_85, nh_X7, pd_X7_narrows⟩
theorem cw_X7_329 : zz_cw RX7 329 yX7_narrowsOne cX7_narrowsOne 11 (some .boolean) 2 := ⟨wd_1151, wd_1154, wd_85, nh_X7, pd_X7_narrowsOne⟩
theorem cw_X7_326 : zz_cw RX7 326 yX7_above cX7_above 2 (some .int) 2 := ⟨wd_1155, wd_1157, wd_85, nh_X7, pd_X7_above⟩
theorem cw_X7_323 : zz_cw RX7 323 yX7_below cX7_below 2 (some .int) 2 := ⟨wd_1158, wd_1160, wd_85, nh_X7, pd_X7_below⟩
theorem cw_X7_335 : zz_cw RX7 335 yX7_width cX7_width 2 (some .int) 1 := ⟨wd_1161, wd_1164, wd_85, nh_X7, pd_X7_width⟩
theorem cw_L_90 : zz_cw RL 90 yX7_known cX7_known 1 (some .int) 0 := ⟨wd_1165, wd_1168, wd_85, nh_X7, pd_X7_known⟩
theorem cw_X7_338 : zz_cw RX7 338 yX7_knownNow cX7_knownNow 3 (some .int) 0 := ⟨wd_1169, wd_1172, wd_85, nh_X7, pd_X7_knownNow⟩
theorem cw_L_95 : zz_cw RL 95 yX7_learns cX7_learns 8 (some .int) 4 := ⟨wd_1173, wd_1176, wd_85, nh_X7, pd_X7_learns⟩
theorem cw_X7_341 : zz_cw RX7 341 yX7_minds cX7_minds 1 none 0 := ⟨wd_1177, wd_1180, wd_85, nh_X7, pd_X7_minds⟩
theorem cw_X7_344 : zz_cw RX7 344 yX7_narrowest cX7_narrowest 3 (some .int) 0 := ⟨wd_1181, wd_1184, wd_85, nh_X7, pd_X7_narrowest⟩
theorem cw_X7_347 : zz_cw RX7 347 yX7_forgets cX7_forgets 1 none 0 := ⟨wd_1185, wd_1188, wd_85, nh_X7, pd_X7_forgets⟩
theorem cw_L_99 : zz_cw RL 99 yX7_order cX7_order 10 (some .int) 4 := ⟨wd_1189, wd_1192, wd_85, nh_X7, pd_X7_order⟩
theorem cw_X7_353 : zz_cw RX7 353 yX7_isOrder cX7_isOrder 1 (some .boolean) 1 := ⟨wd_1193, wd_1195, wd_85, nh_X7, pd_X7_isOrder⟩
theorem cw_X7_356 : zz_cw RX7 356 yX7_joinsIn cX7_joinsIn 3 (some .int) 1 := ⟨wd_1196, wd_1199, wd_85, nh_X7, pd_X7_joinsIn⟩
theorem cw_X7_350 : zz_cw RX7 350 yX7_asksSum cX7_asksSum 2 (some .int) 1 := ⟨wd_1200, wd_1203, wd_85, nh_X7, pd_X7_asksSum⟩
theorem cw_L_103 : zz_cw RL 103 yX7_two cX7_two 5 (some .int) 2 := ⟨wd_1204, wd_1207, wd_85, nh_X7, pd_X7_two⟩
theorem cw_X7_362 : zz_cw RX7 362 yX7_findEnds cX7_findEnds 4 none 2 := ⟨wd_1208, wd_1211, wd_85, nh_X7, pd_X7_findEnds⟩
theorem cw_X7_359 : zz_cw RX7 359 yX7_getsFor cX7_getsFor 3 (some .int) 1 := ⟨wd_1212, wd_1215, wd_85, nh_X7, pd_X7_getsFor⟩
theorem cw_L_111 : zz_cw RL 111 yX7_mean cX7_mean 4 (some .long) 1 := ⟨wd_1216, wd_1219, wd_85, nh_X7, pd_X7_mean⟩
theorem cw_L_115 : zz_cw RL 115 yX7_share cX7_share 2 (some .long) 1 := ⟨wd_1220, wd_1223, wd_85, nh_X7, pd_X7_share⟩
theorem cw_L_119 : zz_cw RL 119 yX7_which cX7_which 6 (some .int) 1 := ⟨wd_1225, wd_1228, wd_85, nh_X7, pd_X7_which⟩
theorem cw_X7_370 : zz_cw RX7 370 yX7_isRowQuestions cX7_isRowQuestions 2 (some .boolean) 0 := ⟨wd_1229, wd_1232, wd_85, nh_X7, pd_X7_isRowQuestions⟩
theorem cw_X7_373 : zz_cw RX7 373 yX7_isMetSo cX7_isMetSo 4 (some .boolean) 2 := ⟨wd_1233, wd_1236, wd_85, nh_X7, pd_X7_isMetSo⟩
theorem cw_L_123 : zz_cw RL 123 yX7_row cX7_row 3 (some .int) 1 := ⟨wd_1237, wd_1240, wd_85, nh_X7, pd_X7_row⟩
theorem cw_L_127 : zz_cw RL 127 yX7_judge cX7_judge 3 (some .int) 0 := ⟨wd_1241, wd_1244, wd_85, nh_X7, pd_X7_judge⟩
theorem cw_X7_376 : zz_cw RX7 376 yX7_answerBy cX7_answerBy 5 (some .int) 2 := ⟨wd_1245, wd_1248, wd_85, nh_X7, pd_X7_answerBy⟩
theorem cw_L_131 : zz_cw RL 131 yX7_clear cX7_clear 2 (some .int) 0 := ⟨wd_1249, wd_1252, wd_85, nh_X7, pd_X7_clear⟩
theorem cw_L_135 : zz_cw RL 135 yX7_lots cX7_lots 8 (some .int) 3 := ⟨wd_1253, wd_1256, wd_85, nh_X7, pd_X7_lots⟩
theorem cw_X7_385 : zz_cw RX7 385 yX7_draw cX7_draw 2 (some .int) 1 := ⟨wd_1257, wd_1260, wd_85, nh_X7, pd_X7_draw⟩
theorem cw_L_147 : zz_cw RL 147 yX7_count cX7_count 2 (some .int) 1 := ⟨wd_1264, wd_1267, wd_85, nh_X7, pd_X7_count⟩
theorem cw_X7_388 : zz_cw RX7 388 yX7_notFree cX7_notFree 3 (some .int) 0 := ⟨wd_1268, wd_1271, wd_85, nh_X7, pd_X7_notFree⟩
theorem cw_X7_391 : zz_cw RX7 391 yX7_allValues cX7_allValues 3 (some .int) 0 := ⟨wd_1272, wd_1275, wd_85, nh_X7, pd_X7_allValues⟩
theorem cn_X6_24 : zz_cn RX6 24 yX2_init cX2_init 1 none 0 RX6 := ⟨by decide +kernel, wd_181, wd_82, nh_X2, pd_X2_init⟩
theorem cn_X6_31 : zz_cn RX6 31 yX0_init cX0_init 1 none 0 RX6 := ⟨by decide +kernel, wd_192, wd_83, nh_X0, pd_X0_init⟩
theorem cn_X1_19 : zz_cn RX1 19 yX6_isWithin cX6_isWithin 2 (some .boolean) 2 RX6 := ⟨by decide +kernel, wd_265, wd_79, nh_X6, pd_X6_isWithin⟩
theorem cn_X5_72 : zz_cn RX5 72 yX6_isWithin cX6_isWithin 2 (some .boolean) 2 RX6 := ⟨by decide +kernel, wd_265, wd_79, nh_X6, pd_X6_isWithin⟩
theorem cn_X4_34 : zz_cn RX4 34 yX6_isWithin cX6_isWithin 2 (some .boolean) 2 RX6 := ⟨by decide +kernel, wd_265, wd_79, nh_X6, pd_X6_isWithin⟩
theorem cn_X0_61 : zz_cn RX0 61 yX6_isWithin cX6_isWithin 2 (some .boolean) 2 RX6 := ⟨by decide +kernel, wd_265, wd_79, nh_X6, pd_X6_isWithin⟩
theorem cn_X4_46 : zz_cn RX4 46 yX6_asNumber cX6_asNumber 1 (some .int) 1 RX6 := ⟨by decide +kernel, wd_424, wd_79, nh_X6, pd_X6_asNumber⟩
theorem cn_X4_50 : zz_cn RX4 50 yX6_partInLeastTerms cX6_partInLeastTerms 9 (some .long) 3 RX6 := ⟨by decide +kernel, wd_574, wd_79, nh_X6, pd_X6_partInLeastTerms⟩
theorem sysw_X5 : zz_sysw RX5 56 := ⟨wd_279, wd_281, wd_280, wd_86⟩
theorem sysw_X4 : zz_sysw RX4 20 := ⟨wd_286, wd_281, wd_280, wd_86⟩
