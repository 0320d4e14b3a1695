theorem zii_X10_coefficient : Cond.instanceMethod yX10_coefficient ∈ ztbl := zmem_2 225 (by decide +kernel) rfl
theorem zie_X10_coefficient : Cond.selects zm_X10_coefficient.1.cls yX10_coefficient yX10_coefficient ∈ ztbl := zmem_2 226 (by decide +kernel) rfl
abbrev zm_X10_find : zM := (yX10_find, cX10_find, 6, (some .int), { frames := 5, cells := 0, slots := 0, locals := 123 })
theorem zi_X10_find : zCal zm_X10_find 4 := ⟨zmem_1 1 (by decide +kernel) rfl, zmem_2 233 (by decide +kernel) rfl, by decide +kernel, by decide +kernel, by decide +kernel⟩
theorem zii_X10_find : Cond.instanceMethod yX10_find ∈ ztbl := zmem_2 231 (by decide +kernel) rfl
theorem zie_X10_find : Cond.selects zm_X10_find.1.cls yX10_find yX10_find ∈ ztbl := zmem_2 232 (by decide +kernel) rfl
abbrev zm_X9_prepare : zM := (yX9_prepare, cX9_prepare, 5, none, { frames := 3, cells := 0, slots := 0, locals := 74 })
theorem zi_X9_prepare : zCal zm_X9_prepare 4 := ⟨zmem_1 6 (by decide +kernel) rfl, zmem_2 237 (by decide +kernel) rfl, by decide +kernel, by decide +kernel, by decide +kernel⟩
theorem zii_X9_prepare : Cond.instanceMethod yX9_prepare ∈ ztbl := zmem_2 235 (by decide +kernel) rfl
theorem zie_X9_prepare : Cond.selects zm_X9_prepare.1.cls yX9_prepare yX9_prepare ∈ ztbl := zmem_2 236 (by decide +kernel) rfl
abbrev zm_X9_fillPowers : zM := (yX9_fillPowers, cX9_fillPowers, 5, none, { frames := 2, cells := 0, slots := 0, locals := 50 })
theorem zi_X9_fillPowers : zCal zm_X9_fillPowers 3 := ⟨zmem_1 6 (by decide +kernel) rfl, zmem_3 2 (by decide +kernel) rfl, by decide +kernel, by decide +kernel, by decide +kernel⟩
theorem zii_X9_fillPowers : Cond.instanceMethod yX9_fillPowers ∈ ztbl := zmem_3 1 (by decide +kernel) rfl
theorem zie_X9_fillPowers : Cond.selects zm_X9_fillPowers.1.cls yX9_fillPowers yX9_fillPowers ∈ ztbl := zmemp 2 (by decide +kernel) rfl
abbrev zm_X1_search : zM := (yX1_search, cX1_search, 5, (some .int), { frames := 4, cells := 0, slots := 0, locals := 99 })
theorem zi_X1_search : zCal zm_X1_search 3 := ⟨zmem_1 7 (by decide +kernel) rfl, zmem_3 8 (by decide +kernel) rfl, by decide +kernel, by decide +kernel, by decide +kernel⟩
theorem zii_X1_search : Cond.instanceMethod yX1_search ∈ ztbl := zmem_3 6 (by decide +kernel) rfl
theorem zie_X1_search : Cond.selects zm_X1_search.1.cls yX1_search yX1_search ∈ ztbl := zmem_3 7 (by decide +kernel) rfl
abbrev zm_X1_listTerms : zM := (yX1_listTerms, cX1_listTerms, 4, none, { frames := 0, cells := 0, slots := 0, locals := 0 })
theorem zi_X1_listTerms : zCal zm_X1_listTerms 0 := ⟨zmem_1 7 (by decide +kernel) rfl, zmem_3 12 (by decide +kernel) rfl, by decide +kernel, by decide +kernel, by decide +kernel⟩
theorem zii_X1_listTerms : Cond.instanceMethod yX1_listTerms ∈ ztbl := zmem_3 11 (by decide +kernel) rfl
theorem zie_X1_listTerms : Cond.selects zm_X1_listTerms.1.cls yX1_listTerms yX1_listTerms ∈ ztbl := zmemp 3 (by decide +kernel) rfl
abbrev zm_X1_clearMatrix : zM := (yX1_clearMatrix, cX1_clearMatrix, 2, none, { frames := 1, cells := 0, slots := 0, locals := 23 })
theorem zi_X1_clearMatrix : zCal zm_X1_clearMatrix 0 := ⟨zmem_1 7 (by decide +kernel) rfl, zmem_3 16 (by decide +kernel) rfl, by decide +kernel, by decide +kernel, by decide +kernel⟩
theorem zii_X1_clearMatrix : Cond.instanceMethod yX1_clearMatrix ∈ ztbl := zmem_3 15 (by decide +kernel) rfl
theorem zie_X1_clearMatrix : Cond.selects zm_X1_clearMatrix.1.cls yX1_clearMatrix yX1_clearMatrix ∈ ztbl := zmemp 4 (by decide +kernel) rfl
abbrev zm_X1_addProduct : zM := (yX1_addProduct, cX1_addProduct, 7, none, { frames := 3, cells := 0, slots := 0, locals := 73 })
theorem zi_X1_addProduct : zCal zm_X1_addProduct 4 := ⟨zmem_1 7 (by decide +kernel) rfl, zmem_3 21 (by decide +kernel) rfl, by decide +kernel, by decide +kernel, by decide +kernel⟩
theorem zii_X1_addProduct : Cond.instanceMethod yX1_addProduct ∈ ztbl := zmem_3 20 (by decide +kernel) rfl
theorem zie_X1_addProduct : Cond.selects zm_X1_addProduct.1.cls yX1_addProduct yX1_addProduct ∈ ztbl := zmemp 5 (by decide +kernel) rfl
abbrev zm_X9_multiplyTerm : zM := (yX9_multiplyTerm, cX9_multiplyTerm, 4, (some .int), { frames := 2, cells := 0, slots := 0, locals := 50 })
theorem zi_X9_multiplyTerm : zCal zm_X9_multiplyTerm 2 := ⟨zmem_1 6 (by decide +kernel) rfl, zmem_3 25 (by decide +kernel) rfl, by decide +kernel, by decide +kernel, by decide +kernel⟩
theorem zii_X9_multiplyTerm : Cond.instanceMethod yX9_multiplyTerm ∈ ztbl := zmem_3 23 (by decide +kernel) rfl
theorem zie_X9_multiplyTerm : Cond.selects zm_X9_multiplyTerm.1.cls yX9_multiplyTerm yX9_multiplyTerm ∈ ztbl := zmem_3 24 (by decide +kernel) rfl
abbrev zm_X1_eliminate : zM := (yX1_eliminate, cX1_eliminate, 4, (some .int), { frames := 2, cells := 0, slots := 0, locals := 48 })
theorem zi_X1_eliminate : zCal zm_X1_eliminate 0 := ⟨zmem_1 7 (by decide +kernel) rfl, zmem_3 29 (by decide +kernel) rfl, by decide +kernel, by decide +kernel, by decide +kernel⟩
theorem zii_X1_eliminate : Cond.instanceMethod yX1_eliminate ∈ ztbl := zmem_3 28 (by decide +kernel) rfl
theorem zie_X1_eliminate : Cond.selects zm_X1_eliminate.1.cls yX1_eliminate yX1_eliminate ∈ ztbl := zmemp 6 (by decide +kernel) rfl
abbrev zm_X1_pivotRow : zM := (yX1_pivotRow, cX1_pivotRow, 4, (some .int), { frames := 0, cells := 0, slots := 0, locals := 0 })
theorem zi_X1_pivotRow : zCal zm_X1_pivotRow 2 := ⟨zmem_1 7 (by decide +kernel) rfl, zmem_3 33 (by decide +kernel) rfl, by decide +kernel, by decide +kernel, by decide +kernel⟩
theorem zii_X1_pivotRow : Cond.instanceMethod yX1_pivotRow ∈ ztbl := zmem_3 32 (by decide +kernel) rfl
theorem zie_X1_pivotRow : Cond.selects zm_X1_pivotRow.1.cls yX1_pivotRow yX1_pivotRow ∈ ztbl := zmemp 7 (by decide +kernel) rfl
abbrev zm_X1_swapRows : zM := (yX1_swapRows, cX1_swapRows, 6, none, { frames := 0, cells := 0, slots := 0, locals := 0 })
theorem zi_X1_swapRows : zCal zm_X1_swapRows 3 := ⟨zmem_1 7 (by decide +kernel) rfl, zmem_3 38 (by decide +kernel) rfl, by decide +kernel, by decide +kernel, by decide +kernel⟩
theorem zii_X1_swapRows : Cond.instanceMethod yX1_swapRows ∈ ztbl := zmem_3 37 (by decide +kernel) rfl
theorem zie_X1_swapRows : Cond.selects zm_X1_swapRows.1.cls yX1_swapRows yX1_swapRows ∈ ztbl := zmemp 8 (by decide +kernel) rfl
abbrev zm_X1_scaleRow : zM := (yX1_scaleRow, cX1_scaleRow, 5, none, { frames := 1, cells := 0, slots := 0, locals := 24 })
theorem zi_X1_scaleRow : zCal zm_X1_scaleRow 2 := ⟨zmem_1 7 (by decide +kernel) rfl, zmem_3 42 (by decide +kernel) rfl, by decide +kernel, by decide +kernel, by decide +kernel⟩
theorem zii_X1_scaleRow : Cond.instanceMethod yX1_scaleRow ∈ ztbl := zmem_3 41 (by decide +kernel) rfl
theorem zie_X1_scaleRow : Cond.selects zm_X1_scaleRow.1.cls yX1_scaleRow yX1_scaleRow ∈ ztbl := zmemp 9 (by decide +kernel) rfl
abbrev zm_X1_clearBelow : zM := (yX1_clearBelow, cX1_clearBelow, 8, none, { frames := 0, cells := 0, slots := 0, locals := 0 })
theorem zi_X1_clearBelow : zCal zm_X1_clearBelow 2 := ⟨zmem_1 7 (by decide +kernel) rfl, zmem_3 47 (by decide +kernel) rfl, by decide +kernel, by decide +kernel, by decide +kernel⟩
theorem zii_X1_clearBelow : Cond.instanceMethod yX1_clearBelow ∈ ztbl := zmem_3 46 (by decide +kernel) rfl
theorem zie_X1_clearBelow : Cond.selects zm_X1_clearBelow.1.cls yX1_clearBelow yX1_clearBelow ∈ ztbl := zmemp 10 (by decide +kernel) rfl
abbrev zm_X1_handOver : zM := (yX1_handOver, cX1_handOver, 3, none, { frames := 2, cells := 0, slots := 0, locals := 44 })
theorem zi_X1_handOver : zCal zm_X1_handOver 1 := ⟨zmem_1 7 (by decide +kernel) rfl, zmem_3 51 (by decide +kernel) rfl, by decide +kernel, by decide +kernel, by decide +kernel⟩
theorem zii_X1_handOver : Cond.instanceMethod yX1_handOver ∈ ztbl := zmem_3 49 (by decide +kernel) rfl
theorem zie_X1_handOver : Cond.selects zm_X1_handOver.1.cls yX1_handOver yX1_handOver ∈ ztbl := zmem_3 50 (by decide +kernel) rfl
abbrev zm_X1_solve : zM := (yX1_solve, cX1_solve, 4, none, { frames := 0, cells := 0, slots := 0, locals := 0 })
theorem zi_X1_solve : zCal zm_X1_solve 0 := ⟨zmem_1 7 (by decide +kernel) rfl, zmem_3 55 (by decide +kernel) rfl, by decide +kernel, by decide +kernel, by decide +kernel⟩
theorem zii_X1_solve : Cond.instanceMethod yX1_solve ∈ ztbl := zmem_3 54 (by decide +kernel) rfl
theorem zie_X1_solve : Cond.selects zm_X1_solve.1.cls yX1_solve yX1_solve ∈ ztbl := zmemp 11 (by decide +kernel) rfl
abbrev zm_X3_clear : zM := (yX3_clear, cX3_clear, 2, none, { frames := 1, cells := 0, slots := 0, locals := 23 })
theorem zi_X3_clear : zCal zm_X3_clear 1 := ⟨zmem_1 3 (by decide +kernel) rfl, zmem_3 59 (by decide +kernel) rfl, by decide +kernel, by decide +kernel, by decide +kernel⟩
theorem zii_X3_clear : Cond.instanceMethod yX3_clear ∈ ztbl := zmem_3 57 (by decide +kernel) rfl
theorem zie_X3_clear : Cond.selects zm_X3_clear.1.cls yX3_clear yX3_clear ∈ ztbl := zmem_3 58 (by decide +kernel) rfl
abbrev zm_X10_equation : zM := (yX10_equation, cX10_equation, 2, (some .int), { frames := 1, cells := 0, slots := 0, locals := 22 })
theorem zi_X10_equation : zCal zm_X10_equation 1 := ⟨zmem_1 1 (by decide +kernel) rfl, zmem_3 64 (by decide +kernel) rfl, by decide +kernel, by decide +kernel, by decide +kernel⟩
theorem zii_X10_equation : Cond.instanceMethod yX10_equation ∈ ztbl := zmem_3 62 (by decide +kernel) rfl
theorem zie_X10_equation : Cond.selects zm_X10_equation.1.cls yX10_equation yX10_equation ∈ ztbl := zmem_3 63 (by decide +kernel) rfl
abbrev zm_X3_isMissing : zM := (yX3_isMissing, cX3_isMissing, 1, (some .boolean), { frames := 0, cells := 0, slots := 0, locals := 0 })
theorem zi_X3_isMissing : zCal zm_X3_isMissing 0 := ⟨zmem_1 3 (by decide +kernel) rfl, zmem_3 68 (by decide +kernel) rfl, by decide +kernel, by decide +kernel, by decide +kernel⟩
theorem zii_X3_isMissing : Cond.instanceMethod yX3_isMissing ∈ ztbl := zmem_3 66 (by decide +kernel) rfl
theorem zie_X3_isMissing : Cond.selects zm_X3_isMissing.1.cls yX3_isMissing yX3_isMissing ∈ ztbl := zmem_3 67 (by decide +kernel) rfl
abbrev zm_X3_leadingTerm : zM := (yX3_leadingTerm, cX3_leadingTerm, 2, (some .int), { frames := 0, cells := 0, slots := 0, locals := 0 })
theorem zi_X3_leadingTerm : zCal zm_X3_leadingTerm 0 := ⟨zmem_1 3 (by decide +kernel) rfl, zmem_3 72 (by decide +kernel) rfl, by decide +kernel, by decide +kernel, by decide +kernel⟩
theorem zii_X3_leadingTerm : Cond.instanceMethod yX3_leadingTerm ∈ ztbl := zmem_3 70 (by decide +kernel) rfl
theorem zie_X3_leadingTerm : Cond.selects zm_X3_leadingTerm.1.cls yX3_leadingTerm yX3_leadingTerm ∈ ztbl := zmem_3 71 (by decide +kernel) rfl
abbrev zm_X3_isSymmetric : zM := (yX3_isSymmetric, cX3_isSymmetric, 3, (some .boolean), { frames := 0, cells := 0, slots := 0, locals := 0 })
theorem zi_X3_isSymmetric : zCal zm_X3_isSymmetric 0 := ⟨zmem_1 3 (by decide +kernel) rfl, zmem_3 76 (by decide +kernel) rfl, by decide +kernel, by decide +kernel, by decide +kernel⟩
theorem zii_X3_isSymmetric : Cond.instanceMethod yX3_isSymmetric ∈ ztbl := zmem_3 74 (by decide +kernel) rfl
theorem zie_X3_isSymmetric : Cond.selects zm_X3_isSymmetric.1.cls yX3_isSymmetric yX3_isSymmetric ∈ ztbl := zmem_3 75 (by decide +kernel) rfl
abbrev zm_X3_nonzeroCount : zM := (yX3_nonzeroCount, cX3_nonzeroCount, 3, (some .int), { frames := 0, cells := 0, slots := 0, locals := 0 })
theorem zi_X3_nonzeroCount : zCal zm_X3_nonzeroCount 0 := ⟨zmem_1 3 (by decide +kernel) rfl, zmem_3 80 (by decide +kernel) rfl, by decide +kernel, by decide +kernel, by decide +kernel⟩
theorem zii_X3_nonzeroCount : Cond.instanceMethod yX3_nonzeroCount ∈ ztbl := zmem_3 78 (by decide +kernel) rfl
theorem zie_X3_nonzeroCount : Cond.selects zm_X3_nonzeroCount.1.cls yX3_nonzeroCount yX3_nonzeroCount ∈ ztbl := zmem_3 79 (by decide +kernel) rfl
abbrev zm_X10_term : zM := (yX10_term, cX10_term, 3, (some .int), { frames := 1, cells := 0, slots := 0, locals := 22 })
theorem zi_X10_term : zCal zm_X10_term 2 := ⟨zmem_1 1 (by decide +kernel) rfl, zmem_3 84 (by decide +kernel) rfl, by decide +kernel, by decide +kernel, by decide +kernel⟩
theorem zii_X10_term : Cond.instanceMethod yX10_term ∈ ztbl := zmem_3 82 (by decide +kernel) rfl
theorem zie_X10_term : Cond.selects zm_X10_term.1.cls yX10_term yX10_term ∈ ztbl := zmem_3 83 (by decide +kernel) rfl
abbrev zm_X3_has : zM := (yX3_has, cX3_has, 3, (some .boolean), { frames := 0, cells := 0, slots := 0, locals := 0 })
theorem zi_X3_has : zCal zm_X3_has 2 := ⟨zmem_1 3 (by decide +kernel) rfl, zmem_3 88 (by decide +kernel) rfl, by decide +kernel, by decide +kernel, by decide +kernel⟩
theorem zii_X3_has : Cond.instanceMethod yX3_has ∈ ztbl := zmem_3 86 (by decide +kernel) rfl
theorem zie_X3_has : Cond.selects zm_X3_has.1.cls yX3_has yX3_has ∈ ztbl := zmem_3 87 (by decide +kernel) rfl
abbrev zm_X10_at : zM := (yX10_at, cX10_at, 3, (some .int), { frames := 1, cells := 0, slots := 0, locals := 27 })
theorem zi_X10_at : zCal zm_X10_at 2 := ⟨zmem_1 1 (by decide +kernel) rfl, zmem_3 92 (by decide +kernel) rfl, by decide +kernel, by decide +kernel, by decide +kernel⟩
theorem zii_X10_at : Cond.instanceMethod yX10_at ∈ ztbl := zmem_3 90 (by decide +kernel) rfl
theorem zie_X10_at : Cond.selects zm_X10_at.1.cls yX10_at yX10_at ∈ ztbl := zmem_3 91 (by decide +kernel) rfl
abbrev zm_X10_isValue : zM := (yX10_isValue, cX10_isValue, 2, (some .boolean), { frames := 0, cells := 0, slots := 0, locals := 0 })
theorem zi_X10_isValue : zCal zm_X10_isValue 1 := ⟨zmem_1 1 (by decide +kernel) rfl, zmem_3 96 (by decide +kernel) rfl, by decide +kernel, by decide +kernel, by decide +kernel⟩
theorem zii_X10_isValue : Cond.instanceMethod yX10_isValue ∈ ztbl := zmem_3 95 (by decide +kernel) rfl
theorem zie_X10_isValue : Cond.selects zm_X10_isValue.1.cls yX10_isValue yX10_isValue ∈ ztbl := zmemp 12 (by decide +kernel) rfl
abbrev zm_X3_valueOf : zM := (yX3_valueOf, cX3_valueOf, 8, (some .int), { frames := 0, cells := 0, slots := 0, locals := 0 })
theorem zi_X3_valueOf : zCal zm_X3_valueOf 3 := ⟨zmem_1 3 (by decide +kernel) rfl, zmem_3 100 (by decide +kernel) rfl, by decide +kernel, by decide +kernel, by decide +kernel⟩
theorem zii_X3_valueOf : Cond.instanceMethod yX3_valueOf ∈ ztbl := zmem_3 98 (by decide +kernel) rfl
theorem zie_X3_valueOf : Cond.selects zm_X3_valueOf.1.cls yX3_valueOf yX3_valueOf ∈ ztbl := zmem_3 99 (by decide +kernel) rfl
abbrev zm_X10_vanishes : zM := (yX10_vanishes, cX10_vanishes, 3, (some .int), { frames := 5, cells := 0, slots := 0, locals := 121 })
theorem zi_X10_vanishes : zCal zm_X10_vanishes 2 := ⟨zmem_1 1 (by decide +kernel) rfl, zmem_3 104 (by decide +kernel) rfl, by decide +kernel, by decide +kernel, by decide +kernel⟩
theorem zii_X10_vanishes : Cond.instanceMethod yX10_vanishes ∈ ztbl := zmem_3 102 (by decide +kernel) rfl
theorem zie_X10_vanishes : Cond.selects zm_X10_vanishes.1.cls yX10_vanishes yX10_vanishes ∈ ztbl := zmem_3 103 (by decide +kernel) rfl
abbrev zm_X9_isZeroFor : zM := (yX9_isZeroFor, cX9_isZeroFor, 4, (some .boolean), { frames := 4, cells := 0, slots := 0, locals := 98 })
theorem zi_X9_isZeroFor : zCal zm_X9_isZeroFor 1 := ⟨zmem_1 6 (by decide +kernel) rfl, zmem_3 108 (by decide +kernel) rfl, by decide +kernel, by decide +kernel, by decide +kernel⟩
theorem zii_X9_isZeroFor : Cond.instanceMethod yX9_isZeroFor ∈ ztbl := zmem_3 106 (by decide +kernel) rfl
theorem zie_X9_isZeroFor : Cond.selects zm_X9_isZeroFor.1.cls yX9_isZeroFor yX9_isZeroFor ∈ ztbl := zmem_3 107 (by decide +kernel) rfl
abbrev zm_X9_addTerm : zM := (yX9_addTerm, cX9_addTerm, 6, none, { frames := 3, cells := 0, slots := 0, locals := 73 })
theorem zi_X9_addTerm : zCal zm_X9_addTerm 3 := ⟨zmem_1 6 (by decide +kernel) rfl, zmem_3 112 (by decide +kernel) rfl, by decide +kernel, by decide +kernel, by decide +kernel⟩
theorem zii_X9_addTerm : Cond.instanceMethod yX9_addTerm ∈ ztbl := zmem_3 111 (by decide +kernel) rfl
theorem zie_X9_addTerm : Cond.selects zm_X9_addTerm.1.cls yX9_addTerm yX9_addTerm ∈ ztbl := zmemp 13 (by decide +kernel) rfl
abbrev zm_X10_neighbour : zM := (yX10_neighbour, cX10_neighbour, 4, (some .int), { frames := 5, cells := 0, slots := 0, locals := 120 })
theorem zi_X10_neighbour : zCal zm_X10_neighbour 2 := ⟨zmem_1 1 (by decide +kernel) rfl, zmem_3 117 (by decide +kernel) rfl, by decide +kernel, by decide +kernel, by decide +kernel⟩
theorem zii_X10_neighbour : Cond.instanceMethod yX10_neighbour ∈ ztbl := zmem_3 115 (by decide +kernel) rfl
theorem zie_X10_neighbour : Cond.selects zm_X10_neighbour.1.cls yX10_neighbour yX10_neighbour ∈ ztbl := zmem_3 116 (by decide +kernel) rfl
abbrev zm_X2_isDegenerate : zM := (yX2_isDegenerate, cX2_isDegenerate, 3, (some .boolean), { frames := 4, cells := 0, slots := 0, locals := 98 })
theorem zi_X2_isDegenerate : zCal zm_X2_isDegenerate 2 := ⟨zmem_1 8 (by decide +kernel) rfl, zmem_3 121 (by decide +kernel) rfl, by decide +kernel, by decide +kernel, by decide +kernel⟩
theorem zii_X2_isDegenerate : Cond.instanceMethod yX2_isDegenerate ∈ ztbl := zmem_3 119 (by decide +kernel) rfl
theorem zie_X2_isDegenerate : Cond.selects zm_X2_isDegenerate.1.cls yX2_isDegenerate yX2_isDegenerate ∈ ztbl := zmem_3 120 (by decide +kernel) rfl
abbrev zm_X2_explore : zM := (yX2_explore, cX2_explore, 3, none, { frames := 3, cells := 0, slots := 0, locals := 76 })
theorem zi_X2_explore : zCal zm_X2_explore 2 := ⟨zmem_1 8 (by decide +kernel) rfl, zmem_3 125 (by decide +kernel) rfl, by decide +kernel, by decide +kernel, by decide +kernel⟩
theorem zii_X2_explore : Cond.instanceMethod yX2_explore ∈ ztbl := zmem_3 124 (by decide +kernel) rfl
theorem zie_X2_explore : Cond.selects zm_X2_explore.1.cls yX2_explore yX2_explore ∈ ztbl := zmemp 14 (by decide +kernel) rfl
abbrev zm_X2_listNeighbours : zM := (yX2_listNeighbours, cX2_listNeighbours, 7, (some .int), { frames := 2, cells := 0, slots := 0, locals := 50 })
theorem zi_X2_listNeighbours : zCal zm_X2_listNeighbours 3 := ⟨zmem_1 8 (by decide +kernel) rfl, zmem_3 129 (by decide +kernel) rfl, by decide +kernel, by decide +kernel, by decide +kernel⟩
theorem zii_X2_listNeighbours : Cond.instanceMethod yX2_listNeighbours ∈ ztbl := zmem_3 128 (by decide +kernel) rfl
theorem zie_X2_listNeighbours : Cond.selects zm_X2_listNeighbours.1.cls yX2_listNeighbours yX2_listNeighbours ∈ ztbl := zmemp 15 (by decide +kernel) rfl
abbrev zm_X2_fillLine : zM := (yX2_fillLine, cX2_fillLine, 6, (some .int), { frames := 1, cells := 0, slots := 0, locals := 25 })
theorem zi_X2_fillLine : zCal zm_X2_fillLine 3 := ⟨zmem_1 8 (by decide +kernel) rfl, zmem_3 133 (by decide +kernel) rfl, by decide +kernel, by decide +kernel, by decide +kernel⟩
theorem zii_X2_fillLine : Cond.instanceMethod yX2_fillLine ∈ ztbl := zmem_3 132 (by decide +kernel) rfl
theorem zie_X2_fillLine : Cond.selects zm_X2_fillLine.1.cls yX2_fillLine yX2_fillLine ∈ ztbl := zmemp 16 (by decide +kernel) rfl
abbrev zm_X3_lineCoefficient : zM := (yX3_lineCoefficient, cX3_lineCoefficient, 6, (some .int), { frames := 0, cells := 0, slots := 0, locals := 0 })
theorem zi_X3_lineCoefficient : zCal zm_X3_lineCoefficient 3 := ⟨zmem_1 3 (by decide +kernel) rfl, zmem_3 137 (by decide +kernel) rfl, by decide +kernel, by decide +kernel, by decide +kernel⟩
theorem zii_X3_lineCoefficient : Cond.instanceMethod yX3_lineCoefficient ∈ ztbl := zmem_3 135 (by decide +kernel) rfl
theorem zie_X3_lineCoefficient : Cond.selects zm_X3_lineCoefficient.1.cls yX3_lineCoefficient yX3_lineCoefficient ∈ ztbl := zmem_3 136 (by decide +kernel) rfl
abbrev zm_X2_lineAt : zM := (yX2_lineAt, cX2_lineAt, 6, (some .int), { frames := 0, cells := 0, slots := 0, locals := 0 })
theorem zi_X2_lineAt : zCal zm_X2_lineAt 3 := ⟨zmem_1 8 (by decide +kernel) rfl, zmem_3 141 (by decide +kernel) rfl, by decide +kernel, by decide +kernel, by decide +kernel⟩
theorem zii_X2_lineAt : Cond.instanceMethod yX2_lineAt ∈ ztbl := zmem_3 140 (by decide +kernel) rfl
theorem zie_X2_lineAt : Cond.selects zm_X2_lineAt.1.cls yX2_lineAt yX2_lineAt ∈ ztbl := zmemp 17 (by decide +kernel) rfl
abbrev zm_X2_divideLine : zM := (yX2_divideLine, cX2_divideLine, 7, none, { frames := 0, cells := 0, slots := 0, locals := 0 })
theorem zi_X2_divideLine : zCal zm_X2_divideLine 3 := ⟨zmem_1 8 (by decide +kernel) rfl, zmem_3 145 (by decide +kernel) rfl, by decide +kernel, by decide +kernel, by decide +kernel⟩
theorem zii_X2_divideLine : Cond.instanceMethod yX2_divideLine ∈ ztbl := zmem_3 144 (by decide +kernel) rfl
theorem zie_X2_divideLine : Cond.selects zm_X2_divideLine.1.cls yX2_divideLine yX2_divideLine ∈ ztbl := zmemp 18 (by decide +kernel) rfl
abbrev zm_X2_sizeOf : zM := (yX2_sizeOf, cX2_sizeOf, 3, (some .int), { frames := 4, cells := 0, slots := 0, locals := 98 })
theorem zi_X2_sizeOf : zCal zm_X2_sizeOf 2 := ⟨zmem_1 8 (by decide +kernel) rfl, zmem_3 149 (by decide +kernel) rfl, by decide +kernel, by decide +kernel, by decide +kernel⟩
theorem zii_X2_sizeOf : Cond.instanceMethod yX2_sizeOf ∈ ztbl := zmem_3 147 (by decide +kernel) rfl
theorem zie_X2_sizeOf : Cond.selects zm_X2_sizeOf.1.cls yX2_sizeOf yX2_sizeOf ∈ ztbl := zmem_3 148 (by decide +kernel) rfl
abbrev zm_X2_neighbourOf : zM := (yX2_neighbourOf, cX2_neighbourOf, 3, (some .int), { frames := 0, cells := 0, slots := 0, locals := 0 })
theorem zi_X2_neighbourOf : zCal zm_X2_neighbourOf 2 := ⟨zmem_1 8 (by decide +kernel) rfl, zmem_3 156 (by decide +kernel) rfl, by decide +kernel, by decide +kernel, by decide +kernel⟩
theorem zii_X2_neighbourOf : Cond.instanceMethod yX2_neighbourOf ∈ ztbl := zmem_3 154 (by decide +kernel) rfl
theorem zie_X2_neighbourOf : Cond.selects zm_X2_neighbourOf.1.cls yX2_neighbourOf yX2_neighbourOf ∈ ztbl := zmem_3 155 (by decide +kernel) rfl
abbrev zm_X10_far : zM := (yX10_far, cX10_far, 4, (some .int), { frames := 6, cells := 0, slots := 0, locals := 148 })
theorem zi_X10_far : zCal zm_X10_far 2 := ⟨zmem_1 1 (by decide +kernel) rfl, zmem_3 160 (by decide +kernel) rfl, by decide +kernel, by decide +kernel, by decide +kernel⟩
theorem zii_X10_far : Cond.instanceMethod yX10_far ∈ ztbl := zmem_3 158 (by decide +kernel) rfl
theorem zie_X10_far : Cond.selects zm_X10_far.1.cls yX10_far yX10_far ∈ ztbl := zmem_3 159 (by decide +kernel) rfl
abbrev zm_X2_walkFrom : zM := (yX2_walkFrom, cX2_walkFrom, 9, (some .int), { frames := 5, cells := 0, slots := 0, locals := 120 })
theorem zi_X2_walkFrom : zCal zm_X2_walkFrom 2 := ⟨zmem_1 8 (by decide +kernel) rfl, zmem_3 164 (by decide +kernel) rfl, by decide +kernel, by decide +kernel, by decide +kernel⟩
theorem zii_X2_walkFrom : Cond.instanceMethod yX2_walkFrom ∈ ztbl := zmem_3 162 (by decide +kernel) rfl
theorem zie_X2_walkFrom : Cond.selects zm_X2_walkFrom.1.cls yX2_walkFrom yX2_walkFrom ∈ ztbl := zmem_3 163 (by decide +kernel) rfl
abbrev zm_X2_distanceTo : zM := (yX2_distanceTo, cX2_distanceTo, 2, (some .int), { frames := 0, cells := 0, slots := 0, locals := 0 })
theorem zi_X2_distanceTo : zCal zm_X2_distanceTo 1 := ⟨zmem_1 8 (by decide +kernel) rfl, zmem_3 170 (by decide +kernel) rfl, by decide +kernel, by decide +kernel, by decide +kernel⟩
theorem zii_X2_distanceTo : Cond.instanceMethod yX2_distanceTo ∈ ztbl := zmem_3 168 (by decide +kernel) rfl
theorem zie_X2_distanceTo : Cond.selects zm_X2_distanceTo.1.cls yX2_distanceTo yX2_distanceTo ∈ ztbl := zmem_3 169 (by decide +kernel) rfl
abbrev zm_X10_reach : zM := (yX10_reach, cX10_reach, 2, (some .int), { frames := 6, cells := 0, slots := 0, locals := 148 })
theorem zi_X10_reach : zCal zm_X10_reach 1 := ⟨zmem_1 1 (by decide +kernel) rfl, zmem_3 174 (by decide +kernel) rfl, by decide +kernel, by decide +kernel, by decide +kernel⟩
theorem zii_X10_reach : Cond.instanceMethod yX10_reach ∈ ztbl := zmem_3 172 (by decide +kernel) rfl
theorem zie_X10_reach : Cond.selects zm_X10_reach.1.cls yX10_reach yX10_reach ∈ ztbl := zmem_3 173 (by decide +kernel) rfl
abbrev zm_X10_values : zM := (yX10_values, cX10_values, 2, (some .int), { frames := 6, cells := 0, slots := 0, locals := 143 })
theorem zi_X10_values : zCal zm_X10_values 1 := ⟨zmem_1 1 (by decide +kernel) rfl, zmem_3 178 (by decide +kernel) rfl, by decide +kernel, by decide +kernel, by decide +kernel⟩
theorem zii_X10_values : Cond.instanceMethod yX10_values ∈ ztbl := zmem_3 176 (by decide +kernel) rfl
theorem zie_X10_values : Cond.selects zm_X10_values.1.cls yX10_values yX10_values ∈ ztbl := zmem_3 177 (by decide +kernel) rfl
abbrev zm_X2_ownNeighbours : zM := (yX2_ownNeighbours, cX2_ownNeighbours, 4, (some .int), { frames := 5, cells := 0, slots := 0, locals := 120 })
theorem zi_X2_ownNeighbours : zCal zm_X2_ownNeighbours 1 := ⟨zmem_1 8 (by decide +kernel) rfl, zmem_3 182 (by decide +kernel) rfl, by decide +kernel, by decide +kernel, by decide +kernel⟩
theorem zii_X2_ownNeighbours : Cond.instanceMethod yX2_ownNeighbours ∈ ztbl := zmem_3 180 (by decide +kernel) rfl
theorem zie_X2_ownNeighbours : Cond.selects zm_X2_ownNeighbours.1.cls yX2_ownNeighbours yX2_ownNeighbours ∈ ztbl := zmem_3 181 (by decide +kernel) rfl
abbrev zm_X2_degenerateValues : zM := (yX2_degenerateValues, cX2_degenerateValues, 4, (some .int), { frames := 5, cells := 0, slots := 0, locals := 120 })
theorem zi_X2_degenerateValues : zCal zm_X2_degenerateValues 1 := ⟨zmem_1 8 (by decide +kernel) rfl, zmem_3 188 (by decide +kernel) rfl, by decide +kernel, by decide +kernel, by decide +kernel⟩
theorem zii_X2_degenerateValues : Cond.instanceMethod yX2_degenerateValues ∈ ztbl := zmem_3 186 (by decide +kernel) rfl
theorem zie_X2_degenerateValues : Cond.selects zm_X2_degenerateValues.1.cls yX2_degenerateValues yX2_degenerateValues ∈ ztbl := zmem_3 187 (by decide +kernel) rfl
abbrev zm_X2_lonelyValues : zM := (yX2_lonelyValues, cX2_lonelyValues, 4, (some .int), { frames := 5, cells := 0, slots := 0, locals := 120 })
theorem zi_X2_lonelyValues : zCal zm_X2_lonelyValues 1 := ⟨zmem_1 8 (by decide +kernel) rfl, zmem_3 192 (by decide +kernel) rfl, by decide +kernel, by decide +kernel, by decide +kernel⟩
theorem zii_X2_lonelyValues : Cond.instanceMethod yX2_lonelyValues ∈ ztbl := zmem_3 190 (by decide +kernel) rfl
theorem zie_X2_lonelyValues : Cond.selects zm_X2_lonelyValues.1.cls yX2_lonelyValues yX2_lonelyValues ∈ ztbl := zmem_3 191 (by decide +kernel) rfl
abbrev zm_X2_greatestSize : zM := (yX2_greatestSize, cX2_greatestSize, 4, (some .int), { frames := 5, cells := 0, slots := 0, locals := 120 })
theorem zi_X2_greatestSize : zCal zm_X2_greatestSize 1 := ⟨zmem_1 8 (by decide +kernel) rfl, zmem_3 196 (by decide +kernel) rfl, by decide +kernel, by decide +kernel, by decide +kernel⟩
theorem zii_X2_greatestSize : Cond.instanceMethod yX2_greatestSize ∈ ztbl := zmem_3 194 (by decide +kernel) rfl
theorem zie_X2_greatestSize : Cond.selects zm_X2_greatestSize.1.cls yX2_greatestSize yX2_greatestSize ∈ ztbl := zmem_3 195 (by decide +kernel) rfl
abbrev zm_X10_keep : zM := (yX10_keep, cX10_keep, 3, (some .int), { frames := 2, cells := 0, slots := 0, locals := 47 })
theorem zi_X10_keep : zCal zm_X10_keep 1 := ⟨zmem_1 1 (by decide +kernel) rfl, zmem_3 200 (by decide +kernel) rfl, by decide +kernel, by decide +kernel, by decide +kernel⟩
theorem zii_X10_keep : Cond.instanceMethod yX10_keep ∈ ztbl := zmem_3 198 (by decide +kernel) rfl
theorem zie_X10_keep : Cond.selects zm_X10_keep.1.cls yX10_keep yX10_keep ∈ ztbl := zmem_3 199 (by decide +kernel) rfl
abbrev zm_X10_isPlace : zM := (yX10_isPlace, cX10_isPlace, 1, (some .boolean), { frames := 0, cells := 0, slots := 0, locals := 0 })
theorem zi_X10_isPlace : zCal zm_X10_isPlace 1 := ⟨zmem_1 1 (by decide +kernel) rfl, zmem_3 203 (by decide +kernel) rfl, by decide +kernel, by decide +kernel, by decide +kernel⟩
theorem zis_X10_isPlace : Cond.static yX10_isPlace ∈ ztbl := zmem_3 202 (by decide +kernel) rfl
abbrev zm_X0_placeOf : zM := (yX0_placeOf, cX0_placeOf, 3, (some .int), { frames := 1, cells := 0, slots := 0, locals := 20 })
theorem zi_X0_placeOf : zCal zm_X0_placeOf 1 := ⟨zmem_1 2 (by decide +kernel) rfl, zmem_3 207 (by decide +kernel) rfl, by decide +kernel, by decide +kernel, by decide +kernel⟩
theorem zii_X0_placeOf : Cond.instanceMethod yX0_placeOf ∈ ztbl := zmem_3 205 (by decide +kernel) rfl
theorem zie_X0_placeOf : Cond.selects zm_X0_placeOf.1.cls yX0_placeOf yX0_placeOf ∈ ztbl := zmem_3 206 (by decide +kernel) rfl
abbrev zm_X3_copyFrom : zM := (yX3_copyFrom, cX3_copyFrom, 2, none, { frames := 1, cells := 0, slots := 0, locals := 26 })
theorem zi_X3_copyFrom : zCal zm_X3_copyFrom 1 := ⟨zmem_1 3 (by decide +kernel) rfl, zmem_3 212 (by decide +kernel) rfl, by decide +kernel, by decide +kernel, by decide +kernel⟩
theorem zii_X3_copyFrom : Cond.instanceMethod yX3_copyFrom ∈ ztbl := zmem_3 210 (by decide +kernel) rfl
theorem zie_X3_copyFrom : Cond.selects zm_X3_copyFrom.1.cls yX3_copyFrom yX3_copyFrom ∈ ztbl := zmem_3 211 (by decide +kernel) rfl
abbrev zm_X0_keptCount : zM := (yX0_keptCount, cX0_keptCount, 3, (some .int), { frames := 1, cells := 0, slots := 0, locals := 20 })
theorem zi_X0_keptCount : zCal zm_X0_keptCount 0 := ⟨zmem_1 2 (by decide +kernel) rfl, zmem_3 217 (by decide +kernel) rfl, by decide +kernel, by decide +kernel, by decide +kernel⟩
theorem zii_X0_keptCount : Cond.instanceMethod yX0_keptCount ∈ ztbl := zmem_3 215 (by decide +kernel) rfl
theorem zie_X0_keptCount : Cond.selects zm_X0_keptCount.1.cls yX0_keptCount yX0_keptCount ∈ ztbl := zmem_3 216 (by decide +kernel) rfl
abbrev zm_X10_drop : zM := (yX10_drop, cX10_drop, 2, (some .int), { frames := 1, cells := 0, slots := 0, locals := 20 })
theorem zi_X10_drop : zCal zm_X10_drop 1 := ⟨zmem_1 1 (by decide +kernel) rfl, zmem_3 221 (by decide +kernel) rfl, by decide +kernel, by decide +kernel, by decide +kernel⟩
theorem zii_X10_drop : Cond.instanceMethod yX10_drop ∈ ztbl := zmem_3 219 (by decide +kernel) rfl
theorem zie_X10_drop : Cond.selects zm_X10_drop.1.cls yX10_drop yX10_drop ∈ ztbl := zmem_3 220 (by decide +kernel) rfl
abbrev zm_X10_joined : zM := (yX10_joined, cX10_joined, 4, (some .long), { frames := 2, cells := 0, slots := 0, locals := 53 })
theorem zi_X10_joined : zCal zm_X10_joined 2 := ⟨zmem_1 1 (by decide +kernel) rfl, zmem_3 225 (by decide +kernel) rfl, by decide +kernel, by decide +kernel, by decide +kernel⟩
theorem zii_X10_joined : Cond.instanceMethod yX10_joined ∈ ztbl := zmem_3 223 (by decide +kernel) rfl
theorem zie_X10_joined : Cond.selects zm_X10_joined.1.cls yX10_joined yX10_joined ∈ ztbl := zmem_3 224 (by decide +kernel) rfl
abbrev zm_X0_commonDegree : zM := (yX0_commonDegree, cX0_commonDegree, 3, (some .int), { frames := 1, cells := 0, slots := 0, locals := 20 })
theorem zi_X0_commonDegree : zCal zm_X0_commonDegree 0 := ⟨zmem_1 2 (by decide +kernel) rfl, zmem_3 229 (by decide +kernel) rfl, by decide +kernel, by decide +kernel, by decide +kernel⟩
theorem zii_X0_commonDegree : Cond.instanceMethod yX0_commonDegree ∈ ztbl := zmem_3 227 (by decide +kernel) rfl
theorem zie_X0_commonDegree : Cond.selects zm_X0_commonDegree.1.cls yX0_commonDegree yX0_commonDegree ∈ ztbl := zmem_3 228 (by decide +kernel) rfl
abbrev zm_X0_joinAt : zM := (yX0_joinAt, cX0_joinAt, 10, (some .long), { frames := 1, cells := 0, slots := 0, locals := 24 })
theorem zi_X0_joinAt : zCal zm_X0_joinAt 1 := ⟨zmem_1 2 (by decide +kernel) rfl, zmem_3 234 (by decide +kernel) rfl, by decide +kernel, by decide +kernel, by decide +kernel⟩
theorem zii_X0_joinAt : Cond.instanceMethod yX0_joinAt ∈ ztbl := zmem_3 232 (by decide +kernel) rfl
theorem zie_X0_joinAt : Cond.selects zm_X0_joinAt.1.cls yX0_joinAt yX0_joinAt ∈ ztbl := zmem_3 233 (by decide +kernel) rfl
abbrev zm_X10_whole : zM := (yX10_whole, cX10_whole, 1, (some .long), { frames := 2, cells := 0, slots := 0, locals := 43 })
