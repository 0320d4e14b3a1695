section
-- ===== PART A: goes FIRST, ahead of the names: the tables' words, and 'selects' of the private methods out of them =====
/-- a private method of a class that the tables say can be made, by its rows of tables_1 -/
def lw_okq (q : MethodName × Nat) : Prop := (q.1.cls ≠ "java/lang/invoke/MethodHandle" ∧ q.1.cls ≠ "java/lang/invoke/VarHandle") ∧ Cond.instantiable q.1.cls q.2 ∈ tables_1 ∧ Cond.privateMethod q.1 ∈ tables_1 ∧ Cond.instanceMethod q.1 ∈ tables_1
theorem lw_p0 : lw_okq (⟨"LevelEquations$SeriesMath", "fillEisenstein", "(II)V"⟩, 4) := ⟨⟨by decide +kernel, by decide +kernel⟩, List.mem_of_getElem? (i := 110) (by decide +kernel), List.mem_of_getElem? (i := 359) (by decide +kernel), List.mem_of_getElem? (i := 360) (by decide +kernel)⟩
theorem lw_p1 : lw_okq (⟨"LevelEquations$SeriesMath", "fillEulerProduct", "(II)V"⟩, 4) := ⟨⟨by decide +kernel, by decide +kernel⟩, List.mem_of_getElem? (i := 110) (by decide +kernel), List.mem_of_getElem? (i := 367) (by decide +kernel), List.mem_of_getElem? (i := 368) (by decide +kernel)⟩
theorem lw_p2 : lw_okq (⟨"LevelEquations$Vanishing", "fillPowers", "([I[[II)V"⟩, 9) := ⟨⟨by decide +kernel, by decide +kernel⟩, List.mem_of_getElem? (i := 129) (by decide +kernel), List.mem_of_getElem? (i := 480) (by decide +kernel), List.mem_of_getElem? (i := 481) (by decide +kernel)⟩
theorem lw_p3 : lw_okq (⟨"LevelEquations$Finder", "listTerms", "()V"⟩, 10) := ⟨⟨by decide +kernel, by decide +kernel⟩, List.mem_of_getElem? (i := 168) (by decide +kernel), List.mem_of_getElem? (i := 490) (by decide +kernel), List.mem_of_getElem? (i := 491) (by decide +kernel)⟩
theorem lw_p4 : lw_okq (⟨"LevelEquations$Finder", "clearMatrix", "()V"⟩, 10) := ⟨⟨by decide +kernel, by decide +kernel⟩, List.mem_of_getElem? (i := 168) (by decide +kernel), List.mem_of_getElem? (i := 494) (by decide +kernel), List.mem_of_getElem? (i := 495) (by decide +kernel)⟩
theorem lw_p5 : lw_okq (⟨"LevelEquations$Finder", "addProduct", "(LLevelEquations$Vanishing;III)V"⟩, 10) := ⟨⟨by decide +kernel, by decide +kernel⟩, List.mem_of_getElem? (i := 168) (by decide +kernel), List.mem_of_getElem? (i := 499) (by decide +kernel), List.mem_of_getElem? (i := 500) (by decide +kernel)⟩
theorem lw_p6 : lw_okq (⟨"LevelEquations$Finder", "eliminate", "()I"⟩, 10) := ⟨⟨by decide +kernel, by decide +kernel⟩, List.mem_of_getElem? (i := 168) (by decide +kernel), List.mem_of_getElem? (i := 507) (by decide +kernel), List.mem_of_getElem? (i := 508) (by decide +kernel)⟩
theorem lw_p7 : lw_okq (⟨"LevelEquations$Finder", "pivotRow", "(II)I"⟩, 10) := ⟨⟨by decide +kernel, by decide +kernel⟩, List.mem_of_getElem? (i := 168) (by decide +kernel), List.mem_of_getElem? (i := 511) (by decide +kernel), List.mem_of_getElem? (i := 512) (by decide +kernel)⟩
theorem lw_p8 : lw_okq (⟨"LevelEquations$Finder", "swapRows", "(III)V"⟩, 10) := ⟨⟨by decide +kernel, by decide +kernel⟩, List.mem_of_getElem? (i := 168) (by decide +kernel), List.mem_of_getElem? (i := 516) (by decide +kernel), List.mem_of_getElem? (i := 517) (by decide +kernel)⟩
theorem lw_p9 : lw_okq (⟨"LevelEquations$Finder", "scaleRow", "(II)V"⟩, 10) := ⟨⟨by decide +kernel, by decide +kernel⟩, List.mem_of_getElem? (i := 168) (by decide +kernel), List.mem_of_getElem? (i := 520) (by decide +kernel), List.mem_of_getElem? (i := 521) (by decide +kernel)⟩
theorem lw_p10 : lw_okq (⟨"LevelEquations$Finder", "clearBelow", "(II)V"⟩, 10) := ⟨⟨by decide +kernel, by decide +kernel⟩, List.mem_of_getElem? (i := 168) (by decide +kernel), List.mem_of_getElem? (i := 525) (by decide +kernel), List.mem_of_getElem? (i := 526) (by decide +kernel)⟩
theorem lw_p11 : lw_okq (⟨"LevelEquations$Finder", "solve", "()V"⟩, 10) := ⟨⟨by decide +kernel, by decide +kernel⟩, List.mem_of_getElem? (i := 168) (by decide +kernel), List.mem_of_getElem? (i := 533) (by decide +kernel), List.mem_of_getElem? (i := 534) (by decide +kernel)⟩
theorem lw_p12 : lw_okq (⟨"LevelEquations", "isValue", "(I)Z"⟩, 12) := ⟨⟨by decide +kernel, by decide +kernel⟩, List.mem_of_getElem? (i := 21) (by decide +kernel), List.mem_of_getElem? (i := 574) (by decide +kernel), List.mem_of_getElem? (i := 575) (by decide +kernel)⟩
theorem lw_p13 : lw_okq (⟨"LevelEquations$Vanishing", "addTerm", "(III)V"⟩, 9) := ⟨⟨by decide +kernel, by decide +kernel⟩, List.mem_of_getElem? (i := 129) (by decide +kernel), List.mem_of_getElem? (i := 590) (by decide +kernel), List.mem_of_getElem? (i := 591) (by decide +kernel)⟩
theorem lw_p14 : lw_okq (⟨"LevelEquations$Graph", "explore", "(LLevelEquations$Contents;I)V"⟩, 5) := ⟨⟨by decide +kernel, by decide +kernel⟩, List.mem_of_getElem? (i := 206) (by decide +kernel), List.mem_of_getElem? (i := 603) (by decide +kernel), List.mem_of_getElem? (i := 604) (by decide +kernel)⟩
theorem lw_p15 : lw_okq (⟨"LevelEquations$Graph", "listNeighbours", "(LLevelEquations$Polynomial;II)I"⟩, 5) := ⟨⟨by decide +kernel, by decide +kernel⟩, List.mem_of_getElem? (i := 206) (by decide +kernel), List.mem_of_getElem? (i := 607) (by decide +kernel), List.mem_of_getElem? (i := 608) (by decide +kernel)⟩
def lw_privs_1 : List (MethodName × Nat) := [(⟨"LevelEquations$SeriesMath", "fillEisenstein", "(II)V"⟩, 4), (⟨"LevelEquations$SeriesMath", "fillEulerProduct", "(II)V"⟩, 4), (⟨"LevelEquations$Vanishing", "fillPowers", "([I[[II)V"⟩, 9), (⟨"LevelEquations$Finder", "listTerms", "()V"⟩, 10), (⟨"LevelEquations$Finder", "clearMatrix", "()V"⟩, 10), (⟨"LevelEquations$Finder", "addProduct", "(LLevelEquations$Vanishing;III)V"⟩, 10), (⟨"LevelEquations$Finder", "eliminate", "()I"⟩, 10), (⟨"LevelEquations$Finder", "pivotRow", "(II)I"⟩, 10), (⟨"LevelEquations$Finder", "swapRows", "(III)V"⟩, 10), (⟨"LevelEquations$Finder", "scaleRow", "(II)V"⟩, 10), (⟨"LevelEquations$Finder", "clearBelow", "(II)V"⟩, 10), (⟨"LevelEquations$Finder", "solve", "()V"⟩, 10), (⟨"LevelEquations", "isValue", "(I)Z"⟩, 12), (⟨"LevelEquations$Vanishing", "addTerm", "(III)V"⟩, 9), (⟨"LevelEquations$Graph", "explore", "(LLevelEquations$Contents;I)V"⟩, 5), (⟨"LevelEquations$Graph", "listNeighbours", "(LLevelEquations$Polynomial;II)I"⟩, 5)]
theorem lw_r1 : ∀ q ∈ lw_privs_1, lw_okq q := List.forall_mem_cons.mpr ⟨lw_p0, List.forall_mem_cons.mpr ⟨lw_p1, List.forall_mem_cons.mpr ⟨lw_p2, List.forall_mem_cons.mpr ⟨lw_p3, List.forall_mem_cons.mpr ⟨lw_p4, List.forall_mem_cons.mpr ⟨lw_p5, List.forall_mem_cons.mpr ⟨lw_p6, List.forall_mem_cons.mpr ⟨lw_p7, List.forall_mem_cons.mpr ⟨lw_p8, List.forall_mem_cons.mpr ⟨lw_p9, List.forall_mem_cons.mpr ⟨lw_p10, List.forall_mem_cons.mpr ⟨lw_p11, List.forall_mem_cons.mpr ⟨lw_p12, List.forall_mem_cons.mpr ⟨lw_p13, List.forall_mem_cons.mpr ⟨lw_p14, List.forall_mem_cons.mpr ⟨lw_p15, fun _ h => absurd h List.not_mem_nil⟩⟩⟩⟩⟩⟩⟩⟩⟩⟩⟩⟩⟩⟩⟩⟩
theorem lw_p16 : lw_okq (⟨"LevelEquations$Graph", "fillLine", "(LLevelEquations$Polynomial;II)I"⟩, 5) := ⟨⟨by decide +kernel, by decide +kernel⟩, List.mem_of_getElem? (i := 206) (by decide +kernel), List.mem_of_getElem? (i := 611) (by decide +kernel), List.mem_of_getElem? (i := 612) (by decide +kernel)⟩
theorem lw_p17 : lw_okq (⟨"LevelEquations$Graph", "lineAt", "(III)I"⟩, 5) := ⟨⟨by decide +kernel, by decide +kernel⟩, List.mem_of_getElem? (i := 206) (by decide +kernel), List.mem_of_getElem? (i := 619) (by decide +kernel), List.mem_of_getElem? (i := 620) (by decide +kernel)⟩
theorem lw_p18 : lw_okq (⟨"LevelEquations$Graph", "divideLine", "(III)V"⟩, 5) := ⟨⟨by decide +kernel, by decide +kernel⟩, List.mem_of_getElem? (i := 206) (by decide +kernel), List.mem_of_getElem? (i := 623) (by decide +kernel), List.mem_of_getElem? (i := 624) (by decide +kernel)⟩
theorem lw_p19 : lw_okq (⟨"LevelEquations$Program", "parseCommand", "(LLevelEquations$Tape;)Z"⟩, 3) := ⟨⟨by decide +kernel, by decide +kernel⟩, List.mem_of_getElem? (i := 255) (by decide +kernel), List.mem_of_getElem? (i := 746) (by decide +kernel), List.mem_of_getElem? (i := 747) (by decide +kernel)⟩
theorem lw_p20 : lw_okq (⟨"LevelEquations", "carryOut", "(I)I"⟩, 12) := ⟨⟨by decide +kernel, by decide +kernel⟩, List.mem_of_getElem? (i := 21) (by decide +kernel), List.mem_of_getElem? (i := 849) (by decide +kernel), List.mem_of_getElem? (i := 850) (by decide +kernel)⟩
theorem lw_p21 : lw_okq (⟨"LevelEquations$PolynomialText", "parseTerm", "(LLevelEquations$Tape;I)Z"⟩, 3) := ⟨⟨by decide +kernel, by decide +kernel⟩, List.mem_of_getElem? (i := 273) (by decide +kernel), List.mem_of_getElem? (i := 877) (by decide +kernel), List.mem_of_getElem? (i := 878) (by decide +kernel)⟩
theorem lw_p22 : lw_okq (⟨"LevelEquations$PolynomialText", "putTerm", "(III)V"⟩, 3) := ⟨⟨by decide +kernel, by decide +kernel⟩, List.mem_of_getElem? (i := 273) (by decide +kernel), List.mem_of_getElem? (i := 897) (by decide +kernel), List.mem_of_getElem? (i := 898) (by decide +kernel)⟩
theorem lw_p23 : lw_okq (⟨"LevelEquations$PolynomialText", "putByte", "(I)V"⟩, 3) := ⟨⟨by decide +kernel, by decide +kernel⟩, List.mem_of_getElem? (i := 273) (by decide +kernel), List.mem_of_getElem? (i := 901) (by decide +kernel), List.mem_of_getElem? (i := 902) (by decide +kernel)⟩
theorem lw_p24 : lw_okq (⟨"LevelEquations$PolynomialText", "putNumber", "(I)V"⟩, 3) := ⟨⟨by decide +kernel, by decide +kernel⟩, List.mem_of_getElem? (i := 273) (by decide +kernel), List.mem_of_getElem? (i := 905) (by decide +kernel), List.mem_of_getElem? (i := 906) (by decide +kernel)⟩
theorem lw_p25 : lw_okq (⟨"LevelEquationsModel", "whole", "(J)I"⟩, 50) := ⟨⟨by decide +kernel, by decide +kernel⟩, List.mem_of_getElem? (i := 962) (by decide +kernel), List.mem_of_getElem? (i := 1140) (by decide +kernel), List.mem_of_getElem? (i := 1141) (by decide +kernel)⟩
theorem lw_p26 : lw_okq (⟨"LevelEquationsModel", "multiplies", "([I[II)V"⟩, 50) := ⟨⟨by decide +kernel, by decide +kernel⟩, List.mem_of_getElem? (i := 962) (by decide +kernel), List.mem_of_getElem? (i := 1144) (by decide +kernel), List.mem_of_getElem? (i := 1145) (by decide +kernel)⟩
theorem lw_p27 : lw_okq (⟨"LevelEquationsModel", "divides", "([I[II)V"⟩, 50) := ⟨⟨by decide +kernel, by decide +kernel⟩, List.mem_of_getElem? (i := 962) (by decide +kernel), List.mem_of_getElem? (i := 1151) (by decide +kernel), List.mem_of_getElem? (i := 1152) (by decide +kernel)⟩
theorem lw_p28 : lw_okq (⟨"LevelEquationsModel", "inverse", "(I)I"⟩, 50) := ⟨⟨by decide +kernel, by decide +kernel⟩, List.mem_of_getElem? (i := 962) (by decide +kernel), List.mem_of_getElem? (i := 1155) (by decide +kernel), List.mem_of_getElem? (i := 1156) (by decide +kernel)⟩
theorem lw_p29 : lw_okq (⟨"LevelEquationsModel", "becomes", "(I)I"⟩, 50) := ⟨⟨by decide +kernel, by decide +kernel⟩, List.mem_of_getElem? (i := 962) (by decide +kernel), List.mem_of_getElem? (i := 1159) (by decide +kernel), List.mem_of_getElem? (i := 1160) (by decide +kernel)⟩
theorem lw_p30 : lw_okq (⟨"LevelEquationsModel", "isThere", "(I)Z"⟩, 50) := ⟨⟨by decide +kernel, by decide +kernel⟩, List.mem_of_getElem? (i := 962) (by decide +kernel), List.mem_of_getElem? (i := 1167) (by decide +kernel), List.mem_of_getElem? (i := 1168) (by decide +kernel)⟩
theorem lw_p31 : lw_okq (⟨"LevelEquationsModel", "numberOf", "(II)I"⟩, 50) := ⟨⟨by decide +kernel, by decide +kernel⟩, List.mem_of_getElem? (i := 962) (by decide +kernel), List.mem_of_getElem? (i := 1172) (by decide +kernel), List.mem_of_getElem? (i := 1173) (by decide +kernel)⟩
def lw_privs_2 : List (MethodName × Nat) := [(⟨"LevelEquations$Graph", "fillLine", "(LLevelEquations$Polynomial;II)I"⟩, 5), (⟨"LevelEquations$Graph", "lineAt", "(III)I"⟩, 5), (⟨"LevelEquations$Graph", "divideLine", "(III)V"⟩, 5), (⟨"LevelEquations$Program", "parseCommand", "(LLevelEquations$Tape;)Z"⟩, 3), (⟨"LevelEquations", "carryOut", "(I)I"⟩, 12), (⟨"LevelEquations$PolynomialText", "parseTerm", "(LLevelEquations$Tape;I)Z"⟩, 3), (⟨"LevelEquations$PolynomialText", "putTerm", "(III)V"⟩, 3), (⟨"LevelEquations$PolynomialText", "putByte", "(I)V"⟩, 3), (⟨"LevelEquations$PolynomialText", "putNumber", "(I)V"⟩, 3), (⟨"LevelEquationsModel", "whole", "(J)I"⟩, 50), (⟨"LevelEquationsModel", "multiplies", "([I[II)V"⟩, 50), (⟨"LevelEquationsModel", "divides", "([I[II)V"⟩, 50), (⟨"LevelEquationsModel", "inverse", "(I)I"⟩, 50), (⟨"LevelEquationsModel", "becomes", "(I)I"⟩, 50), (⟨"LevelEquationsModel", "isThere", "(I)Z"⟩, 50), (⟨"LevelEquationsModel", "numberOf", "(II)I"⟩, 50)]
theorem lw_r2 : ∀ q ∈ lw_privs_2, lw_okq q := List.forall_mem_cons.mpr ⟨lw_p16, List.forall_mem_cons.mpr ⟨lw_p17, List.forall_mem_cons.mpr ⟨lw_p18, List.forall_mem_cons.mpr ⟨lw_p19, List.forall_mem_cons.mpr ⟨lw_p20, List.forall_mem_cons.mpr ⟨lw_p21, List.forall_mem_cons.mpr ⟨lw_p22, List.forall_mem_cons.mpr ⟨lw_p23, List.forall_mem_cons.mpr ⟨lw_p24, List.forall_mem_cons.mpr ⟨lw_p25, List.forall_mem_cons.mpr ⟨lw_p26, List.forall_mem_cons.mpr ⟨lw_p27, List.forall_mem_cons.mpr ⟨lw_p28, List.forall_mem_cons.mpr ⟨lw_p29, List.forall_mem_cons.mpr ⟨lw_p30, List.forall_mem_cons.mpr ⟨lw_p31, fun _ h => absurd h List.not_mem_nil⟩⟩⟩⟩⟩⟩⟩⟩⟩⟩⟩⟩⟩⟩⟩⟩
theorem lw_p32 : lw_okq (⟨"LevelEquationsModel", "powers", "(III)V"⟩, 50) := ⟨⟨by decide +kernel, by decide +kernel⟩, List.mem_of_getElem? (i := 962) (by decide +kernel), List.mem_of_getElem? (i := 1198) (by decide +kernel), List.mem_of_getElem? (i := 1199) (by decide +kernel)⟩
theorem lw_p33 : lw_okq (⟨"LevelEquationsModel", "tellsPowers", "(III)V"⟩, 50) := ⟨⟨by decide +kernel, by decide +kernel⟩, List.mem_of_getElem? (i := 962) (by decide +kernel), List.mem_of_getElem? (i := 1216) (by decide +kernel), List.mem_of_getElem? (i := 1217) (by decide +kernel)⟩
theorem lw_p34 : lw_okq (⟨"LevelEquationsModel", "tries", "(IIIZ)V"⟩, 50) := ⟨⟨by decide +kernel, by decide +kernel⟩, List.mem_of_getElem? (i := 962) (by decide +kernel), List.mem_of_getElem? (i := 1220) (by decide +kernel), List.mem_of_getElem? (i := 1221) (by decide +kernel)⟩
theorem lw_p35 : lw_okq (⟨"LevelEquationsModel", "emptiesColumn", "()V"⟩, 50) := ⟨⟨by decide +kernel, by decide +kernel⟩, List.mem_of_getElem? (i := 962) (by decide +kernel), List.mem_of_getElem? (i := 1224) (by decide +kernel), List.mem_of_getElem? (i := 1225) (by decide +kernel)⟩
theorem lw_p36 : lw_okq (⟨"LevelEquationsModel", "adds", "(III)V"⟩, 50) := ⟨⟨by decide +kernel, by decide +kernel⟩, List.mem_of_getElem? (i := 962) (by decide +kernel), List.mem_of_getElem? (i := 1228) (by decide +kernel), List.mem_of_getElem? (i := 1229) (by decide +kernel)⟩
theorem lw_p37 : lw_okq (⟨"LevelEquationsModel", "comes", "()Z"⟩, 50) := ⟨⟨by decide +kernel, by decide +kernel⟩, List.mem_of_getElem? (i := 962) (by decide +kernel), List.mem_of_getElem? (i := 1235) (by decide +kernel), List.mem_of_getElem? (i := 1236) (by decide +kernel)⟩
theorem lw_p38 : lw_okq (⟨"LevelEquationsModel", "lessens", "(I)V"⟩, 50) := ⟨⟨by decide +kernel, by decide +kernel⟩, List.mem_of_getElem? (i := 962) (by decide +kernel), List.mem_of_getElem? (i := 1239) (by decide +kernel), List.mem_of_getElem? (i := 1240) (by decide +kernel)⟩
theorem lw_p39 : lw_okq (⟨"LevelEquationsModel", "firstOther", "()I"⟩, 50) := ⟨⟨by decide +kernel, by decide +kernel⟩, List.mem_of_getElem? (i := 962) (by decide +kernel), List.mem_of_getElem? (i := 1243) (by decide +kernel), List.mem_of_getElem? (i := 1244) (by decide +kernel)⟩
theorem lw_p40 : lw_okq (⟨"LevelEquationsModel", "termAt", "(II)I"⟩, 50) := ⟨⟨by decide +kernel, by decide +kernel⟩, List.mem_of_getElem? (i := 962) (by decide +kernel), List.mem_of_getElem? (i := 1252) (by decide +kernel), List.mem_of_getElem? (i := 1253) (by decide +kernel)⟩
theorem lw_p41 : lw_okq (⟨"LevelEquationsModel", "isValue", "(I)Z"⟩, 50) := ⟨⟨by decide +kernel, by decide +kernel⟩, List.mem_of_getElem? (i := 962) (by decide +kernel), List.mem_of_getElem? (i := 1264) (by decide +kernel), List.mem_of_getElem? (i := 1265) (by decide +kernel)⟩
theorem lw_p42 : lw_okq (⟨"LevelEquationsModel", "puts", "(I)Z"⟩, 50) := ⟨⟨by decide +kernel, by decide +kernel⟩, List.mem_of_getElem? (i := 962) (by decide +kernel), List.mem_of_getElem? (i := 1268) (by decide +kernel), List.mem_of_getElem? (i := 1269) (by decide +kernel)⟩
theorem lw_p43 : lw_okq (⟨"LevelEquationsModel", "worth", "(I)I"⟩, 50) := ⟨⟨by decide +kernel, by decide +kernel⟩, List.mem_of_getElem? (i := 962) (by decide +kernel), List.mem_of_getElem? (i := 1272) (by decide +kernel), List.mem_of_getElem? (i := 1273) (by decide +kernel)⟩
theorem lw_p44 : lw_okq (⟨"LevelEquationsModel", "tellsNeighbours", "(I)Z"⟩, 50) := ⟨⟨by decide +kernel, by decide +kernel⟩, List.mem_of_getElem? (i := 962) (by decide +kernel), List.mem_of_getElem? (i := 1284) (by decide +kernel), List.mem_of_getElem? (i := 1285) (by decide +kernel)⟩
theorem lw_p45 : lw_okq (⟨"LevelEquationsModel", "oftenOf", "(I)I"⟩, 50) := ⟨⟨by decide +kernel, by decide +kernel⟩, List.mem_of_getElem? (i := 962) (by decide +kernel), List.mem_of_getElem? (i := 1288) (by decide +kernel), List.mem_of_getElem? (i := 1289) (by decide +kernel)⟩
theorem lw_p46 : lw_okq (⟨"LevelEquationsModel", "tellsAway", "(I)V"⟩, 50) := ⟨⟨by decide +kernel, by decide +kernel⟩, List.mem_of_getElem? (i := 962) (by decide +kernel), List.mem_of_getElem? (i := 1296) (by decide +kernel), List.mem_of_getElem? (i := 1297) (by decide +kernel)⟩
theorem lw_p47 : lw_okq (⟨"LevelEquationsModel", "keptPrime", "(I)I"⟩, 50) := ⟨⟨by decide +kernel, by decide +kernel⟩, List.mem_of_getElem? (i := 962) (by decide +kernel), List.mem_of_getElem? (i := 1316) (by decide +kernel), List.mem_of_getElem? (i := 1317) (by decide +kernel)⟩
def lw_privs_3 : List (MethodName × Nat) := [(⟨"LevelEquationsModel", "powers", "(III)V"⟩, 50), (⟨"LevelEquationsModel", "tellsPowers", "(III)V"⟩, 50), (⟨"LevelEquationsModel", "tries", "(IIIZ)V"⟩, 50), (⟨"LevelEquationsModel", "emptiesColumn", "()V"⟩, 50), (⟨"LevelEquationsModel", "adds", "(III)V"⟩, 50), (⟨"LevelEquationsModel", "comes", "()Z"⟩, 50), (⟨"LevelEquationsModel", "lessens", "(I)V"⟩, 50), (⟨"LevelEquationsModel", "firstOther", "()I"⟩, 50), (⟨"LevelEquationsModel", "termAt", "(II)I"⟩, 50), (⟨"LevelEquationsModel", "isValue", "(I)Z"⟩, 50), (⟨"LevelEquationsModel", "puts", "(I)Z"⟩, 50), (⟨"LevelEquationsModel", "worth", "(I)I"⟩, 50), (⟨"LevelEquationsModel", "tellsNeighbours", "(I)Z"⟩, 50), (⟨"LevelEquationsModel", "oftenOf", "(I)I"⟩, 50), (⟨"LevelEquationsModel", "tellsAway", "(I)V"⟩, 50), (⟨"LevelEquationsModel", "keptPrime", "(I)I"⟩, 50)]
theorem lw_r3 : ∀ q ∈ lw_privs_3, lw_okq q := List.forall_mem_cons.mpr ⟨lw_p32, List.forall_mem_cons.mpr ⟨lw_p33, List.forall_mem_cons.mpr ⟨lw_p34, List.forall_mem_cons.mpr ⟨lw_p35, List.forall_mem_cons.mpr ⟨lw_p36, List.forall_mem_cons.mpr ⟨lw_p37, List.forall_mem_cons.mpr ⟨lw_p38, List.forall_mem_cons.mpr ⟨lw_p39, List.forall_mem_cons.mpr ⟨lw_p40, List.forall_mem_cons.mpr ⟨lw_p41, List.forall_mem_cons.mpr ⟨lw_p42, List.forall_mem_cons.mpr ⟨lw_p43, List.forall_mem_cons.mpr ⟨lw_p44, List.forall_mem_cons.mpr ⟨lw_p45, List.forall_mem_cons.mpr ⟨lw_p46, List.forall_mem_cons.mpr ⟨lw_p47, fun _ h => absurd h List.not_mem_nil⟩⟩⟩⟩⟩⟩⟩⟩⟩⟩⟩⟩⟩⟩⟩⟩
theorem lw_p48 : lw_okq (⟨"LevelEquationsModel", "keptMany", "()I"⟩, 50) := ⟨⟨by decide +kernel, by decide +kernel⟩, List.mem_of_getElem? (i := 962) (by decide +kernel), List.mem_of_getElem? (i := 1320) (by decide +kernel), List.mem_of_getElem? (i := 1321) (by decide +kernel)⟩
theorem lw_p49 : lw_okq (⟨"LevelEquationsModel", "joinedDegree", "()I"⟩, 50) := ⟨⟨by decide +kernel, by decide +kernel⟩, List.mem_of_getElem? (i := 962) (by decide +kernel), List.mem_of_getElem? (i := 1337) (by decide +kernel), List.mem_of_getElem? (i := 1338) (by decide +kernel)⟩
theorem lw_p50 : lw_okq (⟨"LevelEquationsModel", "readsDeed", "(I)Z"⟩, 50) := ⟨⟨by decide +kernel, by decide +kernel⟩, List.mem_of_getElem? (i := 962) (by decide +kernel), List.mem_of_getElem? (i := 1350) (by decide +kernel), List.mem_of_getElem? (i := 1351) (by decide +kernel)⟩
theorem lw_p51 : lw_okq (⟨"LevelEquationsModel", "isLetter", "()Z"⟩, 50) := ⟨⟨by decide +kernel, by decide +kernel⟩, List.mem_of_getElem? (i := 962) (by decide +kernel), List.mem_of_getElem? (i := 1354) (by decide +kernel), List.mem_of_getElem? (i := 1355) (by decide +kernel)⟩
theorem lw_p52 : lw_okq (⟨"LevelEquationsModel", "here", "()I"⟩, 50) := ⟨⟨by decide +kernel, by decide +kernel⟩, List.mem_of_getElem? (i := 962) (by decide +kernel), List.mem_of_getElem? (i := 1358) (by decide +kernel), List.mem_of_getElem? (i := 1359) (by decide +kernel)⟩
theorem lw_p53 : lw_okq (⟨"LevelEquationsModel", "wordFrom", "(I)I"⟩, 50) := ⟨⟨by decide +kernel, by decide +kernel⟩, List.mem_of_getElem? (i := 962) (by decide +kernel), List.mem_of_getElem? (i := 1364) (by decide +kernel), List.mem_of_getElem? (i := 1365) (by decide +kernel)⟩
theorem lw_p54 : lw_okq (⟨"LevelEquationsModel", "isFigure", "()Z"⟩, 50) := ⟨⟨by decide +kernel, by decide +kernel⟩, List.mem_of_getElem? (i := 962) (by decide +kernel), List.mem_of_getElem? (i := 1368) (by decide +kernel), List.mem_of_getElem? (i := 1369) (by decide +kernel)⟩
theorem lw_p55 : lw_okq (⟨"LevelEquationsModel", "does", "(I)I"⟩, 50) := ⟨⟨by decide +kernel, by decide +kernel⟩, List.mem_of_getElem? (i := 962) (by decide +kernel), List.mem_of_getElem? (i := 1374) (by decide +kernel), List.mem_of_getElem? (i := 1375) (by decide +kernel)⟩
theorem lw_p56 : lw_okq (⟨"LevelEquationsModel", "readsTerm", "()Z"⟩, 50) := ⟨⟨by decide +kernel, by decide +kernel⟩, List.mem_of_getElem? (i := 962) (by decide +kernel), List.mem_of_getElem? (i := 1391) (by decide +kernel), List.mem_of_getElem? (i := 1392) (by decide +kernel)⟩
theorem lw_p57 : lw_okq (⟨"LevelEquationsModel", "readsPower", "(I)I"⟩, 50) := ⟨⟨by decide +kernel, by decide +kernel⟩, List.mem_of_getElem? (i := 962) (by decide +kernel), List.mem_of_getElem? (i := 1395) (by decide +kernel), List.mem_of_getElem? (i := 1396) (by decide +kernel)⟩
theorem lw_p58 : lw_okq (⟨"LevelEquationsModel", "writes", "(I)V"⟩, 50) := ⟨⟨by decide +kernel, by decide +kernel⟩, List.mem_of_getElem? (i := 962) (by decide +kernel), List.mem_of_getElem? (i := 1406) (by decide +kernel), List.mem_of_getElem? (i := 1407) (by decide +kernel)⟩
theorem lw_p59 : lw_okq (⟨"LevelEquationsModel", "writesNumber", "(I)V"⟩, 50) := ⟨⟨by decide +kernel, by decide +kernel⟩, List.mem_of_getElem? (i := 962) (by decide +kernel), List.mem_of_getElem? (i := 1410) (by decide +kernel), List.mem_of_getElem? (i := 1411) (by decide +kernel)⟩
theorem lw_p60 : lw_okq (⟨"LevelEquationsModel", "writesPower", "(II)V"⟩, 50) := ⟨⟨by decide +kernel, by decide +kernel⟩, List.mem_of_getElem? (i := 962) (by decide +kernel), List.mem_of_getElem? (i := 1414) (by decide +kernel), List.mem_of_getElem? (i := 1415) (by decide +kernel)⟩
theorem lw_p61 : lw_okq (⟨"LevelEquationsModel", "seriesMany", "()I"⟩, 50) := ⟨⟨by decide +kernel, by decide +kernel⟩, List.mem_of_getElem? (i := 962) (by decide +kernel), List.mem_of_getElem? (i := 1456) (by decide +kernel), List.mem_of_getElem? (i := 1457) (by decide +kernel)⟩
def lw_privs_4 : List (MethodName × Nat) := [(⟨"LevelEquationsModel", "keptMany", "()I"⟩, 50), (⟨"LevelEquationsModel", "joinedDegree", "()I"⟩, 50), (⟨"LevelEquationsModel", "readsDeed", "(I)Z"⟩, 50), (⟨"LevelEquationsModel", "isLetter", "()Z"⟩, 50), (⟨"LevelEquationsModel", "here", "()I"⟩, 50), (⟨"LevelEquationsModel", "wordFrom", "(I)I"⟩, 50), (⟨"LevelEquationsModel", "isFigure", "()Z"⟩, 50), (⟨"LevelEquationsModel", "does", "(I)I"⟩, 50), (⟨"LevelEquationsModel", "readsTerm", "()Z"⟩, 50), (⟨"LevelEquationsModel", "readsPower", "(I)I"⟩, 50), (⟨"LevelEquationsModel", "writes", "(I)V"⟩, 50), (⟨"LevelEquationsModel", "writesNumber", "(I)V"⟩, 50), (⟨"LevelEquationsModel", "writesPower", "(II)V"⟩, 50), (⟨"LevelEquationsModel", "seriesMany", "()I"⟩, 50)]
theorem lw_r4 : ∀ q ∈ lw_privs_4, lw_okq q := List.forall_mem_cons.mpr ⟨lw_p48, List.forall_mem_cons.mpr ⟨lw_p49, List.forall_mem_cons.mpr ⟨lw_p50, List.forall_mem_cons.mpr ⟨lw_p51, List.forall_mem_cons.mpr ⟨lw_p52, List.forall_mem_cons.mpr ⟨lw_p53, List.forall_mem_cons.mpr ⟨lw_p54, List.forall_mem_cons.mpr ⟨lw_p55, List.forall_mem_cons.mpr ⟨lw_p56, List.forall_mem_cons.mpr ⟨lw_p57, List.forall_mem_cons.mpr ⟨lw_p58, List.forall_mem_cons.mpr ⟨lw_p59, List.forall_mem_cons.mpr ⟨lw_p60, List.forall_mem_cons.mpr ⟨lw_p61, fun _ h => absurd h List.not_mem_nil⟩⟩⟩⟩⟩⟩⟩⟩⟩⟩⟩⟩⟩⟩
def lw_privs : List (MethodName × Nat) := lw_privs_1 ++ (lw_privs_2 ++ (lw_privs_3 ++ (lw_privs_4)))
def lw_tbl : List Cond := k2_sels lw_privs ++ tables_1
theorem lw_privs_ok : ∀ q ∈ lw_privs, lw_okq q := by
  show ∀ q ∈ lw_privs_1 ++ (lw_privs_2 ++ (lw_privs_3 ++ (lw_privs_4))), lw_okq q
  exact List.forall_mem_append.mpr ⟨lw_r1, List.forall_mem_append.mpr ⟨lw_r2, List.forall_mem_append.mpr ⟨lw_r3, lw_r4⟩⟩⟩
end
section
def RX0 : String := "LevelEquations$Contents"
def TX0 : u_T := fun k => match k with
  | 0 => ("LevelEquations$Contents", "modulus", "I", false)
  | 1 => ("LevelEquations$Contents", "series", "[LLevelEquations$Series;", true)
  | 2 => ("LevelEquations$Contents", "equation", "LLevelEquations$Polynomial;", true)
  | 3 => ("LevelEquations$Contents", "kept", "[LLevelEquations$Polynomial;", true)
  | _ => ("LevelEquations$Contents", "keptModuli", "[I", true)
def tyX0 : Nat → FieldType := fun k => match k with
  | 0 => .int
  | 1 => .array (.object "LevelEquations$Series")
  | 2 => .object "LevelEquations$Polynomial"
  | 3 => .array (.object "LevelEquations$Polynomial")
  | _ => .array .int
theorem nmX0 : ∀ a, a < 5 → ∀ b, b < 5 → a ≠ b → (TX0 a).2.1 ≠ (TX0 b).2.1 := by decide +kernel
theorem tyX0_ok : ∀ k, k < 5 → parseFieldDescriptor (TX0 k).2.2.1 = some (tyX0 k) := by decide +kernel
abbrev cX0_init : ByteArray := prog_2_method_1_code
def yX0_init : MethodName := ⟨RX0, "<init>", "()V"⟩
abbrev cX0_startAnew : ByteArray := prog_2_method_2_code
def yX0_startAnew : MethodName := ⟨RX0, "startAnew", "(I)V"⟩
abbrev cX0_copyFrom : ByteArray := prog_2_method_3_code
def yX0_copyFrom : MethodName := ⟨RX0, "copyFrom", "(LLevelEquations$Contents;)V"⟩
abbrev cX0_seriesCount : ByteArray := prog_2_method_4_code
def yX0_seriesCount : MethodName := ⟨RX0, "seriesCount", "()I"⟩
abbrev cX0_keptCount : ByteArray := prog_2_method_5_code
def yX0_keptCount : MethodName := ⟨RX0, "keptCount", "()I"⟩
abbrev cX0_placeOf : ByteArray := prog_2_method_6_code
def yX0_placeOf : MethodName := ⟨RX0, "placeOf", "(I)I"⟩
abbrev cX0_commonDegree : ByteArray := prog_2_method_7_code
def yX0_commonDegree : MethodName := ⟨RX0, "commonDegree", "()I"⟩
abbrev cX0_keptProduct : ByteArray := prog_2_method_8_code
def yX0_keptProduct : MethodName := ⟨RX0, "keptProduct", "()J"⟩
abbrev cX0_joinAt : ByteArray := prog_2_method_9_code
def yX0_joinAt : MethodName := ⟨RX0, "joinAt", "(I)J"⟩
def RX1 : String := "LevelEquations$Finder"
def TX1 : u_T := fun k => match k with
  | 0 => ("LevelEquations$Finder", "matrix", "[[I", true)
  | 1 => ("LevelEquations$Finder", "xExponents", "[I", true)
  | 2 => ("LevelEquations$Finder", "yExponents", "[I", true)
  | 3 => ("LevelEquations$Finder", "solution", "[I", true)
  | 4 => ("LevelEquations$Finder", "degree", "I", false)
  | 5 => ("LevelEquations$Finder", "symmetric", "Z", false)
  | 6 => ("LevelEquations$Finder", "columns", "I", false)
  | 7 => ("LevelEquations$Finder", "rows", "I", false)
  | 8 => ("LevelEquations$Finder", "firstFree", "I", false)
  | _ => ("LevelEquations$Finder", "modulus", "I", false)
def tyX1 : Nat → FieldType := fun k => match k with
  | 0 => .array (.array .int)
  | 1 => .array .int
  | 2 => .array .int
  | 3 => .array .int
  | 4 => .int
  | 5 => .boolean
  | 6 => .int
  | 7 => .int
  | 8 => .int
  | _ => .int
theorem nmX1 : ∀ a, a < 10 → ∀ b, b < 10 → a ≠ b → (TX1 a).2.1 ≠ (TX1 b).2.1 := by decide +kernel
theorem tyX1_ok : ∀ k, k < 10 → parseFieldDescriptor (TX1 k).2.2.1 = some (tyX1 k) := by decide +kernel
abbrev cX1_init : ByteArray := prog_3_method_1_code
def yX1_init : MethodName := ⟨RX1, "<init>", "()V"⟩
abbrev cX1_search : ByteArray := prog_3_method_2_code
def yX1_search : MethodName := ⟨RX1, "search", "(LLevelEquations$Vanishing;IZ)I"⟩
abbrev cX1_listTerms : ByteArray := prog_3_method_3_code
def yX1_listTerms : MethodName := ⟨RX1, "listTerms", "()V"⟩
abbrev cX1_clearMatrix : ByteArray := prog_3_method_4_code
def yX1_clearMatrix : MethodName := ⟨RX1, "clearMatrix", "()V"⟩
abbrev cX1_addProduct : ByteArray := prog_3_method_5_code
def yX1_addProduct : MethodName := ⟨RX1, "addProduct", "(LLevelEquations$Vanishing;III)V"⟩
abbrev cX1_eliminate : ByteArray := prog_3_method_6_code
def yX1_eliminate : MethodName := ⟨RX1, "eliminate", "()I"⟩
abbrev cX1_pivotRow : ByteArray := prog_3_method_7_code
def yX1_pivotRow : MethodName := ⟨RX1, "pivotRow", "(II)I"⟩
abbrev cX1_swapRows : ByteArray := prog_3_method_8_code
def yX1_swapRows : MethodName := ⟨RX1, "swapRows", "(III)V"⟩
abbrev cX1_scaleRow : ByteArray := prog_3_method_9_code
def yX1_scaleRow : MethodName := ⟨RX1, "scaleRow", "(II)V"⟩
abbrev cX1_clearBelow : ByteArray := prog_3_method_10_code
def yX1_clearBelow : MethodName := ⟨RX1, "clearBelow", "(II)V"⟩
abbrev cX1_handOver : ByteArray := prog_3_method_11_code
def yX1_handOver : MethodName := ⟨RX1, "handOver", "(LLevelEquations$Polynomial;)V"⟩
abbrev cX1_solve : ByteArray := prog_3_method_12_code
def yX1_solve : MethodName := ⟨RX1, "solve", "()V"⟩
def RX2 : String := "LevelEquations$Graph"
def TX2 : u_T := fun k => match k with
  | 0 => ("LevelEquations$Graph", "sizes", "[I", true)
  | 1 => ("LevelEquations$Graph", "neighbours", "[I", true)
  | 2 => ("LevelEquations$Graph", "line", "[I", true)
  | 3 => ("LevelEquations$Graph", "distances", "[I", true)
  | _ => ("LevelEquations$Graph", "queue", "[I", true)
def tyX2 : Nat → FieldType := fun k => match k with
  | 0 => .array .int
  | 1 => .array .int
  | 2 => .array .int
  | 3 => .array .int
  | _ => .array .int
theorem nmX2 : ∀ a, a < 5 → ∀ b, b < 5 → a ≠ b → (TX2 a).2.1 ≠ (TX2 b).2.1 := by decide +kernel
theorem tyX2_ok : ∀ k, k < 5 → parseFieldDescriptor (TX2 k).2.2.1 = some (tyX2 k) := by decide +kernel
abbrev cX2_init : ByteArray := prog_4_method_1_code
def yX2_init : MethodName := ⟨RX2, "<init>", "()V"⟩
abbrev cX2_forget : ByteArray := prog_4_method_2_code
def yX2_forget : MethodName := ⟨RX2, "forget", "()V"⟩
abbrev cX2_isDegenerate : ByteArray := prog_4_method_3_code
def yX2_isDegenerate : MethodName := ⟨RX2, "isDegenerate", "(LLevelEquations$Contents;I)Z"⟩
abbrev cX2_sizeOf : ByteArray := prog_4_method_4_code
def yX2_sizeOf : MethodName := ⟨RX2, "sizeOf", "(LLevelEquations$Contents;I)I"⟩
abbrev cX2_neighbourOf : ByteArray := prog_4_method_5_code
def yX2_neighbourOf : MethodName := ⟨RX2, "neighbourOf", "(II)I"⟩
abbrev cX2_explore : ByteArray := prog_4_method_6_code
def yX2_explore : MethodName := ⟨RX2, "explore", "(LLevelEquations$Contents;I)V"⟩
abbrev cX2_listNeighbours : ByteArray := prog_4_method_7_code
def yX2_listNeighbours : MethodName := ⟨RX2, "listNeighbours", "(LLevelEquations$Polynomial;II)I"⟩
abbrev cX2_fillLine : ByteArray := prog_4_method_8_code
def yX2_fillLine : MethodName := ⟨RX2, "fillLine", "(LLevelEquations$Polynomial;II)I"⟩
abbrev cX2_lineAt : ByteArray := prog_4_method_9_code
def yX2_lineAt : MethodName := ⟨RX2, "lineAt", "(III)I"⟩
abbrev cX2_divideLine : ByteArray := prog_4_method_10_code
def yX2_divideLine : MethodName := ⟨RX2, "divideLine", "(III)V"⟩
abbrev cX2_walkFrom : ByteArray := prog_4_method_11_code
def yX2_walkFrom : MethodName := ⟨RX2, "walkFrom", "(LLevelEquations$Contents;I)I"⟩
abbrev cX2_distanceTo : ByteArray := prog_4_method_12_code
def yX2_distanceTo : MethodName := ⟨RX2, "distanceTo", "(I)I"⟩
abbrev cX2_ownNeighbours : ByteArray := prog_4_method_13_code
def yX2_ownNeighbours : MethodName := ⟨RX2, "ownNeighbours", "(LLevelEquations$Contents;)I"⟩
abbrev cX2_degenerateValues : ByteArray := prog_4_method_14_code
def yX2_degenerateValues : MethodName := ⟨RX2, "degenerateValues", "(LLevelEquations$Contents;)I"⟩
abbrev cX2_lonelyValues : ByteArray := prog_4_method_15_code
def yX2_lonelyValues : MethodName := ⟨RX2, "lonelyValues", "(LLevelEquations$Contents;)I"⟩
abbrev cX2_greatestSize : ByteArray := prog_4_method_16_code
def yX2_greatestSize : MethodName := ⟨RX2, "greatestSize", "(LLevelEquations$Contents;)I"⟩
def RX3 : String := "LevelEquations$Polynomial"
def TX3 : u_T := fun k => match k with
  | 0 => ("LevelEquations$Polynomial", "coefficients", "[I", true)
  | _ => ("LevelEquations$Polynomial", "degree", "I", false)
def tyX3 : Nat → FieldType := fun k => match k with
  | 0 => .array .int
  | _ => .int
theorem nmX3 : ∀ a, a < 2 → ∀ b, b < 2 → a ≠ b → (TX3 a).2.1 ≠ (TX3 b).2.1 := by decide +kernel
theorem tyX3_ok : ∀ k, k < 2 → parseFieldDescriptor (TX3 k).2.2.1 = some (tyX3 k) := by decide +kernel
abbrev cX3_init : ByteArray := prog_5_method_1_code
def yX3_init : MethodName := ⟨RX3, "<init>", "()V"⟩
abbrev cX3_clear : ByteArray := prog_5_method_2_code
def yX3_clear : MethodName := ⟨RX3, "clear", "(I)V"⟩
abbrev cX3_copyFrom : ByteArray := prog_5_method_3_code
def yX3_copyFrom : MethodName := ⟨RX3, "copyFrom", "(LLevelEquations$Polynomial;)V"⟩
abbrev cX3_isMissing : ByteArray := prog_5_method_4_code
def yX3_isMissing : MethodName := ⟨RX3, "isMissing", "()Z"⟩
abbrev cX3_has : ByteArray := prog_5_method_5_code
def yX3_has : MethodName := ⟨RX3, "has", "(II)Z"⟩
abbrev cX3_leadingTerm : ByteArray := prog_5_method_6_code
def yX3_leadingTerm : MethodName := ⟨RX3, "leadingTerm", "()I"⟩
abbrev cX3_isSymmetric : ByteArray := prog_5_method_7_code
def yX3_isSymmetric : MethodName := ⟨RX3, "isSymmetric", "()Z"⟩
abbrev cX3_nonzeroCount : ByteArray := prog_5_method_8_code
def yX3_nonzeroCount : MethodName := ⟨RX3, "nonzeroCount", "()I"⟩
abbrev cX3_valueOf : ByteArray := prog_5_method_9_code
def yX3_valueOf : MethodName := ⟨RX3, "valueOf", "(III)I"⟩
abbrev cX3_lineCoefficient : ByteArray := prog_5_method_10_code
def yX3_lineCoefficient : MethodName := ⟨RX3, "lineCoefficient", "(III)I"⟩
def RX4 : String := "LevelEquations$PolynomialText"
def TX4 : u_T := fun k => match k with
  | 0 => ("LevelEquations$PolynomialText", "draft", "LLevelEquations$Polynomial;", true)
  | 1 => ("LevelEquations$PolynomialText", "paper", "[I", true)
  | _ => ("LevelEquations$PolynomialText", "paperLength", "I", false)
def tyX4 : Nat → FieldType := fun k => match k with
  | 0 => .object "LevelEquations$Polynomial"
  | 1 => .array .int
  | _ => .int
theorem nmX4 : ∀ a, a < 3 → ∀ b, b < 3 → a ≠ b → (TX4 a).2.1 ≠ (TX4 b).2.1 := by decide +kernel
theorem tyX4_ok : ∀ k, k < 3 → parseFieldDescriptor (TX4 k).2.2.1 = some (tyX4 k) := by decide +kernel
abbrev cX4_init : ByteArray := prog_6_method_1_code
def yX4_init : MethodName := ⟨RX4, "<init>", "()V"⟩
abbrev cX4_parse : ByteArray := prog_6_method_2_code
def yX4_parse : MethodName := ⟨RX4, "parse", "(LLevelEquations$Tape;I)Z"⟩
abbrev cX4_parseTerm : ByteArray := prog_6_method_3_code
def yX4_parseTerm : MethodName := ⟨RX4, "parseTerm", "(LLevelEquations$Tape;I)Z"⟩
abbrev cX4_putDown : ByteArray := prog_6_method_4_code
def yX4_putDown : MethodName := ⟨RX4, "putDown", "(LLevelEquations$Polynomial;)V"⟩
abbrev cX4_putTerm : ByteArray := prog_6_method_5_code
def yX4_putTerm : MethodName := ⟨RX4, "putTerm", "(III)V"⟩
abbrev cX4_putNumber : ByteArray := prog_6_method_6_code
def yX4_putNumber : MethodName := ⟨RX4, "putNumber", "(I)V"⟩
abbrev cX4_putByte : ByteArray := prog_6_method_7_code
def yX4_putByte : MethodName := ⟨RX4, "putByte", "(I)V"⟩
def RX5 : String := "LevelEquations$Program"
def TX5 : u_T := fun k => match k with
  | 0 => ("LevelEquations$Program", "commands", "[I", true)
  | 1 => ("LevelEquations$Program", "numbers", "[I", true)
  | _ => ("LevelEquations$Program", "size", "I", false)
def tyX5 : Nat → FieldType := fun k => match k with
  | 0 => .array .int
  | 1 => .array .int
  | _ => .int
theorem nmX5 : ∀ a, a < 3 → ∀ b, b < 3 → a ≠ b → (TX5 a).2.1 ≠ (TX5 b).2.1 := by decide +kernel
theorem tyX5_ok : ∀ k, k < 3 → parseFieldDescriptor (TX5 k).2.2.1 = some (tyX5 k) := by decide +kernel
abbrev cX5_init : ByteArray := prog_7_method_1_code
def yX5_init : MethodName := ⟨RX5, "<init>", "()V"⟩
abbrev cX5_numberOf : ByteArray := prog_7_method_2_code
def yX5_numberOf : MethodName := ⟨RX5, "numberOf", "(II)I"⟩
abbrev cX5_parse : ByteArray := prog_7_method_3_code
def yX5_parse : MethodName := ⟨RX5, "parse", "(LLevelEquations$Tape;)Z"⟩
abbrev cX5_parseCommand : ByteArray := prog_7_method_4_code
def yX5_parseCommand : MethodName := ⟨RX5, "parseCommand", "(LLevelEquations$Tape;)Z"⟩
abbrev cX5_commandAt : ByteArray := prog_7_method_5_code
def yX5_commandAt : MethodName := ⟨RX5, "commandAt", "(LLevelEquations$Tape;I)I"⟩
abbrev cX5_wordOf : ByteArray := prog_7_method_6_code
def yX5_wordOf : MethodName := ⟨RX5, "wordOf", "(I)Ljava/lang/String;"⟩
abbrev cX5_numbersAfter : ByteArray := prog_7_method_7_code
def yX5_numbersAfter : MethodName := ⟨RX5, "numbersAfter", "(I)I"⟩
def RX6 : String := "LevelEquations$Series"
def TX6 : u_T := fun k => match k with
  | 0 => ("LevelEquations$Series", "coefficients", "[I", true)
  | 1 => ("LevelEquations$Series", "start", "I", false)
  | _ => ("LevelEquations$Series", "length", "I", false)
def tyX6 : Nat → FieldType := fun k => match k with
  | 0 => .array .int
  | 1 => .int
  | _ => .int
theorem nmX6 : ∀ a, a < 3 → ∀ b, b < 3 → a ≠ b → (TX6 a).2.1 ≠ (TX6 b).2.1 := by decide +kernel
theorem tyX6_ok : ∀ k, k < 3 → parseFieldDescriptor (TX6 k).2.2.1 = some (tyX6 k) := by decide +kernel
abbrev cX6_init : ByteArray := prog_8_method_1_code
def yX6_init : MethodName := ⟨RX6, "<init>", "()V"⟩
abbrev cX6_become : ByteArray := prog_8_method_2_code
def yX6_become : MethodName := ⟨RX6, "become", "(II[I)V"⟩
abbrev cX6_copyFrom : ByteArray := prog_8_method_3_code
def yX6_copyFrom : MethodName := ⟨RX6, "copyFrom", "(LLevelEquations$Series;)V"⟩
abbrev cX6_isMissing : ByteArray := prog_8_method_4_code
def yX6_isMissing : MethodName := ⟨RX6, "isMissing", "()Z"⟩
abbrev cX6_last : ByteArray := prog_8_method_5_code
def yX6_last : MethodName := ⟨RX6, "last", "()I"⟩
abbrev cX6_valueOf : ByteArray := prog_8_method_6_code
def yX6_valueOf : MethodName := ⟨RX6, "valueOf", "(I)I"⟩
abbrev cX6_firstNonzero : ByteArray := prog_8_method_7_code
def yX6_firstNonzero : MethodName := ⟨RX6, "firstNonzero", "()I"⟩
def RX7 : String := "LevelEquations$SeriesMath"
def TX7 : u_T := fun k => match k with
  | 0 => ("LevelEquations$SeriesMath", "result", "[I", true)
  | 1 => ("LevelEquations$SeriesMath", "other", "[I", true)
  | 2 => ("LevelEquations$SeriesMath", "numerator", "[I", true)
  | _ => ("LevelEquations$SeriesMath", "denominator", "[I", true)
def tyX7 : Nat → FieldType := fun k => match k with
  | 0 => .array .int
  | 1 => .array .int
  | 2 => .array .int
  | _ => .array .int
theorem nmX7 : ∀ a, a < 4 → ∀ b, b < 4 → a ≠ b → (TX7 a).2.1 ≠ (TX7 b).2.1 := by decide +kernel
theorem tyX7_ok : ∀ k, k < 4 → parseFieldDescriptor (TX7 k).2.2.1 = some (tyX7 k) := by decide +kernel
abbrev cX7_init : ByteArray := prog_9_method_1_code
def yX7_init : MethodName := ⟨RX7, "<init>", "()V"⟩
abbrev cX7_reduce : ByteArray := prog_9_method_2_code
def yX7_reduce : MethodName := ⟨RX7, "reduce", "([ILLevelEquations$Series;III)V"⟩
abbrev cX7_add : ByteArray := prog_9_method_3_code
def yX7_add : MethodName := ⟨RX7, "add", "(LLevelEquations$Series;LLevelEquations$Series;LLevelEquations$Series;I)V"⟩
abbrev cX7_makeProduct : ByteArray := prog_9_method_4_code
def yX7_makeProduct : MethodName := ⟨RX7, "makeProduct", "(LLevelEquations$Series;LLevelEquations$Series;LLevelEquations$Series;I)V"⟩
abbrev cX7_widen : ByteArray := prog_9_method_5_code
def yX7_widen : MethodName := ⟨RX7, "widen", "(LLevelEquations$Series;ILLevelEquations$Series;)V"⟩
abbrev cX7_makeReciprocal : ByteArray := prog_9_method_6_code
def yX7_makeReciprocal : MethodName := ⟨RX7, "makeReciprocal", "(LLevelEquations$Series;LLevelEquations$Series;I)V"⟩
abbrev cX7_makePower : ByteArray := prog_9_method_7_code
def yX7_makePower : MethodName := ⟨RX7, "makePower", "(LLevelEquations$Series;ILLevelEquations$Series;I)V"⟩
abbrev cX7_makeInvariant : ByteArray := prog_9_method_8_code
def yX7_makeInvariant : MethodName := ⟨RX7, "makeInvariant", "(LLevelEquations$Series;II)V"⟩
abbrev cX7_fillEisenstein : ByteArray := prog_9_method_9_code
def yX7_fillEisenstein : MethodName := ⟨RX7, "fillEisenstein", "(II)V"⟩
abbrev cX7_fillEulerProduct : ByteArray := prog_9_method_10_code
def yX7_fillEulerProduct : MethodName := ⟨RX7, "fillEulerProduct", "(II)V"⟩
abbrev cX7_invert : ByteArray := prog_9_method_11_code
def yX7_invert : MethodName := ⟨RX7, "invert", "([I[III)V"⟩
def RX8 : String := "LevelEquations$Tape"
def TX8 : u_T := fun k => match k with
  | 0 => ("LevelEquations$Tape", "letters", "[I", true)
  | 1 => ("LevelEquations$Tape", "length", "I", false)
  | 2 => ("LevelEquations$Tape", "position", "I", false)
  | _ => ("LevelEquations$Tape", "number", "I", false)
def tyX8 : Nat → FieldType := fun k => match k with
  | 0 => .array .int
  | 1 => .int
  | 2 => .int
  | _ => .int
theorem nmX8 : ∀ a, a < 4 → ∀ b, b < 4 → a ≠ b → (TX8 a).2.1 ≠ (TX8 b).2.1 := by decide +kernel
theorem tyX8_ok : ∀ k, k < 4 → parseFieldDescriptor (TX8 k).2.2.1 = some (tyX8 k) := by decide +kernel
abbrev cX8_init : ByteArray := prog_10_method_1_code
def yX8_init : MethodName := ⟨RX8, "<init>", "()V"⟩
abbrev cX8_append : ByteArray := prog_10_method_2_code
def yX8_append : MethodName := ⟨RX8, "append", "(I)V"⟩
abbrev cX8_clear : ByteArray := prog_10_method_3_code
def yX8_clear : MethodName := ⟨RX8, "clear", "()V"⟩
abbrev cX8_rewind : ByteArray := prog_10_method_4_code
def yX8_rewind : MethodName := ⟨RX8, "rewind", "()V"⟩
abbrev cX8_isAtEnd : ByteArray := prog_10_method_5_code
def yX8_isAtEnd : MethodName := ⟨RX8, "isAtEnd", "()Z"⟩
abbrev cX8_accept : ByteArray := prog_10_method_6_code
def yX8_accept : MethodName := ⟨RX8, "accept", "(I)Z"⟩
abbrev cX8_isAtDigit : ByteArray := prog_10_method_7_code
def yX8_isAtDigit : MethodName := ⟨RX8, "isAtDigit", "(II)Z"⟩
abbrev cX8_acceptNumber : ByteArray := prog_10_method_8_code
def yX8_acceptNumber : MethodName := ⟨RX8, "acceptNumber", "()Z"⟩
abbrev cX8_acceptSignedNumber : ByteArray := prog_10_method_9_code
def yX8_acceptSignedNumber : MethodName := ⟨RX8, "acceptSignedNumber", "()Z"⟩
abbrev cX8_acceptExponent : ByteArray := prog_10_method_10_code
def yX8_acceptExponent : MethodName := ⟨RX8, "acceptExponent", "()Z"⟩
abbrev cX8_wordEnd : ByteArray := prog_10_method_11_code
def yX8_wordEnd : MethodName := ⟨RX8, "wordEnd", "()I"⟩
abbrev cX8_hasWord : ByteArray := prog_10_method_12_code
def yX8_hasWord : MethodName := ⟨RX8, "hasWord", "(Ljava/lang/String;I)Z"⟩
def RX9 : String := "LevelEquations$Vanishing"
def TX9 : u_T := fun k => match k with
  | 0 => ("LevelEquations$Vanishing", "xPowers", "[[I", true)
  | 1 => ("LevelEquations$Vanishing", "yPowers", "[[I", true)
  | 2 => ("LevelEquations$Vanishing", "product", "[I", true)
  | 3 => ("LevelEquations$Vanishing", "total", "[I", true)
  | 4 => ("LevelEquations$Vanishing", "xStart", "I", false)
  | 5 => ("LevelEquations$Vanishing", "yStart", "I", false)
  | 6 => ("LevelEquations$Vanishing", "lowestStart", "I", false)
  | 7 => ("LevelEquations$Vanishing", "length", "I", false)
  | _ => ("LevelEquations$Vanishing", "modulus", "I", false)
def tyX9 : Nat → FieldType := fun k => match k with
  | 0 => .array (.array .int)
  | 1 => .array (.array .int)
  | 2 => .array .int
  | 3 => .array .int
  | 4 => .int
  | 5 => .int
  | 6 => .int
  | 7 => .int
  | _ => .int
theorem nmX9 : ∀ a, a < 9 → ∀ b, b < 9 → a ≠ b → (TX9 a).2.1 ≠ (TX9 b).2.1 := by decide +kernel
theorem tyX9_ok : ∀ k, k < 9 → parseFieldDescriptor (TX9 k).2.2.1 = some (tyX9 k) := by decide +kernel
abbrev cX9_init : ByteArray := prog_11_method_1_code
def yX9_init : MethodName := ⟨RX9, "<init>", "()V"⟩
abbrev cX9_prepare : ByteArray := prog_11_method_2_code
def yX9_prepare : MethodName := ⟨RX9, "prepare", "(LLevelEquations$Series;LLevelEquations$Series;II)V"⟩
abbrev cX9_fillPowers : ByteArray := prog_11_method_3_code
def yX9_fillPowers : MethodName := ⟨RX9, "fillPowers", "([I[[II)V"⟩
abbrev cX9_multiplyTerm : ByteArray := prog_11_method_4_code
def yX9_multiplyTerm : MethodName := ⟨RX9, "multiplyTerm", "(II)I"⟩
abbrev cX9_isZeroFor : ByteArray := prog_11_method_5_code
def yX9_isZeroFor : MethodName := ⟨RX9, "isZeroFor", "(LLevelEquations$Polynomial;)Z"⟩
abbrev cX9_addTerm : ByteArray := prog_11_method_6_code
def yX9_addTerm : MethodName := ⟨RX9, "addTerm", "(III)V"⟩
def RX10 : String := "LevelEquations"
def TX10 : u_T := fun k => match k with
  | 0 => ("LevelEquations", "now", "LLevelEquations$Contents;", true)
  | 1 => ("LevelEquations", "saved", "LLevelEquations$Contents;", true)
  | 2 => ("LevelEquations", "hasImage", "Z", false)
  | 3 => ("LevelEquations", "math", "LLevelEquations$SeriesMath;", true)
  | 4 => ("LevelEquations", "vanishing", "LLevelEquations$Vanishing;", true)
  | 5 => ("LevelEquations", "finder", "LLevelEquations$Finder;", true)
  | 6 => ("LevelEquations", "graph", "LLevelEquations$Graph;", true)
  | 7 => ("LevelEquations", "tape", "LLevelEquations$Tape;", true)
  | 8 => ("LevelEquations", "program", "LLevelEquations$Program;", true)
  | 9 => ("LevelEquations", "text", "LLevelEquations$PolynomialText;", true)
  | 10 => ("LevelEquations", "lists", "[[I", true)
  | _ => ("LevelEquations", "listLengths", "[I", true)
def tyX10 : Nat → FieldType := fun k => match k with
  | 0 => .object "LevelEquations$Contents"
  | 1 => .object "LevelEquations$Contents"
  | 2 => .boolean
  | 3 => .object "LevelEquations$SeriesMath"
  | 4 => .object "LevelEquations$Vanishing"
  | 5 => .object "LevelEquations$Finder"
  | 6 => .object "LevelEquations$Graph"
  | 7 => .object "LevelEquations$Tape"
  | 8 => .object "LevelEquations$Program"
  | 9 => .object "LevelEquations$PolynomialText"
  | 10 => .array (.array .int)
  | _ => .array .int
theorem nmX10 : ∀ a, a < 12 → ∀ b, b < 12 → a ≠ b → (TX10 a).2.1 ≠ (TX10 b).2.1 := by decide +kernel
theorem tyX10_ok : ∀ k, k < 12 → parseFieldDescriptor (TX10 k).2.2.1 = some (tyX10 k) := by decide +kernel
abbrev cX10_init : ByteArray := prog_1_method_1_code
def yX10_init : MethodName := ⟨RX10, "<init>", "()V"⟩
abbrev cX10_prime : ByteArray := prog_1_method_2_code
def yX10_prime : MethodName := ⟨RX10, "prime", "(I)I"⟩
abbrev cX10_j : ByteArray := prog_1_method_3_code
def yX10_j : MethodName := ⟨RX10, "j", "(II)I"⟩
abbrev cX10_tell : ByteArray := prog_1_method_4_code
def yX10_tell : MethodName := ⟨RX10, "tell", "(III)I"⟩
abbrev cX10_sum : ByteArray := prog_1_method_5_code
def yX10_sum : MethodName := ⟨RX10, "sum", "(III)I"⟩
abbrev cX10_times : ByteArray := prog_1_method_6_code
def yX10_times : MethodName := ⟨RX10, "times", "(III)I"⟩
abbrev cX10_stretch : ByteArray := prog_1_method_7_code
def yX10_stretch : MethodName := ⟨RX10, "stretch", "(III)I"⟩
abbrev cX10_over : ByteArray := prog_1_method_8_code
def yX10_over : MethodName := ⟨RX10, "over", "(II)I"⟩
abbrev cX10_power : ByteArray := prog_1_method_9_code
def yX10_power : MethodName := ⟨RX10, "power", "(III)I"⟩
abbrev cX10_of : ByteArray := prog_1_method_10_code
def yX10_of : MethodName := ⟨RX10, "of", "(II)I"⟩
abbrev cX10_coefficient : ByteArray := prog_1_method_11_code
def yX10_coefficient : MethodName := ⟨RX10, "coefficient", "(II)I"⟩
abbrev cX10_find : ByteArray := prog_1_method_12_code
def yX10_find : MethodName := ⟨RX10, "find", "(IIII)I"⟩
abbrev cX10_equation : ByteArray := prog_1_method_13_code
def yX10_equation : MethodName := ⟨RX10, "equation", "(I)I"⟩
abbrev cX10_term : ByteArray := prog_1_method_14_code
def yX10_term : MethodName := ⟨RX10, "term", "(II)I"⟩
abbrev cX10_at : ByteArray := prog_1_method_15_code
def yX10_at : MethodName := ⟨RX10, "at", "(II)I"⟩
abbrev cX10_vanishes : ByteArray := prog_1_method_16_code
def yX10_vanishes : MethodName := ⟨RX10, "vanishes", "(II)I"⟩
abbrev cX10_neighbour : ByteArray := prog_1_method_17_code
def yX10_neighbour : MethodName := ⟨RX10, "neighbour", "(II)I"⟩
abbrev cX10_far : ByteArray := prog_1_method_18_code
def yX10_far : MethodName := ⟨RX10, "far", "(II)I"⟩
abbrev cX10_reach : ByteArray := prog_1_method_19_code
def yX10_reach : MethodName := ⟨RX10, "reach", "(I)I"⟩
abbrev cX10_values : ByteArray := prog_1_method_20_code
def yX10_values : MethodName := ⟨RX10, "values", "(I)I"⟩
abbrev cX10_keep : ByteArray := prog_1_method_21_code
def yX10_keep : MethodName := ⟨RX10, "keep", "(I)I"⟩
abbrev cX10_drop : ByteArray := prog_1_method_22_code
def yX10_drop : MethodName := ⟨RX10, "drop", "(I)I"⟩
abbrev cX10_joined : ByteArray := prog_1_method_23_code
def yX10_joined : MethodName := ⟨RX10, "joined", "(II)J"⟩
abbrev cX10_whole : ByteArray := prog_1_method_24_code
def yX10_whole : MethodName := ⟨RX10, "whole", "()J"⟩
abbrev cX10_feed : ByteArray := prog_1_method_25_code
def yX10_feed : MethodName := ⟨RX10, "feed", "(I)I"⟩
abbrev cX10_deeds : ByteArray := prog_1_method_26_code
def yX10_deeds : MethodName := ⟨RX10, "deeds", "()I"⟩
abbrev cX10_carryOut : ByteArray := prog_1_method_27_code
def yX10_carryOut : MethodName := ⟨RX10, "carryOut", "(I)I"⟩
abbrev cX10_read : ByteArray := prog_1_method_28_code
def yX10_read : MethodName := ⟨RX10, "read", "()I"⟩
abbrev cX10_write : ByteArray := prog_1_method_29_code
def yX10_write : MethodName := ⟨RX10, "write", "()I"⟩
abbrev cX10_paper : ByteArray := prog_1_method_30_code
def yX10_paper : MethodName := ⟨RX10, "paper", "(I)I"⟩
abbrev cX10_list : ByteArray := prog_1_method_31_code
def yX10_list : MethodName := ⟨RX10, "list", "(II)I"⟩
abbrev cX10_put : ByteArray := prog_1_method_32_code
def yX10_put : MethodName := ⟨RX10, "put", "(III)I"⟩
abbrev cX10_get : ByteArray := prog_1_method_33_code
def yX10_get : MethodName := ⟨RX10, "get", "(II)J"⟩
abbrev cX10_lay : ByteArray := prog_1_method_34_code
def yX10_lay : MethodName := ⟨RX10, "lay", "(II)I"⟩
abbrev cX10_judge : ByteArray := prog_1_method_35_code
def yX10_judge : MethodName := ⟨RX10, "judge", "(II)I"⟩
abbrev cX10_image : ByteArray := prog_1_method_36_code
def yX10_image : MethodName := ⟨RX10, "image", "()I"⟩
abbrev cX10_back : ByteArray := prog_1_method_37_code
def yX10_back : MethodName := ⟨RX10, "back", "()I"⟩
abbrev cX10_count : ByteArray := prog_1_method_38_code
def yX10_count : MethodName := ⟨RX10, "count", "(I)I"⟩
abbrev cX10_isSeries : ByteArray := prog_1_method_39_code
def yX10_isSeries : MethodName := ⟨RX10, "isSeries", "(I)Z"⟩
abbrev cX10_isList : ByteArray := prog_1_method_40_code
def yX10_isList : MethodName := ⟨RX10, "isList", "(I)Z"⟩
abbrev cX10_isPlace : ByteArray := prog_1_method_41_code
def yX10_isPlace : MethodName := ⟨RX10, "isPlace", "(I)Z"⟩
abbrev cX10_isTooFar : ByteArray := prog_1_method_42_code
def yX10_isTooFar : MethodName := ⟨RX10, "isTooFar", "(I)Z"⟩
abbrev cX10_isValue : ByteArray := prog_1_method_43_code
def yX10_isValue : MethodName := ⟨RX10, "isValue", "(I)Z"⟩
abbrev cX10_isModulus : ByteArray := prog_1_method_44_code
def yX10_isModulus : MethodName := ⟨RX10, "isModulus", "(I)Z"⟩
abbrev cX10_inverse : ByteArray := prog_1_method_45_code
def yX10_inverse : MethodName := ⟨RX10, "inverse", "(II)I"⟩
abbrev cX10_multiply : ByteArray := prog_1_method_46_code
def yX10_multiply : MethodName := ⟨RX10, "multiply", "([I[I[III)V"⟩
def RX11 : String := "LevelEquationsModel"
def TX11 : u_T := fun k => match k with
  | 0 => ("LevelEquationsModel", "p", "I", false)
  | 1 => ("LevelEquationsModel", "starts", "[I", true)
  | 2 => ("LevelEquationsModel", "lengths", "[I", true)
  | 3 => ("LevelEquationsModel", "rows", "[I", true)
  | 4 => ("LevelEquationsModel", "degree", "I", false)
  | 5 => ("LevelEquationsModel", "equation", "[I", true)
  | 6 => ("LevelEquationsModel", "kept", "[I", true)
  | 7 => ("LevelEquationsModel", "madeStart", "I", false)
  | 8 => ("LevelEquationsModel", "madeLength", "I", false)
  | 9 => ("LevelEquationsModel", "made", "[I", true)
  | 10 => ("LevelEquationsModel", "one", "[I", true)
  | 11 => ("LevelEquationsModel", "other", "[I", true)
  | 12 => ("LevelEquationsModel", "firstPowers", "[I", true)
  | 13 => ("LevelEquationsModel", "secondPowers", "[I", true)
  | 14 => ("LevelEquationsModel", "known", "I", false)
  | 15 => ("LevelEquationsModel", "leastStart", "I", false)
  | 16 => ("LevelEquationsModel", "firstStart", "I", false)
  | 17 => ("LevelEquationsModel", "secondStart", "I", false)
  | 18 => ("LevelEquationsModel", "column", "[I", true)
  | 19 => ("LevelEquationsModel", "bases", "[I", true)
  | 20 => ("LevelEquationsModel", "baseTerms", "[I", true)
  | 21 => ("LevelEquationsModel", "pivots", "[I", true)
  | 22 => ("LevelEquationsModel", "baseMany", "I", false)
  | 23 => ("LevelEquationsModel", "terms", "[I", true)
  | 24 => ("LevelEquationsModel", "free", "I", false)
  | 25 => ("LevelEquationsModel", "found", "[I", true)
  | 26 => ("LevelEquationsModel", "put", "[I", true)
  | 27 => ("LevelEquationsModel", "neighbours", "[I", true)
  | 28 => ("LevelEquationsModel", "neighbourMany", "I", false)
  | 29 => ("LevelEquationsModel", "away", "[I", true)
  | 30 => ("LevelEquationsModel", "tape", "[I", true)
  | 31 => ("LevelEquationsModel", "taped", "I", false)
  | 32 => ("LevelEquationsModel", "at", "I", false)
  | 33 => ("LevelEquationsModel", "words", "[I", true)
  | 34 => ("LevelEquationsModel", "asks", "[I", true)
  | 35 => ("LevelEquationsModel", "told", "[I", true)
  | 36 => ("LevelEquationsModel", "read", "[I", true)
  | 37 => ("LevelEquationsModel", "greatest", "I", false)
  | 38 => ("LevelEquationsModel", "paper", "[I", true)
  | 39 => ("LevelEquationsModel", "papered", "I", false)
  | 40 => ("LevelEquationsModel", "sizes", "[I", true)
  | 41 => ("LevelEquationsModel", "items", "[I", true)
  | 42 => ("LevelEquationsModel", "hasImage", "Z", false)
  | 43 => ("LevelEquationsModel", "imageP", "I", false)
  | 44 => ("LevelEquationsModel", "imageDegree", "I", false)
  | 45 => ("LevelEquationsModel", "imageStarts", "[I", true)
  | 46 => ("LevelEquationsModel", "imageLengths", "[I", true)
  | 47 => ("LevelEquationsModel", "imageRows", "[I", true)
  | 48 => ("LevelEquationsModel", "imageEquation", "[I", true)
  | _ => ("LevelEquationsModel", "imageKept", "[I", true)
def tyX11 : Nat → FieldType := fun k => match k with
  | 0 => .int
  | 1 => .array .int
  | 2 => .array .int
  | 3 => .array .int
  | 4 => .int
  | 5 => .array .int
  | 6 => .array .int
  | 7 => .int
  | 8 => .int
  | 9 => .array .int
  | 10 => .array .int
  | 11 => .array .int
  | 12 => .array .int
  | 13 => .array .int
  | 14 => .int
  | 15 => .int
  | 16 => .int
  | 17 => .int
  | 18 => .array .int
  | 19 => .array .int
  | 20 => .array .int
  | 21 => .array .int
  | 22 => .int
  | 23 => .array .int
  | 24 => .int
  | 25 => .array .int
  | 26 => .array .int
  | 27 => .array .int
  | 28 => .int
  | 29 => .array .int
  | 30 => .array .int
  | 31 => .int
  | 32 => .int
  | 33 => .array .int
  | 34 => .array .int
  | 35 => .array .int
  | 36 => .array .int
  | 37 => .int
  | 38 => .array .int
  | 39 => .int
  | 40 => .array .int
  | 41 => .array .int
  | 42 => .boolean
  | 43 => .int
  | 44 => .int
  | 45 => .array .int
  | 46 => .array .int
  | 47 => .array .int
  | 48 => .array .int
  | _ => .array .int
theorem nmX11 : ∀ a, a < 50 → ∀ b, b < 50 → a ≠ b → (TX11 a).2.1 ≠ (TX11 b).2.1 := by decide +kernel
theorem tyX11_ok : ∀ k, k < 50 → parseFieldDescriptor (TX11 k).2.2.1 = some (tyX11 k) := by decide +kernel
abbrev cX11_init : ByteArray := prog_13_method_1_code
def yX11_init : MethodName := ⟨RX11, "<init>", "()V"⟩
abbrev cX11_in : ByteArray := prog_13_method_2_code
def yX11_in : MethodName := ⟨RX11, "in", "(JJJ)Z"⟩
abbrev cX11_isSeries : ByteArray := prog_13_method_3_code
def yX11_isSeries : MethodName := ⟨RX11, "isSeries", "(I)Z"⟩
abbrev cX11_isThere : ByteArray := prog_13_method_4_code
def yX11_isThere : MethodName := ⟨RX11, "isThere", "(I)Z"⟩
abbrev cX11_isStart : ByteArray := prog_13_method_5_code
def yX11_isStart : MethodName := ⟨RX11, "isStart", "(I)Z"⟩
abbrev cX11_whole : ByteArray := prog_13_method_6_code
def yX11_whole : MethodName := ⟨RX11, "whole", "(J)I"⟩
abbrev cX11_inverse : ByteArray := prog_13_method_7_code
def yX11_inverse : MethodName := ⟨RX11, "inverse", "(I)I"⟩
abbrev cX11_isPrime : ByteArray := prog_13_method_8_code
def yX11_isPrime : MethodName := ⟨RX11, "isPrime", "(I)Z"⟩
abbrev cX11_prime : ByteArray := prog_13_method_9_code
def yX11_prime : MethodName := ⟨RX11, "prime", "(I)I"⟩
abbrev cX11_becomes : ByteArray := prog_13_method_10_code
def yX11_becomes : MethodName := ⟨RX11, "becomes", "(I)I"⟩
abbrev cX11_multiplies : ByteArray := prog_13_method_11_code
def yX11_multiplies : MethodName := ⟨RX11, "multiplies", "([I[II)V"⟩
abbrev cX11_divides : ByteArray := prog_13_method_12_code
def yX11_divides : MethodName := ⟨RX11, "divides", "([I[II)V"⟩
abbrev cX11_lays : ByteArray := prog_13_method_13_code
def yX11_lays : MethodName := ⟨RX11, "lays", "([II[I)V"⟩
abbrev cX11_j : ByteArray := prog_13_method_14_code
def yX11_j : MethodName := ⟨RX11, "j", "(II)I"⟩
abbrev cX11_numberOf : ByteArray := prog_13_method_15_code
def yX11_numberOf : MethodName := ⟨RX11, "numberOf", "(II)I"⟩
abbrev cX11_sum : ByteArray := prog_13_method_16_code
def yX11_sum : MethodName := ⟨RX11, "sum", "(III)I"⟩
abbrev cX11_times : ByteArray := prog_13_method_17_code
def yX11_times : MethodName := ⟨RX11, "times", "(III)I"⟩
abbrev cX11_stretch : ByteArray := prog_13_method_18_code
def yX11_stretch : MethodName := ⟨RX11, "stretch", "(III)I"⟩
abbrev cX11_over : ByteArray := prog_13_method_19_code
def yX11_over : MethodName := ⟨RX11, "over", "(II)I"⟩
abbrev cX11_powers : ByteArray := prog_13_method_20_code
def yX11_powers : MethodName := ⟨RX11, "powers", "(III)V"⟩
abbrev cX11_power : ByteArray := prog_13_method_21_code
def yX11_power : MethodName := ⟨RX11, "power", "(III)I"⟩
abbrev cX11_of : ByteArray := prog_13_method_22_code
def yX11_of : MethodName := ⟨RX11, "of", "(II)I"⟩
abbrev cX11_coefficient : ByteArray := prog_13_method_23_code
def yX11_coefficient : MethodName := ⟨RX11, "coefficient", "(II)I"⟩
abbrev cX11_tellsPowers : ByteArray := prog_13_method_24_code
def yX11_tellsPowers : MethodName := ⟨RX11, "tellsPowers", "(III)V"⟩
abbrev cX11_adds : ByteArray := prog_13_method_25_code
def yX11_adds : MethodName := ⟨RX11, "adds", "(III)V"⟩
abbrev cX11_emptiesColumn : ByteArray := prog_13_method_26_code
def yX11_emptiesColumn : MethodName := ⟨RX11, "emptiesColumn", "()V"⟩
abbrev cX11_lessens : ByteArray := prog_13_method_27_code
def yX11_lessens : MethodName := ⟨RX11, "lessens", "(I)V"⟩
abbrev cX11_firstOther : ByteArray := prog_13_method_28_code
def yX11_firstOther : MethodName := ⟨RX11, "firstOther", "()I"⟩
abbrev cX11_comes : ByteArray := prog_13_method_29_code
def yX11_comes : MethodName := ⟨RX11, "comes", "()Z"⟩
abbrev cX11_place : ByteArray := prog_13_method_30_code
def yX11_place : MethodName := ⟨RX11, "place", "(III)I"⟩
abbrev cX11_tries : ByteArray := prog_13_method_31_code
def yX11_tries : MethodName := ⟨RX11, "tries", "(IIIZ)V"⟩
abbrev cX11_find : ByteArray := prog_13_method_32_code
def yX11_find : MethodName := ⟨RX11, "find", "(IIII)I"⟩
abbrev cX11_termAt : ByteArray := prog_13_method_33_code
def yX11_termAt : MethodName := ⟨RX11, "termAt", "(II)I"⟩
abbrev cX11_equation : ByteArray := prog_13_method_34_code
def yX11_equation : MethodName := ⟨RX11, "equation", "(I)I"⟩
abbrev cX11_term : ByteArray := prog_13_method_35_code
def yX11_term : MethodName := ⟨RX11, "term", "(II)I"⟩
abbrev cX11_isValue : ByteArray := prog_13_method_36_code
def yX11_isValue : MethodName := ⟨RX11, "isValue", "(I)Z"⟩
abbrev cX11_puts : ByteArray := prog_13_method_37_code
def yX11_puts : MethodName := ⟨RX11, "puts", "(I)Z"⟩
abbrev cX11_worth : ByteArray := prog_13_method_38_code
def yX11_worth : MethodName := ⟨RX11, "worth", "(I)I"⟩
abbrev cX11_at : ByteArray := prog_13_method_39_code
def yX11_at : MethodName := ⟨RX11, "at", "(II)I"⟩
abbrev cX11_vanishes : ByteArray := prog_13_method_40_code
def yX11_vanishes : MethodName := ⟨RX11, "vanishes", "(II)I"⟩
abbrev cX11_oftenOf : ByteArray := prog_13_method_41_code
def yX11_oftenOf : MethodName := ⟨RX11, "oftenOf", "(I)I"⟩
abbrev cX11_tellsNeighbours : ByteArray := prog_13_method_42_code
def yX11_tellsNeighbours : MethodName := ⟨RX11, "tellsNeighbours", "(I)Z"⟩
abbrev cX11_neighbour : ByteArray := prog_13_method_43_code
def yX11_neighbour : MethodName := ⟨RX11, "neighbour", "(II)I"⟩
abbrev cX11_tellsAway : ByteArray := prog_13_method_44_code
def yX11_tellsAway : MethodName := ⟨RX11, "tellsAway", "(I)V"⟩
abbrev cX11_far : ByteArray := prog_13_method_45_code
def yX11_far : MethodName := ⟨RX11, "far", "(II)I"⟩
abbrev cX11_reach : ByteArray := prog_13_method_46_code
def yX11_reach : MethodName := ⟨RX11, "reach", "(I)I"⟩
abbrev cX11_values : ByteArray := prog_13_method_47_code
def yX11_values : MethodName := ⟨RX11, "values", "(I)I"⟩
abbrev cX11_isKept : ByteArray := prog_13_method_48_code
def yX11_isKept : MethodName := ⟨RX11, "isKept", "(I)Z"⟩
abbrev cX11_keptPrime : ByteArray := prog_13_method_49_code
def yX11_keptPrime : MethodName := ⟨RX11, "keptPrime", "(I)I"⟩
abbrev cX11_keptMany : ByteArray := prog_13_method_50_code
def yX11_keptMany : MethodName := ⟨RX11, "keptMany", "()I"⟩
abbrev cX11_keep : ByteArray := prog_13_method_51_code
def yX11_keep : MethodName := ⟨RX11, "keep", "(I)I"⟩
abbrev cX11_drop : ByteArray := prog_13_method_52_code
def yX11_drop : MethodName := ⟨RX11, "drop", "(I)I"⟩
abbrev cX11_joinedDegree : ByteArray := prog_13_method_53_code
def yX11_joinedDegree : MethodName := ⟨RX11, "joinedDegree", "()I"⟩
abbrev cX11_whole_ : ByteArray := prog_13_method_54_code
def yX11_whole_ : MethodName := ⟨RX11, "whole", "()J"⟩
abbrev cX11_joined : ByteArray := prog_13_method_55_code
def yX11_joined : MethodName := ⟨RX11, "joined", "(II)J"⟩
abbrev cX11_feed : ByteArray := prog_13_method_56_code
def yX11_feed : MethodName := ⟨RX11, "feed", "(I)I"⟩
abbrev cX11_here : ByteArray := prog_13_method_57_code
def yX11_here : MethodName := ⟨RX11, "here", "()I"⟩
abbrev cX11_isFigure : ByteArray := prog_13_method_58_code
def yX11_isFigure : MethodName := ⟨RX11, "isFigure", "()Z"⟩
abbrev cX11_isLetter : ByteArray := prog_13_method_59_code
def yX11_isLetter : MethodName := ⟨RX11, "isLetter", "()Z"⟩
abbrev cX11_wordFrom : ByteArray := prog_13_method_60_code
def yX11_wordFrom : MethodName := ⟨RX11, "wordFrom", "(I)I"⟩
abbrev cX11_readsDeed : ByteArray := prog_13_method_61_code
def yX11_readsDeed : MethodName := ⟨RX11, "readsDeed", "(I)Z"⟩
abbrev cX11_does : ByteArray := prog_13_method_62_code
def yX11_does : MethodName := ⟨RX11, "does", "(I)I"⟩
abbrev cX11_deeds : ByteArray := prog_13_method_63_code
def yX11_deeds : MethodName := ⟨RX11, "deeds", "()I"⟩
abbrev cX11_readsPower : ByteArray := prog_13_method_64_code
def yX11_readsPower : MethodName := ⟨RX11, "readsPower", "(I)I"⟩
abbrev cX11_readsTerm : ByteArray := prog_13_method_65_code
def yX11_readsTerm : MethodName := ⟨RX11, "readsTerm", "()Z"⟩
abbrev cX11_read : ByteArray := prog_13_method_66_code
def yX11_read : MethodName := ⟨RX11, "read", "()I"⟩
abbrev cX11_writes : ByteArray := prog_13_method_67_code
def yX11_writes : MethodName := ⟨RX11, "writes", "(I)V"⟩
abbrev cX11_writesNumber : ByteArray := prog_13_method_68_code
def yX11_writesNumber : MethodName := ⟨RX11, "writesNumber", "(I)V"⟩
abbrev cX11_writesPower : ByteArray := prog_13_method_69_code
def yX11_writesPower : MethodName := ⟨RX11, "writesPower", "(II)V"⟩
abbrev cX11_write : ByteArray := prog_13_method_70_code
def yX11_write : MethodName := ⟨RX11, "write", "()I"⟩
abbrev cX11_paper : ByteArray := prog_13_method_71_code
def yX11_paper : MethodName := ⟨RX11, "paper", "(I)I"⟩
abbrev cX11_isList : ByteArray := prog_13_method_72_code
def yX11_isList : MethodName := ⟨RX11, "isList", "(I)Z"⟩
abbrev cX11_tell : ByteArray := prog_13_method_73_code
def yX11_tell : MethodName := ⟨RX11, "tell", "(III)I"⟩
abbrev cX11_list : ByteArray := prog_13_method_74_code
def yX11_list : MethodName := ⟨RX11, "list", "(II)I"⟩
abbrev cX11_put : ByteArray := prog_13_method_75_code
def yX11_put : MethodName := ⟨RX11, "put", "(III)I"⟩
abbrev cX11_get : ByteArray := prog_13_method_76_code
def yX11_get : MethodName := ⟨RX11, "get", "(II)J"⟩
abbrev cX11_lay : ByteArray := prog_13_method_77_code
def yX11_lay : MethodName := ⟨RX11, "lay", "(II)I"⟩
abbrev cX11_judge : ByteArray := prog_13_method_78_code
def yX11_judge : MethodName := ⟨RX11, "judge", "(II)I"⟩
abbrev cX11_copies : ByteArray := prog_13_method_79_code
def yX11_copies : MethodName := ⟨RX11, "copies", "([I[I)V"⟩
abbrev cX11_seriesMany : ByteArray := prog_13_method_80_code
def yX11_seriesMany : MethodName := ⟨RX11, "seriesMany", "()I"⟩
abbrev cX11_image : ByteArray := prog_13_method_81_code
def yX11_image : MethodName := ⟨RX11, "image", "()I"⟩
abbrev cX11_back : ByteArray := prog_13_method_82_code
def yX11_back : MethodName := ⟨RX11, "back", "()I"⟩
abbrev cX11_count : ByteArray := prog_13_method_83_code
def yX11_count : MethodName := ⟨RX11, "count", "(I)I"⟩
def RJx145de : String := "java/io/Serializable"
def RJx9f9b0 : String := "java/lang/CharSequence"
def RJxb160c : String := "java/lang/Comparable"
def RJ9 : String := "java/lang/Math"
abbrev cJ9_floorMod_7cf53 : ByteArray := prog_14_method_50_code
def yJ9_floorMod_7cf53 : MethodName := ⟨RJ9, "floorMod", "(II)I"⟩
abbrev cJ9_max_7cf53 : ByteArray := prog_14_method_65_code
def yJ9_max_7cf53 : MethodName := ⟨RJ9, "max", "(II)I"⟩
abbrev cJ9_min_7cf53 : ByteArray := prog_14_method_69_code
def yJ9_min_7cf53 : MethodName := ⟨RJ9, "min", "(II)I"⟩
def RJ0 : String := "java/lang/String"
abbrev cJ0_length_8abf5 : ByteArray := prog_15_method_54_code
def yJ0_length_8abf5 : MethodName := ⟨RJ0, "length", "()I"⟩
abbrev cJ0_charAt_5068e : ByteArray := prog_15_method_56_code
def yJ0_charAt_5068e : MethodName := ⟨RJ0, "charAt", "(I)C"⟩
abbrev cJ0_coder_7d493 : ByteArray := prog_15_method_152_code
def yJ0_coder_7d493 : MethodName := ⟨RJ0, "coder", "()B"⟩
abbrev cJ0_isLatin1_aae02 : ByteArray := prog_15_method_154_code
def yJ0_isLatin1_aae02 : MethodName := ⟨RJ0, "isLatin1", "()Z"⟩
abbrev cJ0_checkIndex_df160 : ByteArray := prog_15_method_155_code
def yJ0_checkIndex_df160 : MethodName := ⟨RJ0, "checkIndex", "(II)V"⟩
def RJ1 : String := "java/lang/StringLatin1"
abbrev cJ1_charAt_3b067 : ByteArray := prog_16_method_2_code
def yJ1_charAt_3b067 : MethodName := ⟨RJ1, "charAt", "([BI)C"⟩
def RJ2 : String := "java/lang/StringUTF16"
abbrev cJ2_getChar_3b067 : ByteArray := prog_17_method_5_code
def yJ2_getChar_3b067 : MethodName := ⟨RJ2, "getChar", "([BI)C"⟩
abbrev cJ2_length_9d52b : ByteArray := prog_17_method_6_code
def yJ2_length_9d52b : MethodName := ⟨RJ2, "length", "([B)I"⟩
abbrev cJ2_charAt_3b067 : ByteArray := prog_17_method_83_code
def yJ2_charAt_3b067 : MethodName := ⟨RJ2, "charAt", "([BI)C"⟩
abbrev cJ2_checkIndex_2214a : ByteArray := prog_17_method_91_code
def yJ2_checkIndex_2214a : MethodName := ⟨RJ2, "checkIndex", "(I[B)V"⟩
def RJ10 : String := "java/lang/System"
def RJxfd54e : String := "java/lang/constant/Constable"
def RJx3cf43 : String := "java/lang/constant/ConstantDesc"
def RJ7 : String := "java/util/Arrays"
abbrev cJ7_fill_53178 : ByteArray := prog_19_method_103_code
def yJ7_fill_53178 : MethodName := ⟨RJ7, "fill", "([II)V"⟩
def RJ3 : String := "jdk/internal/util/Preconditions"
abbrev cJ3_checkIndex_8e157 : ByteArray := prog_20_method_11_code
def yJ3_checkIndex_8e157 : MethodName := ⟨RJ3, "checkIndex", "(IILjava/util/function/BiFunction;)I"⟩
abbrev cL_law : ByteArray := code
def vwCl : List vw_C := [(RX0, TX0, 5), (RX1, TX1, 10), (RX2, TX2, 5), (RX3, TX3, 2), (RX4, TX4, 3), (RX5, TX5, 3), (RX6, TX6, 3), (RX7, TX7, 4), (RX8, TX8, 4), (RX9, TX9, 9), (RX10, TX10, 12), (RX11, TX11, 50)]
end
section
/-! THE PURE WORLD: cells are numbered from 0 on; the cell i lies at the address base + i. A world: the cells' kinds and sizes, the references that they hold, the whole numbers that they hold. -/
def zJ (z : Int) : Int32 := Int32.ofInt z
def zL (z : Int) : Int64 := Int64.ofInt z
abbrev zWS : Type := List (Nat × Nat) × (Nat → Nat → Option Nat) × (Nat → Nat → Int)
/-- launch, classes' numbers and slots, base, array classes by kind, addresses outside the world -/
abbrev zG : Type := Launch × va_G × Nat × (Nat → ClassId) × (Nat → Nat)
def zgl (g : zG) : Launch := g.1
def zgD (g : zG) : va_G := g.2.1
def zgB (g : zG) : Nat := g.2.2.1
def zgc (g : zG) : Nat → ClassId := g.2.2.2.1
def zgx (g : zG) : Nat → Nat := g.2.2.2.2
def zad (g : zG) (i : Nat) : Nat := if i < 90000 then zgB g + i else zgx g (i - 90000)
def ztv (g : zG) : Value → Value
  | .ref i => .ref (zad g i)
  | v => v
theorem ztv_cat (g : zG) (v : Value) : (ztv g v).category = v.category := by cases v <;> rfl
def zlv (g : zG) (lv : List (Nat × Value)) : List (Nat × Value) := lv.map (fun q => (q.1, ztv g q.2))
/-- name, code, locals, answer, room -/
abbrev zM : Type := MethodName × ByteArray × Nat × Option FieldType × Room
/-- which fields of a class are references -/
def zRk : Nat → List Bool := fun k => match k with
  | 0 => [false, true, true, true, true]
  | 1 => [true, true, true, true, false, false, false, false, false, false]
  | 2 => [true, true, true, true, true]
  | 3 => [true, false]
  | 4 => [true, true, false]
  | 5 => [true, true, false]
  | 6 => [true, false, false]
  | 7 => [true, true, true, true]
  | 8 => [true, false, false, false]
  | 9 => [true, true, true, true, false, false, false, false, false]
  | 10 => [true, true, false, true, true, true, true, true, true, true, true, true]
  | _ => [false, true, true, true, false, true, true, false, false, true, true, true, true, true, false, false, false, false, true, true, true, true, false, true, false, true, true, true, false, true, true, false, false, true, true, true, true, false, true, false, true, true, false, false, false, true, true, true, true, true]
def zNF (k : Nat) : Nat := (zRk k).length
def zfv (g : zG) (w : zWS) (k i j : Nat) : Value := if (zRk k).getD j false then va_rf ((w.2.1 i j).map (zad g)) else .int (zJ (w.2.2 i j))
def zce (g : zG) (w : zWS) (i : Nat) (sh : Nat × Nat) : va_E :=
  if sh.1 < 12 then .inr (sh.1, (List.range (zNF sh.1)).map (zfv g w sh.1 i))
  else if sh.1 = 12 then .inl (zgc g 12, sh.2, .inl (fun j => zJ (w.2.2 i j)))
  else .inl (zgc g sh.1, sh.2, .inr (.inr (.inr (.inr (fun j => (w.2.1 i j).map (zad g))))))
def zwl (g : zG) (w : zWS) : va_W := (List.range w.1.length).map (fun i => (zgB g + i, zce g w i (w.1.getD i (99, 0))))
def zHW (g : zG) (w : zWS) (H : Heap) : Prop := va_P (zgD g) vwCl (zwl g w) H ∧ H.size = zgB g + w.1.length ∧ w.1.length < 90000
def zA (g : zG) : Nat → Prop := fun q => zgB g ≤ q
/-- the arrays' classes -/
def zTys (g : zG) : List (ClassId × FieldType) := [(zgc g 12, .int), (zgc g 13, .object "LevelEquations$Polynomial"), (zgc g 14, .object "LevelEquations$Series"), (zgc g 15, .array .int)]
def ztbl : List Cond := lw_tbl.filter goodWord
/-- the String constants -/
def zTx : List String := ["prime", "j", "sum", "times", "stretch", "over", "power", "find", "keep"]
def zTi : List Nat := [68, 70, 72, 74, 76, 78, 80, 82, 84]
def zTl : List Nat := [5, 1, 3, 5, 7, 4, 5, 4, 4]
def zTb : List (List Int32) := [[112, 114, 105, 109, 101], [106], [115, 117, 109], [116, 105, 109, 101, 115], [115, 116, 114, 101, 116, 99, 104], [111, 118, 101, 114], [112, 111, 119, 101, 114], [102, 105, 110, 100], [107, 101, 101, 112]]
/-- the calls of nest mates' private members -/
def zNest : List (String × Nat × MethodName × String) := [(RX0, 23, yX3_init, RX10), (RX0, 36, yX6_init, RX10), (RX10, 23, yX7_init, RX10), (RX10, 30, yX9_init, RX10), (RX10, 37, yX1_init, RX10), (RX10, 51, yX8_init, RX10), (RX10, 58, yX5_init, RX10), (RX10, 65, yX4_init, RX10), (RX4, 11, yX3_init, RX10), (RX7, 57, yX10_multiply, RX10), (RX7, 84, yX10_inverse, RX10), (RX9, 67, yX10_multiply, RX10), (RX1, 98, yX10_inverse, RX10), (RX0, 58, yX10_inverse, RX10)]
/-- what a method may take of the machine's state at its entry -/
def zU (g : zG) (U : State) : Prop := va_K (zgD g) vwCl (zTys g) U ∧ (∀ q ∈ zNest, va_Nw (.methodLinkNest q.1 q.2.1 q.2.2.1 q.2.2.2) U) ∧
  (∀ k, k < 9 → vk_R RX5 (zTi.getD k 0) (zTx.getD k "") (zgx g (k + 1)) U) ∧ vk_S 9 zTl zTb (fun k => zgx g (k + 1)) (fun k => zgx g (k + 101)) (zA g) U U.heap ∧ va_Z "java/lang/String" "COMPACT_STRINGS" "Z" (.int 1) (zA g) U U.heap
/-- what a method's code may take of the machine -/
def zCX (g : zG) (M : zM) (EX : State → Prop) (p : Program) (s : State) (m : MethodId) (args : Array Value) (meth : Method) (c : Code) : Prop :=
  p.tables.exec = Jvm.exec ∧ c.code = M.2.1 ∧ c.maxLocals = M.2.2.1 ∧ meth.sig.returnType = M.2.2.2.1 ∧ (∀ w ∈ ztbl, w.before args s = true) ∧ s.vm.findClass M.1.cls = some m.cls ∧ meth.locks = false ∧ (M.1.name = "<init>" → meth.name = "<init>") ∧ zU g s ∧ zgB g ≤ s.heap.size ∧ EX s
/-- further facts of the entry's state; where the machine is to come -/
abbrev zMo : Type := (State → Prop) × (List Frame → Array Value → State → State → Prop)
/-- from here on the machine comes there -/
def zWP (g : zG) (M : zM) (mo : zMo) (pc : Nat) (lv : List (Nat × Value)) (st : List Value) (nc ns : Nat) (w : zWS) : Prop :=
  ∀ (p : Program) (e : Env) (s : State) (m : MethodId) (args : Array Value) (below : List Frame) (meth : Method) (c : Code) (H : Heap) (locs : List Loc) (ls : Array Slot),
    zCX g M mo.1 p s m args meth c → lv_has ls M.2.2.1 (zlv g lv) → zHW g w H → va_S (zA g) s.heap H locs →
    W p (zgl g) e M.2.2.2.2 s m args below meth c H locs nc ns (mo.2 below args s) (F0 m pc ls (st.map (ztv g)))
def zQ (g : zG) (Φ : Option Value → zWS → Prop) : Array Value → State → Outcome → State → Prop := fun _ st oc t =>
  (∃ (r : Option Value) (w' : zWS), oc = .returned (r.map (ztv g)) ∧ Φ r w' ∧ zHW g w' t.heap) ∧ va_F (zA g) st t
def zws (M : zM) : List Cond := .code M.1 M.2.1 M.2.2.1 M.2.2.2.1 :: ztbl
/-- the method's mode: it comes back with what Φ says -/
def zmo (g : zG) (M : zM) (Φ : Option Value → zWS → Prop) : zMo := (fun _ => True, fun below args s => MQ below (zQ g Φ) args s M.2.2.2.2.cells M.2.2.2.2.slots (zA g))
/-- a call of the method with these arguments in this world comes back with what Φ says -/
def zOK (g : zG) (M : zM) (args : List Value) (w : zWS) (Φ : Option Value → zWS → Prop) : Prop :=
  Met (zgl g) M.1 (zws M) M.2.2.2.2 (va_Pc (args.map (ztv g)) (fun U => zU g U ∧ zgB g ≤ U.heap.size ∧ zHW g w U.heap)) (zQ g Φ) M.2.2.2.2.cells M.2.2.2.2.slots (zA g)
def zOKi (g : zG) (M : zM) (args : List Value) (w : zWS) (φ : Int → zWS → Prop) : Prop := zOK g M args w (fun r w' => ∃ x : Int, r = some (.int (zJ x)) ∧ φ x w')
def zOKl (g : zG) (M : zM) (args : List Value) (w : zWS) (φ : Int → zWS → Prop) : Prop := zOK g M args w (fun r w' => ∃ x : Int, r = some (.long (zL x)) ∧ φ x w')
def zOKr (g : zG) (M : zM) (args : List Value) (w : zWS) (φ : Nat → zWS → Prop) : Prop := zOK g M args w (fun r w' => ∃ x : Nat, r = some (.ref x) ∧ φ x w')
def zOKv (g : zG) (M : zM) (args : List Value) (w : zWS) (φ : zWS → Prop) : Prop := zOK g M args w (fun r w' => r = none ∧ φ w')
-- the world's list
theorem zwl_len (g : zG) (w : zWS) : (zwl g w).length = w.1.length := by simp [zwl]
theorem zwl_get {g : zG} {w : zWS} {i : Nat} {sh : Nat × Nat} (h : w.1[i]? = some sh) (hn : w.1.length < 90000) : (zwl g w)[i]? = some (zad g i, zce g w i sh) := by
  have hi : i < w.1.length := (List.getElem?_eq_some_iff.mp h).1
  have hd : w.1.getD i (99, 0) = sh := by rw [List.getD_eq_getElem?_getD, h]; rfl
  rw [zwl, List.getElem?_map, List.getElem?_range hi]
  show some (zgB g + i, zce g w i (w.1.getD i (99, 0))) = some (zad g i, zce g w i sh)
  rw [hd, zad, if_pos (by omega)]
theorem zwl_at {g : zG} {w : zWS} {k : Nat} {q : Nat × va_E} (h : (zwl g w)[k]? = some q) : k < w.1.length ∧ q.1 = zgB g + k := by
  have hk : k < w.1.length := by rw [← zwl_len g w]; exact (List.getElem?_eq_some_iff.mp h).1
  refine ⟨hk, ?_⟩
  rw [zwl, List.getElem?_map, List.getElem?_range hk] at h
  rw [← Option.some.inj h]
theorem zwl_D (g : zG) (w : zWS) : va_D (zA g) (zwl g w) := by
  refine ⟨fun i j p q hi hj e => ?_, fun k q hk => ?_⟩
  · have := (zwl_at hi).2
    have := (zwl_at hj).2
    omega
  · rw [(zwl_at hk).2]
    exact Nat.le_add_right _ _
theorem zw_set {g : zG} {w w' : zWS} {i : Nat} {sh : Nat × Nat} {e : va_E} (h : w.1[i]? = some sh) (hn : w.1.length < 90000) (h1 : w'.1 = w.1) (he : zce g w' i sh = e) (ho : ∀ j s2, j ≠ i → w.1[j]? = some s2 → zce g w' j s2 = zce g w j s2) : (zwl g w).set i (zad g i, e) = zwl g w' := by
  have hi : i < w.1.length := (List.getElem?_eq_some_iff.mp h).1
  apply List.ext_getElem?
  intro j
  by_cases hj : j < w.1.length
  · obtain ⟨s2, hs2⟩ : ∃ s2, w.1[j]? = some s2 := ⟨_, List.getElem?_eq_getElem hj⟩
    rw [zwl_get (g := g) (w := w') (i := j) (sh := s2) (by rw [h1]; exact hs2) (by rw [h1]; exact hn)]
    by_cases hji : j = i
    · subst hji
      rw [List.getElem?_set_self (by rw [zwl_len]; exact hj)]
      rw [h] at hs2
      rw [← Option.some.inj hs2, he]
    · rw [List.getElem?_set_ne (Ne.symm hji), zwl_get hs2 hn, ho j s2 hji hs2]
  · rw [List.getElem?_eq_none (by rw [List.length_set, zwl_len]; omega), List.getElem?_eq_none (by rw [zwl_len, h1]; omega)]
def zuI (w : zWS) (i j : Nat) (v : Int) : zWS := (w.1, w.2.1, fun a b => if a = i ∧ b = j then v else w.2.2 a b)
def zuR (w : zWS) (i j : Nat) (r : Option Nat) : zWS := (w.1, fun a b => if a = i ∧ b = j then r else w.2.1 a b, w.2.2)
/-- all whole numbers of a cell anew -/
def zuA (w : zWS) (i : Nat) (f : Nat → Int) : zWS := (w.1, w.2.1, fun a b => if a = i then f b else w.2.2 a b)
def zpu (w : zWS) (k n : Nat) : zWS := (w.1 ++ [(k, n)], fun a b => if a = w.1.length then none else w.2.1 a b, fun a b => if a = w.1.length then 0 else w.2.2 a b)
theorem zfv_ne {g : zG} {w : zWS} {k i j : Nat} (hr : (zRk k).getD j false = false) : zfv g w k i j = .int (zJ (w.2.2 i j)) := by rw [zfv, hr]; rfl
theorem zfv_rf {g : zG} {w : zWS} {k i j : Nat} (hr : (zRk k).getD j false = true) : zfv g w k i j = va_rf ((w.2.1 i j).map (zad g)) := by rw [zfv, hr]; rfl
theorem zce_ob {g : zG} {w : zWS} {i k n : Nat} (h : k < 12) : zce g w i (k, n) = .inr (k, (List.range (zNF k)).map (zfv g w k i)) := by rw [zce, if_pos h]
theorem zce_ar {g : zG} {w : zWS} {i n : Nat} : zce g w i (12, n) = .inl (zgc g 12, n, .inl (fun j => zJ (w.2.2 i j))) := by rw [zce, if_neg (show ¬ (12 : Nat) < 12 by decide), if_pos rfl]
theorem zce_rr {g : zG} {w : zWS} {i k n : Nat} (h : 12 < k) : zce g w i (k, n) = .inl (zgc g k, n, .inr (.inr (.inr (.inr (fun j => (w.2.1 i j).map (zad g)))))) := by rw [zce, if_neg (by show ¬ k < 12; omega), if_neg (by show ¬ k = 12; omega)]
theorem zce_eq {g : zG} {w w' : zWS} {i : Nat} {sh : Nat × Nat} (h1 : ∀ b, w'.2.1 i b = w.2.1 i b) (h2 : ∀ b, w'.2.2 i b = w.2.2 i b) : zce g w' i sh = zce g w i sh := by
  have e1 : w'.2.1 i = w.2.1 i := funext h1
  have e2 : w'.2.2 i = w.2.2 i := funext h2
  unfold zce
  have e3 : zfv g w' sh.1 i = zfv g w sh.1 i := by
    funext j
    unfold zfv
    rw [e1, e2]
  rw [e1, e2, e3]
theorem zw_uI {g : zG} {w : zWS} {i j k n : Nat} {v : Int} (h : w.1[i]? = some (k, n)) (hn : w.1.length < 90000) (hk : k < 12) (hj : j < zNF k) (hr : (zRk k).getD j false = false) : (zwl g w).set i (zad g i, .inr (k, ((List.range (zNF k)).map (zfv g w k i)).set j (.int (zJ v)))) = zwl g (zuI w i j v) := by
  refine zw_set h hn rfl ?_ (fun a s2 ha _ => zce_eq (fun b => rfl) (fun b => if_neg (fun q => ha q.1)))
  rw [zce_ob hk]
  refine congrArg (fun l => (Sum.inr (k, l) : va_E)) ?_
  apply List.ext_getElem?
  intro b
  by_cases hb : b < zNF k
  · rw [List.getElem?_map, List.getElem?_range hb]
    by_cases hbj : b = j
    · subst hbj
      rw [List.getElem?_set_self (by simp [hb])]
      show some (zfv g _ k i b) = _
      rw [zfv_ne hr, show (zuI w i b v).2.2 i b = v from if_pos ⟨rfl, rfl⟩]
    · rw [List.getElem?_set_ne (Ne.symm hbj), List.getElem?_map, List.getElem?_range hb]
      show some (zfv g _ k i b) = some (zfv g w k i b)
      unfold zfv
      rw [show (zuI w i j v).2.2 i b = w.2.2 i b from if_neg (fun q => hbj q.2), show (zuI w i j v).2.1 = w.2.1 from rfl]
  · rw [List.getElem?_eq_none (by simp; omega), List.getElem?_eq_none (by simp; omega)]
theorem zw_uR {g : zG} {w : zWS} {i j k n : Nat} {v : Option Nat} (h : w.1[i]? = some (k, n)) (hn : w.1.length < 90000) (hk : k < 12) (hj : j < zNF k) (hr : (zRk k).getD j false = true) : (zwl g w).set i (zad g i, .inr (k, ((List.range (zNF k)).map (zfv g w k i)).set j (va_rf (v.map (zad g))))) = zwl g (zuR w i j v) := by
  refine zw_set h hn rfl ?_ (fun a s2 ha _ => zce_eq (fun b => if_neg (fun q => ha q.1)) (fun b => rfl))
  rw [zce_ob hk]
  refine congrArg (fun l => (Sum.inr (k, l) : va_E)) ?_
  apply List.ext_getElem?
  intro b
  by_cases hb : b < zNF k
  · rw [List.getElem?_map, List.getElem?_range hb]
    by_cases hbj : b = j
    · subst hbj
      rw [List.getElem?_set_self (by simp [hb])]
      show some (zfv g _ k i b) = _
      rw [zfv_rf hr, show (zuR w i b v).2.1 i b = v from if_pos ⟨rfl, rfl⟩]
    · rw [List.getElem?_set_ne (Ne.symm hbj), List.getElem?_map, List.getElem?_range hb]
      show some (zfv g _ k i b) = some (zfv g w k i b)
      unfold zfv
      rw [show (zuR w i j v).2.1 i b = w.2.1 i b from if_neg (fun q => hbj q.2), show (zuR w i j v).2.2 = w.2.2 from rfl]
  · rw [List.getElem?_eq_none (by simp; omega), List.getElem?_eq_none (by simp; omega)]
theorem zw_aI {g : zG} {w : zWS} {i n : Nat} {f : Nat → Int32} {F : Nat → Int} (h : w.1[i]? = some (12, n)) (hn : w.1.length < 90000) (hf : ∀ b, f b = zJ (F b)) : (zwl g w).set i (zad g i, .inl (zgc g 12, n, .inl f)) = zwl g (zuA w i F) := by
  refine zw_set h hn rfl ?_ (fun a s2 ha _ => zce_eq (fun b => rfl) (fun b => if_neg ha))
  rw [zce_ar]
  have : f = fun j => zJ ((zuA w i F).2.2 i j) := funext fun b => by rw [hf b]; exact congrArg zJ (if_pos rfl).symm
  rw [this]
theorem zw_aR {g : zG} {w : zWS} {i k n j : Nat} {v : Option Nat} (h : w.1[i]? = some (k, n)) (hk : 12 < k) (hn : w.1.length < 90000) : (zwl g w).set i (zad g i, .inl (zgc g k, n, .inr (.inr (.inr (.inr (va_up (fun j => (w.2.1 i j).map (zad g)) j (v.map (zad g)))))))) = zwl g (zuR w i j v) := by
  refine zw_set h hn rfl ?_ (fun a s2 ha _ => zce_eq (fun b => if_neg (fun q => ha q.1)) (fun b => rfl))
  rw [zce_rr hk]
  refine congrArg (fun f => (Sum.inl (zgc g k, n, .inr (.inr (.inr (.inr f)))) : va_E)) (funext fun b => ?_)
  by_cases hb : b = j
  · subst hb
    simp [va_up, zuR]
  · simp [va_up, zuR, hb]
theorem zuI_A (w : zWS) (i j : Nat) (v : Int) : zuA w i (fun b => if b = j then v else w.2.2 i b) = zuI w i j v := by
  refine congrArg (fun f => (w.1, w.2.1, f)) (funext fun a => funext fun b => ?_)
  by_cases ha : a = i
  · subst ha
    by_cases hb : b = j <;> simp [hb]
  · simp [ha]
end
section
/-! THE RULES, an instruction each, over the pure world -/
abbrev zR (x : Int) : Prop := -2147483648 ≤ x ∧ x ≤ 2147483647
abbrev zR64 (x : Int) : Prop := -9223372036854775808 ≤ x ∧ x ≤ 9223372036854775807
theorem zJ_toInt {x : Int} (h : zR x) : (zJ x).toInt = x := Int32.toInt_ofInt_of_le (by have := h.1; omega) (by have := h.2; omega)
theorem zL_toInt {x : Int} (h : zR64 x) : (zL x).toInt = x := Int64.toInt_ofInt_of_le (by have := h.1; omega) (by have := h.2; omega)
theorem zJ_of (x : Int32) : zJ x.toInt = x := Int32.ofInt_toInt x
theorem zL_of (x : Int64) : zL x.toInt = x := Int64.ofInt_toInt x
theorem zR_of (x : Int32) : zR x.toInt := ⟨by have := Int32.le_toInt x; omega, by have := Int32.toInt_lt x; omega⟩
theorem zR64_of (x : Int64) : zR64 x.toInt := ⟨by have := Int64.le_toInt x; omega, by have := Int64.toInt_lt x; omega⟩
theorem zJ_add (x y : Int) : zJ x + zJ y = zJ (x + y) := (Int32.ofInt_add x y).symm
theorem zJ_sub (x y : Int) : zJ x - zJ y = zJ (x - y) := (Int32.ofInt_sub x y).symm
theorem zJ_mul (x y : Int) : zJ x * zJ y = zJ (x * y) := (Int32.ofInt_mul x y).symm
theorem zJ_neg (x : Int) : - zJ x = zJ (- x) := (Int32.ofInt_neg x).symm
theorem zL_add (x y : Int) : zL x + zL y = zL (x + y) := (Int64.ofInt_add x y).symm
theorem zL_sub (x y : Int) : zL x - zL y = zL (x - y) := (Int64.ofInt_sub x y).symm
theorem zL_mul (x y : Int) : zL x * zL y = zL (x * y) := (Int64.ofInt_mul x y).symm
theorem zJ_lt {x y : Int} (hx : zR x) (hy : zR y) : zJ x < zJ y ↔ x < y := by rw [Int32.lt_iff_toInt_lt, zJ_toInt hx, zJ_toInt hy]
theorem zJ_le {x y : Int} (hx : zR x) (hy : zR y) : zJ x ≤ zJ y ↔ x ≤ y := by rw [Int32.le_iff_toInt_le, zJ_toInt hx, zJ_toInt hy]
theorem zJ_eq {x y : Int} (hx : zR x) (hy : zR y) : zJ x = zJ y ↔ x = y := by rw [← Int32.toInt_inj, zJ_toInt hx, zJ_toInt hy]
theorem zL_lt {x y : Int} (hx : zR64 x) (hy : zR64 y) : zL x < zL y ↔ x < y := by rw [Int64.lt_iff_toInt_lt, zL_toInt hx, zL_toInt hy]
theorem zL_eq {x y : Int} (hx : zR64 x) (hy : zR64 y) : zL x = zL y ↔ x = y := by rw [← Int64.toInt_inj, zL_toInt hx, zL_toInt hy]
theorem zJ_div {x y : Int} (hx : zR x) (hy : zR y) : zJ x / zJ y = zJ (x.tdiv y) := by
  apply Int32.toInt_inj.mp
  rw [Int32.toInt_div, zJ_toInt hx, zJ_toInt hy, zJ, Int32.toInt_ofInt]
theorem zJ_rem {x y : Int} (hx : zR x) (hy : zR y) : zJ x - zJ x / zJ y * zJ y = zJ (x.tmod y) := by
  rw [zJ_div hx hy, zJ_mul, zJ_sub]
  congr 1
  rw [Int.tmod_def, Int.mul_comm]
theorem zL_div {x y : Int} (hx : zR64 x) (hy : zR64 y) : zL x / zL y = zL (x.tdiv y) := by
  apply Int64.toInt_inj.mp
  rw [Int64.toInt_div, zL_toInt hx, zL_toInt hy, zL, Int64.toInt_ofInt]
theorem zL_rem {x y : Int} (hx : zR64 x) (hy : zR64 y) : zL x - zL x / zL y * zL y = zL (x.tmod y) := by
  rw [zL_div hx hy, zL_mul, zL_sub]
  congr 1
  rw [Int.tmod_def, Int.mul_comm]
theorem zJ_l {x : Int} (hx : zR x) : (zJ x).toInt64 = zL x := by
  apply Int64.toInt_inj.mp
  rw [Int32.toInt_toInt64, zJ_toInt hx, zL_toInt ⟨by have := hx.1; omega, by have := hx.2; omega⟩]
theorem zL_i (x : Int) : (zL x).toInt32 = zJ x := by
  apply Int32.toInt_inj.mp
  rw [Int64.toInt_toInt32, zL, zJ, Int64.toInt_ofInt, Int32.toInt_ofInt]
  exact Int.bmod_bmod_of_dvd (by decide)
def zand (x y : Int) : Int := (zJ x &&& zJ y).toInt
def zor (x y : Int) : Int := (zJ x ||| zJ y).toInt
def zxor (x y : Int) : Int := (zJ x ^^^ zJ y).toInt
def zshl (x y : Int) : Int := (zJ x <<< (zJ y &&& 31)).toInt
def zshr (x y : Int) : Int := (zJ x >>> (zJ y &&& 31)).toInt
def zcmp (x y : Int) : Int := if y < x then 1 else if x = y then 0 else -1
theorem zin {x : Int} {n : Nat} (h0 : 0 ≤ x) (h : x < n) (hn : n < 2147483648) : vp_in (zJ x) n ∧ (zJ x).toNatClampNeg = x.toNat := by
  have e := zJ_toInt (x := x) ⟨by omega, by omega⟩
  have e2 : (zJ x).toNatClampNeg = x.toNat := by
    show (zJ x).toInt.toNat = x.toNat
    rw [e]
  refine ⟨vp_in_iff.mpr ⟨by rw [e]; exact h0, by rw [e]; omega⟩, e2⟩
/-- locals: a value put in its place -/
def zfl (l : List (Nat × Value)) (i : Nat) : List (Nat × Value) := l.filter (fun q => !(q.1 == i) && !(q.1 + 1 == i && q.2.category == 2))
def zins : List (Nat × Value) → Nat → Value → List (Nat × Value)
  | [], i, v => [(i, v)]
  | q :: t, i, v => bif Nat.blt q.1 i then q :: zins t i v else (i, v) :: q :: t
theorem zins_mem {l : List (Nat × Value)} {i : Nat} {v : Value} {q : Nat × Value} (h : q ∈ zins l i v) : q = (i, v) ∨ q ∈ l := by
  induction l with
  | nil => exact Or.inl (List.mem_singleton.mp h)
  | cons a t ih =>
    unfold zins at h
    cases hb : Nat.blt a.1 i with
    | true =>
      rw [hb] at h
      rcases List.mem_cons.mp h with e | e
      · exact Or.inr (by rw [e]; exact List.mem_cons_self)
      · rcases ih e with e | e
        · exact Or.inl e
        · exact Or.inr (List.mem_cons_of_mem _ e)
    | false =>
      rw [hb] at h
      rcases List.mem_cons.mp h with e | e
      · exact Or.inl e
      · exact Or.inr e
def zst (l : List (Nat × Value)) (i : Nat) (v : Value) : List (Nat × Value) := zins (zfl l i) i v
def zfl2 (l : List (Nat × Value)) (i : Nat) : List (Nat × Value) := l.filter (fun q => !(q.1 == i) && (!(q.1 == i + 1) && !(q.1 + 1 == i && q.2.category == 2)))
def zst2 (l : List (Nat × Value)) (i : Nat) (v : Value) : List (Nat × Value) := zins (zfl2 l i) i v
theorem zlv_at {g : zG} {ls : Array Slot} {nL : Nat} {lv : List (Nat × Value)} (h : lv_has ls nL (zlv g lv)) (j : Nat) {i : Nat} {v : Value} (hk : lv[j]? = some (i, v)) : ls[i]? = some (.val (ztv g v)) :=
  lv_at h j (by rw [zlv, List.getElem?_map, hk]; rfl)
theorem zlv_mem {g : zG} {lv : List (Nat × Value)} {q : Nat × Value} (h : q ∈ lv) : (q.1, ztv g q.2) ∈ zlv g lv := List.mem_map.mpr ⟨q, h, rfl⟩
theorem zlv_sub {g : zG} {ls : Array Slot} {nL : Nat} {l l' : List (Nat × Value)} (h : lv_has ls nL (zlv g l)) (hs : ∀ q ∈ l', q ∈ l) : lv_has ls nL (zlv g l') := by
  refine ⟨h.1, h.2.1, fun q hq => ?_⟩
  obtain ⟨r, hr, rfl⟩ := List.mem_map.mp hq
  exact h.2.2 _ (zlv_mem (hs r hr))
theorem zlv_st {g : zG} {ls' : Array Slot} {nL i : Nat} {lv : List (Nat × Value)} {v : Value} (h : lv_has ls' nL ((i, ztv g v) :: (zlv g lv).filter (fun q => !(q.1 == i) && !(q.1 + 1 == i && q.2.category == 2)))) : lv_has ls' nL (zlv g (zst lv i v)) := by
  refine ⟨h.1, h.2.1, fun q hq => ?_⟩
  obtain ⟨r, hr, rfl⟩ := List.mem_map.mp hq
  refine h.2.2 _ ?_
  rcases zins_mem hr with e | e
  · rw [e]; exact List.mem_cons_self
  · obtain ⟨e1, e2⟩ := List.mem_filter.mp e
    refine List.mem_cons_of_mem _ (List.mem_filter.mpr ⟨zlv_mem e1, ?_⟩)
    show (!(r.1 == i) && !(r.1 + 1 == i && (ztv g r.2).category == 2)) = true
    rw [ztv_cat]
    exact e2
theorem zlv_st2 {g : zG} {ls' : Array Slot} {nL i : Nat} {lv : List (Nat × Value)} {v : Value} (h : lv_has ls' nL ((i, ztv g v) :: (zlv g lv).filter (fun q => !(q.1 == i) && (!(q.1 == i + 1) && !(q.1 + 1 == i && q.2.category == 2))))) : lv_has ls' nL (zlv g (zst2 lv i v)) := by
  refine ⟨h.1, h.2.1, fun q hq => ?_⟩
  obtain ⟨r, hr, rfl⟩ := List.mem_map.mp hq
  refine h.2.2 _ ?_
  rcases zins_mem hr with e | e
  · rw [e]; exact List.mem_cons_self
  · obtain ⟨e1, e2⟩ := List.mem_filter.mp e
    refine List.mem_cons_of_mem _ (List.mem_filter.mpr ⟨zlv_mem e1, ?_⟩)
    show (!(r.1 == i) && (!(r.1 == i + 1) && !(r.1 + 1 == i && (ztv g r.2).category == 2))) = true
    rw [ztv_cat]
    exact e2
section ZR
variable {g : zG} {M : zM} {mo : zMo} {pc nc ns : Nat} {lv : List (Nat × Value)} {st : List Value} {w : zWS}
theorem zw_sub {lv' : List (Nat × Value)} (hs : ∀ q ∈ lv', q ∈ lv) (k : zWP g M mo pc lv' st nc ns w) : zWP g M mo pc lv st nc ns w := by
  intro p e s m args below meth c H locs ls C hl hW hS
  exact k p e s m args below meth c H locs ls C (zlv_sub hl hs) hW hS
/-- fewer locals, by their places -/
theorem zw_pick (ks : List Nat) {lv' : List (Nat × Value)} (hs : lv_pick lv ks = lv') (k : zWP g M mo pc lv' st nc ns w) : zWP g M mo pc lv st nc ns w := by
  refine zw_sub (fun q hq => ?_) k
  rw [← hs] at hq
  obtain ⟨k, -, hk⟩ := List.mem_filterMap.mp hq
  exact List.mem_of_getElem? hk
theorem zw_iconst {n : Int} (hd : decode M.2.1 pc = .ok (.iconst n, 1)) (k : zWP g M mo (pc + 1) lv (.int (zJ n) :: st) nc ns w) : zWP g M mo pc lv st nc ns w := by
  intro p e s m args below meth c H locs ls C hl hW hS
  exact lv_iconst C.1 C.2.1 hd rfl (k p e s m args below meth c H locs ls C hl hW hS)
theorem zw_bipush {n : Int} (hd : decode M.2.1 pc = .ok (.bipush n, 2)) (hv : (Int8.ofInt n).toInt32 = zJ n) (k : zWP g M mo (pc + 2) lv (.int (zJ n) :: st) nc ns w) : zWP g M mo pc lv st nc ns w := by
  intro p e s m args below meth c H locs ls C hl hW hS
  exact lv_bipush C.1 C.2.1 hd hv (k p e s m args below meth c H locs ls C hl hW hS)
theorem zw_sipush {n : Int} (hd : decode M.2.1 pc = .ok (.sipush n, 3)) (hv : (Int16.ofInt n).toInt32 = zJ n) (k : zWP g M mo (pc + 3) lv (.int (zJ n) :: st) nc ns w) : zWP g M mo pc lv st nc ns w := by
  intro p e s m args below meth c H locs ls C hl hW hS
  exact lv_sipush C.1 C.2.1 hd hv (k p e s m args below meth c H locs ls C hl hW hS)
theorem zw_lconst {n : Fin 2} {v : Int} (hd : decode M.2.1 pc = .ok (.lconst n, 1)) (hv : ((n : Nat) : Int) = v) (k : zWP g M mo (pc + 1) lv (.long (zL v) :: st) nc ns w) : zWP g M mo pc lv st nc ns w := by
  intro p e s m args below meth c H locs ls C hl hW hS
  exact lv_lconst C.1 C.2.1 hd (by rw [← hv]; rfl) (k p e s m args below meth c H locs ls C hl hW hS)
theorem zw_iload_n {n : Fin 4} (j : Nat) {i : Nat} {x : Int32} (hd : decode M.2.1 pc = .ok (.iload_n n, 1)) (hi : (n : Nat) = i) (hj : lv[j]? = some (i, .int x)) (k : zWP g M mo (pc + 1) lv (.int x :: st) nc ns w) : zWP g M mo pc lv st nc ns w := by
  intro p e s m args below meth c H locs ls C hl hW hS
  exact lv_iload_n C.1 C.2.1 hd hi (zlv_at hl j hj) (k p e s m args below meth c H locs ls C hl hW hS)
theorem zw_iload (j : Nat) {i : Nat} {x : Int32} (hd : decode M.2.1 pc = .ok (.iload i, 2)) (hj : lv[j]? = some (i, .int x)) (k : zWP g M mo (pc + 2) lv (.int x :: st) nc ns w) : zWP g M mo pc lv st nc ns w := by
  intro p e s m args below meth c H locs ls C hl hW hS
  exact lv_iload C.1 C.2.1 hd (zlv_at hl j hj) (k p e s m args below meth c H locs ls C hl hW hS)
theorem zw_lload_n {n : Fin 4} (j : Nat) {i : Nat} {x : Int64} (hd : decode M.2.1 pc = .ok (.lload_n n, 1)) (hi : (n : Nat) = i) (hj : lv[j]? = some (i, .long x)) (k : zWP g M mo (pc + 1) lv (.long x :: st) nc ns w) : zWP g M mo pc lv st nc ns w := by
  intro p e s m args below meth c H locs ls C hl hW hS
  exact lv_lload_n C.1 C.2.1 hd hi (zlv_at hl j hj) (k p e s m args below meth c H locs ls C hl hW hS)
theorem zw_lload (j : Nat) {i : Nat} {x : Int64} (hd : decode M.2.1 pc = .ok (.lload i, 2)) (hj : lv[j]? = some (i, .long x)) (k : zWP g M mo (pc + 2) lv (.long x :: st) nc ns w) : zWP g M mo pc lv st nc ns w := by
  intro p e s m args below meth c H locs ls C hl hW hS
  exact lv_lload C.1 C.2.1 hd (zlv_at hl j hj) (k p e s m args below meth c H locs ls C hl hW hS)
theorem zw_aload_n {n : Fin 4} (j : Nat) {i x : Nat} (hd : decode M.2.1 pc = .ok (.aload_n n, 1)) (hi : (n : Nat) = i) (hj : lv[j]? = some (i, .ref x)) (k : zWP g M mo (pc + 1) lv (.ref x :: st) nc ns w) : zWP g M mo pc lv st nc ns w := by
  intro p e s m args below meth c H locs ls C hl hW hS
  exact lv_aload_n C.1 C.2.1 hd hi (zlv_at hl j hj) (k p e s m args below meth c H locs ls C hl hW hS)
theorem zw_aload (j : Nat) {i x : Nat} (hd : decode M.2.1 pc = .ok (.aload i, 2)) (hj : lv[j]? = some (i, .ref x)) (k : zWP g M mo (pc + 2) lv (.ref x :: st) nc ns w) : zWP g M mo pc lv st nc ns w := by
  intro p e s m args below meth c H locs ls C hl hW hS
  exact lv_aload C.1 C.2.1 hd (zlv_at hl j hj) (k p e s m args below meth c H locs ls C hl hW hS)
theorem zw_istore_n {n : Fin 4} {i : Nat} {x : Int32} {lv' : List (Nat × Value)} (hd : decode M.2.1 pc = .ok (.istore_n n, 1)) (hi : (n : Nat) = i) (hn : i < M.2.2.1) (hl' : zst lv i (.int x) = lv') (k : zWP g M mo (pc + 1) lv' st nc ns w) : zWP g M mo pc lv (.int x :: st) nc ns w := by
  intro p e s m args below meth c H locs ls C hl hW hS
  exact lv_istore_n C.1 C.2.1 hd hi hl hn rfl (fun ls' h' => k p e s m args below meth c H locs ls' C (by rw [← hl']; exact zlv_st h') hW hS)
theorem zw_istore {i : Nat} {x : Int32} {lv' : List (Nat × Value)} (hd : decode M.2.1 pc = .ok (.istore i, 2)) (hn : i < M.2.2.1) (hl' : zst lv i (.int x) = lv') (k : zWP g M mo (pc + 2) lv' st nc ns w) : zWP g M mo pc lv (.int x :: st) nc ns w := by
  intro p e s m args below meth c H locs ls C hl hW hS
  exact lv_istore C.1 C.2.1 hd hl hn rfl (fun ls' h' => k p e s m args below meth c H locs ls' C (by rw [← hl']; exact zlv_st h') hW hS)
theorem zw_astore_n {n : Fin 4} {i x : Nat} {lv' : List (Nat × Value)} (hd : decode M.2.1 pc = .ok (.astore_n n, 1)) (hi : (n : Nat) = i) (hn : i < M.2.2.1) (hl' : zst lv i (.ref x) = lv') (k : zWP g M mo (pc + 1) lv' st nc ns w) : zWP g M mo pc lv (.ref x :: st) nc ns w := by
  intro p e s m args below meth c H locs ls C hl hW hS
  exact lv_astore_n C.1 C.2.1 hd hi hl hn rfl (fun ls' h' => k p e s m args below meth c H locs ls' C (by rw [← hl']; exact zlv_st h') hW hS)
theorem zw_astore {i x : Nat} {lv' : List (Nat × Value)} (hd : decode M.2.1 pc = .ok (.astore i, 2)) (hn : i < M.2.2.1) (hl' : zst lv i (.ref x) = lv') (k : zWP g M mo (pc + 2) lv' st nc ns w) : zWP g M mo pc lv (.ref x :: st) nc ns w := by
  intro p e s m args below meth c H locs ls C hl hW hS
  exact lv_astore C.1 C.2.1 hd hl hn rfl (fun ls' h' => k p e s m args below meth c H locs ls' C (by rw [← hl']; exact zlv_st h') hW hS)
theorem zw_lstore_n {n : Fin 4} {i : Nat} {x : Int64} {lv' : List (Nat × Value)} (hd : decode M.2.1 pc = .ok (.lstore_n n, 1)) (hi : (n : Nat) = i) (hn : i + 1 < M.2.2.1) (hl' : zst2 lv i (.long x) = lv') (k : zWP g M mo (pc + 1) lv' st nc ns w) : zWP g M mo pc lv (.long x :: st) nc ns w := by
  intro p e s m args below meth c H locs ls C hl hW hS
  exact lv_lstore_n C.1 C.2.1 hd hi hl hn rfl (fun ls' h' => k p e s m args below meth c H locs ls' C (by rw [← hl']; exact zlv_st2 h') hW hS)
theorem zw_lstore {i : Nat} {x : Int64} {lv' : List (Nat × Value)} (hd : decode M.2.1 pc = .ok (.lstore i, 2)) (hn : i + 1 < M.2.2.1) (hl' : zst2 lv i (.long x) = lv') (k : zWP g M mo (pc + 2) lv' st nc ns w) : zWP g M mo pc lv (.long x :: st) nc ns w := by
  intro p e s m args below meth c H locs ls C hl hW hS
  exact lv_lstore C.1 C.2.1 hd hl hn rfl (fun ls' h' => k p e s m args below meth c H locs ls' C (by rw [← hl']; exact zlv_st2 h') hW hS)
theorem zw_iinc (j : Nat) {i : Nat} {n x v : Int} {lv' : List (Nat × Value)} (hd : decode M.2.1 pc = .ok (.iinc i n, 3)) (hj : lv[j]? = some (i, .int (zJ x))) (hv : x + n = v) (hn : i < M.2.2.1) (hl' : zst lv i (.int (zJ v)) = lv') (k : zWP g M mo (pc + 3) lv' st nc ns w) : zWP g M mo pc lv st nc ns w := by
  intro p e s m args below meth c H locs ls C hl hW hS
  exact lv_iinc (v := zJ v) (k := j) C.1 C.2.1 hd hl (by rw [zlv, List.getElem?_map, hj]; rfl) (by rw [← hv]; exact zJ_add x n) hn rfl (fun ls' h' => k p e s m args below meth c H locs ls' C (by rw [← hl']; exact zlv_st h') hW hS)
theorem zw_iadd {x y : Int} (hd : decode M.2.1 pc = .ok (.iadd, 1)) (k : zWP g M mo (pc + 1) lv (.int (zJ (x + y)) :: st) nc ns w) : zWP g M mo pc lv (.int (zJ y) :: .int (zJ x) :: st) nc ns w := by
  intro p e s m args below meth c H locs ls C hl hW hS
  refine lv_iadd C.1 C.2.1 hd ?_
  rw [zJ_add]
  exact k p e s m args below meth c H locs ls C hl hW hS
theorem zw_isub {x y : Int} (hd : decode M.2.1 pc = .ok (.isub, 1)) (k : zWP g M mo (pc + 1) lv (.int (zJ (x - y)) :: st) nc ns w) : zWP g M mo pc lv (.int (zJ y) :: .int (zJ x) :: st) nc ns w := by
  intro p e s m args below meth c H locs ls C hl hW hS
  refine lv_isub C.1 C.2.1 hd ?_
  rw [zJ_sub]
  exact k p e s m args below meth c H locs ls C hl hW hS
theorem zw_imul {x y : Int} (hd : decode M.2.1 pc = .ok (.imul, 1)) (k : zWP g M mo (pc + 1) lv (.int (zJ (x * y)) :: st) nc ns w) : zWP g M mo pc lv (.int (zJ y) :: .int (zJ x) :: st) nc ns w := by
  intro p e s m args below meth c H locs ls C hl hW hS
  refine lv_imul C.1 C.2.1 hd ?_
  rw [zJ_mul]
  exact k p e s m args below meth c H locs ls C hl hW hS
theorem zw_ineg {x : Int} (hd : decode M.2.1 pc = .ok (.ineg, 1)) (k : zWP g M mo (pc + 1) lv (.int (zJ (-x)) :: st) nc ns w) : zWP g M mo pc lv (.int (zJ x) :: st) nc ns w := by
  intro p e s m args below meth c H locs ls C hl hW hS
  refine lv_ineg C.1 C.2.1 hd ?_
  rw [zJ_neg]
  exact k p e s m args below meth c H locs ls C hl hW hS
theorem zw_idiv {x y : Int} (hd : decode M.2.1 pc = .ok (.idiv, 1)) (hx : zR x) (hy : zR y) (h0 : y ≠ 0) (k : zWP g M mo (pc + 1) lv (.int (zJ (x.tdiv y)) :: st) nc ns w) : zWP g M mo pc lv (.int (zJ y) :: .int (zJ x) :: st) nc ns w := by
  intro p e s m args below meth c H locs ls C hl hW hS
  refine lv_idiv C.1 C.2.1 hd (fun h => h0 ((zJ_eq hy ⟨by decide, by decide⟩).mp (show zJ y = zJ 0 from h))) ?_
  rw [zJ_div hx hy]
  exact k p e s m args below meth c H locs ls C hl hW hS
theorem zw_irem {x y : Int} (hd : decode M.2.1 pc = .ok (.irem, 1)) (hx : zR x) (hy : zR y) (h0 : y ≠ 0) (k : zWP g M mo (pc + 1) lv (.int (zJ (x.tmod y)) :: st) nc ns w) : zWP g M mo pc lv (.int (zJ y) :: .int (zJ x) :: st) nc ns w := by
  intro p e s m args below meth c H locs ls C hl hW hS
  refine lv_irem C.1 C.2.1 hd (fun h => h0 ((zJ_eq hy ⟨by decide, by decide⟩).mp (show zJ y = zJ 0 from h))) ?_
  rw [zJ_rem hx hy]
  exact k p e s m args below meth c H locs ls C hl hW hS
theorem zw_iand {x y : Int} (hd : decode M.2.1 pc = .ok (.iand, 1)) (k : zWP g M mo (pc + 1) lv (.int (zJ (zand x y)) :: st) nc ns w) : zWP g M mo pc lv (.int (zJ y) :: .int (zJ x) :: st) nc ns w := by
  intro p e s m args below meth c H locs ls C hl hW hS
  refine lv_iand C.1 C.2.1 hd ?_
  rw [show zJ x &&& zJ y = zJ (zand x y) from (zJ_of _).symm]
  exact k p e s m args below meth c H locs ls C hl hW hS
theorem zw_ior {x y : Int} (hd : decode M.2.1 pc = .ok (.ior, 1)) (k : zWP g M mo (pc + 1) lv (.int (zJ (zor x y)) :: st) nc ns w) : zWP g M mo pc lv (.int (zJ y) :: .int (zJ x) :: st) nc ns w := by
  intro p e s m args below meth c H locs ls C hl hW hS
  refine lv_ior C.1 C.2.1 hd ?_
  rw [show zJ x ||| zJ y = zJ (zor x y) from (zJ_of _).symm]
  exact k p e s m args below meth c H locs ls C hl hW hS
theorem zw_ixor {x y : Int} (hd : decode M.2.1 pc = .ok (.ixor, 1)) (k : zWP g M mo (pc + 1) lv (.int (zJ (zxor x y)) :: st) nc ns w) : zWP g M mo pc lv (.int (zJ y) :: .int (zJ x) :: st) nc ns w := by
  intro p e s m args below meth c H locs ls C hl hW hS
  refine lv_ixor C.1 C.2.1 hd ?_
  rw [show zJ x ^^^ zJ y = zJ (zxor x y) from (zJ_of _).symm]
  exact k p e s m args below meth c H locs ls C hl hW hS
theorem zw_ishr {x y : Int} (hd : decode M.2.1 pc = .ok (.ishr, 1)) (k : zWP g M mo (pc + 1) lv (.int (zJ (zshr x y)) :: st) nc ns w) : zWP g M mo pc lv (.int (zJ y) :: .int (zJ x) :: st) nc ns w := by
  intro p e s m args below meth c H locs ls C hl hW hS
  refine lv_ishr C.1 C.2.1 hd ?_
  rw [show zJ x >>> (zJ y &&& 31) = zJ (zshr x y) from (zJ_of _).symm]
  exact k p e s m args below meth c H locs ls C hl hW hS
theorem zw_ladd {x y : Int} (hd : decode M.2.1 pc = .ok (.ladd, 1)) (k : zWP g M mo (pc + 1) lv (.long (zL (x + y)) :: st) nc ns w) : zWP g M mo pc lv (.long (zL y) :: .long (zL x) :: st) nc ns w := by
  intro p e s m args below meth c H locs ls C hl hW hS
  refine lv_ladd C.1 C.2.1 hd ?_
  rw [zL_add]
  exact k p e s m args below meth c H locs ls C hl hW hS
theorem zw_lsub {x y : Int} (hd : decode M.2.1 pc = .ok (.lsub, 1)) (k : zWP g M mo (pc + 1) lv (.long (zL (x - y)) :: st) nc ns w) : zWP g M mo pc lv (.long (zL y) :: .long (zL x) :: st) nc ns w := by
  intro p e s m args below meth c H locs ls C hl hW hS
  refine lv_lsub C.1 C.2.1 hd ?_
  rw [zL_sub]
  exact k p e s m args below meth c H locs ls C hl hW hS
theorem zw_lmul {x y : Int} (hd : decode M.2.1 pc = .ok (.lmul, 1)) (k : zWP g M mo (pc + 1) lv (.long (zL (x * y)) :: st) nc ns w) : zWP g M mo pc lv (.long (zL y) :: .long (zL x) :: st) nc ns w := by
  intro p e s m args below meth c H locs ls C hl hW hS
  refine lv_lmul C.1 C.2.1 hd ?_
  rw [zL_mul]
  exact k p e s m args below meth c H locs ls C hl hW hS
theorem zw_lrem {x y : Int} (hd : decode M.2.1 pc = .ok (.lrem, 1)) (hx : zR64 x) (hy : zR64 y) (h0 : y ≠ 0) (k : zWP g M mo (pc + 1) lv (.long (zL (x.tmod y)) :: st) nc ns w) : zWP g M mo pc lv (.long (zL y) :: .long (zL x) :: st) nc ns w := by
  intro p e s m args below meth c H locs ls C hl hW hS
  refine lv_lrem C.1 C.2.1 hd (fun h => h0 ((zL_eq hy ⟨by decide, by decide⟩).mp (show zL y = zL 0 from h))) ?_
  rw [zL_rem hx hy]
  exact k p e s m args below meth c H locs ls C hl hW hS
theorem zw_lcmp {x y : Int} (hd : decode M.2.1 pc = .ok (.lcmp, 1)) (hx : zR64 x) (hy : zR64 y) (k : zWP g M mo (pc + 1) lv (.int (zJ (zcmp x y)) :: st) nc ns w) : zWP g M mo pc lv (.long (zL y) :: .long (zL x) :: st) nc ns w := by
  intro p e s m args below meth c H locs ls C hl hW hS
  refine W.lcmp C.1 C.2.1 hd ?_
  have ee : lg_cmp (zL x) (zL y) = zJ (zcmp x y) := by
    unfold lg_cmp zcmp
    by_cases h1 : y < x
    · rw [if_pos (show zL x > zL y from (zL_lt hy hx).mpr h1), if_pos h1]; rfl
    · rw [if_neg (show ¬ zL x > zL y from fun q => h1 ((zL_lt hy hx).mp q)), if_neg h1]
      by_cases h2 : x = y
      · rw [if_pos (show zL x = zL y by rw [h2]), if_pos h2]; rfl
      · rw [if_neg (show ¬ zL x = zL y from fun q => h2 ((zL_eq hx hy).mp q)), if_neg h2]; rfl
  rw [ee]
  exact k p e s m args below meth c H locs ls C hl hW hS
theorem zw_i2l {x : Int} (hd : decode M.2.1 pc = .ok (.i2l, 1)) (hx : zR x) (k : zWP g M mo (pc + 1) lv (.long (zL x) :: st) nc ns w) : zWP g M mo pc lv (.int (zJ x) :: st) nc ns w := by
  intro p e s m args below meth c H locs ls C hl hW hS
  exact lv_i2l C.1 C.2.1 hd (zJ_l hx) (k p e s m args below meth c H locs ls C hl hW hS)
theorem zw_l2i {x : Int} (hd : decode M.2.1 pc = .ok (.l2i, 1)) (k : zWP g M mo (pc + 1) lv (.int (zJ x) :: st) nc ns w) : zWP g M mo pc lv (.long (zL x) :: st) nc ns w := by
  intro p e s m args below meth c H locs ls C hl hW hS
  exact lv_l2i C.1 C.2.1 hd (zL_i x) (k p e s m args below meth c H locs ls C hl hW hS)
theorem zw_dup {v : Value} (hd : decode M.2.1 pc = .ok (.dup, 1)) (hv : v.category = 1) (k : zWP g M mo (pc + 1) lv (v :: v :: st) nc ns w) : zWP g M mo pc lv (v :: st) nc ns w := by
  intro p e s m args below meth c H locs ls C hl hW hS
  exact lv_dup C.1 C.2.1 hd (by rw [ztv_cat]; exact hv) (k p e s m args below meth c H locs ls C hl hW hS)
theorem zw_dup2 {v u : Value} (hd : decode M.2.1 pc = .ok (.dup2, 1)) (hv : v.category = 1) (hu : u.category = 1) (k : zWP g M mo (pc + 1) lv (v :: u :: v :: u :: st) nc ns w) : zWP g M mo pc lv (v :: u :: st) nc ns w := by
  intro p e s m args below meth c H locs ls C hl hW hS
  exact lv_dup2_11 C.1 C.2.1 hd (by rw [ztv_cat]; exact hv) (by rw [ztv_cat]; exact hu) (k p e s m args below meth c H locs ls C hl hW hS)
theorem zw_pop {v : Value} (hd : decode M.2.1 pc = .ok (.pop, 1)) (hv : v.category = 1) (k : zWP g M mo (pc + 1) lv st nc ns w) : zWP g M mo pc lv (v :: st) nc ns w := by
  intro p e s m args below meth c H locs ls C hl hW hS
  exact lv_pop C.1 C.2.1 hd (by rw [ztv_cat]; exact hv) (k p e s m args below meth c H locs ls C hl hW hS)
theorem zw_goto {off : Int} {tgt : Nat} (hd : decode M.2.1 pc = .ok (.goto off, 3)) (ht : (pc : Int) + off = (tgt : Int)) (k : zWP g M mo tgt lv st nc ns w) : zWP g M mo pc lv st nc ns w := by
  intro p e s m args below meth c H locs ls C hl hW hS
  exact lv_goto C.1 C.2.1 hd ht (k p e s m args below meth c H locs ls C hl hW hS)
theorem zw_icmp_eq {x y off : Int} {tgt : Nat} (hd : decode M.2.1 pc = .ok (.if_icmp .eq off, 3)) (ht : (pc : Int) + off = (tgt : Int)) (hx : zR x) (hy : zR y) (kt : x = y → zWP g M mo tgt lv st nc ns w) (kf : ¬ x = y → zWP g M mo (pc + 3) lv st nc ns w) : zWP g M mo pc lv (.int (zJ y) :: .int (zJ x) :: st) nc ns w := by
  intro p e s m args below meth c H locs ls C hl hW hS
  exact lv_icmp_eq C.1 C.2.1 hd ht (fun h => kt ((zJ_eq hx hy).mp h) p e s m args below meth c H locs ls C hl hW hS) (fun h => kf (fun q => h ((zJ_eq hx hy).mpr q)) p e s m args below meth c H locs ls C hl hW hS)
theorem zw_icmp_ne {x y off : Int} {tgt : Nat} (hd : decode M.2.1 pc = .ok (.if_icmp .ne off, 3)) (ht : (pc : Int) + off = (tgt : Int)) (hx : zR x) (hy : zR y) (kt : ¬ x = y → zWP g M mo tgt lv st nc ns w) (kf : x = y → zWP g M mo (pc + 3) lv st nc ns w) : zWP g M mo pc lv (.int (zJ y) :: .int (zJ x) :: st) nc ns w := by
  intro p e s m args below meth c H locs ls C hl hW hS
  exact lv_icmp_ne C.1 C.2.1 hd ht (fun h => kt (fun q => h ((zJ_eq hx hy).mpr q)) p e s m args below meth c H locs ls C hl hW hS) (fun h => kf ((zJ_eq hx hy).mp h) p e s m args below meth c H locs ls C hl hW hS)
theorem zw_icmp_lt {x y off : Int} {tgt : Nat} (hd : decode M.2.1 pc = .ok (.if_icmp .lt off, 3)) (ht : (pc : Int) + off = (tgt : Int)) (hx : zR x) (hy : zR y) (kt : x < y → zWP g M mo tgt lv st nc ns w) (kf : y ≤ x → zWP g M mo (pc + 3) lv st nc ns w) : zWP g M mo pc lv (.int (zJ y) :: .int (zJ x) :: st) nc ns w := by
  intro p e s m args below meth c H locs ls C hl hW hS
  exact lv_icmp_lt C.1 C.2.1 hd ht (fun h => kt ((zJ_lt hx hy).mp h) p e s m args below meth c H locs ls C hl hW hS) (fun h => kf (Int.not_lt.mp fun q => h ((zJ_lt hx hy).mpr q)) p e s m args below meth c H locs ls C hl hW hS)
theorem zw_icmp_ge {x y off : Int} {tgt : Nat} (hd : decode M.2.1 pc = .ok (.if_icmp .ge off, 3)) (ht : (pc : Int) + off = (tgt : Int)) (hx : zR x) (hy : zR y) (kt : y ≤ x → zWP g M mo tgt lv st nc ns w) (kf : x < y → zWP g M mo (pc + 3) lv st nc ns w) : zWP g M mo pc lv (.int (zJ y) :: .int (zJ x) :: st) nc ns w := by
  intro p e s m args below meth c H locs ls C hl hW hS
  exact lv_icmp_ge C.1 C.2.1 hd ht (fun h => kt ((zJ_le hy hx).mp h) p e s m args below meth c H locs ls C hl hW hS) (fun h => kf (Int.not_le.mp fun q => h ((zJ_le hy hx).mpr q)) p e s m args below meth c H locs ls C hl hW hS)
theorem zw_icmp_gt {x y off : Int} {tgt : Nat} (hd : decode M.2.1 pc = .ok (.if_icmp .gt off, 3)) (ht : (pc : Int) + off = (tgt : Int)) (hx : zR x) (hy : zR y) (kt : y < x → zWP g M mo tgt lv st nc ns w) (kf : x ≤ y → zWP g M mo (pc + 3) lv st nc ns w) : zWP g M mo pc lv (.int (zJ y) :: .int (zJ x) :: st) nc ns w := by
  intro p e s m args below meth c H locs ls C hl hW hS
  exact lv_icmp_gt C.1 C.2.1 hd ht (fun h => kt ((zJ_lt hy hx).mp h) p e s m args below meth c H locs ls C hl hW hS) (fun h => kf (Int.not_lt.mp fun q => h ((zJ_lt hy hx).mpr q)) p e s m args below meth c H locs ls C hl hW hS)
theorem zw_icmp_le {x y off : Int} {tgt : Nat} (hd : decode M.2.1 pc = .ok (.if_icmp .le off, 3)) (ht : (pc : Int) + off = (tgt : Int)) (hx : zR x) (hy : zR y) (kt : x ≤ y → zWP g M mo tgt lv st nc ns w) (kf : y < x → zWP g M mo (pc + 3) lv st nc ns w) : zWP g M mo pc lv (.int (zJ y) :: .int (zJ x) :: st) nc ns w := by
  intro p e s m args below meth c H locs ls C hl hW hS
  exact lv_icmp_le C.1 C.2.1 hd ht (fun h => kt ((zJ_le hx hy).mp h) p e s m args below meth c H locs ls C hl hW hS) (fun h => kf (Int.not_le.mp fun q => h ((zJ_le hx hy).mpr q)) p e s m args below meth c H locs ls C hl hW hS)
theorem zR0 : zR 0 := ⟨by decide, by decide⟩
theorem zw_if_eq {x off : Int} {tgt : Nat} (hd : decode M.2.1 pc = .ok (.ifCond .eq off, 3)) (ht : (pc : Int) + off = (tgt : Int)) (hx : zR x) (kt : x = 0 → zWP g M mo tgt lv st nc ns w) (kf : ¬ x = 0 → zWP g M mo (pc + 3) lv st nc ns w) : zWP g M mo pc lv (.int (zJ x) :: st) nc ns w := by
  intro p e s m args below meth c H locs ls C hl hW hS
  exact lv_if_eq C.1 C.2.1 hd ht (fun h => kt ((zJ_eq hx zR0).mp h) p e s m args below meth c H locs ls C hl hW hS) (fun h => kf (fun q => h ((zJ_eq hx zR0).mpr q)) p e s m args below meth c H locs ls C hl hW hS)
theorem zw_if_ne {x off : Int} {tgt : Nat} (hd : decode M.2.1 pc = .ok (.ifCond .ne off, 3)) (ht : (pc : Int) + off = (tgt : Int)) (hx : zR x) (kt : ¬ x = 0 → zWP g M mo tgt lv st nc ns w) (kf : x = 0 → zWP g M mo (pc + 3) lv st nc ns w) : zWP g M mo pc lv (.int (zJ x) :: st) nc ns w := by
  intro p e s m args below meth c H locs ls C hl hW hS
  exact lv_if_ne C.1 C.2.1 hd ht (fun h => kt (fun q => h ((zJ_eq hx zR0).mpr q)) p e s m args below meth c H locs ls C hl hW hS) (fun h => kf ((zJ_eq hx zR0).mp h) p e s m args below meth c H locs ls C hl hW hS)
theorem zw_if_lt {x off : Int} {tgt : Nat} (hd : decode M.2.1 pc = .ok (.ifCond .lt off, 3)) (ht : (pc : Int) + off = (tgt : Int)) (hx : zR x) (kt : x < 0 → zWP g M mo tgt lv st nc ns w) (kf : 0 ≤ x → zWP g M mo (pc + 3) lv st nc ns w) : zWP g M mo pc lv (.int (zJ x) :: st) nc ns w := by
  intro p e s m args below meth c H locs ls C hl hW hS
  exact lv_if_lt C.1 C.2.1 hd ht (fun h => kt ((zJ_lt hx zR0).mp h) p e s m args below meth c H locs ls C hl hW hS) (fun h => kf (Int.not_lt.mp fun q => h ((zJ_lt hx zR0).mpr q)) p e s m args below meth c H locs ls C hl hW hS)
theorem zw_if_ge {x off : Int} {tgt : Nat} (hd : decode M.2.1 pc = .ok (.ifCond .ge off, 3)) (ht : (pc : Int) + off = (tgt : Int)) (hx : zR x) (kt : 0 ≤ x → zWP g M mo tgt lv st nc ns w) (kf : x < 0 → zWP g M mo (pc + 3) lv st nc ns w) : zWP g M mo pc lv (.int (zJ x) :: st) nc ns w := by
  intro p e s m args below meth c H locs ls C hl hW hS
  exact lv_if_ge C.1 C.2.1 hd ht (fun h => kt ((zJ_le zR0 hx).mp h) p e s m args below meth c H locs ls C hl hW hS) (fun h => kf (Int.not_le.mp fun q => h ((zJ_le zR0 hx).mpr q)) p e s m args below meth c H locs ls C hl hW hS)
theorem zw_if_gt {x off : Int} {tgt : Nat} (hd : decode M.2.1 pc = .ok (.ifCond .gt off, 3)) (ht : (pc : Int) + off = (tgt : Int)) (hx : zR x) (kt : 0 < x → zWP g M mo tgt lv st nc ns w) (kf : x ≤ 0 → zWP g M mo (pc + 3) lv st nc ns w) : zWP g M mo pc lv (.int (zJ x) :: st) nc ns w := by
  intro p e s m args below meth c H locs ls C hl hW hS
  exact lv_if_gt C.1 C.2.1 hd ht (fun h => kt ((zJ_lt zR0 hx).mp h) p e s m args below meth c H locs ls C hl hW hS) (fun h => kf (Int.not_lt.mp fun q => h ((zJ_lt zR0 hx).mpr q)) p e s m args below meth c H locs ls C hl hW hS)
theorem zw_if_le {x off : Int} {tgt : Nat} (hd : decode M.2.1 pc = .ok (.ifCond .le off, 3)) (ht : (pc : Int) + off = (tgt : Int)) (hx : zR x) (kt : x ≤ 0 → zWP g M mo tgt lv st nc ns w) (kf : 0 < x → zWP g M mo (pc + 3) lv st nc ns w) : zWP g M mo pc lv (.int (zJ x) :: st) nc ns w := by
  intro p e s m args below meth c H locs ls C hl hW hS
  exact lv_if_le C.1 C.2.1 hd ht (fun h => kt ((zJ_le hx zR0).mp h) p e s m args below meth c H locs ls C hl hW hS) (fun h => kf (Int.not_le.mp fun q => h ((zJ_le hx zR0).mpr q)) p e s m args below meth c H locs ls C hl hW hS)
end ZR
end
section
/-! RULES of the heap, of calls and of ends -/
theorem zJ_vp {x : Int} {n : Nat} (h0 : 0 ≤ x) (h : x < n) (hn : n < 2147483648) : vp_in (zJ x) n := (zin h0 h hn).1
/-- a class of the world, by its number -/
def zCB (kc : Nat) (C : String) (T : u_T) (N : Nat) : Prop := vwCl[kc]? = some (C, T, N) ∧ kc < 12 ∧ N = zNF kc ∧ (∀ k, k < N → (T k).1 = C) ∧ (∃ ty : Nat → FieldType, ∀ k, k < N → parseFieldDescriptor (T k).2.2.1 = some (ty k)) ∧ (∀ a, a < N → ∀ b, b < N → a ≠ b → (T a).2.1 ≠ (T b).2.1) ∧ (∀ w ∈ u_ws C T N, w ∈ ztbl)
/-- an entry of a class's pool that links a field -/
def zFL (own : String) (idx kc k : Nat) (ty : FieldType) (fin : Bool) : Prop := ∃ (C : String) (T : u_T) (N : Nat), zCB kc C T N ∧ k < N ∧ (T k).2.2.2 = fin ∧ parseFieldDescriptor (T k).2.2.1 = some ty ∧ Cond.fieldLink own idx C (T k).2.1 (T k).2.2.1 ∈ ztbl
/-- a method that can be called -/
def zCal (M : zM) (n : Nat) : Prop := Cond.initialized M.1.cls ∈ ztbl ∧ Cond.code M.1 M.2.1 M.2.2.1 M.2.2.2.1 ∈ ztbl ∧ M.1.cls ≠ "java/lang/invoke/MethodHandle" ∧ M.1.cls ≠ "java/lang/invoke/VarHandle" ∧ (parseMethodDescriptor M.1.desc).map (fun d => d.parameters.length) = some n
def zRm (M M' : zM) : Prop := M'.2.2.2.2.frames + 1 ≤ M.2.2.2.2.frames ∧ 8 + (M'.2.2.1 + 11) + M'.2.2.2.2.locals ≤ M.2.2.2.2.locals
theorem z_good {big : List Cond} {w : Cond} (hb : ∀ w ∈ ztbl, w ∈ big) (h : w ∈ ztbl) : w ∈ big ∧ ((w.onTables && w.keeps) = true ∨ ∃ ty, w = .arrayClass ty) := ⟨hb w h, good_of_word (List.mem_filter.mp h).2⟩
theorem z_goodIn {ws : List Cond} (h : ∀ w ∈ ws, w ∈ ztbl) : GoodIn ztbl ws := fun w hw => z_good (fun _ h => h) (h w hw)
theorem zws_in {M : zM} {n : Nat} (h : zCal M n) : ∀ w ∈ zws M, w ∈ ztbl := fun w hw => (List.mem_cons.mp hw).elim (fun e => by rw [e]; exact h.2.1) (fun h => h)
theorem zUvm {g : zG} {u U : State} (hv : U.vm = u.vm) (hh : U.heap = u.heap) (h : zU g u) : zU g U := by
  obtain ⟨h1, h2, h3, h4, h5⟩ := h
  have ha : u.vm.Alike U.vm := by rw [hv]; exact Vm.Alike.refl _
  refine ⟨va_K.moved ha h1, fun q hq => va_Nw.same rfl hv.symm (h2 q hq), fun k hk => vk_R.same hv (h3 k hk), ?_, ?_⟩
  · rw [hh]; exact vk_S.moved ha h4
  · rw [hh]; exact va_Z.moved ha h5
theorem zUwarm {g : zG} {s U : State} (hW : s.WarmedH U.vm) (hq : ∀ a : Nat, a < s.heap.size → ¬ zA g a → U.heap[a]? = s.heap[a]?) (h : zU g s) : zU g U := by
  obtain ⟨h1, h2, h3, h4, h5⟩ := h
  exact ⟨va_K.moved hW.alike h1, fun q hq => va_Nw.warmM hW (h2 q hq), fun k hk => vk_R.warm hW (h3 k hk), (vk_S.moved hW.alike h4).kept hq, (va_Z.moved hW.alike h5).kept hq⟩
theorem z_blind {g : zG} {w : zWS} {av : List Value} : FrameBlind (va_Pc av (fun U => zU g U ∧ zgB g ≤ U.heap.size ∧ zHW g w U.heap)) := fun a U f mk h =>
  ⟨h.1, zUvm (u := U) rfl rfl h.2.1, h.2.2⟩
theorem zlv_args (g : zG) : ∀ (vs : List Value) (i : Nat), lv_args i (vs.map (ztv g)) = zlv g (lv_args i vs)
  | [], _ => rfl
  | v :: vs, i => by
    show (i, ztv g v) :: lv_args _ (vs.map (ztv g)) = (i, ztv g v) :: zlv g (lv_args _ vs)
    rw [ztv_cat, zlv_args g vs]
theorem zlg_len (g : zG) : ∀ (vs : List Value), (lg_sl (vs.map (ztv g))).length = (lg_sl vs).length
  | [] => rfl
  | v :: vs => by
    have ih := zlg_len g vs
    simp only [lg_sl, List.map_cons, List.flatMap_cons, List.length_append, ztv_cat] at ih ⊢
    rw [ih]
    by_cases h : v.category = 2 <;> simp [h]
/-- a method's contract, by its walk -/
theorem zok_of {g : zG} {M : zM} {args : List Value} {w : zWS} {Φ : Option Value → zWS → Prop} (hy : plainName M.1.cls = true) (hn : Nat.ble (lg_sl args).length M.2.2.1 = true) (k : zWP g M (zmo g M Φ) 0 (lv_args 0 args) [] 0 0 w) : zOK g M args w Φ := by
  refine Met.ofW (cc := M.2.1) (maxL := M.2.2.1) (ret := M.2.2.2.1) hy rfl ?_
  intro p e s m av below meth c s₁ B hml hv
  obtain ⟨rfl, hU, hB, hW⟩ := hv
  have hts := atoms_spec (ws := zws M) B.pre
  have hl := lv_entry (args.map (ztv g)) (n := M.2.2.1) (by rw [zlg_len]; exact Nat.le_of_ble_eq_true hn)
  rw [lg_entry_eq]
  generalize (lg_sl (args.map (ztv g)) ++ List.replicate (M.2.2.1 - (lg_sl (args.map (ztv g))).length) Slot.unset).toArray = ls at hl ⊢
  rw [zlv_args] at hl
  exact k p e s m _ below meth c s.heap [] ls ⟨B.exec, B.bytes, hml, B.returns, fun x hx => hts x (List.mem_cons_of_mem _ hx), findClass_of_methodNamed B.named, B.notSynchronized, fun _ => (name_of_methodNamed B.named B.method).1.trans (by assumption), hU, hB, trivial⟩ hl hW va_S.rf
theorem zOK.mono {g : zG} {M : zM} {args : List Value} {w : zWS} {Φ Ψ : Option Value → zWS → Prop} (h : zOK g M args w Φ) (hm : ∀ r w', Φ r w' → Ψ r w') : zOK g M args w Ψ := by
  intro p e ha hc hk s m av below hf happ hP hK
  obtain ⟨t, o, h1, h2, h3, ⟨⟨⟨r, w', q1, q2, q3⟩, q4⟩, q5⟩⟩ := h p e ha hc hk s m av below hf happ hP hK
  exact ⟨t, o, h1, h2, h3, ⟨⟨⟨r, w', q1, hm r w' q2, q3⟩, q4⟩, q5⟩⟩
section ZH
variable {g : zG} {M : zM} {mo : zMo} {pc nc ns : Nat} {lv : List (Nat × Value)} {st : List Value} {w : zWS}
-- fields
theorem zw_getI {i idx kc k n : Nat} {ty : FieldType} {fin : Bool} (hF : zFL M.1.cls idx kc k ty fin) (hd : decode M.2.1 pc = .ok (.getfield idx, 3)) (hr : (zRk kc).getD k false = false) (hs : w.1[i]? = some (kc, n)) (kk : zWP g M mo (pc + 3) lv (.int (zJ (w.2.2 i k)) :: st) nc ns w) : zWP g M mo pc lv (.ref i :: st) nc ns w := by
  intro p e s m args below meth c H locs ls C hl hW hS
  obtain ⟨Cn, T, N, ⟨c1, c2, c3, c4, -, -, c7⟩, f1, -, -, f2⟩ := hF
  have he := zwl_get (g := g) hs hW.2.2
  rw [zce_ob c2] at he
  refine va_get (Ts := ztbl) C.1 C.2.1 C.2.2.2.2.1 c7 C.2.2.2.2.2.1 C.2.2.2.2.2.2.2.2.1.1 hW.1 i he c1 k f1 (C.2.2.2.2.1 _ f2) (fun x h => by rw [c4 k f1] at h; exact h) (v := .int (zJ (w.2.2 i k))) ?_ hd (kk p e s m args below meth c H locs ls C hl hW hS)
  rw [List.getElem?_map, List.getElem?_range (by rw [← c3]; exact f1)]
  exact congrArg some (zfv_ne hr)
theorem zw_getR {i idx kc k n r : Nat} {ty : FieldType} {fin : Bool} (hF : zFL M.1.cls idx kc k ty fin) (hd : decode M.2.1 pc = .ok (.getfield idx, 3)) (hr : (zRk kc).getD k false = true) (hs : w.1[i]? = some (kc, n)) (hv : w.2.1 i k = some r) (kk : zWP g M mo (pc + 3) lv (.ref r :: st) nc ns w) : zWP g M mo pc lv (.ref i :: st) nc ns w := by
  intro p e s m args below meth c H locs ls C hl hW hS
  obtain ⟨Cn, T, N, ⟨c1, c2, c3, c4, -, -, c7⟩, f1, -, -, f2⟩ := hF
  have he := zwl_get (g := g) hs hW.2.2
  rw [zce_ob c2] at he
  refine va_get (Ts := ztbl) C.1 C.2.1 C.2.2.2.2.1 c7 C.2.2.2.2.2.1 C.2.2.2.2.2.2.2.2.1.1 hW.1 i he c1 k f1 (C.2.2.2.2.1 _ f2) (fun x h => by rw [c4 k f1] at h; exact h) (v := .ref (zad g r)) ?_ hd (kk p e s m args below meth c H locs ls C hl hW hS)
  rw [List.getElem?_map, List.getElem?_range (by rw [← c3]; exact f1)]
  show some (zfv g w kc i k) = _
  rw [zfv_rf hr, hv]
  rfl
theorem zput {kc k : Nat} {C : String} {T : u_T} {N i n : Nat} {V : Value} {w' : zWS} {H H' : Heap} (hC : zCB kc C T N) (hk : k < N) (hW : zHW g w H) (hs : w.1[i]? = some (kc, n)) (hset : (zwl g w).set i (zad g i, .inr (kc, ((List.range (zNF kc)).map (zfv g w kc i)).set k V)) = zwl g w') (hlen : w'.1 = w.1) {s : State} {args : Array Value} (hts : ∀ w ∈ ztbl, w.before args s = true) (hK : va_K (zgD g) vwCl (zTys g) s) {cell : Cell} (hcell : H[zad g i]? = some cell) (hvm : cell.vm = .none)
    (e1 : H'[zad g i]? = some (cell.setSlot ((zgD g).2 kc k) V)) (e2 : H'.size = H.size) (e3 : ∀ q, q ≠ zad g i → H'[q]? = H[q]?) : zHW g w' H' := by
  obtain ⟨c1, c2, c3, c4, ⟨tyf, c5⟩, c6, c7⟩ := hC
  have he := zwl_get (g := g) hs hW.2.2
  rw [zce_ob c2] at he
  have hap := va_apart (own := C) hts c7 tyf c5 c6 hK c1
  obtain ⟨r, h1, cell', q1, q2, q3, q4⟩ := hW.1 i _ he
  have hr : r = (C, T, N) := Option.some.inj (h1.symm.trans c1)
  subst hr
  cases hcell.symm.trans q1
  refine ⟨?_, by rw [e2, hlen]; exact hW.2.1, by rw [hlen]; exact hW.2.2⟩
  rw [← hset]
  exact hW.1.set (zwl_D g w) he ⟨_, c1, t_OB.to (V := updV (vp_V ((List.range (zNF kc)).map (zfv g w kc i))) k V) ⟨_, e1, q2, q3, t_set q4 hap hk V⟩ (fun j _ => vp_updV_set (by rw [List.length_map, List.length_range, ← c3]; exact hk) V j)⟩ e3
theorem zw_putG {i idx kc k n : Nat} {ty : FieldType} {V : Value} {w' : zWS} (hF : zFL M.1.cls idx kc k ty false) (hd : decode M.2.1 pc = .ok (.putfield idx, 3)) (hs : w.1[i]? = some (kc, n)) (hnar : narrow ty (ztv g V) = ztv g V) (hfit : fits ty (ztv g V) = true) (hlen : w'.1 = w.1)
    (hset : w.1.length < 90000 → (zwl g w).set i (zad g i, .inr (kc, ((List.range (zNF kc)).map (zfv g w kc i)).set k (ztv g V))) = zwl g w') (kk : zWP g M mo (pc + 3) lv st nc ns w') : zWP g M mo pc lv (V :: .ref i :: st) nc ns w := by
  intro p e s m args below meth c H locs ls C hl hW hS
  obtain ⟨Cn, T, N, hC, f1, f3, f4, f2⟩ := hF
  obtain ⟨c1, c2, c3, c4, ⟨tyf, c5⟩, c6, c7⟩ := id hC
  have hts := C.2.2.2.2.1
  have hK := C.2.2.2.2.2.2.2.2.1.1
  have he := zwl_get (g := g) hs hW.2.2
  rw [zce_ob c2] at he
  obtain ⟨r, h1, cell, q1, q2, q3, q4⟩ := hW.1 i _ he
  have hr : r = (Cn, T, N) := Option.some.inj (h1.symm.trans c1)
  subst hr
  obtain ⟨hSl, hfc, kC, hkC, hkind⟩ := hK.1 kc _ c1
  obtain ⟨cf, kf, fi, f, hi, hsl⟩ := hSl k f1
  have hlay := hts _ (c7 _ (u_in_lay f1))
  unfold u_lay at hlay
  rw [if_neg (by rw [f3]; decide)] at hlay
  have hst := (u_facts hfc hkC (u_lays hts c7 f1) hi).1
  have h6 := u_store hfc hkC hkind hlay hi f4 hnar hfit
  have hi' : s.fieldFound? Cn (T k).2.1 (T k).2.2.1 = some (cf, kf, fi, f) := by rw [c4 k f1] at hi; exact hi
  refine W.putK C.1 C.2.1 (f := f) ⟨C.2.2.2.2.2.1, hts _ f2, ⟨_, _, _, hi'⟩, hst⟩ (by rw [q2]; exact h6) q1 q3 (by rw [hsl]; exact k2_hasslot (q4 k f1)) rfl rfl hd fun H' e1 e2 e3 => ?_
  rw [hsl] at e1 ⊢
  refine kk p e s m args below meth c H' _ ls C hl (zput hC f1 hW hs (hset hW.2.2) hlen hts hK q1 q3 e1 e2 e3) (hS.put e2 e3 ?_)
  show zgB g ≤ zad g i
  have hi2 : i < w.1.length := (List.getElem?_eq_some_iff.mp hs).1
  rw [zad, if_pos (by have := hW.2.2; omega)]
  exact Nat.le_add_right _ _
theorem zw_putF {i idx kc k n : Nat} {ty : FieldType} {V : Value} {w' : zWS} (hF : zFL M.1.cls idx kc k ty true) (hd : decode M.2.1 pc = .ok (.putfield idx, 3)) (hs : w.1[i]? = some (kc, n)) (hnar : narrow ty (ztv g V) = ztv g V) (hfit : fits ty (ztv g V) = true) (hlen : w'.1 = w.1) (hown : (vwCl.map (fun q => q.1))[kc]? = some M.1.cls) (hini : M.1.name = "<init>")
    (hset : w.1.length < 90000 → (zwl g w).set i (zad g i, .inr (kc, ((List.range (zNF kc)).map (zfv g w kc i)).set k (ztv g V))) = zwl g w') (kk : zWP g M mo (pc + 3) lv st nc ns w') : zWP g M mo pc lv (V :: .ref i :: st) nc ns w := by
  intro p e s m args below meth c H locs ls C hl hW hS
  obtain ⟨Cn, T, N, hC, f1, f3, f4, f2⟩ := hF
  obtain ⟨c1, c2, c3, c4, ⟨tyf, c5⟩, c6, c7⟩ := id hC
  have hts := C.2.2.2.2.1
  have hK := C.2.2.2.2.2.2.2.2.1.1
  have he := zwl_get (g := g) hs hW.2.2
  rw [zce_ob c2] at he
  obtain ⟨r, h1, cell, q1, q2, q3, q4⟩ := hW.1 i _ he
  have hr : r = (Cn, T, N) := Option.some.inj (h1.symm.trans c1)
  subst hr
  obtain ⟨hSl, hfc, kC, hkC, hkind⟩ := hK.1 kc _ c1
  obtain ⟨cf, kf, fi, f, hi, hsl⟩ := hSl k f1
  have hst := (u_facts hfc hkC (u_lays hts c7 f1) hi).1
  have hi' : s.fieldFound? Cn (T k).2.1 (T k).2.2.1 = some (cf, kf, fi, f) := by rw [c4 k f1] at hi; exact hi
  have hCn : Cn = M.1.cls := by
    rw [List.getElem?_map, c1] at hown
    exact Option.some.inj hown
  obtain ⟨v1, v2⟩ := u_fits hfc hkC hkind (u_lays hts c7 f1) hi f4 hnar hfit
  have hlay := hts _ (c7 _ (u_in_lay f1))
  unfold u_lay at hlay
  rw [if_pos f3] at hlay
  have hcf : m.cls = cf := by
    obtain ⟨_, _, c', _, _, _, -, -, hf', -, -, -, hown2, -⟩ := Cond.laysFinal_spec hlay
    have e1 : c' = cf := by have := hi.symm.trans hf'; simp at this; exact this.1.symm
    rw [c4 k f1, hCn] at hown2
    rw [← e1]; exact Option.some.inj (C.2.2.2.2.2.1.symm.trans hown2)
  have hlt : zad g i < H.size := (Array.getElem?_eq_some_iff.mp q1).1
  refine W.putf C.1 C.2.1 C.2.2.2.2.2.1 (hts _ f2) hi' hst (Or.inr ⟨hcf, C.2.2.2.2.2.2.2.1 hini⟩) q1 (by rw [q3]; exact fun h => by cases h) (by rw [hsl]; exact k2_hasslot (q4 k f1)) v1 (by rw [q2, q3]; exact v2) rfl rfl hd ?_
  rw [hsl]
  refine kk p e s m args below meth c _ _ ls C hl (zput (H' := H.setIfInBounds (zad g i) (cell.setSlot ((zgD g).2 kc k) (ztv g V))) hC f1 hW hs (hset hW.2.2) hlen hts hK q1 q3 (by simp [Array.getElem?_setIfInBounds, hlt]) (by simp) (fun q hq => by simp [Array.getElem?_setIfInBounds, Ne.symm hq])) (hS.put (by simp) (fun q hq => by simp [Array.getElem?_setIfInBounds, Ne.symm hq]) ?_)
  show zgB g ≤ zad g i
  have hi2 : i < w.1.length := (List.getElem?_eq_some_iff.mp hs).1
  rw [zad, if_pos (by have := hW.2.2; omega)]
  exact Nat.le_add_right _ _
end ZH
section ZH2
variable {g : zG} {M : zM} {mo : zMo} {pc nc ns : Nat} {lv : List (Nat × Value)} {st : List Value} {w : zWS}
theorem zw_putI {i idx kc k n : Nat} {x : Int} (hF : zFL M.1.cls idx kc k .int false) (hd : decode M.2.1 pc = .ok (.putfield idx, 3)) (hr : (zRk kc).getD k false = false) (hs : w.1[i]? = some (kc, n)) (kk : zWP g M mo (pc + 3) lv st nc ns (zuI w i k x)) : zWP g M mo pc lv (.int (zJ x) :: .ref i :: st) nc ns w := by
  have hk : kc < 12 ∧ k < zNF kc := by
    obtain ⟨_, _, _, ⟨-, c2, c3, -⟩, f1, -⟩ := hF
    exact ⟨c2, by rw [← c3]; exact f1⟩
  exact zw_putG (w' := zuI w i k x) hF hd hs rfl rfl rfl (fun hn => zw_uI hs hn hk.1 hk.2 hr) kk
theorem z01 {x : Int} (h : x = 0 ∨ x = 1) : narrow .boolean (.int (zJ x)) = .int (zJ x) ∧ fits .boolean (.int (zJ x)) = true := by
  rcases h with rfl | rfl <;> exact ⟨by decide +kernel, by decide +kernel⟩
theorem zw_putZ {i idx kc k n : Nat} {x : Int} (hF : zFL M.1.cls idx kc k .boolean false) (hd : decode M.2.1 pc = .ok (.putfield idx, 3)) (hr : (zRk kc).getD k false = false) (hs : w.1[i]? = some (kc, n)) (hx : x = 0 ∨ x = 1) (kk : zWP g M mo (pc + 3) lv st nc ns (zuI w i k x)) : zWP g M mo pc lv (.int (zJ x) :: .ref i :: st) nc ns w := by
  have hk : kc < 12 ∧ k < zNF kc := by
    obtain ⟨_, _, _, ⟨-, c2, c3, -⟩, f1, -⟩ := hF
    exact ⟨c2, by rw [← c3]; exact f1⟩
  exact zw_putG (w' := zuI w i k x) hF hd hs (z01 hx).1 (z01 hx).2 rfl (fun hn => zw_uI hs hn hk.1 hk.2 hr) kk
theorem zw_putRF {i idx kc k n r : Nat} {ty : FieldType} (hF : zFL M.1.cls idx kc k ty true) (hty : (∃ C, ty = .object C) ∨ ∃ t, ty = .array t) (hd : decode M.2.1 pc = .ok (.putfield idx, 3)) (hr : (zRk kc).getD k false = true) (hs : w.1[i]? = some (kc, n)) (hown : (vwCl.map (fun q => q.1))[kc]? = some M.1.cls) (hini : M.1.name = "<init>") (kk : zWP g M mo (pc + 3) lv st nc ns (zuR w i k (some r))) : zWP g M mo pc lv (.ref r :: .ref i :: st) nc ns w := by
  have hk : kc < 12 ∧ k < zNF kc := by
    obtain ⟨_, _, _, ⟨-, c2, c3, -⟩, f1, -⟩ := hF
    exact ⟨c2, by rw [← c3]; exact f1⟩
  exact zw_putF (w' := zuR w i k (some r)) hF hd hs (by rcases hty with ⟨C, rfl⟩ | ⟨t, rfl⟩ <;> rfl) (by rcases hty with ⟨C, rfl⟩ | ⟨t, rfl⟩ <;> rfl) rfl hown hini (fun hn => zw_uR (v := some r) hs hn hk.1 hk.2 hr) kk
-- arrays of ints
theorem zw_iaload {i n : Nat} {x : Int} (hd : decode M.2.1 pc = .ok (.iaload, 1)) (hs : w.1[i]? = some (12, n)) (h0 : 0 ≤ x) (hx : x < n) (hn : n < 2147483648) (kk : zWP g M mo (pc + 1) lv (.int (zJ (w.2.2 i x.toNat)) :: st) nc ns w) : zWP g M mo pc lv (.int (zJ x) :: .ref i :: st) nc ns w := by
  intro p e s m args below meth c H locs ls C hl hW hS
  have he := zwl_get (g := g) hs hW.2.2
  rw [zce_ar] at he
  obtain ⟨hin, ht⟩ := zin h0 hx hn
  refine va_iald C.1 C.2.1 C.2.2.2.2.2.2.2.2.1.1 hW.1 i 0 he rfl hin hd ?_
  rw [ht]
  exact kk p e s m args below meth c H locs ls C hl hW hS
theorem z_in {H : Heap} (hW : zHW g w H) {i : Nat} {sh : Nat × Nat} (hs : w.1[i]? = some sh) : zA g (zad g i) := by
  show zgB g ≤ zad g i
  have hi2 : i < w.1.length := (List.getElem?_eq_some_iff.mp hs).1
  rw [zad, if_pos (by have := hW.2.2; omega)]
  exact Nat.le_add_right _ _
theorem zw_iastore {i n : Nat} {x y : Int} (hd : decode M.2.1 pc = .ok (.iastore, 1)) (hs : w.1[i]? = some (12, n)) (h0 : 0 ≤ x) (hx : x < n) (hn : n < 2147483648) (kk : zWP g M mo (pc + 1) lv st nc ns (zuI w i x.toNat y)) : zWP g M mo pc lv (.int (zJ y) :: .int (zJ x) :: .ref i :: st) nc ns w := by
  intro p e s m args below meth c H locs ls C hl hW hS
  have he := zwl_get (g := g) hs hW.2.2
  rw [zce_ar] at he
  obtain ⟨hin, ht⟩ := zin h0 hx hn
  have hK := C.2.2.2.2.2.2.2.2.1.1
  have hc : H[zad g i]? = some (vp_cell (zgc g 12) (n, .inl (fun j => zJ (w.2.2 i j)))) := hW.1 i _ he
  refine W.iast C.1 C.2.1 hc ((hK.2 0 _ rfl).1 n (fun j => .int (zJ (w.2.2 i j)))) (fun q => by cases q) (by show ¬ (zJ x < 0 ∨ (arrV _ _ _).slots.size ≤ _); rw [arrV_size]; exact hin) rfl rfl hd fun H1 e1 e2 e3 => ?_
  refine kk p e s m args below meth c H1 _ ls C hl ⟨?_, by rw [e2]; exact hW.2.1, hW.2.2⟩ (hS.put e2 e3 (z_in hW hs))
  rw [← zuI_A, ← zw_aI (f := fun b => if b = x.toNat then zJ y else zJ (w.2.2 i b)) hs hW.2.2 (fun b => by by_cases hb : b = x.toNat <;> simp [hb])]
  refine hW.1.set (zwl_D g w) he ?_ e3
  show H1[zad g i]? = some (vp_cell _ _)
  rw [e1, vp_cell_i, vp_cell_i, arrV_store, ht]
  congr 2
  funext q
  by_cases hq : q = x.toNat
  · subst hq
    simp [updV]
  · simp [updV, hq]
theorem zw_alen {i k n : Nat} (hd : decode M.2.1 pc = .ok (.arraylength, 1)) (hs : w.1[i]? = some (k, n)) (hk : k = 12) (kk : zWP g M mo (pc + 1) lv (.int (zJ (n : Int)) :: st) nc ns w) : zWP g M mo pc lv (.ref i :: st) nc ns w := by
  intro p e s m args below meth c H locs ls C hl hW hS
  subst hk
  have he := zwl_get (g := g) hs hW.2.2
  rw [zce_ar] at he
  exact va_alen C.1 C.2.1 C.2.2.2.2.2.2.2.2.1.1 hW.1 i 0 he rfl (v := zJ (n : Int)) rfl hd (kk p e s m args below meth c H locs ls C hl hW hS)
-- arrays of references
theorem zw_aaload {i n r k : Nat} {x : Int} (hd : decode M.2.1 pc = .ok (.aaload, 1)) (hs : w.1[i]? = some (k, n)) (hk : k = 13 ∨ k = 14 ∨ k = 15) (h0 : 0 ≤ x) (hx : x < n) (hn : n < 2147483648) (hv : w.2.1 i x.toNat = some r) (kk : zWP g M mo (pc + 1) lv (.ref r :: st) nc ns w) : zWP g M mo pc lv (.int (zJ x) :: .ref i :: st) nc ns w := by
  intro p e s m args below meth c H locs ls C hl hW hS
  have he := zwl_get (g := g) hs hW.2.2
  rw [zce_rr (by omega)] at he
  obtain ⟨hin, ht⟩ := zin h0 hx hn
  have hK := C.2.2.2.2.2.2.2.2.1.1
  have hc : H[zad g i]? = some (vp_cell (zgc g k) (n, .inr (.inr (.inr (.inr (fun j => (w.2.1 i j).map (zad g))))))) := hW.1 i _ he
  have hlt : (zJ x).toNatClampNeg < n := Nat.not_le.mp fun q => hin (Or.inr q)
  obtain ⟨ty, hty, hA⟩ : ∃ ty : FieldType, ty.isReference = true ∧ ArrOfT s (zgc g k) ty := by
    rcases hk with rfl | rfl | rfl
    · exact ⟨_, rfl, (hK.2 1 _ rfl).1⟩
    · exact ⟨_, rfl, (hK.2 2 _ rfl).1⟩
    · exact ⟨_, rfl, (hK.2 3 _ rfl).1⟩
  refine W.aald (v := .ref (zad g r)) (ty := ty) C.1 C.2.1 hc (hA n (fun j => va_rf ((w.2.1 i j).map (zad g)))) hty (fun q => by cases q) (by show ¬ (zJ x < 0 ∨ (arrV _ _ _).slots.size ≤ _); rw [arrV_size]; exact hin) (by show (arrV _ _ _).slots[_]? = _; rw [arrV_read _ _ hlt, ht]; show some (va_rf ((w.2.1 i x.toNat).map (zad g))) = _; rw [hv]; rfl) rfl rfl hd (kk p e s m args below meth c H locs ls C hl hW hS)
-- ends
theorem zw_iret {Φ : Option Value → zWS → Prop} {x : Int} (hd : decode M.2.1 pc = .ok (.ireturn, 1)) (hr : M.2.2.2.1 = some .int) (hn : nc ≤ M.2.2.2.2.cells) (hs : ns ≤ M.2.2.2.2.slots) (h : Φ (some (.int (zJ x))) w) : zWP g M (zmo g M Φ) pc lv [.int (zJ x)] nc ns w := by
  intro p e s m args below meth c H locs ls C hl hW hS
  refine W.widen hn hs ?_
  exact W.iret C.1 C.2.1 (C.2.2.2.1.trans hr) (fun t ht hv => ⟨⟨some (.int (zJ x)), w, rfl, h, by rw [ht]; exact hW⟩, hS.F ht⟩) hS.2.2 hd C.2.2.2.2.2.2.1
theorem zw_zret {Φ : Option Value → zWS → Prop} {x : Int} (hd : decode M.2.1 pc = .ok (.ireturn, 1)) (hr : M.2.2.2.1 = some .boolean) (hn : nc ≤ M.2.2.2.2.cells) (hs : ns ≤ M.2.2.2.2.slots) (hx : x = 0 ∨ x = 1) (h : Φ (some (.int (zJ x))) w) : zWP g M (zmo g M Φ) pc lv [.int (zJ x)] nc ns w := by
  intro p e s m args below meth c H locs ls C hl hW hS
  refine W.widen hn hs ?_
  exact W.zret C.1 C.2.1 (C.2.2.2.1.trans hr) (z01 hx).1 (fun t ht hv => ⟨⟨some (.int (zJ x)), w, rfl, h, by rw [ht]; exact hW⟩, hS.F ht⟩) hS.2.2 hd C.2.2.2.2.2.2.1
theorem zw_lret {Φ : Option Value → zWS → Prop} {x : Int} (hd : decode M.2.1 pc = .ok (.lreturn, 1)) (hr : M.2.2.2.1 = some .long) (hn : nc ≤ M.2.2.2.2.cells) (hs : ns ≤ M.2.2.2.2.slots) (h : Φ (some (.long (zL x))) w) : zWP g M (zmo g M Φ) pc lv [.long (zL x)] nc ns w := by
  intro p e s m args below meth c H locs ls C hl hW hS
  refine W.widen hn hs ?_
  exact W.lret C.1 C.2.1 (C.2.2.2.1.trans hr) (fun t ht hv => ⟨⟨some (.long (zL x)), w, rfl, h, by rw [ht]; exact hW⟩, hS.F ht⟩) hS.2.2 hd C.2.2.2.2.2.2.1
theorem zw_aret {Φ : Option Value → zWS → Prop} {r : Nat} {C : String} (hd : decode M.2.1 pc = .ok (.areturn, 1)) (hr : M.2.2.2.1 = some (.object C)) (hn : nc ≤ M.2.2.2.2.cells) (hs : ns ≤ M.2.2.2.2.slots) (h : Φ (some (.ref r)) w) : zWP g M (zmo g M Φ) pc lv [.ref r] nc ns w := by
  intro p e s m args below meth c H locs ls C hl hW hS
  refine W.widen hn hs ?_
  exact W.aret C.1 C.2.1 (C.2.2.2.1.trans hr) (Or.inl ⟨_, rfl⟩) (Or.inr ⟨_, rfl⟩) (fun t ht hv => ⟨⟨some (.ref r), w, rfl, h, by rw [ht]; exact hW⟩, hS.F ht⟩) hS.2.2 hd C.2.2.2.2.2.2.1
theorem zw_vret {Φ : Option Value → zWS → Prop} (hd : decode M.2.1 pc = .ok (.return_, 1)) (hr : M.2.2.2.1 = none) (hn : nc ≤ M.2.2.2.2.cells) (hs : ns ≤ M.2.2.2.2.slots) (h : Φ none w) : zWP g M (zmo g M Φ) pc lv [] nc ns w := by
  intro p e s m args below meth c H locs ls C hl hW hS
  refine W.widen hn hs ?_
  exact W.vret C.1 C.2.1 (C.2.2.2.1.trans hr) (fun t ht hv => ⟨⟨none, w, rfl, h, by rw [ht]; exact hW⟩, hS.F ht⟩) hS.2.2 hd C.2.2.2.2.2.2.1
-- constants
theorem zw_ldc2 {idx : Nat} {v : Int} (hd : decode M.2.1 pc = .ok (.ldc2_w idx, 3)) (hw : Cond.constantLong M.1.cls idx (zL v) ∈ ztbl) (kk : zWP g M mo (pc + 3) lv (.long (zL v) :: st) nc ns w) : zWP g M mo pc lv st nc ns w := by
  intro p e s m args below meth c H locs ls C hl hW hS
  exact lv_ldc2 C.1 C.2.1 C.2.2.2.2.2.1 (C.2.2.2.2.1 _ hw) hd (kk p e s m args below meth c H locs ls C hl hW hS)
-- switches
theorem zw_swIn {dflt lo hi : Int} {offs : Array Int} {len : Nat} {x off : Int} {tgt : Nat} (hd : decode M.2.1 pc = .ok (.tableswitch dflt lo hi offs, len)) (hx : zR x) (h1 : lo ≤ x) (h2 : x ≤ hi) (ho : offs[(x - lo).toNat]? = some off) (ht : (pc : Int) + off = (tgt : Int)) (kk : zWP g M mo tgt lv st nc ns w) : zWP g M mo pc lv (.int (zJ x) :: st) nc ns w := by
  intro p e s m args below meth c H locs ls C hl hW hS
  exact lv_tableIn C.1 C.2.1 hd (by rw [zJ_toInt hx]; omega) (by rw [zJ_toInt hx]; omega) (by rw [zJ_toInt hx]; exact ho) ht (kk p e s m args below meth c H locs ls C hl hW hS)
theorem zw_swOut {dflt lo hi : Int} {offs : Array Int} {len : Nat} {x : Int} {tgt : Nat} (hd : decode M.2.1 pc = .ok (.tableswitch dflt lo hi offs, len)) (hx : zR x) (h : x < lo ∨ hi < x) (ht : (pc : Int) + dflt = (tgt : Int)) (kk : zWP g M mo tgt lv st nc ns w) : zWP g M mo pc lv (.int (zJ x) :: st) nc ns w := by
  intro p e s m args below meth c H locs ls C hl hW hS
  exact lv_tableOut C.1 C.2.1 hd (by rw [zJ_toInt hx]; exact h) ht (kk p e s m args below meth c H locs ls C hl hW hS)
end ZH2
end
section
/-! RULES of calls -/
theorem z_opt (g : zG) (r : Option Value) (st : List Value) : (r.map (ztv g)).toList ++ st.map (ztv g) = (r.toList ++ st).map (ztv g) := by cases r <;> rfl
theorem z_rev (g : zG) (As : List Value) (st : List Value) : (As.reverse ++ st).map (ztv g) = (As.map (ztv g)).reverse ++ st.map (ztv g) := by rw [List.map_append, List.map_reverse]
theorem z_sum (g : zG) (st : List Value) : ((st.map (ztv g)).map fun v => v.category).sum = (st.map fun v => v.category).sum := by
  rw [List.map_map]
  congr 1
  apply List.map_congr_left
  intro v _
  exact ztv_cat g v
section ZC
variable {g : zG} {M : zM} {mo : zMo} {pc nc ns : Nat} {lv : List (Nat × Value)} {st : List Value} {w : zWS}
theorem zw_run {p : Program} {e : Env} {s : State} {m : MethodId} {args : Array Value} {below : List Frame} {meth : Method} {c : Code} {H : Heap} {locs : List Loc} {ls : Array Slot} {mc ms : Nat} {Φ : Option Value → zWS → Prop} {a : Array Value} {st0 : List Value}
    (hr : va_Run p (zgl g) e M.2.2.2.2 s m args below meth c H locs nc ns mc ms (F0 m pc ls st0) (st.map (ztv g)) (zQ g Φ a) (zA g)) (C : zCX g M mo.1 p s m args meth c) (hl : lv_has ls M.2.2.1 (zlv g lv)) (hS : va_S (zA g) s.heap H locs)
    (kk : ∀ r w', Φ r w' → zWP g M mo (pc + 3) lv (r.toList ++ st) (nc + mc) (ns + ms) w') : W p (zgl g) e M.2.2.2.2 s m args below meth c H locs nc ns (mo.2 below args s) (F0 m pc ls st0) := by
  intro T hT X
  obtain ⟨v, st₀, t, T', L, h0, X', hL, e1, e2, ⟨⟨r, w', hv, hp, hb⟩, hz, hk⟩, stp⟩ := hr T hT X
  cases hv
  rw [h0] at hz hk
  obtain ⟨t2, a1, b1⟩ := kk r w' hp p e s m args below meth c T'.heap (locs ++ L) ls C hl (by rw [e1]; exact hb)
    ⟨Nat.le_trans hS.1 (by rw [e1]; exact hz), fun q h1 h2 => by rw [e1, hk q (Nat.lt_of_lt_of_le h1 hS.1) h2]; exact hS.2.1 q h1 h2, fun q hq => by
      rcases List.mem_append.mp hq with h | h
      · exact hS.2.2 q h
      · exact hL q h⟩ T' rfl X'
  rw [← z_opt] at a1
  exact ⟨t2, stp t2 a1, b1⟩
theorem z_pre {p : Program} {s : State} {m : MethodId} {args : Array Value} {meth : Method} {c : Code} {H : Heap} {locs : List Loc} (C : zCX g M mo.1 p s m args meth c) (hW : zHW g w H) (hS : va_S (zA g) s.heap H locs) (As : List Value) :
    PreS s H (va_Pc (As.map (ztv g)) (fun U => zU g U ∧ zgB g ≤ U.heap.size ∧ zHW g w U.heap)) (As.map (ztv g)) :=
  ⟨z_blind, fun U hU hv => ⟨rfl, zUwarm hv (fun a h1 h2 => by rw [hU]; exact hS.2.1 a h1 h2) C.2.2.2.2.2.2.2.2.1, by rw [hU]; exact Nat.le_trans C.2.2.2.2.2.2.2.2.2.1 hS.1, by rw [hU]; exact hW⟩⟩
theorem zw_callV {M' : zM} {idx kc n b k : Nat} {As : List Value} (hcal : zCal M' n) (hin : Cond.instanceMethod M'.1 ∈ ztbl) (hse : Cond.selects M'.1.cls M'.1 M'.1 ∈ ztbl) (hli : Cond.methodLink M.1.cls idx M'.1 ∈ ztbl) (hd : decode M.2.1 pc = .ok (.invokevirtual idx, 3)) (hrm : zRm M M') (hn : As.length = n)
    (hs : w.1[b]? = some (kc, k)) (hkc : kc < 12) (hcls : (vwCl.map (fun q => q.1))[kc]? = some M'.1.cls) (hsum : Nat.ble (st.map fun v => v.category).sum 8 = true) (hc1 : nc + M'.2.2.2.2.cells ≤ M.2.2.2.2.cells) (hc2 : ns + M'.2.2.2.2.slots ≤ M.2.2.2.2.slots)
    (hOK : zOK g M' (.ref b :: As) w (fun r w' => zWP g M mo (pc + 3) lv (r.toList ++ st) (nc + M'.2.2.2.2.cells) (ns + M'.2.2.2.2.slots) w')) : zWP g M mo pc lv (As.reverse ++ .ref b :: st) nc ns w := by
  intro p e s m args below meth c H locs ls C hl hW hS
  have hts := C.2.2.2.2.1
  have he := zwl_get (g := g) hs hW.2.2
  rw [zce_ob hkc] at he
  obtain ⟨q, hq, hqc⟩ : ∃ q, vwCl[kc]? = some q ∧ q.1 = M'.1.cls := by
    rw [List.getElem?_map] at hcls
    cases hz : vwCl[kc]? with
    | none => rw [hz] at hcls; cases hcls
    | some q => rw [hz] at hcls; exact ⟨q, rfl, Option.some.inj hcls⟩
  have hrecv := va_recv C.2.2.2.2.2.2.2.2.1.1 hW.1 hq he
  rw [hqc] at hrecv
  have hall : ∀ x ∈ wsV M.1.cls idx M'.1.cls M'.1 (zws M'), x ∈ ztbl := fun x hx => by
    rcases List.mem_append.mp hx with h | h
    · simp only [List.mem_cons, List.not_mem_nil, or_false] at h
      rcases h with rfl | rfl | rfl | rfl
      · exact hli
      · exact hin
      · exact hse
      · exact hcal.1
    · exact zws_in hcal x h
  rw [z_rev, List.map_cons]
  refine zw_run (st := st) (va_runV (As := As.map (ztv g)) (rest := st.map (ztv g)) (b := zad g b) ⟨C.1, C.2.1, C.2.2.1, C.2.2.2.2.2.1, hts⟩ hOK (cwV n hts (z_goodIn hall) rfl rfl rfl ⟨rfl, hcal.2.2⟩ hrm) ⟨z_blind, hrecv, (z_pre C hW hS (.ref b :: As)).2⟩ rfl (by rw [List.length_map]; exact hn) hl.1 rfl (lv_room (by rw [z_sum]; exact Nat.le_of_ble_eq_true hsum)) hd ⟨hc1, hc2⟩) C hl hS (fun r w' h => h)
theorem zw_callS {M' : zM} {idx n : Nat} {As : List Value} (hcal : zCal M' n) (hst : Cond.static M'.1 ∈ ztbl) (hli : Cond.methodLink M.1.cls idx M'.1 ∈ ztbl) (hd : decode M.2.1 pc = .ok (.invokestatic idx, 3)) (hrm : zRm M M') (hn : As.length = n)
    (hsum : Nat.ble (st.map fun v => v.category).sum 8 = true) (hc1 : nc + M'.2.2.2.2.cells ≤ M.2.2.2.2.cells) (hc2 : ns + M'.2.2.2.2.slots ≤ M.2.2.2.2.slots)
    (hOK : zOK g M' As w (fun r w' => zWP g M mo (pc + 3) lv (r.toList ++ st) (nc + M'.2.2.2.2.cells) (ns + M'.2.2.2.2.slots) w')) : zWP g M mo pc lv (As.reverse ++ st) nc ns w := by
  intro p e s m args below meth c H locs ls C hl hW hS
  have hts := C.2.2.2.2.1
  have hall : ∀ x ∈ va_wsS M.1.cls idx M'.1 (zws M'), x ∈ ztbl := fun x hx => by
    rcases List.mem_append.mp hx with h | h
    · simp only [List.mem_cons, List.not_mem_nil, or_false] at h
      rcases h with rfl | rfl | rfl
      · exact hli
      · exact hst
      · exact hcal.1
    · exact zws_in hcal x h
  rw [z_rev]
  refine zw_run (st := st) (va_runS (As := As.map (ztv g)) (rest := st.map (ztv g)) ⟨C.1, C.2.1, C.2.2.1, C.2.2.2.2.2.1, hts⟩ hOK (va_cwS n hts (z_goodIn hall) rfl rfl rfl hcal.2.2 hrm) (z_pre C hW hS As) rfl (by rw [List.length_map]; exact hn) hl.1 rfl (lv_room (by rw [z_sum]; exact Nat.le_of_ble_eq_true hsum)) hd ⟨hc1, hc2⟩) C hl hS (fun r w' h => h)
theorem zw_callSN {M' : zM} {idx n : Nat} {host : String} {As : List Value} (hcal : zCal M' n) (hst : Cond.static M'.1 ∈ ztbl) (hne : (M.1.cls, idx, M'.1, host) ∈ zNest) (hd : decode M.2.1 pc = .ok (.invokestatic idx, 3)) (hrm : zRm M M') (hn : As.length = n)
    (hsum : Nat.ble (st.map fun v => v.category).sum 8 = true) (hc1 : nc + M'.2.2.2.2.cells ≤ M.2.2.2.2.cells) (hc2 : ns + M'.2.2.2.2.slots ≤ M.2.2.2.2.slots)
    (hOK : zOK g M' As w (fun r w' => zWP g M mo (pc + 3) lv (r.toList ++ st) (nc + M'.2.2.2.2.cells) (ns + M'.2.2.2.2.slots) w')) : zWP g M mo pc lv (As.reverse ++ st) nc ns w := by
  intro p e s m args below meth c H locs ls C hl hW hS
  have hts := C.2.2.2.2.1
  rw [z_rev]
  refine zw_run (st := st) (va_runSN (As := As.map (ztv g)) (rest := st.map (ztv g)) ⟨C.1, C.2.1, C.2.2.1, C.2.2.2.2.2.1, hts⟩ hOK ⟨va_cnB n hts (z_goodIn (zws_in hcal)) rfl rfl rfl (C.2.2.2.2.2.2.2.2.1.2.1 _ hne) (hts _ hcal.1) hcal.2.2 hrm, hts _ hst, trivial⟩ (z_pre C hW hS As) rfl (by rw [List.length_map]; exact hn) hl.1 rfl (lv_room (by rw [z_sum]; exact Nat.le_of_ble_eq_true hsum)) hd ⟨hc1, hc2⟩) C hl hS (fun r w' h => h)
theorem zw_callIN {M' : zM} {idx n b : Nat} {host : String} {As : List Value} (hcal : zCal M' n) (hr : M'.2.2.2.1 = none) (hin : Cond.instanceMethod M'.1 ∈ ztbl) (hne : (M.1.cls, idx, M'.1, host) ∈ zNest) (hini : M'.1.name = "<init>") (hd : decode M.2.1 pc = .ok (.invokespecial idx, 3)) (hrm : zRm M M') (hn : As.length = n)
    (hsum : Nat.ble (st.map fun v => v.category).sum 8 = true) (hc1 : nc + M'.2.2.2.2.cells ≤ M.2.2.2.2.cells) (hc2 : ns + M'.2.2.2.2.slots ≤ M.2.2.2.2.slots)
    (hOK : zOK g M' (.ref b :: As) w (fun r w' => zWP g M mo (pc + 3) lv (r.toList ++ st) (nc + M'.2.2.2.2.cells) (ns + M'.2.2.2.2.slots) w')) : zWP g M mo pc lv (As.reverse ++ .ref b :: st) nc ns w := by
  intro p e s m args below meth c H locs ls C hl hW hS
  have hts := C.2.2.2.2.1
  rw [z_rev, List.map_cons]
  refine zw_run (st := st) (va_runIN (As := As.map (ztv g)) (rest := st.map (ztv g)) (b := zad g b) ⟨C.1, C.2.1, C.2.2.1, C.2.2.2.2.2.1, hts⟩ hOK ⟨va_cnB n hts (z_goodIn (zws_in hcal)) (by rw [zws, hr]) rfl rfl (C.2.2.2.2.2.2.2.2.1.2.1 _ hne) (hts _ hcal.1) hcal.2.2 hrm, hini, hts _ hin⟩ (z_pre C hW hS (.ref b :: As)) rfl (by rw [List.length_map]; exact hn) hl.1 rfl (lv_room (by rw [z_sum]; exact Nat.le_of_ble_eq_true hsum)) hd ⟨hc1, hc2⟩) C hl hS (fun r w' h => h)
theorem zw_callI {M' : zM} {idx n b : Nat} {As : List Value} (hcal : zCal M' n) (hr : M'.2.2.2.1 = none) (hin : Cond.instanceMethod M'.1 ∈ ztbl) (hli : Cond.methodLink M.1.cls idx M'.1 ∈ ztbl) (hini : M'.1.name = "<init>") (hd : decode M.2.1 pc = .ok (.invokespecial idx, 3)) (hrm : zRm M M') (hn : As.length = n)
    (hsum : Nat.ble (st.map fun v => v.category).sum 8 = true) (hc1 : nc + M'.2.2.2.2.cells ≤ M.2.2.2.2.cells) (hc2 : ns + M'.2.2.2.2.slots ≤ M.2.2.2.2.slots)
    (hOK : zOK g M' (.ref b :: As) w (fun r w' => zWP g M mo (pc + 3) lv (r.toList ++ st) (nc + M'.2.2.2.2.cells) (ns + M'.2.2.2.2.slots) w')) : zWP g M mo pc lv (As.reverse ++ .ref b :: st) nc ns w := by
  intro p e s m args below meth c H locs ls C hl hW hS
  have hts := C.2.2.2.2.1
  rw [z_rev, List.map_cons]
  refine zw_run (st := st) (va_runI (As := As.map (ztv g)) (rest := st.map (ztv g)) (b := zad g b) ⟨C.1, C.2.1, C.2.2.1, C.2.2.2.2.2.1, hts⟩ hOK (cwI n hts (z_goodIn (zws_in hcal)) (by rw [zws, hr]) rfl rfl (hts _ hcal.1) (hts _ hli) (hts _ hin) hini hcal.2.2 hrm) (z_pre C hW hS (.ref b :: As)) rfl (by rw [List.length_map]; exact hn) hl.1 rfl (lv_room (by rw [z_sum]; exact Nat.le_of_ble_eq_true hsum)) hd ⟨hc1, hc2⟩) C hl hS (fun r w' h => h)
end ZC
-- typed: what comes back
section ZT
variable {g : zG} {M : zM} {args : List Value} {w : zWS}
theorem zOKi.to {φ : Int → zWS → Prop} {Ψ : Option Value → zWS → Prop} (h : zOKi g M args w φ) (k : ∀ x w', φ x w' → Ψ (some (.int (zJ x))) w') : zOK g M args w Ψ := zOK.mono h (fun r w' ⟨x, hx, hp⟩ => by rw [hx]; exact k x w' hp)
theorem zOKl.to {φ : Int → zWS → Prop} {Ψ : Option Value → zWS → Prop} (h : zOKl g M args w φ) (k : ∀ x w', φ x w' → Ψ (some (.long (zL x))) w') : zOK g M args w Ψ := zOK.mono h (fun r w' ⟨x, hx, hp⟩ => by rw [hx]; exact k x w' hp)
theorem zOKr.to {φ : Nat → zWS → Prop} {Ψ : Option Value → zWS → Prop} (h : zOKr g M args w φ) (k : ∀ x w', φ x w' → Ψ (some (.ref x)) w') : zOK g M args w Ψ := zOK.mono h (fun r w' ⟨x, hx, hp⟩ => by rw [hx]; exact k x w' hp)
theorem zOKv.to {φ : zWS → Prop} {Ψ : Option Value → zWS → Prop} (h : zOKv g M args w φ) (k : ∀ w', φ w' → Ψ none w') : zOK g M args w Ψ := zOK.mono h (fun r w' ⟨hx, hp⟩ => by rw [hx]; exact k w' hp)
end ZT
section ZB
variable {g : zG} {M : zM} {mo : zMo} {pc nc ns : Nat} {lv : List (Nat × Value)} {st : List Value} {w : zWS}
-- Math, arraycopy
theorem zw_min {idx : Nat} {x y : Int} (hli : Cond.methodLink M.1.cls idx Lib.Math.min.name ∈ ztbl) (hst : Cond.static Lib.Math.min.name ∈ ztbl) (hini : Cond.initialized "java/lang/Math" ∈ ztbl) (hco : Cond.code Lib.Math.min.name Lib.Math.min.code 2 (some .int) ∈ ztbl) (hd : decode M.2.1 pc = .ok (.invokestatic idx, 3))
    (hrm : 1 ≤ M.2.2.2.2.frames ∧ 21 ≤ M.2.2.2.2.locals) (hc1 : nc ≤ M.2.2.2.2.cells) (hc2 : ns ≤ M.2.2.2.2.slots) (hsum : Nat.ble (st.map fun v => v.category).sum 8 = true) (hx : zR x) (hy : zR y) (kk : zWP g M mo (pc + 3) lv (.int (zJ (min x y)) :: st) nc ns w) : zWP g M mo pc lv (.int (zJ y) :: .int (zJ x) :: st) nc ns w := by
  intro p e s m args below meth c H locs ls C hl hW hS
  have hts := C.2.2.2.2.1
  have h8 := Nat.le_of_ble_eq_true hsum
  refine va_mmin C.1 C.2.1 (C.2.2.1.trans hl.1.symm) C.2.2.2.2.2.1 (hts _ hli) (hts _ hst) (hts _ hini) (hts _ hco) hrm.1 (by rw [z_sum]; have := hrm.2; omega) hc1 hc2 hd ?_
  have e2 : (if zJ y < zJ x then zJ y else zJ x) = zJ (min x y) := by
    by_cases h : y < x
    · rw [if_pos ((zJ_lt hy hx).mpr h), show min x y = y by omega]
    · rw [if_neg (fun q => h ((zJ_lt hy hx).mp q)), show min x y = x by omega]
  rw [e2]
  exact kk p e s m args below meth c H locs ls C hl hW hS
theorem zw_max {idx : Nat} {x y : Int} (hli : Cond.methodLink M.1.cls idx Lib.Math.max.name ∈ ztbl) (hst : Cond.static Lib.Math.max.name ∈ ztbl) (hini : Cond.initialized "java/lang/Math" ∈ ztbl) (hco : Cond.code Lib.Math.max.name Lib.Math.max.code 2 (some .int) ∈ ztbl) (hd : decode M.2.1 pc = .ok (.invokestatic idx, 3))
    (hrm : 1 ≤ M.2.2.2.2.frames ∧ 21 ≤ M.2.2.2.2.locals) (hc1 : nc ≤ M.2.2.2.2.cells) (hc2 : ns ≤ M.2.2.2.2.slots) (hsum : Nat.ble (st.map fun v => v.category).sum 8 = true) (hx : zR x) (hy : zR y) (kk : zWP g M mo (pc + 3) lv (.int (zJ (max x y)) :: st) nc ns w) : zWP g M mo pc lv (.int (zJ y) :: .int (zJ x) :: st) nc ns w := by
  intro p e s m args below meth c H locs ls C hl hW hS
  have hts := C.2.2.2.2.1
  have h8 := Nat.le_of_ble_eq_true hsum
  refine va_mmax C.1 C.2.1 (C.2.2.1.trans hl.1.symm) C.2.2.2.2.2.1 (hts _ hli) (hts _ hst) (hts _ hini) (hts _ hco) hrm.1 (by rw [z_sum]; have := hrm.2; omega) hc1 hc2 hd ?_
  have e2 : (if zJ x < zJ y then zJ y else zJ x) = zJ (max x y) := by
    by_cases h : x < y
    · rw [if_pos ((zJ_lt hx hy).mpr h), show max x y = y by omega]
    · rw [if_neg (fun q => h ((zJ_lt hx hy).mp q)), show max x y = x by omega]
  rw [e2]
  exact kk p e s m args below meth c H locs ls C hl hW hS
/-- a cell's numbers, some of another's put in -/
def zcpy (w : zWS) (a sp b dp n : Nat) : zWS := zuA w b (fun k => if dp ≤ k ∧ k < dp + n then w.2.2 a (sp + (k - dp)) else w.2.2 b k)
theorem zw_copy {idx a b n0 n1 : Nat} {sp dp n : Int} (hli : Cond.methodLink M.1.cls idx arraycopyName ∈ ztbl) (hna : Cond.native arraycopyName ∈ ztbl) (hst : Cond.static arraycopyName ∈ ztbl) (hini : Cond.initialized "java/lang/System" ∈ ztbl) (hd : decode M.2.1 pc = .ok (.invokestatic idx, 3))
    (hrm : 1 ≤ M.2.2.2.2.frames ∧ 8 + (nativeFrameWords "java/lang/System" "arraycopy" 5 + 11) ≤ M.2.2.2.2.locals) (hsum : Nat.ble (st.map fun v => v.category).sum 8 = true) (hsa : w.1[a]? = some (12, n0)) (hsb : w.1[b]? = some (12, n1)) (h1 : 0 ≤ sp) (h2 : 0 ≤ dp) (h3 : 0 ≤ n) (h4 : sp + n ≤ n0) (h5 : dp + n ≤ n1) (hn0 : n0 < 2147483648) (hn1 : n1 < 2147483648)
    (kk : zWP g M mo (pc + 3) lv st nc ns (zcpy w a sp.toNat b dp.toNat n.toNat)) : zWP g M mo pc lv (.int (zJ n) :: .int (zJ dp) :: .ref b :: .int (zJ sp) :: .ref a :: st) nc ns w := by
  intro p e s m args below meth c H locs ls C hl hW hS
  have hts := C.2.2.2.2.1
  have h8 := Nat.le_of_ble_eq_true hsum
  have ea := zwl_get (g := g) hsa hW.2.2
  have eb := zwl_get (g := g) hsb hW.2.2
  rw [zce_ar] at ea eb
  have rs : zR sp := ⟨by omega, by omega⟩
  have rd : zR dp := ⟨by omega, by omega⟩
  have rn : zR n := ⟨by omega, by omega⟩
  have cs : (zJ sp).toNatClampNeg = sp.toNat := by show (zJ sp).toInt.toNat = _; rw [zJ_toInt rs]
  have cd : (zJ dp).toNatClampNeg = dp.toNat := by show (zJ dp).toInt.toNat = _; rw [zJ_toInt rd]
  have cn : (zJ n).toNatClampNeg = n.toNat := by show (zJ n).toInt.toNat = _; rw [zJ_toInt rn]
  have hK := C.2.2.2.2.2.2.2.2.1.1
  have hc0 : H[zad g a]? = some (vp_cell (zgc g 12) (n0, .inl (fun j => zJ (w.2.2 a j)))) := hW.1 a _ ea
  have hc1 : H[zad g b]? = some (vp_cell (zgc g 12) (n1, .inl (fun j => zJ (w.2.2 b j)))) := hW.1 b _ eb
  obtain ⟨-, k0, hk0, cm0, hkk0⟩ := (hK.2 0 _ rfl).1 n0 (fun j => .int (zJ (w.2.2 a j)))
  intro T hT X
  obtain ⟨vm', X', step⟩ := X.arraycopy C.1 C.2.2.2.2.2.1 (hts _ hli) (hts _ hna) (hts _ hst) (hts _ hini) (src := zad g a) (dst := zad g b) (cs := vp_cell (zgc g 12) (n0, .inl (fun j => zJ (w.2.2 a j)))) (cd := vp_cell (zgc g 12) (n1, .inl (fun j => zJ (w.2.2 b j)))) (srcPos := zJ sp) (destPos := zJ dp) (n := zJ n) (by rw [hT]; exact hc0) (by rw [hT]; exact hc1)
    (fun _ h => by cases h) (fun _ h => by cases h) (fun h => by cases h) (fun h => by cases h) hk0 hk0 hkk0 hkk0 (by simp [refKind]) (fun q => by have := (zJ_lt rs zR0).mp q; omega) (fun q => by have := (zJ_lt rd zR0).mp q; omega) (fun q => by have := (zJ_lt rn zR0).mp q; omega)
    (by rw [zJ_toInt rs, zJ_toInt rn]; show ¬ _ > ((arrV (zgc g 12) n0 (fun j => .int (zJ (w.2.2 a j)))).slots.size : Int); rw [arrV_size]; omega)
    (by rw [zJ_toInt rd, zJ_toInt rn]; show ¬ _ > ((arrV (zgc g 12) n1 (fun j => .int (zJ (w.2.2 b j)))).slots.size : Int); rw [arrV_size]; omega)
    (fun vm₁ _ i hi => by
      have ee : (vp_cell (zgc g 12) (n0, .inl (fun j => zJ (w.2.2 a j)))).slots.getD ((zJ sp).toNatClampNeg + i) .null = .int (zJ (w.2.2 a ((zJ sp).toNatClampNeg + i))) := by
        show (arrV (zgc g 12) n0 (fun j => .int (zJ (w.2.2 a j)))).slots.getD _ _ = _
        rw [Array.getD_eq_getD_getElem?, arrV_read _ _ (by rw [cs]; rw [cn] at hi; omega)]
        rfl
      refine ⟨?_, ?_⟩
      · rw [ee]; rfl
      · rw [ee]; exact trivial)
    (g := F0 m pc ls _) rfl (by rw [C.2.2.1]; exact hl.1) (rest := st.map (ztv g)) rfl (by rw [C.2.1]; exact hd) hrm.1 (by rw [z_sum]; show 2 * 0 + _ + _ ≤ _; have := hrm.2; omega)
  have e1' : copied (vp_cell (zgc g 12) (n0, .inl (fun j => zJ (w.2.2 a j)))) (vp_cell (zgc g 12) (n1, .inl (fun j => zJ (w.2.2 b j)))) (zJ sp) (zJ dp) (zJ n) = vp_cell (zgc g 12) (n1, .inl (va_cpy (fun j => zJ (w.2.2 a j)) (fun j => zJ (w.2.2 b j)) sp.toNat dp.toNat n.toNat)) := by rw [← cs, ← cd, ← cn]; exact va_copied (fun z => Value.int z) (zgc g 12) (zgc g 12) (fun j => zJ (w.2.2 a j)) (fun j => zJ (w.2.2 b j)) (by rw [cs, cn]; omega)
  rw [e1'] at X' step
  have hlt : zad g b < H.size := (Array.getElem?_eq_some_iff.mp hc1).1
  generalize hV : vp_cell (zgc g 12) (n1, .inl (va_cpy (fun j => zJ (w.2.2 a j)) (fun j => zJ (w.2.2 b j)) sp.toNat dp.toNat n.toNat)) = V at X' step
  have hheap : ((T.setVm vm').setCell (zad g b) V).heap = H.setIfInBounds (zad g b) V := by rw [← hT]; rfl
  have oq : ∀ q : Nat, q ≠ zad g b → (H.setIfInBounds (zad g b) V)[q]? = H[q]? := fun q hq => by simp [Array.getElem?_setIfInBounds, Ne.symm hq]
  have hW' : zHW g (zcpy w a sp.toNat b dp.toNat n.toNat) (H.setIfInBounds (zad g b) V) := by
    refine ⟨?_, by simp; exact hW.2.1, hW.2.2⟩
    rw [zcpy, ← zw_aI (f := va_cpy (fun j => zJ (w.2.2 a j)) (fun j => zJ (w.2.2 b j)) sp.toNat dp.toNat n.toNat) hsb hW.2.2 (fun k => (apply_ite zJ _ _ _).symm)]
    refine hW.1.set (zwl_D g w) eb ?_ oq
    show (H.setIfInBounds (zad g b) V)[zad g b]? = some (vp_cell _ _)
    rw [hV]
    simp [Array.getElem?_setIfInBounds, hlt]
  obtain ⟨t, a1, b1⟩ := kk p e s m args below meth c _ _ ls C hl hW' ⟨by simp; exact hS.1, fun q g1 g2 => by
      rw [oq q (fun ee => g2 (by rw [ee]; exact z_in hW hsb))]
      exact hS.2.1 q g1 g2, fun q hq => by
      rcases List.mem_append.mp hq with h | h
      · exact hS.2.2 q h
      · obtain ⟨z, -, hz⟩ := List.mem_map.mp h
        rw [← hz]
        exact z_in hW hsb⟩ _ hheap X'
  exact ⟨t, step t a1, b1⟩
end ZB
end
section
/-! THE WORLD AS IT STANDS BEHIND THE CONSTRUCTORS: shape and references are fixed, the numbers move -/
def zsh : List (Nat × Nat) := [(10, 12), (0, 5), (14, 6), (3, 2), (12, 81), (13, 8), (12, 8), (6, 3), (12, 80), (6, 3), (12, 80), (6, 3), (12, 80), (6, 3), (12, 80), (6, 3), (12, 80), (6, 3), (12, 80), (3, 2), (12, 81), (3, 2), (12, 81), (3, 2), (12, 81), (3, 2), (12, 81), (3, 2), (12, 81), (3, 2), (12, 81), (3, 2), (12, 81), (3, 2), (12, 81), (0, 5), (14, 6), (3, 2), (12, 81), (13, 8), (12, 8), (6, 3), (12, 80), (6, 3), (12, 80), (6, 3), (12, 80), (6, 3), (12, 80), (6, 3), (12, 80), (6, 3), (12, 80), (3, 2), (12, 81), (3, 2), (12, 81), (3, 2), (12, 81), (3, 2), (12, 81), (3, 2), (12, 81), (3, 2), (12, 81), (3, 2), (12, 81), (3, 2), (12, 81), (7, 4), (12, 80), (12, 80), (12, 80), (12, 80), (9, 9), (15, 9), (12, 80), (12, 80), (12, 80), (12, 80), (12, 80), (12, 80), (12, 80), (12, 80), (12, 80), (15, 9), (12, 80), (12, 80), (12, 80), (12, 80), (12, 80), (12, 80), (12, 80), (12, 80), (12, 80), (12, 80), (12, 80), (1, 10), (15, 80), (12, 81), (12, 81), (12, 81), (12, 81), (12, 81), (12, 81), (12, 81), (12, 81), (12, 81), (12, 81), (12, 81), (12, 81), (12, 81), (12, 81), (12, 81), (12, 81), (12, 81), (12, 81), (12, 81), (12, 81), (12, 81), (12, 81), (12, 81), (12, 81), (12, 81), (12, 81), (12, 81), (12, 81), (12, 81), (12, 81), (12, 81), (12, 81), (12, 81), (12, 81), (12, 81), (12, 81), (12, 81), (12, 81), (12, 81), (12, 81), (12, 81), (12, 81), (12, 81), (12, 81), (12, 81), (12, 81), (12, 81), (12, 81), (12, 81), (12, 81), (12, 81), (12, 81), (12, 81), (12, 81), (12, 81), (12, 81), (12, 81), (12, 81), (12, 81), (12, 81), (12, 81), (12, 81), (12, 81), (12, 81), (12, 81), (12, 81), (12, 81), (12, 81), (12, 81), (12, 81), (12, 81), (12, 81), (12, 81), (12, 81), (12, 81), (12, 81), (12, 81), (12, 81), (12, 81), (12, 81), (12, 81), (12, 81), (12, 81), (2, 5), (12, 199), (12, 1592), (12, 9), (12, 199), (12, 199), (8, 4), (12, 100), (5, 3), (12, 100), (12, 400), (4, 3), (3, 2), (12, 81), (12, 648), (15, 4), (12, 80), (12, 80), (12, 80), (12, 80), (12, 4), (11, 50), (12, 6), (12, 6), (12, 480), (12, 81), (12, 664), (12, 80), (12, 80), (12, 80), (12, 720), (12, 720), (12, 80), (12, 6400), (12, 6480), (12, 80), (12, 81), (12, 81), (12, 9), (12, 8), (12, 200), (12, 100), (12, 47), (12, 9), (12, 500), (12, 81), (12, 729), (12, 4), (12, 320), (12, 6), (12, 6), (12, 480), (12, 81), (12, 664)]
def zOffs : List (List Nat) := [[0, 1, 2, 4, 5], [1, 82, 83, 84, 0, 0, 0, 0, 0, 0], [1, 2, 3, 4, 5], [1, 0], [1, 3, 0], [1, 2, 0], [1, 0, 0], [1, 2, 3, 4], [1, 0, 0, 0], [1, 11, 21, 22, 0, 0, 0, 0, 0], [1, 35, 0, 69, 74, 97, 182, 188, 190, 193, 197, 202], [0, 1, 2, 3, 0, 4, 5, 0, 0, 6, 7, 8, 9, 10, 0, 0, 0, 0, 11, 12, 13, 14, 0, 15, 0, 16, 17, 18, 0, 19, 20, 0, 0, 21, 22, 23, 24, 0, 25, 0, 26, 27, 0, 0, 0, 28, 29, 30, 31, 32]]
def zOff (k j : Nat) : Option Nat := match (zOffs.getD k []).getD j 0 with
  | 0 => none
  | o + 1 => some (o + 1)
def zSt (k : Nat) : Nat := if k = 13 then 14 else if k = 14 then 5 else 1
def zTp (k : Nat) : Nat := if k = 15 then 1 else 2
def zrf (i j : Nat) : Option Nat := match zsh[i]? with
  | none => none
  | some (k, n) => if k < 12 then (zOff k j).map (fun o => i + o) else if k = 12 then none else if j < n then some (i + zSt k + zTp k * j) else none
abbrev zMu : Type := Nat → Nat → Int
def zw (μ : zMu) : zWS := (zsh, zrf, μ)
def zS (i k n : Nat) : Prop := zsh[i]? = some (k, n)
def zIx (a : Nat) (x : Int) : Prop := ∃ n, zS a 12 n ∧ 0 ≤ x ∧ x < n
def zAx (k a : Nat) (x : Int) : Prop := ∃ n, zS a k n ∧ 0 ≤ x ∧ x < n
def zup (μ : zMu) (i j : Nat) (v : Int) : zMu := fun a b => if a = i ∧ b = j then v else μ a b
def zua (μ : zMu) (i : Nat) (f : Nat → Int) : zMu := fun a b => if a = i then f b else μ a b
def zcp (μ : zMu) (a sp b dp n : Nat) : zMu := zua μ b (fun k => if dp ≤ k ∧ k < dp + n then μ a (sp + (k - dp)) else μ b k)
theorem zsh_small : ∀ i, i < 236 → ∀ p, zsh[i]? = some p → p.2 < 100000 := by
  have h : (List.range 236).all (fun i => match zsh[i]? with | none => true | some p => decide (p.2 < 100000)) = true := by decide +kernel
  intro i hi p hp
  have h1 := List.all_eq_true.mp h i (List.mem_range.mpr hi)
  rw [hp] at h1
  exact of_decide_eq_true h1
theorem zS_lt {i k n : Nat} (h : zS i k n) : i < 236 := (List.getElem?_eq_some_iff.mp h).1
theorem zS_n {i k n : Nat} (h : zS i k n) : n < 2147483648 := Nat.lt_trans (zsh_small i (zS_lt h) _ h) (by decide)
theorem zrf_ob {i k n j o : Nat} (h : zS i k n) (hk : k < 12) (ho : zOff k j = some o) : zrf i j = some (i + o) := by
  unfold zrf
  rw [show zsh[i]? = some (k, n) from h]
  show (if k < 12 then _ else _) = _
  rw [if_pos hk, ho]
  rfl
theorem zrf_ar {i k n j : Nat} (h : zS i k n) (hk : 12 < k) (hj : j < n) : zrf i j = some (i + zSt k + zTp k * j) := by
  unfold zrf
  rw [show zsh[i]? = some (k, n) from h]
  show (if k < 12 then _ else if k = 12 then _ else if j < n then _ else _) = _
  rw [if_neg (by omega), if_neg (by omega), if_pos hj]
/-- what comes back -/
def zΦi (φ : Int → zMu → Prop) : Option Value → zWS → Prop := fun r w => ∃ (x : Int) (μ : zMu), r = some (.int (zJ x)) ∧ w = zw μ ∧ φ x μ
def zΦl (φ : Int → zMu → Prop) : Option Value → zWS → Prop := fun r w => ∃ (x : Int) (μ : zMu), r = some (.long (zL x)) ∧ w = zw μ ∧ φ x μ
def zΦr (φ : Nat → zMu → Prop) : Option Value → zWS → Prop := fun r w => ∃ (x : Nat) (μ : zMu), r = some (.ref x) ∧ w = zw μ ∧ φ x μ
def zΦv (φ : zMu → Prop) : Option Value → zWS → Prop := fun r w => ∃ (μ : zMu), r = none ∧ w = zw μ ∧ φ μ
abbrev zOi (g : zG) (M : zM) (args : List Value) (μ : zMu) (φ : Int → zMu → Prop) : Prop := zOK g M args (zw μ) (zΦi φ)
abbrev zOl (g : zG) (M : zM) (args : List Value) (μ : zMu) (φ : Int → zMu → Prop) : Prop := zOK g M args (zw μ) (zΦl φ)
abbrev zOr (g : zG) (M : zM) (args : List Value) (μ : zMu) (φ : Nat → zMu → Prop) : Prop := zOK g M args (zw μ) (zΦr φ)
abbrev zOv (g : zG) (M : zM) (args : List Value) (μ : zMu) (φ : zMu → Prop) : Prop := zOK g M args (zw μ) (zΦv φ)
section ZX
variable {g : zG} {M : zM} {mo : zMo} {pc nc ns : Nat} {lv : List (Nat × Value)} {st : List Value} {μ : zMu}
theorem zx_getI {i idx kc k n : Nat} {ty : FieldType} {fin : Bool} (hF : zFL M.1.cls idx kc k ty fin) (hd : decode M.2.1 pc = .ok (.getfield idx, 3)) (hr : (zRk kc).getD k false = false) (hs : zS i kc n) (kk : zWP g M mo (pc + 3) lv (.int (zJ (μ i k)) :: st) nc ns (zw μ)) : zWP g M mo pc lv (.ref i :: st) nc ns (zw μ) := zw_getI hF hd hr hs kk
theorem zx_getR {i idx kc k n o r : Nat} {ty : FieldType} {fin : Bool} (hF : zFL M.1.cls idx kc k ty fin) (hd : decode M.2.1 pc = .ok (.getfield idx, 3)) (hr : (zRk kc).getD k false = true) (hs : zS i kc n) (ho : zOff kc k = some o) (hk : kc < 12) (he : i + o = r) (kk : zWP g M mo (pc + 3) lv (.ref r :: st) nc ns (zw μ)) : zWP g M mo pc lv (.ref i :: st) nc ns (zw μ) := zw_getR (r := r) hF hd hr hs (by rw [← he]; exact zrf_ob hs hk ho) kk
theorem zx_putI {i idx kc k n : Nat} {x : Int} (hF : zFL M.1.cls idx kc k .int false) (hd : decode M.2.1 pc = .ok (.putfield idx, 3)) (hr : (zRk kc).getD k false = false) (hs : zS i kc n) (kk : zWP g M mo (pc + 3) lv st nc ns (zw (zup μ i k x))) : zWP g M mo pc lv (.int (zJ x) :: .ref i :: st) nc ns (zw μ) := zw_putI hF hd hr hs kk
theorem zx_putZ {i idx kc k n : Nat} {x : Int} (hF : zFL M.1.cls idx kc k .boolean false) (hd : decode M.2.1 pc = .ok (.putfield idx, 3)) (hr : (zRk kc).getD k false = false) (hs : zS i kc n) (hx : x = 0 ∨ x = 1) (kk : zWP g M mo (pc + 3) lv st nc ns (zw (zup μ i k x))) : zWP g M mo pc lv (.int (zJ x) :: .ref i :: st) nc ns (zw μ) := zw_putZ hF hd hr hs hx kk
theorem zx_iaload {i : Nat} {x : Int} (hd : decode M.2.1 pc = .ok (.iaload, 1)) (hs : zIx i x) (kk : zWP g M mo (pc + 1) lv (.int (zJ (μ i x.toNat)) :: st) nc ns (zw μ)) : zWP g M mo pc lv (.int (zJ x) :: .ref i :: st) nc ns (zw μ) := by
  obtain ⟨n, h1, h2, h3⟩ := hs
  exact zw_iaload hd h1 h2 h3 (zS_n h1) kk
theorem zx_iastore {i : Nat} {x y : Int} (hd : decode M.2.1 pc = .ok (.iastore, 1)) (hs : zIx i x) (kk : zWP g M mo (pc + 1) lv st nc ns (zw (zup μ i x.toNat y))) : zWP g M mo pc lv (.int (zJ y) :: .int (zJ x) :: .ref i :: st) nc ns (zw μ) := by
  obtain ⟨n, h1, h2, h3⟩ := hs
  exact zw_iastore hd h1 h2 h3 (zS_n h1) kk
theorem zx_alen {i n : Nat} (hd : decode M.2.1 pc = .ok (.arraylength, 1)) (hs : zS i 12 n) (kk : zWP g M mo (pc + 1) lv (.int (zJ (n : Int)) :: st) nc ns (zw μ)) : zWP g M mo pc lv (.ref i :: st) nc ns (zw μ) := zw_alen hd hs rfl kk
theorem zx_aaload {k i r : Nat} {x : Int} (hd : decode M.2.1 pc = .ok (.aaload, 1)) (hk : k = 13 ∨ k = 14 ∨ k = 15) (hs : zAx k i x) (he : i + zSt k + zTp k * x.toNat = r) (kk : zWP g M mo (pc + 1) lv (.ref r :: st) nc ns (zw μ)) : zWP g M mo pc lv (.int (zJ x) :: .ref i :: st) nc ns (zw μ) := by
  obtain ⟨n, h1, h2, h3⟩ := hs
  exact zw_aaload (r := r) hd h1 hk h2 h3 (zS_n h1) (by rw [← he]; exact zrf_ar h1 (by omega) (by omega)) kk
theorem zx_copy {idx a b : Nat} {sp dp n : Int} (hli : Cond.methodLink M.1.cls idx arraycopyName ∈ ztbl) (hna : Cond.native arraycopyName ∈ ztbl) (hst : Cond.static arraycopyName ∈ ztbl) (hini : Cond.initialized "java/lang/System" ∈ ztbl) (hd : decode M.2.1 pc = .ok (.invokestatic idx, 3))
    (hrm : 1 ≤ M.2.2.2.2.frames ∧ 8 + (nativeFrameWords "java/lang/System" "arraycopy" 5 + 11) ≤ M.2.2.2.2.locals) (hsum : Nat.ble (st.map fun v => v.category).sum 8 = true) (h : ∃ n0 n1, zS a 12 n0 ∧ zS b 12 n1 ∧ 0 ≤ sp ∧ 0 ≤ dp ∧ 0 ≤ n ∧ sp + n ≤ n0 ∧ dp + n ≤ n1)
    (kk : zWP g M mo (pc + 3) lv st nc ns (zw (zcp μ a sp.toNat b dp.toNat n.toNat))) : zWP g M mo pc lv (.int (zJ n) :: .int (zJ dp) :: .ref b :: .int (zJ sp) :: .ref a :: st) nc ns (zw μ) := by
  obtain ⟨n0, n1, a1, a2, a3, a4, a5, a6, a7⟩ := h
  exact zw_copy hli hna hst hini hd hrm hsum a1 a2 a3 a4 a5 a6 a7 (zS_n a1) (zS_n a2) kk
theorem zx_ldcS {idx k : Nat} {tx : String} (hd : decode M.2.1 pc = .ok (.ldc idx, 2)) (hc : M.1.cls = RX5) (hk : k < 9) (h1 : zTi.getD k 0 = idx) (kk : zWP g M mo (pc + 2) lv (.ref (90001 + k) :: st) nc ns (zw μ)) : zWP g M mo pc lv st nc ns (zw μ) := by
  intro p e s m args below meth c H locs ls C hl hW hS
  have hZ := C.2.2.2.2.2.2.2.2.1.2.2.1 k hk
  rw [h1] at hZ
  refine va_ldcS C.1 C.2.1 (by rw [← hc]; exact C.2.2.2.2.2.1) hZ hd ?_
  have k2 := kk p e s m args below meth c H locs ls C hl hW hS
  have ha : zad g (90001 + k) = zgx g (k + 1) := by
    rw [zad, if_neg (by omega), show 90001 + k - 90000 = k + 1 by omega]
  rw [← ha]
  exact k2
-- calls
theorem zx_callV {M' : zM} {idx kc n b k : Nat} {As : List Value} {Φ : Option Value → zWS → Prop} (hOK : zOK g M' (.ref b :: As) (zw μ) Φ) (hcal : zCal M' n) (hin : Cond.instanceMethod M'.1 ∈ ztbl) (hse : Cond.selects M'.1.cls M'.1 M'.1 ∈ ztbl) (hli : Cond.methodLink M.1.cls idx M'.1 ∈ ztbl) (hd : decode M.2.1 pc = .ok (.invokevirtual idx, 3)) (hrm : zRm M M') (hn : As.length = n)
    (hs : zS b kc k) (hkc : kc < 12) (hcls : (vwCl.map (fun q => q.1))[kc]? = some M'.1.cls) (hsum : Nat.ble (st.map fun v => v.category).sum 8 = true) (hc : M'.2.2.2.2.cells = 0 ∧ M'.2.2.2.2.slots = 0) (hnn : nc ≤ M.2.2.2.2.cells ∧ ns ≤ M.2.2.2.2.slots)
    (kk : ∀ r w', Φ r w' → zWP g M mo (pc + 3) lv (r.toList ++ st) nc ns w') : zWP g M mo pc lv (As.reverse ++ .ref b :: st) nc ns (zw μ) :=
  zw_callV hcal hin hse hli hd hrm hn hs hkc hcls hsum (by rw [hc.1]; exact hnn.1) (by rw [hc.2]; exact hnn.2) (hOK.mono (fun r w' h => by rw [hc.1, hc.2]; exact kk r w' h))
theorem zx_callS {M' : zM} {idx n : Nat} {As : List Value} {Φ : Option Value → zWS → Prop} (hOK : zOK g M' As (zw μ) Φ) (hcal : zCal M' n) (hst : Cond.static M'.1 ∈ ztbl) (hli : Cond.methodLink M.1.cls idx M'.1 ∈ ztbl) (hd : decode M.2.1 pc = .ok (.invokestatic idx, 3)) (hrm : zRm M M') (hn : As.length = n)
    (hsum : Nat.ble (st.map fun v => v.category).sum 8 = true) (hc : M'.2.2.2.2.cells = 0 ∧ M'.2.2.2.2.slots = 0) (hnn : nc ≤ M.2.2.2.2.cells ∧ ns ≤ M.2.2.2.2.slots)
    (kk : ∀ r w', Φ r w' → zWP g M mo (pc + 3) lv (r.toList ++ st) nc ns w') : zWP g M mo pc lv (As.reverse ++ st) nc ns (zw μ) :=
  zw_callS hcal hst hli hd hrm hn hsum (by rw [hc.1]; exact hnn.1) (by rw [hc.2]; exact hnn.2) (hOK.mono (fun r w' h => by rw [hc.1, hc.2]; exact kk r w' h))
theorem zx_callSN {M' : zM} {idx n : Nat} {host : String} {As : List Value} {Φ : Option Value → zWS → Prop} (hOK : zOK g M' As (zw μ) Φ) (hcal : zCal M' n) (hst : Cond.static M'.1 ∈ ztbl) (hne : (M.1.cls, idx, M'.1, host) ∈ zNest) (hd : decode M.2.1 pc = .ok (.invokestatic idx, 3)) (hrm : zRm M M') (hn : As.length = n)
    (hsum : Nat.ble (st.map fun v => v.category).sum 8 = true) (hc : M'.2.2.2.2.cells = 0 ∧ M'.2.2.2.2.slots = 0) (hnn : nc ≤ M.2.2.2.2.cells ∧ ns ≤ M.2.2.2.2.slots)
    (kk : ∀ r w', Φ r w' → zWP g M mo (pc + 3) lv (r.toList ++ st) nc ns w') : zWP g M mo pc lv (As.reverse ++ st) nc ns (zw μ) :=
  zw_callSN hcal hst hne hd hrm hn hsum (by rw [hc.1]; exact hnn.1) (by rw [hc.2]; exact hnn.2) (hOK.mono (fun r w' h => by rw [hc.1, hc.2]; exact kk r w' h))
end ZX
theorem zki {φ : Int → zMu → Prop} {P : Option Value → zWS → Prop} (h : ∀ x μ, φ x μ → P (some (.int (zJ x))) (zw μ)) : ∀ r w', zΦi φ r w' → P r w' := fun r w' ⟨x, μ, e1, e2, e3⟩ => by rw [e1, e2]; exact h x μ e3
theorem zkl {φ : Int → zMu → Prop} {P : Option Value → zWS → Prop} (h : ∀ x μ, φ x μ → P (some (.long (zL x))) (zw μ)) : ∀ r w', zΦl φ r w' → P r w' := fun r w' ⟨x, μ, e1, e2, e3⟩ => by rw [e1, e2]; exact h x μ e3
theorem zkr {φ : Nat → zMu → Prop} {P : Option Value → zWS → Prop} (h : ∀ x μ, φ x μ → P (some (.ref x)) (zw μ)) : ∀ r w', zΦr φ r w' → P r w' := fun r w' ⟨x, μ, e1, e2, e3⟩ => by rw [e1, e2]; exact h x μ e3
theorem zkv {φ : zMu → Prop} {P : Option Value → zWS → Prop} (h : ∀ μ, φ μ → P none (zw μ)) : ∀ r w', zΦv φ r w' → P r w' := fun r w' ⟨μ, e1, e2, e3⟩ => by rw [e1, e2]; exact h μ e3
-- facts of the shape
def zTg (k : Nat) : List (Nat × Nat × Nat) := match k with
  | 0 => [(1, 14, 6), (2, 3, 2), (4, 13, 8), (5, 12, 8)]
  | 1 => [(1, 15, 80), (82, 12, 81), (83, 12, 81), (84, 12, 81)]
  | 2 => [(1, 12, 199), (2, 12, 1592), (3, 12, 9), (4, 12, 199), (5, 12, 199)]
  | 3 => [(1, 12, 81)]
  | 4 => [(1, 3, 2), (3, 12, 648)]
  | 5 => [(1, 12, 100), (2, 12, 400)]
  | 6 => [(1, 12, 80)]
  | 7 => [(1, 12, 80), (2, 12, 80), (3, 12, 80), (4, 12, 80)]
  | 8 => [(1, 12, 100)]
  | 9 => [(1, 15, 9), (11, 15, 9), (21, 12, 80), (22, 12, 80)]
  | 10 => [(1, 0, 5), (35, 0, 5), (69, 7, 4), (74, 9, 9), (97, 1, 10), (182, 2, 5), (188, 8, 4), (190, 5, 3), (193, 4, 3), (197, 15, 4), (202, 12, 4)]
  | 11 => [(1, 12, 6), (2, 12, 6), (3, 12, 480), (4, 12, 81), (5, 12, 664), (6, 12, 80), (7, 12, 80), (8, 12, 80), (9, 12, 720), (10, 12, 720), (11, 12, 80), (12, 12, 6400), (13, 12, 6480), (14, 12, 80), (15, 12, 81), (16, 12, 81), (17, 12, 9), (18, 12, 8), (19, 12, 200), (20, 12, 100), (21, 12, 47), (22, 12, 9), (23, 12, 500), (24, 12, 81), (25, 12, 729), (26, 12, 4), (27, 12, 320), (28, 12, 6), (29, 12, 6), (30, 12, 480), (31, 12, 81), (32, 12, 664)]
  | _ => []
def zbq (i k n : Nat) : Bool := match zsh[i]? with
  | none => false
  | some p => Nat.beq p.1 k && Nat.beq p.2 n
theorem zbq_of {i k n : Nat} (h : zbq i k n = true) : zS i k n := by
  unfold zbq at h
  unfold zS
  cases hz : zsh[i]? with
  | none => rw [hz] at h; cases h
  | some p =>
    rw [hz] at h
    simp only [Bool.and_eq_true, Nat.beq_eq] at h
    obtain ⟨a, b⟩ := p
    rw [show a = k from h.1, show b = n from h.2]
def zchk (i : Nat) : Bool := match zsh[i]? with
  | none => true
  | some p => (zTg p.1).all (fun t => zbq (i + t.1) t.2.1 t.2.2)
theorem zchk_all : (List.range 236).all zchk = true := by decide +kernel
theorem zq (t : Nat) {i k n o k2 n2 : Nat} (h : zS i k n) (hm : (zTg k)[t]? = some (o, k2, n2)) : zS (i + o) k2 n2 := by
  have h1 := List.all_eq_true.mp zchk_all i (List.mem_range.mpr (zS_lt h))
  unfold zchk at h1
  rw [show zsh[i]? = some (k, n) from h] at h1
  exact zbq_of (List.all_eq_true.mp h1 _ (List.mem_of_getElem? hm))
def zchr (i : Nat) : Bool := match zsh[i]? with
  | none => true
  | some p => if p.1 = 13 then (List.range p.2).all (fun j => zbq (i + zSt 13 + zTp 13 * j) 3 2) else if p.1 = 14 then (List.range p.2).all (fun j => zbq (i + zSt 14 + zTp 14 * j) 6 3) else true
theorem zchr_all : (List.range 236).all zchr = true := by decide +kernel
theorem zqe_13 {i n j : Nat} (h : zS i 13 n) (hj : j < n) : zS (i + zSt 13 + zTp 13 * j) 3 2 := by
  have h1 := List.all_eq_true.mp zchr_all i (List.mem_range.mpr (zS_lt h))
  unfold zchr at h1
  rw [show zsh[i]? = some (13, n) from h] at h1
  exact zbq_of (List.all_eq_true.mp h1 _ (List.mem_range.mpr hj))
theorem zqe_14 {i n j : Nat} (h : zS i 14 n) (hj : j < n) : zS (i + zSt 14 + zTp 14 * j) 6 3 := by
  have h1 := List.all_eq_true.mp zchr_all i (List.mem_range.mpr (zS_lt h))
  unfold zchr at h1
  rw [show zsh[i]? = some (14, n) from h] at h1
  exact zbq_of (List.all_eq_true.mp h1 _ (List.mem_range.mpr hj))
theorem zqr_75_b : (List.range 9).all (fun j => zbq (75 + zSt 15 + zTp 15 * j) 12 80) = true := by decide +kernel
theorem zqr_75 {j : Nat} (hj : j < 9) : zS (75 + zSt 15 + zTp 15 * j) 12 80 := zbq_of (List.all_eq_true.mp zqr_75_b _ (List.mem_range.mpr hj))
theorem zqr_85_b : (List.range 9).all (fun j => zbq (85 + zSt 15 + zTp 15 * j) 12 80) = true := by decide +kernel
theorem zqr_85 {j : Nat} (hj : j < 9) : zS (85 + zSt 15 + zTp 15 * j) 12 80 := zbq_of (List.all_eq_true.mp zqr_85_b _ (List.mem_range.mpr hj))
theorem zqr_98_b : (List.range 80).all (fun j => zbq (98 + zSt 15 + zTp 15 * j) 12 81) = true := by decide +kernel
theorem zqr_98 {j : Nat} (hj : j < 80) : zS (98 + zSt 15 + zTp 15 * j) 12 81 := zbq_of (List.all_eq_true.mp zqr_98_b _ (List.mem_range.mpr hj))
theorem zqr_197_b : (List.range 4).all (fun j => zbq (197 + zSt 15 + zTp 15 * j) 12 80) = true := by decide +kernel
theorem zqr_197 {j : Nat} (hj : j < 4) : zS (197 + zSt 15 + zTp 15 * j) 12 80 := zbq_of (List.all_eq_true.mp zqr_197_b _ (List.mem_range.mpr hj))
end
