section
-- ===== PART A: goes FIRST, ahead of the names: the tables' words, and 'selects' of the private methods out of them =====
/-- a private method of a class that the tables say can be made, by its rows of tables_1 -/
def lw_okq (q : MethodName × Nat) : Prop := (q.1.cls ≠ "java/lang/invoke/MethodHandle" ∧ q.1.cls ≠ "java/lang/invoke/VarHandle") ∧ Cond.instantiable q.1.cls q.2 ∈ tables_1 ∧ Cond.privateMethod q.1 ∈ tables_1 ∧ Cond.instanceMethod q.1 ∈ tables_1
theorem lw_p0 : lw_okq (⟨"LevelEquations$SeriesMath", "fillEisenstein", "(II)V"⟩, 4) := ⟨⟨by decide +kernel, by decide +kernel⟩, List.mem_of_getElem? (i := 110) (by decide +kernel), List.mem_of_getElem? (i := 359) (by decide +kernel), List.mem_of_getElem? (i := 360) (by decide +kernel)⟩
theorem lw_p1 : lw_okq (⟨"LevelEquations$SeriesMath", "fillEulerProduct", "(II)V"⟩, 4) := ⟨⟨by decide +kernel, by decide +kernel⟩, List.mem_of_getElem? (i := 110) (by decide +kernel), List.mem_of_getElem? (i := 367) (by decide +kernel), List.mem_of_getElem? (i := 368) (by decide +kernel)⟩
theorem lw_p2 : lw_okq (⟨"LevelEquations$Vanishing", "fillPowers", "([I[[II)V"⟩, 9) := ⟨⟨by decide +kernel, by decide +kernel⟩, List.mem_of_getElem? (i := 129) (by decide +kernel), List.mem_of_getElem? (i := 480) (by decide +kernel), List.mem_of_getElem? (i := 481) (by decide +kernel)⟩
theorem lw_p3 : lw_okq (⟨"LevelEquations$Finder", "listTerms", "()V"⟩, 10) := ⟨⟨by decide +kernel, by decide +kernel⟩, List.mem_of_getElem? (i := 168) (by decide +kernel), List.mem_of_getElem? (i := 490) (by decide +kernel), List.mem_of_getElem? (i := 491) (by decide +kernel)⟩
theorem lw_p4 : lw_okq (⟨"LevelEquations$Finder", "clearMatrix", "()V"⟩, 10) := ⟨⟨by decide +kernel, by decide +kernel⟩, List.mem_of_getElem? (i := 168) (by decide +kernel), List.mem_of_getElem? (i := 494) (by decide +kernel), List.mem_of_getElem? (i := 495) (by decide +kernel)⟩
theorem lw_p5 : lw_okq (⟨"LevelEquations$Finder", "addProduct", "(LLevelEquations$Vanishing;III)V"⟩, 10) := ⟨⟨by decide +kernel, by decide +kernel⟩, List.mem_of_getElem? (i := 168) (by decide +kernel), List.mem_of_getElem? (i := 499) (by decide +kernel), List.mem_of_getElem? (i := 500) (by decide +kernel)⟩
theorem lw_p6 : lw_okq (⟨"LevelEquations$Finder", "eliminate", "()I"⟩, 10) := ⟨⟨by decide +kernel, by decide +kernel⟩, List.mem_of_getElem? (i := 168) (by decide +kernel), List.mem_of_getElem? (i := 507) (by decide +kernel), List.mem_of_getElem? (i := 508) (by decide +kernel)⟩
theorem lw_p7 : lw_okq (⟨"LevelEquations$Finder", "pivotRow", "(II)I"⟩, 10) := ⟨⟨by decide +kernel, by decide +kernel⟩, List.mem_of_getElem? (i := 168) (by decide +kernel), List.mem_of_getElem? (i := 511) (by decide +kernel), List.mem_of_getElem? (i := 512) (by decide +kernel)⟩
theorem lw_p8 : lw_okq (⟨"LevelEquations$Finder", "swapRows", "(III)V"⟩, 10) := ⟨⟨by decide +kernel, by decide +kernel⟩, List.mem_of_getElem? (i := 168) (by decide +kernel), List.mem_of_getElem? (i := 516) (by decide +kernel), List.mem_of_getElem? (i := 517) (by decide +kernel)⟩
theorem lw_p9 : lw_okq (⟨"LevelEquations$Finder", "scaleRow", "(II)V"⟩, 10) := ⟨⟨by decide +kernel, by decide +kernel⟩, List.mem_of_getElem? (i := 168) (by decide +kernel), List.mem_of_getElem? (i := 520) (by decide +kernel), List.mem_of_getElem? (i := 521) (by decide +kernel)⟩
theorem lw_p10 : lw_okq (⟨"LevelEquations$Finder", "clearBelow", "(II)V"⟩, 10) := ⟨⟨by decide +kernel, by decide +kernel⟩, List.mem_of_getElem? (i := 168) (by decide +kernel), List.mem_of_getElem? (i := 525) (by decide +kernel), List.mem_of_getElem? (i := 526) (by decide +kernel)⟩
theorem lw_p11 : lw_okq (⟨"LevelEquations$Finder", "solve", "()V"⟩, 10) := ⟨⟨by decide +kernel, by decide +kernel⟩, List.mem_of_getElem? (i := 168) (by decide +kernel), List.mem_of_getElem? (i := 533) (by decide +kernel), List.mem_of_getElem? (i := 534) (by decide +kernel)⟩
theorem lw_p12 : lw_okq (⟨"LevelEquations", "isValue", "(I)Z"⟩, 12) := ⟨⟨by decide +kernel, by decide +kernel⟩, List.mem_of_getElem? (i := 21) (by decide +kernel), List.mem_of_getElem? (i := 574) (by decide +kernel), List.mem_of_getElem? (i := 575) (by decide +kernel)⟩
theorem lw_p13 : lw_okq (⟨"LevelEquations$Vanishing", "addTerm", "(III)V"⟩, 9) := ⟨⟨by decide +kernel, by decide +kernel⟩, List.mem_of_getElem? (i := 129) (by decide +kernel), List.mem_of_getElem? (i := 590) (by decide +kernel), List.mem_of_getElem? (i := 591) (by decide +kernel)⟩
theorem lw_p14 : lw_okq (⟨"LevelEquations$Graph", "explore", "(LLevelEquations$Contents;I)V"⟩, 5) := ⟨⟨by decide +kernel, by decide +kernel⟩, List.mem_of_getElem? (i := 206) (by decide +kernel), List.mem_of_getElem? (i := 603) (by decide +kernel), List.mem_of_getElem? (i := 604) (by decide +kernel)⟩
theorem lw_p15 : lw_okq (⟨"LevelEquations$Graph", "listNeighbours", "(LLevelEquations$Polynomial;II)I"⟩, 5) := ⟨⟨by decide +kernel, by decide +kernel⟩, List.mem_of_getElem? (i := 206) (by decide +kernel), List.mem_of_getElem? (i := 607) (by decide +kernel), List.mem_of_getElem? (i := 608) (by decide +kernel)⟩
def lw_privs_1 : List (MethodName × Nat) := [(⟨"LevelEquations$SeriesMath", "fillEisenstein", "(II)V"⟩, 4), (⟨"LevelEquations$SeriesMath", "fillEulerProduct", "(II)V"⟩, 4), (⟨"LevelEquations$Vanishing", "fillPowers", "([I[[II)V"⟩, 9), (⟨"LevelEquations$Finder", "listTerms", "()V"⟩, 10), (⟨"LevelEquations$Finder", "clearMatrix", "()V"⟩, 10), (⟨"LevelEquations$Finder", "addProduct", "(LLevelEquations$Vanishing;III)V"⟩, 10), (⟨"LevelEquations$Finder", "eliminate", "()I"⟩, 10), (⟨"LevelEquations$Finder", "pivotRow", "(II)I"⟩, 10), (⟨"LevelEquations$Finder", "swapRows", "(III)V"⟩, 10), (⟨"LevelEquations$Finder", "scaleRow", "(II)V"⟩, 10), (⟨"LevelEquations$Finder", "clearBelow", "(II)V"⟩, 10), (⟨"LevelEquations$Finder", "solve", "()V"⟩, 10), (⟨"LevelEquations", "isValue", "(I)Z"⟩, 12), (⟨"LevelEquations$Vanishing", "addTerm", "(III)V"⟩, 9), (⟨"LevelEquations$Graph", "explore", "(LLevelEquations$Contents;I)V"⟩, 5), (⟨"LevelEquations$Graph", "listNeighbours", "(LLevelEquations$Polynomial;II)I"⟩, 5)]
theorem lw_r1 : ∀ q ∈ lw_privs_1, lw_okq q := List.forall_mem_cons.mpr ⟨lw_p0, List.forall_mem_cons.mpr ⟨lw_p1, List.forall_mem_cons.mpr ⟨lw_p2, List.forall_mem_cons.mpr ⟨lw_p3, List.forall_mem_cons.mpr ⟨lw_p4, List.forall_mem_cons.mpr ⟨lw_p5, List.forall_mem_cons.mpr ⟨lw_p6, List.forall_mem_cons.mpr ⟨lw_p7, List.forall_mem_cons.mpr ⟨lw_p8, List.forall_mem_cons.mpr ⟨lw_p9, List.forall_mem_cons.mpr ⟨lw_p10, List.forall_mem_cons.mpr ⟨lw_p11, List.forall_mem_cons.mpr ⟨lw_p12, List.forall_mem_cons.mpr ⟨lw_p13, List.forall_mem_cons.mpr ⟨lw_p14, List.forall_mem_cons.mpr ⟨lw_p15, fun _ h => absurd h List.not_mem_nil⟩⟩⟩⟩⟩⟩⟩⟩⟩⟩⟩⟩⟩⟩⟩⟩
theorem lw_p16 : lw_okq (⟨"LevelEquations$Graph", "fillLine", "(LLevelEquations$Polynomial;II)I"⟩, 5) := ⟨⟨by decide +kernel, by decide +kernel⟩, List.mem_of_getElem? (i := 206) (by decide +kernel), List.mem_of_getElem? (i := 611) (by decide +kernel), List.mem_of_getElem? (i := 612) (by decide +kernel)⟩
theorem lw_p17 : lw_okq (⟨"LevelEquations$Graph", "lineAt", "(III)I"⟩, 5) := ⟨⟨by decide +kernel, by decide +kernel⟩, List.mem_of_getElem? (i := 206) (by decide +kernel), List.mem_of_getElem? (i := 619) (by decide +kernel), List.mem_of_getElem? (i := 620) (by decide +kernel)⟩
theorem lw_p18 : lw_okq (⟨"LevelEquations$Graph", "divideLine", "(III)V"⟩, 5) := ⟨⟨by decide +kernel, by decide +kernel⟩, List.mem_of_getElem? (i := 206) (by decide +kernel), List.mem_of_getElem? (i := 623) (by decide +kernel), List.mem_of_getElem? (i := 624) (by decide +kernel)⟩
theorem lw_p19 : lw_okq (⟨"LevelEquations$Program", "parseCommand", "(LLevelEquations$Tape;)Z"⟩, 3) := ⟨⟨by decide +kernel, by decide +kernel⟩, List.mem_of_getElem? (i := 255) (by decide +kernel), List.mem_of_getElem? (i := 746) (by decide +kernel), List.mem_of_getElem? (i := 747) (by decide +kernel)⟩
theorem lw_p20 : lw_okq (⟨"LevelEquations", "carryOut", "(I)I"⟩, 12) := ⟨⟨by decide +kernel, by decide +kernel⟩, List.mem_of_getElem? (i := 21) (by decide +kernel), List.mem_of_getElem? (i := 849) (by decide +kernel), List.mem_of_getElem? (i := 850) (by decide +kernel)⟩
theorem lw_p21 : lw_okq (⟨"LevelEquations$PolynomialText", "parseTerm", "(LLevelEquations$Tape;I)Z"⟩, 3) := ⟨⟨by decide +kernel, by decide +kernel⟩, List.mem_of_getElem? (i := 273) (by decide +kernel), List.mem_of_getElem? (i := 877) (by decide +kernel), List.mem_of_getElem? (i := 878) (by decide +kernel)⟩
theorem lw_p22 : lw_okq (⟨"LevelEquations$PolynomialText", "putTerm", "(III)V"⟩, 3) := ⟨⟨by decide +kernel, by decide +kernel⟩, List.mem_of_getElem? (i := 273) (by decide +kernel), List.mem_of_getElem? (i := 897) (by decide +kernel), List.mem_of_getElem? (i := 898) (by decide +kernel)⟩
theorem lw_p23 : lw_okq (⟨"LevelEquations$PolynomialText", "putByte", "(I)V"⟩, 3) := ⟨⟨by decide +kernel, by decide +kernel⟩, List.mem_of_getElem? (i := 273) (by decide +kernel), List.mem_of_getElem? (i := 901) (by decide +kernel), List.mem_of_getElem? (i := 902) (by decide +kernel)⟩
theorem lw_p24 : lw_okq (⟨"LevelEquations$PolynomialText", "putNumber", "(I)V"⟩, 3) := ⟨⟨by decide +kernel, by decide +kernel⟩, List.mem_of_getElem? (i := 273) (by decide +kernel), List.mem_of_getElem? (i := 905) (by decide +kernel), List.mem_of_getElem? (i := 906) (by decide +kernel)⟩
theorem lw_p25 : lw_okq (⟨"LevelEquationsModel", "whole", "(J)I"⟩, 50) := ⟨⟨by decide +kernel, by decide +kernel⟩, List.mem_of_getElem? (i := 962) (by decide +kernel), List.mem_of_getElem? (i := 1140) (by decide +kernel), List.mem_of_getElem? (i := 1141) (by decide +kernel)⟩
theorem lw_p26 : lw_okq (⟨"LevelEquationsModel", "multiplies", "([I[II)V"⟩, 50) := ⟨⟨by decide +kernel, by decide +kernel⟩, List.mem_of_getElem? (i := 962) (by decide +kernel), List.mem_of_getElem? (i := 1144) (by decide +kernel), List.mem_of_getElem? (i := 1145) (by decide +kernel)⟩
theorem lw_p27 : lw_okq (⟨"LevelEquationsModel", "divides", "([I[II)V"⟩, 50) := ⟨⟨by decide +kernel, by decide +kernel⟩, List.mem_of_getElem? (i := 962) (by decide +kernel), List.mem_of_getElem? (i := 1151) (by decide +kernel), List.mem_of_getElem? (i := 1152) (by decide +kernel)⟩
theorem lw_p28 : lw_okq (⟨"LevelEquationsModel", "inverse", "(I)I"⟩, 50) := ⟨⟨by decide +kernel, by decide +kernel⟩, List.mem_of_getElem? (i := 962) (by decide +kernel), List.mem_of_getElem? (i := 1155) (by decide +kernel), List.mem_of_getElem? (i := 1156) (by decide +kernel)⟩
theorem lw_p29 : lw_okq (⟨"LevelEquationsModel", "becomes", "(I)I"⟩, 50) := ⟨⟨by decide +kernel, by decide +kernel⟩, List.mem_of_getElem? (i := 962) (by decide +kernel), List.mem_of_getElem? (i := 1159) (by decide +kernel), List.mem_of_getElem? (i := 1160) (by decide +kernel)⟩
theorem lw_p30 : lw_okq (⟨"LevelEquationsModel", "isThere", "(I)Z"⟩, 50) := ⟨⟨by decide +kernel, by decide +kernel⟩, List.mem_of_getElem? (i := 962) (by decide +kernel), List.mem_of_getElem? (i := 1167) (by decide +kernel), List.mem_of_getElem? (i := 1168) (by decide +kernel)⟩
theorem lw_p31 : lw_okq (⟨"LevelEquationsModel", "numberOf", "(II)I"⟩, 50) := ⟨⟨by decide +kernel, by decide +kernel⟩, List.mem_of_getElem? (i := 962) (by decide +kernel), List.mem_of_getElem? (i := 1172) (by decide +kernel), List.mem_of_getElem? (i := 1173) (by decide +kernel)⟩
def lw_privs_2 : List (MethodName × Nat) := [(⟨"LevelEquations$Graph", "fillLine", "(LLevelEquations$Polynomial;II)I"⟩, 5), (⟨"LevelEquations$Graph", "lineAt", "(III)I"⟩, 5), (⟨"LevelEquations$Graph", "divideLine", "(III)V"⟩, 5), (⟨"LevelEquations$Program", "parseCommand", "(LLevelEquations$Tape;)Z"⟩, 3), (⟨"LevelEquations", "carryOut", "(I)I"⟩, 12), (⟨"LevelEquations$PolynomialText", "parseTerm", "(LLevelEquations$Tape;I)Z"⟩, 3), (⟨"LevelEquations$PolynomialText", "putTerm", "(III)V"⟩, 3), (⟨"LevelEquations$PolynomialText", "putByte", "(I)V"⟩, 3), (⟨"LevelEquations$PolynomialText", "putNumber", "(I)V"⟩, 3), (⟨"LevelEquationsModel", "whole", "(J)I"⟩, 50), (⟨"LevelEquationsModel", "multiplies", "([I[II)V"⟩, 50), (⟨"LevelEquationsModel", "divides", "([I[II)V"⟩, 50), (⟨"LevelEquationsModel", "inverse", "(I)I"⟩, 50), (⟨"LevelEquationsModel", "becomes", "(I)I"⟩, 50), (⟨"LevelEquationsModel", "isThere", "(I)Z"⟩, 50), (⟨"LevelEquationsModel", "numberOf", "(II)I"⟩, 50)]
theorem lw_r2 : ∀ q ∈ lw_privs_2, lw_okq q := List.forall_mem_cons.mpr ⟨lw_p16, List.forall_mem_cons.mpr ⟨lw_p17, List.forall_mem_cons.mpr ⟨lw_p18, List.forall_mem_cons.mpr ⟨lw_p19, List.forall_mem_cons.mpr ⟨lw_p20, List.forall_mem_cons.mpr ⟨lw_p21, List.forall_mem_cons.mpr ⟨lw_p22, List.forall_mem_cons.mpr ⟨lw_p23, List.forall_mem_cons.mpr ⟨lw_p24, List.forall_mem_cons.mpr ⟨lw_p25, List.forall_mem_cons.mpr ⟨lw_p26, List.forall_mem_cons.mpr ⟨lw_p27, List.forall_mem_cons.mpr ⟨lw_p28, List.forall_mem_cons.mpr ⟨lw_p29, List.forall_mem_cons.mpr ⟨lw_p30, List.forall_mem_cons.mpr ⟨lw_p31, fun _ h => absurd h List.not_mem_nil⟩⟩⟩⟩⟩⟩⟩⟩⟩⟩⟩⟩⟩⟩⟩⟩
theorem lw_p32 : lw_okq (⟨"LevelEquationsModel", "powers", "(III)V"⟩, 50) := ⟨⟨by decide +kernel, by decide +kernel⟩, List.mem_of_getElem? (i := 962) (by decide +kernel), List.mem_of_getElem? (i := 1198) (by decide +kernel), List.mem_of_getElem? (i := 1199) (by decide +kernel)⟩
theorem lw_p33 : lw_okq (⟨"LevelEquationsModel", "tellsPowers", "(III)V"⟩, 50) := ⟨⟨by decide +kernel, by decide +kernel⟩, List.mem_of_getElem? (i := 962) (by decide +kernel), List.mem_of_getElem? (i := 1216) (by decide +kernel), List.mem_of_getElem? (i := 1217) (by decide +kernel)⟩
theorem lw_p34 : lw_okq (⟨"LevelEquationsModel", "tries", "(IIIZ)V"⟩, 50) := ⟨⟨by decide +kernel, by decide +kernel⟩, List.mem_of_getElem? (i := 962) (by decide +kernel), List.mem_of_getElem? (i := 1220) (by decide +kernel), List.mem_of_getElem? (i := 1221) (by decide +kernel)⟩
theorem lw_p35 : lw_okq (⟨"LevelEquationsModel", "emptiesColumn", "()V"⟩, 50) := ⟨⟨by decide +kernel, by decide +kernel⟩, List.mem_of_getElem? (i := 962) (by decide +kernel), List.mem_of_getElem? (i := 1224) (by decide +kernel), List.mem_of_getElem? (i := 1225) (by decide +kernel)⟩
theorem lw_p36 : lw_okq (⟨"LevelEquationsModel", "adds", "(III)V"⟩, 50) := ⟨⟨by decide +kernel, by decide +kernel⟩, List.mem_of_getElem? (i := 962) (by decide +kernel), List.mem_of_getElem? (i := 1228) (by decide +kernel), List.mem_of_getElem? (i := 1229) (by decide +kernel)⟩
theorem lw_p37 : lw_okq (⟨"LevelEquationsModel", "comes", "()Z"⟩, 50) := ⟨⟨by decide +kernel, by decide +kernel⟩, List.mem_of_getElem? (i := 962) (by decide +kernel), List.mem_of_getElem? (i := 1235) (by decide +kernel), List.mem_of_getElem? (i := 1236) (by decide +kernel)⟩
theorem lw_p38 : lw_okq (⟨"LevelEquationsModel", "lessens", "(I)V"⟩, 50) := ⟨⟨by decide +kernel, by decide +kernel⟩, List.mem_of_getElem? (i := 962) (by decide +kernel), List.mem_of_getElem? (i := 1239) (by decide +kernel), List.mem_of_getElem? (i := 1240) (by decide +kernel)⟩
theorem lw_p39 : lw_okq (⟨"LevelEquationsModel", "firstOther", "()I"⟩, 50) := ⟨⟨by decide +kernel, by decide +kernel⟩, List.mem_of_getElem? (i := 962) (by decide +kernel), List.mem_of_getElem? (i := 1243) (by decide +kernel), List.mem_of_getElem? (i := 1244) (by decide +kernel)⟩
theorem lw_p40 : lw_okq (⟨"LevelEquationsModel", "termAt", "(II)I"⟩, 50) := ⟨⟨by decide +kernel, by decide +kernel⟩, List.mem_of_getElem? (i := 962) (by decide +kernel), List.mem_of_getElem? (i := 1252) (by decide +kernel), List.mem_of_getElem? (i := 1253) (by decide +kernel)⟩
theorem lw_p41 : lw_okq (⟨"LevelEquationsModel", "isValue", "(I)Z"⟩, 50) := ⟨⟨by decide +kernel, by decide +kernel⟩, List.mem_of_getElem? (i := 962) (by decide +kernel), List.mem_of_getElem? (i := 1264) (by decide +kernel), List.mem_of_getElem? (i := 1265) (by decide +kernel)⟩
theorem lw_p42 : lw_okq (⟨"LevelEquationsModel", "puts", "(I)Z"⟩, 50) := ⟨⟨by decide +kernel, by decide +kernel⟩, List.mem_of_getElem? (i := 962) (by decide +kernel), List.mem_of_getElem? (i := 1268) (by decide +kernel), List.mem_of_getElem? (i := 1269) (by decide +kernel)⟩
theorem lw_p43 : lw_okq (⟨"LevelEquationsModel", "worth", "(I)I"⟩, 50) := ⟨⟨by decide +kernel, by decide +kernel⟩, List.mem_of_getElem? (i := 962) (by decide +kernel), List.mem_of_getElem? (i := 1272) (by decide +kernel), List.mem_of_getElem? (i := 1273) (by decide +kernel)⟩
theorem lw_p44 : lw_okq (⟨"LevelEquationsModel", "tellsNeighbours", "(I)Z"⟩, 50) := ⟨⟨by decide +kernel, by decide +kernel⟩, List.mem_of_getElem? (i := 962) (by decide +kernel), List.mem_of_getElem? (i := 1284) (by decide +kernel), List.mem_of_getElem? (i := 1285) (by decide +kernel)⟩
theorem lw_p45 : lw_okq (⟨"LevelEquationsModel", "oftenOf", "(I)I"⟩, 50) := ⟨⟨by decide +kernel, by decide +kernel⟩, List.mem_of_getElem? (i := 962) (by decide +kernel), List.mem_of_getElem? (i := 1288) (by decide +kernel), List.mem_of_getElem? (i := 1289) (by decide +kernel)⟩
theorem lw_p46 : lw_okq (⟨"LevelEquationsModel", "tellsAway", "(I)V"⟩, 50) := ⟨⟨by decide +kernel, by decide +kernel⟩, List.mem_of_getElem? (i := 962) (by decide +kernel), List.mem_of_getElem? (i := 1296) (by decide +kernel), List.mem_of_getElem? (i := 1297) (by decide +kernel)⟩
theorem lw_p47 : lw_okq (⟨"LevelEquationsModel", "keptPrime", "(I)I"⟩, 50) := ⟨⟨by decide +kernel, by decide +kernel⟩, List.mem_of_getElem? (i := 962) (by decide +kernel), List.mem_of_getElem? (i := 1316) (by decide +kernel), List.mem_of_getElem? (i := 1317) (by decide +kernel)⟩
def lw_privs_3 : List (MethodName × Nat) := [(⟨"LevelEquationsModel", "powers", "(III)V"⟩, 50), (⟨"LevelEquationsModel", "tellsPowers", "(III)V"⟩, 50), (⟨"LevelEquationsModel", "tries", "(IIIZ)V"⟩, 50), (⟨"LevelEquationsModel", "emptiesColumn", "()V"⟩, 50), (⟨"LevelEquationsModel", "adds", "(III)V"⟩, 50), (⟨"LevelEquationsModel", "comes", "()Z"⟩, 50), (⟨"LevelEquationsModel", "lessens", "(I)V"⟩, 50), (⟨"LevelEquationsModel", "firstOther", "()I"⟩, 50), (⟨"LevelEquationsModel", "termAt", "(II)I"⟩, 50), (⟨"LevelEquationsModel", "isValue", "(I)Z"⟩, 50), (⟨"LevelEquationsModel", "puts", "(I)Z"⟩, 50), (⟨"LevelEquationsModel", "worth", "(I)I"⟩, 50), (⟨"LevelEquationsModel", "tellsNeighbours", "(I)Z"⟩, 50), (⟨"LevelEquationsModel", "oftenOf", "(I)I"⟩, 50), (⟨"LevelEquationsModel", "tellsAway", "(I)V"⟩, 50), (⟨"LevelEquationsModel", "keptPrime", "(I)I"⟩, 50)]
theorem lw_r3 : ∀ q ∈ lw_privs_3, lw_okq q := List.forall_mem_cons.mpr ⟨lw_p32, List.forall_mem_cons.mpr ⟨lw_p33, List.forall_mem_cons.mpr ⟨lw_p34, List.forall_mem_cons.mpr ⟨lw_p35, List.forall_mem_cons.mpr ⟨lw_p36, List.forall_mem_cons.mpr ⟨lw_p37, List.forall_mem_cons.mpr ⟨lw_p38, List.forall_mem_cons.mpr ⟨lw_p39, List.forall_mem_cons.mpr ⟨lw_p40, List.forall_mem_cons.mpr ⟨lw_p41, List.forall_mem_cons.mpr ⟨lw_p42, List.forall_mem_cons.mpr ⟨lw_p43, List.forall_mem_cons.mpr ⟨lw_p44, List.forall_mem_cons.mpr ⟨lw_p45, List.forall_mem_cons.mpr ⟨lw_p46, List.forall_mem_cons.mpr ⟨lw_p47, fun _ h => absurd h List.not_mem_nil⟩⟩⟩⟩⟩⟩⟩⟩⟩⟩⟩⟩⟩⟩⟩⟩
theorem lw_p48 : lw_okq (⟨"LevelEquationsModel", "keptMany", "()I"⟩, 50) := ⟨⟨by decide +kernel, by decide +kernel⟩, List.mem_of_getElem? (i := 962) (by decide +kernel), List.mem_of_getElem? (i := 1320) (by decide +kernel), List.mem_of_getElem? (i := 1321) (by decide +kernel)⟩
theorem lw_p49 : lw_okq (⟨"LevelEquationsModel", "joinedDegree", "()I"⟩, 50) := ⟨⟨by decide +kernel, by decide +kernel⟩, List.mem_of_getElem? (i := 962) (by decide +kernel), List.mem_of_getElem? (i := 1337) (by decide +kernel), List.mem_of_getElem? (i := 1338) (by decide +kernel)⟩
theorem lw_p50 : lw_okq (⟨"LevelEquationsModel", "readsDeed", "(I)Z"⟩, 50) := ⟨⟨by decide +kernel, by decide +kernel⟩, List.mem_of_getElem? (i := 962) (by decide +kernel), List.mem_of_getElem? (i := 1350) (by decide +kernel), List.mem_of_getElem? (i := 1351) (by decide +kernel)⟩
theorem lw_p51 : lw_okq (⟨"LevelEquationsModel", "isLetter", "()Z"⟩, 50) := ⟨⟨by decide +kernel, by decide +kernel⟩, List.mem_of_getElem? (i := 962) (by decide +kernel), List.mem_of_getElem? (i := 1354) (by decide +kernel), List.mem_of_getElem? (i := 1355) (by decide +kernel)⟩
theorem lw_p52 : lw_okq (⟨"LevelEquationsModel", "here", "()I"⟩, 50) := ⟨⟨by decide +kernel, by decide +kernel⟩, List.mem_of_getElem? (i := 962) (by decide +kernel), List.mem_of_getElem? (i := 1358) (by decide +kernel), List.mem_of_getElem? (i := 1359) (by decide +kernel)⟩
theorem lw_p53 : lw_okq (⟨"LevelEquationsModel", "wordFrom", "(I)I"⟩, 50) := ⟨⟨by decide +kernel, by decide +kernel⟩, List.mem_of_getElem? (i := 962) (by decide +kernel), List.mem_of_getElem? (i := 1364) (by decide +kernel), List.mem_of_getElem? (i := 1365) (by decide +kernel)⟩
theorem lw_p54 : lw_okq (⟨"LevelEquationsModel", "isFigure", "()Z"⟩, 50) := ⟨⟨by decide +kernel, by decide +kernel⟩, List.mem_of_getElem? (i := 962) (by decide +kernel), List.mem_of_getElem? (i := 1368) (by decide +kernel), List.mem_of_getElem? (i := 1369) (by decide +kernel)⟩
theorem lw_p55 : lw_okq (⟨"LevelEquationsModel", "does", "(I)I"⟩, 50) := ⟨⟨by decide +kernel, by decide +kernel⟩, List.mem_of_getElem? (i := 962) (by decide +kernel), List.mem_of_getElem? (i := 1374) (by decide +kernel), List.mem_of_getElem? (i := 1375) (by decide +kernel)⟩
theorem lw_p56 : lw_okq (⟨"LevelEquationsModel", "readsTerm", "()Z"⟩, 50) := ⟨⟨by decide +kernel, by decide +kernel⟩, List.mem_of_getElem? (i := 962) (by decide +kernel), List.mem_of_getElem? (i := 1391) (by decide +kernel), List.mem_of_getElem? (i := 1392) (by decide +kernel)⟩
theorem lw_p57 : lw_okq (⟨"LevelEquationsModel", "readsPower", "(I)I"⟩, 50) := ⟨⟨by decide +kernel, by decide +kernel⟩, List.mem_of_getElem? (i := 962) (by decide +kernel), List.mem_of_getElem? (i := 1395) (by decide +kernel), List.mem_of_getElem? (i := 1396) (by decide +kernel)⟩
theorem lw_p58 : lw_okq (⟨"LevelEquationsModel", "writes", "(I)V"⟩, 50) := ⟨⟨by decide +kernel, by decide +kernel⟩, List.mem_of_getElem? (i := 962) (by decide +kernel), List.mem_of_getElem? (i := 1406) (by decide +kernel), List.mem_of_getElem? (i := 1407) (by decide +kernel)⟩
theorem lw_p59 : lw_okq (⟨"LevelEquationsModel", "writesNumber", "(I)V"⟩, 50) := ⟨⟨by decide +kernel, by decide +kernel⟩, List.mem_of_getElem? (i := 962) (by decide +kernel), List.mem_of_getElem? (i := 1410) (by decide +kernel), List.mem_of_getElem? (i := 1411) (by decide +kernel)⟩
theorem lw_p60 : lw_okq (⟨"LevelEquationsModel", "writesPower", "(II)V"⟩, 50) := ⟨⟨by decide +kernel, by decide +kernel⟩, List.mem_of_getElem? (i := 962) (by decide +kernel), List.mem_of_getElem? (i := 1414) (by decide +kernel), List.mem_of_getElem? (i := 1415) (by decide +kernel)⟩
theorem lw_p61 : lw_okq (⟨"LevelEquationsModel", "seriesMany", "()I"⟩, 50) := ⟨⟨by decide +kernel, by decide +kernel⟩, List.mem_of_getElem? (i := 962) (by decide +kernel), List.mem_of_getElem? (i := 1456) (by decide +kernel), List.mem_of_getElem? (i := 1457) (by decide +kernel)⟩
def lw_privs_4 : List (MethodName × Nat) := [(⟨"LevelEquationsModel", "keptMany", "()I"⟩, 50), (⟨"LevelEquationsModel", "joinedDegree", "()I"⟩, 50), (⟨"LevelEquationsModel", "readsDeed", "(I)Z"⟩, 50), (⟨"LevelEquationsModel", "isLetter", "()Z"⟩, 50), (⟨"LevelEquationsModel", "here", "()I"⟩, 50), (⟨"LevelEquationsModel", "wordFrom", "(I)I"⟩, 50), (⟨"LevelEquationsModel", "isFigure", "()Z"⟩, 50), (⟨"LevelEquationsModel", "does", "(I)I"⟩, 50), (⟨"LevelEquationsModel", "readsTerm", "()Z"⟩, 50), (⟨"LevelEquationsModel", "readsPower", "(I)I"⟩, 50), (⟨"LevelEquationsModel", "writes", "(I)V"⟩, 50), (⟨"LevelEquationsModel", "writesNumber", "(I)V"⟩, 50), (⟨"LevelEquationsModel", "writesPower", "(II)V"⟩, 50), (⟨"LevelEquationsModel", "seriesMany", "()I"⟩, 50)]
theorem lw_r4 : ∀ q ∈ lw_privs_4, lw_okq q := List.forall_mem_cons.mpr ⟨lw_p48, List.forall_mem_cons.mpr ⟨lw_p49, List.forall_mem_cons.mpr ⟨lw_p50, List.forall_mem_cons.mpr ⟨lw_p51, List.forall_mem_cons.mpr ⟨lw_p52, List.forall_mem_cons.mpr ⟨lw_p53, List.forall_mem_cons.mpr ⟨lw_p54, List.forall_mem_cons.mpr ⟨lw_p55, List.forall_mem_cons.mpr ⟨lw_p56, List.forall_mem_cons.mpr ⟨lw_p57, List.forall_mem_cons.mpr ⟨lw_p58, List.forall_mem_cons.mpr ⟨lw_p59, List.forall_mem_cons.mpr ⟨lw_p60, List.forall_mem_cons.mpr ⟨lw_p61, fun _ h => absurd h List.not_mem_nil⟩⟩⟩⟩⟩⟩⟩⟩⟩⟩⟩⟩⟩⟩
def lw_privs : List (MethodName × Nat) := lw_privs_1 ++ (lw_privs_2 ++ (lw_privs_3 ++ (lw_privs_4)))
def lw_tbl : List Cond := k2_sels lw_privs ++ tables_1
theorem lw_privs_ok : ∀ q ∈ lw_privs, lw_okq q := by
  show ∀ q ∈ lw_privs_1 ++ (lw_privs_2 ++ (lw_privs_3 ++ (lw_privs_4))), lw_okq q
  exact List.forall_mem_append.mpr ⟨lw_r1, List.forall_mem_append.mpr ⟨lw_r2, List.forall_mem_append.mpr ⟨lw_r3, lw_r4⟩⟩⟩
end
section
def RX0 : String := "LevelEquations$Contents"
def TX0 : u_T := fun k => match k with
  | 0 => ("LevelEquations$Contents", "modulus", "I", false)
  | 1 => ("LevelEquations$Contents", "series", "[LLevelEquations$Series;", true)
  | 2 => ("LevelEquations$Contents", "equation", "LLevelEquations$Polynomial;", true)
  | 3 => ("LevelEquations$Contents", "kept", "[LLevelEquations$Polynomial;", true)
  | _ => ("LevelEquations$Contents", "keptModuli", "[I", true)
def tyX0 : Nat → FieldType := fun k => match k with
  | 0 => .int
  | 1 => .array (.object "LevelEquations$Series")
  | 2 => .object "LevelEquations$Polynomial"
  | 3 => .array (.object "LevelEquations$Polynomial")
  | _ => .array .int
theorem nmX0 : ∀ a, a < 5 → ∀ b, b < 5 → a ≠ b → (TX0 a).2.1 ≠ (TX0 b).2.1 := by decide +kernel
theorem tyX0_ok : ∀ k, k < 5 → parseFieldDescriptor (TX0 k).2.2.1 = some (tyX0 k) := by decide +kernel
abbrev cX0_init : ByteArray := prog_2_method_1_code
def yX0_init : MethodName := ⟨RX0, "<init>", "()V"⟩
abbrev cX0_startAnew : ByteArray := prog_2_method_2_code
def yX0_startAnew : MethodName := ⟨RX0, "startAnew", "(I)V"⟩
abbrev cX0_copyFrom : ByteArray := prog_2_method_3_code
def yX0_copyFrom : MethodName := ⟨RX0, "copyFrom", "(LLevelEquations$Contents;)V"⟩
abbrev cX0_seriesCount : ByteArray := prog_2_method_4_code
def yX0_seriesCount : MethodName := ⟨RX0, "seriesCount", "()I"⟩
abbrev cX0_keptCount : ByteArray := prog_2_method_5_code
def yX0_keptCount : MethodName := ⟨RX0, "keptCount", "()I"⟩
abbrev cX0_placeOf : ByteArray := prog_2_method_6_code
def yX0_placeOf : MethodName := ⟨RX0, "placeOf", "(I)I"⟩
abbrev cX0_commonDegree : ByteArray := prog_2_method_7_code
def yX0_commonDegree : MethodName := ⟨RX0, "commonDegree", "()I"⟩
abbrev cX0_keptProduct : ByteArray := prog_2_method_8_code
def yX0_keptProduct : MethodName := ⟨RX0, "keptProduct", "()J"⟩
abbrev cX0_joinAt : ByteArray := prog_2_method_9_code
def yX0_joinAt : MethodName := ⟨RX0, "joinAt", "(I)J"⟩
def RX1 : String := "LevelEquations$Finder"
def TX1 : u_T := fun k => match k with
  | 0 => ("LevelEquations$Finder", "matrix", "[[I", true)
  | 1 => ("LevelEquations$Finder", "xExponents", "[I", true)
  | 2 => ("LevelEquations$Finder", "yExponents", "[I", true)
  | 3 => ("LevelEquations$Finder", "solution", "[I", true)
  | 4 => ("LevelEquations$Finder", "degree", "I", false)
  | 5 => ("LevelEquations$Finder", "symmetric", "Z", false)
  | 6 => ("LevelEquations$Finder", "columns", "I", false)
  | 7 => ("LevelEquations$Finder", "rows", "I", false)
  | 8 => ("LevelEquations$Finder", "firstFree", "I", false)
  | _ => ("LevelEquations$Finder", "modulus", "I", false)
def tyX1 : Nat → FieldType := fun k => match k with
  | 0 => .array (.array .int)
  | 1 => .array .int
  | 2 => .array .int
  | 3 => .array .int
  | 4 => .int
  | 5 => .boolean
  | 6 => .int
  | 7 => .int
  | 8 => .int
  | _ => .int
theorem nmX1 : ∀ a, a < 10 → ∀ b, b < 10 → a ≠ b → (TX1 a).2.1 ≠ (TX1 b).2.1 := by decide +kernel
theorem tyX1_ok : ∀ k, k < 10 → parseFieldDescriptor (TX1 k).2.2.1 = some (tyX1 k) := by decide +kernel
abbrev cX1_init : ByteArray := prog_3_method_1_code
def yX1_init : MethodName := ⟨RX1, "<init>", "()V"⟩
abbrev cX1_search : ByteArray := prog_3_method_2_code
def yX1_search : MethodName := ⟨RX1, "search", "(LLevelEquations$Vanishing;IZ)I"⟩
abbrev cX1_listTerms : ByteArray := prog_3_method_3_code
def yX1_listTerms : MethodName := ⟨RX1, "listTerms", "()V"⟩
abbrev cX1_clearMatrix : ByteArray := prog_3_method_4_code
def yX1_clearMatrix : MethodName := ⟨RX1, "clearMatrix", "()V"⟩
abbrev cX1_addProduct : ByteArray := prog_3_method_5_code
def yX1_addProduct : MethodName := ⟨RX1, "addProduct", "(LLevelEquations$Vanishing;III)V"⟩
abbrev cX1_eliminate : ByteArray := prog_3_method_6_code
def yX1_eliminate : MethodName := ⟨RX1, "eliminate", "()I"⟩
abbrev cX1_pivotRow : ByteArray := prog_3_method_7_code
def yX1_pivotRow : MethodName := ⟨RX1, "pivotRow", "(II)I"⟩
abbrev cX1_swapRows : ByteArray := prog_3_method_8_code
def yX1_swapRows : MethodName := ⟨RX1, "swapRows", "(III)V"⟩
abbrev cX1_scaleRow : ByteArray := prog_3_method_9_code
def yX1_scaleRow : MethodName := ⟨RX1, "scaleRow", "(II)V"⟩
abbrev cX1_clearBelow : ByteArray := prog_3_method_10_code
def yX1_clearBelow : MethodName := ⟨RX1, "clearBelow", "(II)V"⟩
abbrev cX1_handOver : ByteArray := prog_3_method_11_code
def yX1_handOver : MethodName := ⟨RX1, "handOver", "(LLevelEquations$Polynomial;)V"⟩
abbrev cX1_solve : ByteArray := prog_3_method_12_code
def yX1_solve : MethodName := ⟨RX1, "solve", "()V"⟩
def RX2 : String := "LevelEquations$Graph"
def TX2 : u_T := fun k => match k with
  | 0 => ("LevelEquations$Graph", "sizes", "[I", true)
  | 1 => ("LevelEquations$Graph", "neighbours", "[I", true)
  | 2 => ("LevelEquations$Graph", "line", "[I", true)
  | 3 => ("LevelEquations$Graph", "distances", "[I", true)
  | _ => ("LevelEquations$Graph", "queue", "[I", true)
def tyX2 : Nat → FieldType := fun k => match k with
  | 0 => .array .int
  | 1 => .array .int
  | 2 => .array .int
  | 3 => .array .int
  | _ => .array .int
theorem nmX2 : ∀ a, a < 5 → ∀ b, b < 5 → a ≠ b → (TX2 a).2.1 ≠ (TX2 b).2.1 := by decide +kernel
theorem tyX2_ok : ∀ k, k < 5 → parseFieldDescriptor (TX2 k).2.2.1 = some (tyX2 k) := by decide +kernel
abbrev cX2_init : ByteArray := prog_4_method_1_code
def yX2_init : MethodName := ⟨RX2, "<init>", "()V"⟩
abbrev cX2_forget : ByteArray := prog_4_method_2_code
def yX2_forget : MethodName := ⟨RX2, "forget", "()V"⟩
abbrev cX2_isDegenerate : ByteArray := prog_4_method_3_code
def yX2_isDegenerate : MethodName := ⟨RX2, "isDegenerate", "(LLevelEquations$Contents;I)Z"⟩
abbrev cX2_sizeOf : ByteArray := prog_4_method_4_code
def yX2_sizeOf : MethodName := ⟨RX2, "sizeOf", "(LLevelEquations$Contents;I)I"⟩
abbrev cX2_neighbourOf : ByteArray := prog_4_method_5_code
def yX2_neighbourOf : MethodName := ⟨RX2, "neighbourOf", "(II)I"⟩
abbrev cX2_explore : ByteArray := prog_4_method_6_code
def yX2_explore : MethodName := ⟨RX2, "explore", "(LLevelEquations$Contents;I)V"⟩
abbrev cX2_listNeighbours : ByteArray := prog_4_method_7_code
def yX2_listNeighbours : MethodName := ⟨RX2, "listNeighbours", "(LLevelEquations$Polynomial;II)I"⟩
abbrev cX2_fillLine : ByteArray := prog_4_method_8_code
def yX2_fillLine : MethodName := ⟨RX2, "fillLine", "(LLevelEquations$Polynomial;II)I"⟩
abbrev cX2_lineAt : ByteArray := prog_4_method_9_code
def yX2_lineAt : MethodName := ⟨RX2, "lineAt", "(III)I"⟩
abbrev cX2_divideLine : ByteArray := prog_4_method_10_code
def yX2_divideLine : MethodName := ⟨RX2, "divideLine", "(III)V"⟩
abbrev cX2_walkFrom : ByteArray := prog_4_method_11_code
def yX2_walkFrom : MethodName := ⟨RX2, "walkFrom", "(LLevelEquations$Contents;I)I"⟩
abbrev cX2_distanceTo : ByteArray := prog_4_method_12_code
def yX2_distanceTo : MethodName := ⟨RX2, "distanceTo", "(I)I"⟩
abbrev cX2_ownNeighbours : ByteArray := prog_4_method_13_code
def yX2_ownNeighbours : MethodName := ⟨RX2, "ownNeighbours", "(LLevelEquations$Contents;)I"⟩
abbrev cX2_degenerateValues : ByteArray := prog_4_method_14_code
def yX2_degenerateValues : MethodName := ⟨RX2, "degenerateValues", "(LLevelEquations$Contents;)I"⟩
abbrev cX2_lonelyValues : ByteArray := prog_4_method_15_code
def yX2_lonelyValues : MethodName := ⟨RX2, "lonelyValues", "(LLevelEquations$Contents;)I"⟩
abbrev cX2_greatestSize : ByteArray := prog_4_method_16_code
def yX2_greatestSize : MethodName := ⟨RX2, "greatestSize", "(LLevelEquations$Contents;)I"⟩
def RX3 : String := "LevelEquations$Polynomial"
def TX3 : u_T := fun k => match k with
  | 0 => ("LevelEquations$Polynomial", "coefficients", "[I", true)
  | _ => ("LevelEquations$Polynomial", "degree", "I", false)
def tyX3 : Nat → FieldType := fun k => match k with
  | 0 => .array .int
  | _ => .int
theorem nmX3 : ∀ a, a < 2 → ∀ b, b < 2 → a ≠ b → (TX3 a).2.1 ≠ (TX3 b).2.1 := by decide +kernel
theorem tyX3_ok : ∀ k, k < 2 → parseFieldDescriptor (TX3 k).2.2.1 = some (tyX3 k) := by decide +kernel
abbrev cX3_init : ByteArray := prog_5_method_1_code
def yX3_init : MethodName := ⟨RX3, "<init>", "()V"⟩
abbrev cX3_clear : ByteArray := prog_5_method_2_code
def yX3_clear : MethodName := ⟨RX3, "clear", "(I)V"⟩
abbrev cX3_copyFrom : ByteArray := prog_5_method_3_code
def yX3_copyFrom : MethodName := ⟨RX3, "copyFrom", "(LLevelEquations$Polynomial;)V"⟩
abbrev cX3_isMissing : ByteArray := prog_5_method_4_code
def yX3_isMissing : MethodName := ⟨RX3, "isMissing", "()Z"⟩
abbrev cX3_has : ByteArray := prog_5_method_5_code
def yX3_has : MethodName := ⟨RX3, "has", "(II)Z"⟩
abbrev cX3_leadingTerm : ByteArray := prog_5_method_6_code
def yX3_leadingTerm : MethodName := ⟨RX3, "leadingTerm", "()I"⟩
abbrev cX3_isSymmetric : ByteArray := prog_5_method_7_code
def yX3_isSymmetric : MethodName := ⟨RX3, "isSymmetric", "()Z"⟩
abbrev cX3_nonzeroCount : ByteArray := prog_5_method_8_code
def yX3_nonzeroCount : MethodName := ⟨RX3, "nonzeroCount", "()I"⟩
abbrev cX3_valueOf : ByteArray := prog_5_method_9_code
def yX3_valueOf : MethodName := ⟨RX3, "valueOf", "(III)I"⟩
abbrev cX3_lineCoefficient : ByteArray := prog_5_method_10_code
def yX3_lineCoefficient : MethodName := ⟨RX3, "lineCoefficient", "(III)I"⟩
def RX4 : String := "LevelEquations$PolynomialText"
def TX4 : u_T := fun k => match k with
  | 0 => ("LevelEquations$PolynomialText", "draft", "LLevelEquations$Polynomial;", true)
  | 1 => ("LevelEquations$PolynomialText", "paper", "[I", true)
  | _ => ("LevelEquations$PolynomialText", "paperLength", "I", false)
def tyX4 : Nat → FieldType := fun k => match k with
  | 0 => .object "LevelEquations$Polynomial"
  | 1 => .array .int
  | _ => .int
theorem nmX4 : ∀ a, a < 3 → ∀ b, b < 3 → a ≠ b → (TX4 a).2.1 ≠ (TX4 b).2.1 := by decide +kernel
theorem tyX4_ok : ∀ k, k < 3 → parseFieldDescriptor (TX4 k).2.2.1 = some (tyX4 k) := by decide +kernel
abbrev cX4_init : ByteArray := prog_6_method_1_code
def yX4_init : MethodName := ⟨RX4, "<init>", "()V"⟩
abbrev cX4_parse : ByteArray := prog_6_method_2_code
def yX4_parse : MethodName := ⟨RX4, "parse", "(LLevelEquations$Tape;I)Z"⟩
abbrev cX4_parseTerm : ByteArray := prog_6_method_3_code
def yX4_parseTerm : MethodName := ⟨RX4, "parseTerm", "(LLevelEquations$Tape;I)Z"⟩
abbrev cX4_putDown : ByteArray := prog_6_method_4_code
def yX4_putDown : MethodName := ⟨RX4, "putDown", "(LLevelEquations$Polynomial;)V"⟩
abbrev cX4_putTerm : ByteArray := prog_6_method_5_code
def yX4_putTerm : MethodName := ⟨RX4, "putTerm", "(III)V"⟩
abbrev cX4_putNumber : ByteArray := prog_6_method_6_code
def yX4_putNumber : MethodName := ⟨RX4, "putNumber", "(I)V"⟩
abbrev cX4_putByte : ByteArray := prog_6_method_7_code
def yX4_putByte : MethodName := ⟨RX4, "putByte", "(I)V"⟩
def RX5 : String := "LevelEquations$Program"
def TX5 : u_T := fun k => match k with
  | 0 => ("LevelEquations$Program", "commands", "[I", true)
  | 1 => ("LevelEquations$Program", "numbers", "[I", true)
  | _ => ("LevelEquations$Program", "size", "I", false)
def tyX5 : Nat → FieldType := fun k => match k with
  | 0 => .array .int
  | 1 => .array .int
  | _ => .int
theorem nmX5 : ∀ a, a < 3 → ∀ b, b < 3 → a ≠ b → (TX5 a).2.1 ≠ (TX5 b).2.1 := by decide +kernel
theorem tyX5_ok : ∀ k, k < 3 → parseFieldDescriptor (TX5 k).2.2.1 = some (tyX5 k) := by decide +kernel
abbrev cX5_init : ByteArray := prog_7_method_1_code
def yX5_init : MethodName := ⟨RX5, "<init>", "()V"⟩
abbrev cX5_numberOf : ByteArray := prog_7_method_2_code
def yX5_numberOf : MethodName := ⟨RX5, "numberOf", "(II)I"⟩
abbrev cX5_parse : ByteArray := prog_7_method_3_code
def yX5_parse : MethodName := ⟨RX5, "parse", "(LLevelEquations$Tape;)Z"⟩
abbrev cX5_parseCommand : ByteArray := prog_7_method_4_code
def yX5_parseCommand : MethodName := ⟨RX5, "parseCommand", "(LLevelEquations$Tape;)Z"⟩
abbrev cX5_commandAt : ByteArray := prog_7_method_5_code
def yX5_commandAt : MethodName := ⟨RX5, "commandAt", "(LLevelEquations$Tape;I)I"⟩
abbrev cX5_wordOf : ByteArray := prog_7_method_6_code
def yX5_wordOf : MethodName := ⟨RX5, "wordOf", "(I)Ljava/lang/String;"⟩
abbrev cX5_numbersAfter : ByteArray := prog_7_method_7_code
def yX5_numbersAfter : MethodName := ⟨RX5, "numbersAfter", "(I)I"⟩
def RX6 : String := "LevelEquations$Series"
def TX6 : u_T := fun k => match k with
  | 0 => ("LevelEquations$Series", "coefficients", "[I", true)
  | 1 => ("LevelEquations$Series", "start", "I", false)
  | _ => ("LevelEquations$Series", "length", "I", false)
def tyX6 : Nat → FieldType := fun k => match k with
  | 0 => .array .int
  | 1 => .int
  | _ => .int
theorem nmX6 : ∀ a, a < 3 → ∀ b, b < 3 → a ≠ b → (TX6 a).2.1 ≠ (TX6 b).2.1 := by decide +kernel
theorem tyX6_ok : ∀ k, k < 3 → parseFieldDescriptor (TX6 k).2.2.1 = some (tyX6 k) := by decide +kernel
abbrev cX6_init : ByteArray := prog_8_method_1_code
def yX6_init : MethodName := ⟨RX6, "<init>", "()V"⟩
abbrev cX6_become : ByteArray := prog_8_method_2_code
def yX6_become : MethodName := ⟨RX6, "become", "(II[I)V"⟩
abbrev cX6_copyFrom : ByteArray := prog_8_method_3_code
def yX6_copyFrom : MethodName := ⟨RX6, "copyFrom", "(LLevelEquations$Series;)V"⟩
abbrev cX6_isMissing : ByteArray := prog_8_method_4_code
def yX6_isMissing : MethodName := ⟨RX6, "isMissing", "()Z"⟩
abbrev cX6_last : ByteArray := prog_8_method_5_code
def yX6_last : MethodName := ⟨RX6, "last", "()I"⟩
abbrev cX6_valueOf : ByteArray := prog_8_method_6_code
def yX6_valueOf : MethodName := ⟨RX6, "valueOf", "(I)I"⟩
abbrev cX6_firstNonzero : ByteArray := prog_8_method_7_code
def yX6_firstNonzero : MethodName := ⟨RX6, "firstNonzero", "()I"⟩
def RX7 : String := "LevelEquations$SeriesMath"
def TX7 : u_T := fun k => match k with
  | 0 => ("LevelEquations$SeriesMath", "result", "[I", true)
  | 1 => ("LevelEquations$SeriesMath", "other", "[I", true)
  | 2 => ("LevelEquations$SeriesMath", "numerator", "[I", true)
  | _ => ("LevelEquations$SeriesMath", "denominator", "[I", true)
def tyX7 : Nat → FieldType := fun k => match k with
  | 0 => .array .int
  | 1 => .array .int
  | 2 => .array .int
  | _ => .array .int
theorem nmX7 : ∀ a, a < 4 → ∀ b, b < 4 → a ≠ b → (TX7 a).2.1 ≠ (TX7 b).2.1 := by decide +kernel
theorem tyX7_ok : ∀ k, k < 4 → parseFieldDescriptor (TX7 k).2.2.1 = some (tyX7 k) := by decide +kernel
abbrev cX7_init : ByteArray := prog_9_method_1_code
def yX7_init : MethodName := ⟨RX7, "<init>", "()V"⟩
abbrev cX7_reduce : ByteArray := prog_9_method_2_code
def yX7_reduce : MethodName := ⟨RX7, "reduce", "([ILLevelEquations$Series;III)V"⟩
abbrev cX7_add : ByteArray := prog_9_method_3_code
def yX7_add : MethodName := ⟨RX7, "add", "(LLevelEquations$Series;LLevelEquations$Series;LLevelEquations$Series;I)V"⟩
abbrev cX7_makeProduct : ByteArray := prog_9_method_4_code
def yX7_makeProduct : MethodName := ⟨RX7, "makeProduct", "(LLevelEquations$Series;LLevelEquations$Series;LLevelEquations$Series;I)V"⟩
abbrev cX7_widen : ByteArray := prog_9_method_5_code
def yX7_widen : MethodName := ⟨RX7, "widen", "(LLevelEquations$Series;ILLevelEquations$Series;)V"⟩
abbrev cX7_makeReciprocal : ByteArray := prog_9_method_6_code
def yX7_makeReciprocal : MethodName := ⟨RX7, "makeReciprocal", "(LLevelEquations$Series;LLevelEquations$Series;I)V"⟩
abbrev cX7_makePower : ByteArray := prog_9_method_7_code
def yX7_makePower : MethodName := ⟨RX7, "makePower", "(LLevelEquations$Series;ILLevelEquations$Series;I)V"⟩
abbrev cX7_makeInvariant : ByteArray := prog_9_method_8_code
def yX7_makeInvariant : MethodName := ⟨RX7, "makeInvariant", "(LLevelEquations$Series;II)V"⟩
abbrev cX7_fillEisenstein : ByteArray := prog_9_method_9_code
def yX7_fillEisenstein : MethodName := ⟨RX7, "fillEisenstein", "(II)V"⟩
abbrev cX7_fillEulerProduct : ByteArray := prog_9_method_10_code
def yX7_fillEulerProduct : MethodName := ⟨RX7, "fillEulerProduct", "(II)V"⟩
abbrev cX7_invert : ByteArray := prog_9_method_11_code
def yX7_invert : MethodName := ⟨RX7, "invert", "([I[III)V"⟩
def RX8 : String := "LevelEquations$Tape"
def TX8 : u_T := fun k => match k with
  | 0 => ("LevelEquations$Tape", "letters", "[I", true)
  | 1 => ("LevelEquations$Tape", "length", "I", false)
  | 2 => ("LevelEquations$Tape", "position", "I", false)
  | _ => ("LevelEquations$Tape", "number", "I", false)
def tyX8 : Nat → FieldType := fun k => match k with
  | 0 => .array .int
  | 1 => .int
  | 2 => .int
  | _ => .int
theorem nmX8 : ∀ a, a < 4 → ∀ b, b < 4 → a ≠ b → (TX8 a).2.1 ≠ (TX8 b).2.1 := by decide +kernel
theorem tyX8_ok : ∀ k, k < 4 → parseFieldDescriptor (TX8 k).2.2.1 = some (tyX8 k) := by decide +kernel
abbrev cX8_init : ByteArray := prog_10_method_1_code
def yX8_init : MethodName := ⟨RX8, "<init>", "()V"⟩
abbrev cX8_append : ByteArray := prog_10_method_2_code
def yX8_append : MethodName := ⟨RX8, "append", "(I)V"⟩
abbrev cX8_clear : ByteArray := prog_10_method_3_code
def yX8_clear : MethodName := ⟨RX8, "clear", "()V"⟩
abbrev cX8_rewind : ByteArray := prog_10_method_4_code
def yX8_rewind : MethodName := ⟨RX8, "rewind", "()V"⟩
abbrev cX8_isAtEnd : ByteArray := prog_10_method_5_code
def yX8_isAtEnd : MethodName := ⟨RX8, "isAtEnd", "()Z"⟩
abbrev cX8_accept : ByteArray := prog_10_method_6_code
def yX8_accept : MethodName := ⟨RX8, "accept", "(I)Z"⟩
abbrev cX8_isAtDigit : ByteArray := prog_10_method_7_code
def yX8_isAtDigit : MethodName := ⟨RX8, "isAtDigit", "(II)Z"⟩
abbrev cX8_acceptNumber : ByteArray := prog_10_method_8_code
def yX8_acceptNumber : MethodName := ⟨RX8, "acceptNumber", "()Z"⟩
abbrev cX8_acceptSignedNumber : ByteArray := prog_10_method_9_code
def yX8_acceptSignedNumber : MethodName := ⟨RX8, "acceptSignedNumber", "()Z"⟩
abbrev cX8_acceptExponent : ByteArray := prog_10_method_10_code
def yX8_acceptExponent : MethodName := ⟨RX8, "acceptExponent", "()Z"⟩
abbrev cX8_wordEnd : ByteArray := prog_10_method_11_code
def yX8_wordEnd : MethodName := ⟨RX8, "wordEnd", "()I"⟩
abbrev cX8_hasWord : ByteArray := prog_10_method_12_code
def yX8_hasWord : MethodName := ⟨RX8, "hasWord", "(Ljava/lang/String;I)Z"⟩
def RX9 : String := "LevelEquations$Vanishing"
def TX9 : u_T := fun k => match k with
  | 0 => ("LevelEquations$Vanishing", "xPowers", "[[I", true)
  | 1 => ("LevelEquations$Vanishing", "yPowers", "[[I", true)
  | 2 => ("LevelEquations$Vanishing", "product", "[I", true)
  | 3 => ("LevelEquations$Vanishing", "total", "[I", true)
  | 4 => ("LevelEquations$Vanishing", "xStart", "I", false)
  | 5 => ("LevelEquations$Vanishing", "yStart", "I", false)
  | 6 => ("LevelEquations$Vanishing", "lowestStart", "I", false)
  | 7 => ("LevelEquations$Vanishing", "length", "I", false)
  | _ => ("LevelEquations$Vanishing", "modulus", "I", false)
def tyX9 : Nat → FieldType := fun k => match k with
  | 0 => .array (.array .int)
  | 1 => .array (.array .int)
  | 2 => .array .int
  | 3 => .array .int
  | 4 => .int
  | 5 => .int
  | 6 => .int
  | 7 => .int
  | _ => .int
theorem nmX9 : ∀ a, a < 9 → ∀ b, b < 9 → a ≠ b → (TX9 a).2.1 ≠ (TX9 b).2.1 := by decide +kernel
theorem tyX9_ok : ∀ k, k < 9 → parseFieldDescriptor (TX9 k).2.2.1 = some (tyX9 k) := by decide +kernel
abbrev cX9_init : ByteArray := prog_11_method_1_code
def yX9_init : MethodName := ⟨RX9, "<init>", "()V"⟩
abbrev cX9_prepare : ByteArray := prog_11_method_2_code
def yX9_prepare : MethodName := ⟨RX9, "prepare", "(LLevelEquations$Series;LLevelEquations$Series;II)V"⟩
abbrev cX9_fillPowers : ByteArray := prog_11_method_3_code
def yX9_fillPowers : MethodName := ⟨RX9, "fillPowers", "([I[[II)V"⟩
abbrev cX9_multiplyTerm : ByteArray := prog_11_method_4_code
def yX9_multiplyTerm : MethodName := ⟨RX9, "multiplyTerm", "(II)I"⟩
abbrev cX9_isZeroFor : ByteArray := prog_11_method_5_code
def yX9_isZeroFor : MethodName := ⟨RX9, "isZeroFor", "(LLevelEquations$Polynomial;)Z"⟩
abbrev cX9_addTerm : ByteArray := prog_11_method_6_code
def yX9_addTerm : MethodName := ⟨RX9, "addTerm", "(III)V"⟩
def RX10 : String := "LevelEquations"
def TX10 : u_T := fun k => match k with
  | 0 => ("LevelEquations", "now", "LLevelEquations$Contents;", true)
  | 1 => ("LevelEquations", "saved", "LLevelEquations$Contents;", true)
  | 2 => ("LevelEquations", "hasImage", "Z", false)
  | 3 => ("LevelEquations", "math", "LLevelEquations$SeriesMath;", true)
  | 4 => ("LevelEquations", "vanishing", "LLevelEquations$Vanishing;", true)
  | 5 => ("LevelEquations", "finder", "LLevelEquations$Finder;", true)
  | 6 => ("LevelEquations", "graph", "LLevelEquations$Graph;", true)
  | 7 => ("LevelEquations", "tape", "LLevelEquations$Tape;", true)
  | 8 => ("LevelEquations", "program", "LLevelEquations$Program;", true)
  | 9 => ("LevelEquations", "text", "LLevelEquations$PolynomialText;", true)
  | 10 => ("LevelEquations", "lists", "[[I", true)
  | _ => ("LevelEquations", "listLengths", "[I", true)
def tyX10 : Nat → FieldType := fun k => match k with
  | 0 => .object "LevelEquations$Contents"
  | 1 => .object "LevelEquations$Contents"
  | 2 => .boolean
  | 3 => .object "LevelEquations$SeriesMath"
  | 4 => .object "LevelEquations$Vanishing"
  | 5 => .object "LevelEquations$Finder"
  | 6 => .object "LevelEquations$Graph"
  | 7 => .object "LevelEquations$Tape"
  | 8 => .object "LevelEquations$Program"
  | 9 => .object "LevelEquations$PolynomialText"
  | 10 => .array (.array .int)
  | _ => .array .int
theorem nmX10 : ∀ a, a < 12 → ∀ b, b < 12 → a ≠ b → (TX10 a).2.1 ≠ (TX10 b).2.1 := by decide +kernel
theorem tyX10_ok : ∀ k, k < 12 → parseFieldDescriptor (TX10 k).2.2.1 = some (tyX10 k) := by decide +kernel
abbrev cX10_init : ByteArray := prog_1_method_1_code
def yX10_init : MethodName := ⟨RX10, "<init>", "()V"⟩
abbrev cX10_prime : ByteArray := prog_1_method_2_code
def yX10_prime : MethodName := ⟨RX10, "prime", "(I)I"⟩
abbrev cX10_j : ByteArray := prog_1_method_3_code
def yX10_j : MethodName := ⟨RX10, "j", "(II)I"⟩
abbrev cX10_tell : ByteArray := prog_1_method_4_code
def yX10_tell : MethodName := ⟨RX10, "tell", "(III)I"⟩
abbrev cX10_sum : ByteArray := prog_1_method_5_code
def yX10_sum : MethodName := ⟨RX10, "sum", "(III)I"⟩
abbrev cX10_times : ByteArray := prog_1_method_6_code
def yX10_times : MethodName := ⟨RX10, "times", "(III)I"⟩
abbrev cX10_stretch : ByteArray := prog_1_method_7_code
def yX10_stretch : MethodName := ⟨RX10, "stretch", "(III)I"⟩
abbrev cX10_over : ByteArray := prog_1_method_8_code
def yX10_over : MethodName := ⟨RX10, "over", "(II)I"⟩
abbrev cX10_power : ByteArray := prog_1_method_9_code
def yX10_power : MethodName := ⟨RX10, "power", "(III)I"⟩
abbrev cX10_of : ByteArray := prog_1_method_10_code
def yX10_of : MethodName := ⟨RX10, "of", "(II)I"⟩
abbrev cX10_coefficient : ByteArray := prog_1_method_11_code
def yX10_coefficient : MethodName := ⟨RX10, "coefficient", "(II)I"⟩
abbrev cX10_find : ByteArray := prog_1_method_12_code
def yX10_find : MethodName := ⟨RX10, "find", "(IIII)I"⟩
abbrev cX10_equation : ByteArray := prog_1_method_13_code
def yX10_equation : MethodName := ⟨RX10, "equation", "(I)I"⟩
abbrev cX10_term : ByteArray := prog_1_method_14_code
def yX10_term : MethodName := ⟨RX10, "term", "(II)I"⟩
abbrev cX10_at : ByteArray := prog_1_method_15_code
def yX10_at : MethodName := ⟨RX10, "at", "(II)I"⟩
abbrev cX10_vanishes : ByteArray := prog_1_method_16_code
def yX10_vanishes : MethodName := ⟨RX10, "vanishes", "(II)I"⟩
abbrev cX10_neighbour : ByteArray := prog_1_method_17_code
def yX10_neighbour : MethodName := ⟨RX10, "neighbour", "(II)I"⟩
abbrev cX10_far : ByteArray := prog_1_method_18_code
def yX10_far : MethodName := ⟨RX10, "far", "(II)I"⟩
abbrev cX10_reach : ByteArray := prog_1_method_19_code
def yX10_reach : MethodName := ⟨RX10, "reach", "(I)I"⟩
abbrev cX10_values : ByteArray := prog_1_method_20_code
def yX10_values : MethodName := ⟨RX10, "values", "(I)I"⟩
abbrev cX10_keep : ByteArray := prog_1_method_21_code
def yX10_keep : MethodName := ⟨RX10, "keep", "(I)I"⟩
abbrev cX10_drop : ByteArray := prog_1_method_22_code
def yX10_drop : MethodName := ⟨RX10, "drop", "(I)I"⟩
abbrev cX10_joined : ByteArray := prog_1_method_23_code
def yX10_joined : MethodName := ⟨RX10, "joined", "(II)J"⟩
abbrev cX10_whole : ByteArray := prog_1_method_24_code
def yX10_whole : MethodName := ⟨RX10, "whole", "()J"⟩
abbrev cX10_feed : ByteArray := prog_1_method_25_code
def yX10_feed : MethodName := ⟨RX10, "feed", "(I)I"⟩
abbrev cX10_deeds : ByteArray := prog_1_method_26_code
def yX10_deeds : MethodName := ⟨RX10, "deeds", "()I"⟩
abbrev cX10_carryOut : ByteArray := prog_1_method_27_code
def yX10_carryOut : MethodName := ⟨RX10, "carryOut", "(I)I"⟩
abbrev cX10_read : ByteArray := prog_1_method_28_code
def yX10_read : MethodName := ⟨RX10, "read", "()I"⟩
abbrev cX10_write : ByteArray := prog_1_method_29_code
def yX10_write : MethodName := ⟨RX10, "write", "()I"⟩
abbrev cX10_paper : ByteArray := prog_1_method_30_code
def yX10_paper : MethodName := ⟨RX10, "paper", "(I)I"⟩
abbrev cX10_list : ByteArray := prog_1_method_31_code
def yX10_list : MethodName := ⟨RX10, "list", "(II)I"⟩
abbrev cX10_put : ByteArray := prog_1_method_32_code
def yX10_put : MethodName := ⟨RX10, "put", "(III)I"⟩
abbrev cX10_get : ByteArray := prog_1_method_33_code
def yX10_get : MethodName := ⟨RX10, "get", "(II)J"⟩
abbrev cX10_lay : ByteArray := prog_1_method_34_code
def yX10_lay : MethodName := ⟨RX10, "lay", "(II)I"⟩
abbrev cX10_judge : ByteArray := prog_1_method_35_code
def yX10_judge : MethodName := ⟨RX10, "judge", "(II)I"⟩
abbrev cX10_image : ByteArray := prog_1_method_36_code
def yX10_image : MethodName := ⟨RX10, "image", "()I"⟩
abbrev cX10_back : ByteArray := prog_1_method_37_code
def yX10_back : MethodName := ⟨RX10, "back", "()I"⟩
abbrev cX10_count : ByteArray := prog_1_method_38_code
def yX10_count : MethodName := ⟨RX10, "count", "(I)I"⟩
abbrev cX10_isSeries : ByteArray := prog_1_method_39_code
def yX10_isSeries : MethodName := ⟨RX10, "isSeries", "(I)Z"⟩
abbrev cX10_isList : ByteArray := prog_1_method_40_code
def yX10_isList : MethodName := ⟨RX10, "isList", "(I)Z"⟩
abbrev cX10_isPlace : ByteArray := prog_1_method_41_code
def yX10_isPlace : MethodName := ⟨RX10, "isPlace", "(I)Z"⟩
abbrev cX10_isTooFar : ByteArray := prog_1_method_42_code
def yX10_isTooFar : MethodName := ⟨RX10, "isTooFar", "(I)Z"⟩
abbrev cX10_isValue : ByteArray := prog_1_method_43_code
def yX10_isValue : MethodName := ⟨RX10, "isValue", "(I)Z"⟩
abbrev cX10_isModulus : ByteArray := prog_1_method_44_code
def yX10_isModulus : MethodName := ⟨RX10, "isModulus", "(I)Z"⟩
abbrev cX10_inverse : ByteArray := prog_1_method_45_code
def yX10_inverse : MethodName := ⟨RX10, "inverse", "(II)I"⟩
abbrev cX10_multiply : ByteArray := prog_1_method_46_code
def yX10_multiply : MethodName := ⟨RX10, "multiply", "([I[I[III)V"⟩
def RX11 : String := "LevelEquationsModel"
def TX11 : u_T := fun k => match k with
  | 0 => ("LevelEquationsModel", "p", "I", false)
  | 1 => ("LevelEquationsModel", "starts", "[I", true)
  | 2 => ("LevelEquationsModel", "lengths", "[I", true)
  | 3 => ("LevelEquationsModel", "rows", "[I", true)
  | 4 => ("LevelEquationsModel", "degree", "I", false)
  | 5 => ("LevelEquationsModel", "equation", "[I", true)
  | 6 => ("LevelEquationsModel", "kept", "[I", true)
  | 7 => ("LevelEquationsModel", "madeStart", "I", false)
  | 8 => ("LevelEquationsModel", "madeLength", "I", false)
  | 9 => ("LevelEquationsModel", "made", "[I", true)
  | 10 => ("LevelEquationsModel", "one", "[I", true)
  | 11 => ("LevelEquationsModel", "other", "[I", true)
  | 12 => ("LevelEquationsModel", "firstPowers", "[I", true)
  | 13 => ("LevelEquationsModel", "secondPowers", "[I", true)
  | 14 => ("LevelEquationsModel", "known", "I", false)
  | 15 => ("LevelEquationsModel", "leastStart", "I", false)
  | 16 => ("LevelEquationsModel", "firstStart", "I", false)
  | 17 => ("LevelEquationsModel", "secondStart", "I", false)
  | 18 => ("LevelEquationsModel", "column", "[I", true)
  | 19 => ("LevelEquationsModel", "bases", "[I", true)
  | 20 => ("LevelEquationsModel", "baseTerms", "[I", true)
  | 21 => ("LevelEquationsModel", "pivots", "[I", true)
  | 22 => ("LevelEquationsModel", "baseMany", "I", false)
  | 23 => ("LevelEquationsModel", "terms", "[I", true)
  | 24 => ("LevelEquationsModel", "free", "I", false)
  | 25 => ("LevelEquationsModel", "found", "[I", true)
  | 26 => ("LevelEquationsModel", "put", "[I", true)
  | 27 => ("LevelEquationsModel", "neighbours", "[I", true)
  | 28 => ("LevelEquationsModel", "neighbourMany", "I", false)
  | 29 => ("LevelEquationsModel", "away", "[I", true)
  | 30 => ("LevelEquationsModel", "tape", "[I", true)
  | 31 => ("LevelEquationsModel", "taped", "I", false)
  | 32 => ("LevelEquationsModel", "at", "I", false)
  | 33 => ("LevelEquationsModel", "words", "[I", true)
  | 34 => ("LevelEquationsModel", "asks", "[I", true)
  | 35 => ("LevelEquationsModel", "told", "[I", true)
  | 36 => ("LevelEquationsModel", "read", "[I", true)
  | 37 => ("LevelEquationsModel", "greatest", "I", false)
  | 38 => ("LevelEquationsModel", "paper", "[I", true)
  | 39 => ("LevelEquationsModel", "papered", "I", false)
  | 40 => ("LevelEquationsModel", "sizes", "[I", true)
  | 41 => ("LevelEquationsModel", "items", "[I", true)
  | 42 => ("LevelEquationsModel", "hasImage", "Z", false)
  | 43 => ("LevelEquationsModel", "imageP", "I", false)
  | 44 => ("LevelEquationsModel", "imageDegree", "I", false)
  | 45 => ("LevelEquationsModel", "imageStarts", "[I", true)
  | 46 => ("LevelEquationsModel", "imageLengths", "[I", true)
  | 47 => ("LevelEquationsModel", "imageRows", "[I", true)
  | 48 => ("LevelEquationsModel", "imageEquation", "[I", true)
  | _ => ("LevelEquationsModel", "imageKept", "[I", true)
def tyX11 : Nat → FieldType := fun k => match k with
  | 0 => .int
  | 1 => .array .int
  | 2 => .array .int
  | 3 => .array .int
  | 4 => .int
  | 5 => .array .int
  | 6 => .array .int
  | 7 => .int
  | 8 => .int
  | 9 => .array .int
  | 10 => .array .int
  | 11 => .array .int
  | 12 => .array .int
  | 13 => .array .int
  | 14 => .int
  | 15 => .int
  | 16 => .int
  | 17 => .int
  | 18 => .array .int
  | 19 => .array .int
  | 20 => .array .int
  | 21 => .array .int
  | 22 => .int
  | 23 => .array .int
  | 24 => .int
  | 25 => .array .int
  | 26 => .array .int
  | 27 => .array .int
  | 28 => .int
  | 29 => .array .int
  | 30 => .array .int
  | 31 => .int
  | 32 => .int
  | 33 => .array .int
  | 34 => .array .int
  | 35 => .array .int
  | 36 => .array .int
  | 37 => .int
  | 38 => .array .int
  | 39 => .int
  | 40 => .array .int
  | 41 => .array .int
  | 42 => .boolean
  | 43 => .int
  | 44 => .int
  | 45 => .array .int
  | 46 => .array .int
  | 47 => .array .int
  | 48 => .array .int
  | _ => .array .int
theorem nmX11 : ∀ a, a < 50 → ∀ b, b < 50 → a ≠ b → (TX11 a).2.1 ≠ (TX11 b).2.1 := by decide +kernel
theorem tyX11_ok : ∀ k, k < 50 → parseFieldDescriptor (TX11 k).2.2.1 = some (tyX11 k) := by decide +kernel
abbrev cX11_init : ByteArray := prog_13_method_1_code
def yX11_init : MethodName := ⟨RX11, "<init>", "()V"⟩
abbrev cX11_in : ByteArray := prog_13_method_2_code
def yX11_in : MethodName := ⟨RX11, "in", "(JJJ)Z"⟩
abbrev cX11_isSeries : ByteArray := prog_13_method_3_code
def yX11_isSeries : MethodName := ⟨RX11, "isSeries", "(I)Z"⟩
abbrev cX11_isThere : ByteArray := prog_13_method_4_code
def yX11_isThere : MethodName := ⟨RX11, "isThere", "(I)Z"⟩
abbrev cX11_isStart : ByteArray := prog_13_method_5_code
def yX11_isStart : MethodName := ⟨RX11, "isStart", "(I)Z"⟩
abbrev cX11_whole : ByteArray := prog_13_method_6_code
def yX11_whole : MethodName := ⟨RX11, "whole", "(J)I"⟩
abbrev cX11_inverse : ByteArray := prog_13_method_7_code
def yX11_inverse : MethodName := ⟨RX11, "inverse", "(I)I"⟩
abbrev cX11_isPrime : ByteArray := prog_13_method_8_code
def yX11_isPrime : MethodName := ⟨RX11, "isPrime", "(I)Z"⟩
abbrev cX11_prime : ByteArray := prog_13_method_9_code
def yX11_prime : MethodName := ⟨RX11, "prime", "(I)I"⟩
abbrev cX11_becomes : ByteArray := prog_13_method_10_code
def yX11_becomes : MethodName := ⟨RX11, "becomes", "(I)I"⟩
abbrev cX11_multiplies : ByteArray := prog_13_method_11_code
def yX11_multiplies : MethodName := ⟨RX11, "multiplies", "([I[II)V"⟩
abbrev cX11_divides : ByteArray := prog_13_method_12_code
def yX11_divides : MethodName := ⟨RX11, "divides", "([I[II)V"⟩
abbrev cX11_lays : ByteArray := prog_13_method_13_code
def yX11_lays : MethodName := ⟨RX11, "lays", "([II[I)V"⟩
abbrev cX11_j : ByteArray := prog_13_method_14_code
def yX11_j : MethodName := ⟨RX11, "j", "(II)I"⟩
abbrev cX11_numberOf : ByteArray := prog_13_method_15_code
def yX11_numberOf : MethodName := ⟨RX11, "numberOf", "(II)I"⟩
abbrev cX11_sum : ByteArray := prog_13_method_16_code
def yX11_sum : MethodName := ⟨RX11, "sum", "(III)I"⟩
abbrev cX11_times : ByteArray := prog_13_method_17_code
def yX11_times : MethodName := ⟨RX11, "times", "(III)I"⟩
abbrev cX11_stretch : ByteArray := prog_13_method_18_code
def yX11_stretch : MethodName := ⟨RX11, "stretch", "(III)I"⟩
abbrev cX11_over : ByteArray := prog_13_method_19_code
def yX11_over : MethodName := ⟨RX11, "over", "(II)I"⟩
abbrev cX11_powers : ByteArray := prog_13_method_20_code
def yX11_powers : MethodName := ⟨RX11, "powers", "(III)V"⟩
abbrev cX11_power : ByteArray := prog_13_method_21_code
def yX11_power : MethodName := ⟨RX11, "power", "(III)I"⟩
abbrev cX11_of : ByteArray := prog_13_method_22_code
def yX11_of : MethodName := ⟨RX11, "of", "(II)I"⟩
abbrev cX11_coefficient : ByteArray := prog_13_method_23_code
def yX11_coefficient : MethodName := ⟨RX11, "coefficient", "(II)I"⟩
abbrev cX11_tellsPowers : ByteArray := prog_13_method_24_code
def yX11_tellsPowers : MethodName := ⟨RX11, "tellsPowers", "(III)V"⟩
abbrev cX11_adds : ByteArray := prog_13_method_25_code
def yX11_adds : MethodName := ⟨RX11, "adds", "(III)V"⟩
abbrev cX11_emptiesColumn : ByteArray := prog_13_method_26_code
def yX11_emptiesColumn : MethodName := ⟨RX11, "emptiesColumn", "()V"⟩
abbrev cX11_lessens : ByteArray := prog_13_method_27_code
def yX11_lessens : MethodName := ⟨RX11, "lessens", "(I)V"⟩
abbrev cX11_firstOther : ByteArray := prog_13_method_28_code
def yX11_firstOther : MethodName := ⟨RX11, "firstOther", "()I"⟩
abbrev cX11_comes : ByteArray := prog_13_method_29_code
def yX11_comes : MethodName := ⟨RX11, "comes", "()Z"⟩
abbrev cX11_place : ByteArray := prog_13_method_30_code
def yX11_place : MethodName := ⟨RX11, "place", "(III)I"⟩
abbrev cX11_tries : ByteArray := prog_13_method_31_code
def yX11_tries : MethodName := ⟨RX11, "tries", "(IIIZ)V"⟩
abbrev cX11_find : ByteArray := prog_13_method_32_code
def yX11_find : MethodName := ⟨RX11, "find", "(IIII)I"⟩
abbrev cX11_termAt : ByteArray := prog_13_method_33_code
def yX11_termAt : MethodName := ⟨RX11, "termAt", "(II)I"⟩
abbrev cX11_equation : ByteArray := prog_13_method_34_code
def yX11_equation : MethodName := ⟨RX11, "equation", "(I)I"⟩
abbrev cX11_term : ByteArray := prog_13_method_35_code
def yX11_term : MethodName := ⟨RX11, "term", "(II)I"⟩
abbrev cX11_isValue : ByteArray := prog_13_method_36_code
def yX11_isValue : MethodName := ⟨RX11, "isValue", "(I)Z"⟩
abbrev cX11_puts : ByteArray := prog_13_method_37_code
def yX11_puts : MethodName := ⟨RX11, "puts", "(I)Z"⟩
abbrev cX11_worth : ByteArray := prog_13_method_38_code
def yX11_worth : MethodName := ⟨RX11, "worth", "(I)I"⟩
abbrev cX11_at : ByteArray := prog_13_method_39_code
def yX11_at : MethodName := ⟨RX11, "at", "(II)I"⟩
abbrev cX11_vanishes : ByteArray := prog_13_method_40_code
def yX11_vanishes : MethodName := ⟨RX11, "vanishes", "(II)I"⟩
abbrev cX11_oftenOf : ByteArray := prog_13_method_41_code
def yX11_oftenOf : MethodName := ⟨RX11, "oftenOf", "(I)I"⟩
abbrev cX11_tellsNeighbours : ByteArray := prog_13_method_42_code
def yX11_tellsNeighbours : MethodName := ⟨RX11, "tellsNeighbours", "(I)Z"⟩
abbrev cX11_neighbour : ByteArray := prog_13_method_43_code
def yX11_neighbour : MethodName := ⟨RX11, "neighbour", "(II)I"⟩
abbrev cX11_tellsAway : ByteArray := prog_13_method_44_code
def yX11_tellsAway : MethodName := ⟨RX11, "tellsAway", "(I)V"⟩
abbrev cX11_far : ByteArray := prog_13_method_45_code
def yX11_far : MethodName := ⟨RX11, "far", "(II)I"⟩
abbrev cX11_reach : ByteArray := prog_13_method_46_code
def yX11_reach : MethodName := ⟨RX11, "reach", "(I)I"⟩
abbrev cX11_values : ByteArray := prog_13_method_47_code
def yX11_values : MethodName := ⟨RX11, "values", "(I)I"⟩
abbrev cX11_isKept : ByteArray := prog_13_method_48_code
def yX11_isKept : MethodName := ⟨RX11, "isKept", "(I)Z"⟩
abbrev cX11_keptPrime : ByteArray := prog_13_method_49_code
def yX11_keptPrime : MethodName := ⟨RX11, "keptPrime", "(I)I"⟩
abbrev cX11_keptMany : ByteArray := prog_13_method_50_code
def yX11_keptMany : MethodName := ⟨RX11, "keptMany", "()I"⟩
abbrev cX11_keep : ByteArray := prog_13_method_51_code
def yX11_keep : MethodName := ⟨RX11, "keep", "(I)I"⟩
abbrev cX11_drop : ByteArray := prog_13_method_52_code
def yX11_drop : MethodName := ⟨RX11, "drop", "(I)I"⟩
abbrev cX11_joinedDegree : ByteArray := prog_13_method_53_code
def yX11_joinedDegree : MethodName := ⟨RX11, "joinedDegree", "()I"⟩
abbrev cX11_whole_ : ByteArray := prog_13_method_54_code
def yX11_whole_ : MethodName := ⟨RX11, "whole", "()J"⟩
abbrev cX11_joined : ByteArray := prog_13_method_55_code
def yX11_joined : MethodName := ⟨RX11, "joined", "(II)J"⟩
abbrev cX11_feed : ByteArray := prog_13_method_56_code
def yX11_feed : MethodName := ⟨RX11, "feed", "(I)I"⟩
abbrev cX11_here : ByteArray := prog_13_method_57_code
def yX11_here : MethodName := ⟨RX11, "here", "()I"⟩
abbrev cX11_isFigure : ByteArray := prog_13_method_58_code
def yX11_isFigure : MethodName := ⟨RX11, "isFigure", "()Z"⟩
abbrev cX11_isLetter : ByteArray := prog_13_method_59_code
def yX11_isLetter : MethodName := ⟨RX11, "isLetter", "()Z"⟩
abbrev cX11_wordFrom : ByteArray := prog_13_method_60_code
def yX11_wordFrom : MethodName := ⟨RX11, "wordFrom", "(I)I"⟩
abbrev cX11_readsDeed : ByteArray := prog_13_method_61_code
def yX11_readsDeed : MethodName := ⟨RX11, "readsDeed", "(I)Z"⟩
abbrev cX11_does : ByteArray := prog_13_method_62_code
def yX11_does : MethodName := ⟨RX11, "does", "(I)I"⟩
abbrev cX11_deeds : ByteArray := prog_13_method_63_code
def yX11_deeds : MethodName := ⟨RX11, "deeds", "()I"⟩
abbrev cX11_readsPower : ByteArray := prog_13_method_64_code
def yX11_readsPower : MethodName := ⟨RX11, "readsPower", "(I)I"⟩
abbrev cX11_readsTerm : ByteArray := prog_13_method_65_code
def yX11_readsTerm : MethodName := ⟨RX11, "readsTerm", "()Z"⟩
abbrev cX11_read : ByteArray := prog_13_method_66_code
def yX11_read : MethodName := ⟨RX11, "read", "()I"⟩
abbrev cX11_writes : ByteArray := prog_13_method_67_code
def yX11_writes : MethodName := ⟨RX11, "writes", "(I)V"⟩
abbrev cX11_writesNumber : ByteArray := prog_13_method_68_code
def yX11_writesNumber : MethodName := ⟨RX11, "writesNumber", "(I)V"⟩
abbrev cX11_writesPower : ByteArray := prog_13_method_69_code
def yX11_writesPower : MethodName := ⟨RX11, "writesPower", "(II)V"⟩
abbrev cX11_write : ByteArray := prog_13_method_70_code
def yX11_write : MethodName := ⟨RX11, "write", "()I"⟩
abbrev cX11_paper : ByteArray := prog_13_method_71_code
def yX11_paper : MethodName := ⟨RX11, "paper", "(I)I"⟩
abbrev cX11_isList : ByteArray := prog_13_method_72_code
def yX11_isList : MethodName := ⟨RX11, "isList", "(I)Z"⟩
abbrev cX11_tell : ByteArray := prog_13_method_73_code
def yX11_tell : MethodName := ⟨RX11, "tell", "(III)I"⟩
abbrev cX11_list : ByteArray := prog_13_method_74_code
def yX11_list : MethodName := ⟨RX11, "list", "(II)I"⟩
abbrev cX11_put : ByteArray := prog_13_method_75_code
def yX11_put : MethodName := ⟨RX11, "put", "(III)I"⟩
abbrev cX11_get : ByteArray := prog_13_method_76_code
def yX11_get : MethodName := ⟨RX11, "get", "(II)J"⟩
abbrev cX11_lay : ByteArray := prog_13_method_77_code
def yX11_lay : MethodName := ⟨RX11, "lay", "(II)I"⟩
abbrev cX11_judge : ByteArray := prog_13_method_78_code
def yX11_judge : MethodName := ⟨RX11, "judge", "(II)I"⟩
abbrev cX11_copies : ByteArray := prog_13_method_79_code
def yX11_copies : MethodName := ⟨RX11, "copies", "([I[I)V"⟩
abbrev cX11_seriesMany : ByteArray := prog_13_method_80_code
def yX11_seriesMany : MethodName := ⟨RX11, "seriesMany", "()I"⟩
abbrev cX11_image : ByteArray := prog_13_method_81_code
def yX11_image : MethodName := ⟨RX11, "image", "()I"⟩
abbrev cX11_back : ByteArray := prog_13_method_82_code
def yX11_back : MethodName := ⟨RX11, "back", "()I"⟩
abbrev cX11_count : ByteArray := prog_13_method_83_code
def yX11_count : MethodName := ⟨RX11, "count", "(I)I"⟩
def RJx145de : String := "java/io/Serializable"
def RJx9f9b0 : String := "java/lang/CharSequence"
def RJxb160c : String := "java/lang/Comparable"
def RJ9 : String := "java/lang/Math"
abbrev cJ9_floorMod_7cf53 : ByteArray := prog_14_method_50_code
def yJ9_floorMod_7cf53 : MethodName := ⟨RJ9, "floorMod", "(II)I"⟩
abbrev cJ9_max_7cf53 : ByteArray := prog_14_method_65_code
def yJ9_max_7cf53 : MethodName := ⟨RJ9, "max", "(II)I"⟩
abbrev cJ9_min_7cf53 : ByteArray := prog_14_method_69_code
def yJ9_min_7cf53 : MethodName := ⟨RJ9, "min", "(II)I"⟩
def RJ0 : String := "java/lang/String"
abbrev cJ0_length_8abf5 : ByteArray := prog_15_method_54_code
def yJ0_length_8abf5 : MethodName := ⟨RJ0, "length", "()I"⟩
abbrev cJ0_charAt_5068e : ByteArray := prog_15_method_56_code
def yJ0_charAt_5068e : MethodName := ⟨RJ0, "charAt", "(I)C"⟩
abbrev cJ0_coder_7d493 : ByteArray := prog_15_method_152_code
def yJ0_coder_7d493 : MethodName := ⟨RJ0, "coder", "()B"⟩
abbrev cJ0_isLatin1_aae02 : ByteArray := prog_15_method_154_code
def yJ0_isLatin1_aae02 : MethodName := ⟨RJ0, "isLatin1", "()Z"⟩
abbrev cJ0_checkIndex_df160 : ByteArray := prog_15_method_155_code
def yJ0_checkIndex_df160 : MethodName := ⟨RJ0, "checkIndex", "(II)V"⟩
def RJ1 : String := "java/lang/StringLatin1"
abbrev cJ1_charAt_3b067 : ByteArray := prog_16_method_2_code
def yJ1_charAt_3b067 : MethodName := ⟨RJ1, "charAt", "([BI)C"⟩
def RJ2 : String := "java/lang/StringUTF16"
abbrev cJ2_getChar_3b067 : ByteArray := prog_17_method_5_code
def yJ2_getChar_3b067 : MethodName := ⟨RJ2, "getChar", "([BI)C"⟩
abbrev cJ2_length_9d52b : ByteArray := prog_17_method_6_code
def yJ2_length_9d52b : MethodName := ⟨RJ2, "length", "([B)I"⟩
abbrev cJ2_charAt_3b067 : ByteArray := prog_17_method_83_code
def yJ2_charAt_3b067 : MethodName := ⟨RJ2, "charAt", "([BI)C"⟩
abbrev cJ2_checkIndex_2214a : ByteArray := prog_17_method_91_code
def yJ2_checkIndex_2214a : MethodName := ⟨RJ2, "checkIndex", "(I[B)V"⟩
def RJ10 : String := "java/lang/System"
def RJxfd54e : String := "java/lang/constant/Constable"
def RJx3cf43 : String := "java/lang/constant/ConstantDesc"
def RJ7 : String := "java/util/Arrays"
abbrev cJ7_fill_53178 : ByteArray := prog_19_method_103_code
def yJ7_fill_53178 : MethodName := ⟨RJ7, "fill", "([II)V"⟩
def RJ3 : String := "jdk/internal/util/Preconditions"
abbrev cJ3_checkIndex_8e157 : ByteArray := prog_20_method_11_code
def yJ3_checkIndex_8e157 : MethodName := ⟨RJ3, "checkIndex", "(IILjava/util/function/BiFunction;)I"⟩
abbrev cL_law : ByteArray := code
def vwCl : List vw_C := [(RX0, TX0, 5), (RX1, TX1, 10), (RX2, TX2, 5), (RX3, TX3, 2), (RX4, TX4, 3), (RX5, TX5, 3), (RX6, TX6, 3), (RX7, TX7, 4), (RX8, TX8, 4), (RX9, TX9, 9), (RX10, TX10, 12), (RX11, TX11, 50)]
end
section
/-! THE PURE WORLD: cells are numbered from 0 on; the cell i lies at the address base + i. A world: the cells' kinds and sizes, the references that they hold, the whole numbers that they hold. -/
def zJ (z : Int) : Int32 := Int32.ofInt z
def zL (z : Int) : Int64 := Int64.ofInt z
abbrev zWS : Type := List (Nat × Nat) × (Nat → Nat → Option Nat) × (Nat → Nat → Int)
/-- launch, classes' numbers and slots, base, array classes by kind, addresses outside the world -/
abbrev zG : Type := Launch × va_G × Nat × (Nat → ClassId) × (Nat → Nat)
def zgl (g : zG) : Launch := g.1
def zgD (g : zG) : va_G := g.2.1
def zgB (g : zG) : Nat := g.2.2.1
def zgc (g : zG) : Nat → ClassId := g.2.2.2.1
def zgx (g : zG) : Nat → Nat := g.2.2.2.2
def zad (g : zG) (i : Nat) : Nat := if i < 90000 then zgB g + i else zgx g (i - 90000)
def ztv (g : zG) : Value → Value
  | .ref i => .ref (zad g i)
  | v => v
theorem ztv_cat (g : zG) (v : Value) : (ztv g v).category = v.category := by cases v <;> rfl
def zlv (g : zG) (lv : List (Nat × Value)) : List (Nat × Value) := lv.map (fun q => (q.1, ztv g q.2))
/-- name, code, locals, answer, room -/
abbrev zM : Type := MethodName × ByteArray × Nat × Option FieldType × Room
/-- which fields of a class are references -/
def zRk : Nat → List Bool := fun k => match k with
  | 0 => [false, true, true, true, true]
  | 1 => [true, true, true, true, false, false, false, false, false, false]
  | 2 => [true, true, true, true, true]
  | 3 => [true, false]
  | 4 => [true, true, false]
  | 5 => [true, true, false]
  | 6 => [true, false, false]
  | 7 => [true, true, true, true]
  | 8 => [true, false, false, false]
  | 9 => [true, true, true, true, false, false, false, false, false]
  | 10 => [true, true, false, true, true, true, true, true, true, true, true, true]
  | _ => [false, true, true, true, false, true, true, false, false, true, true, true, true, true, false, false, false, false, true, true, true, true, false, true, false, true, true, true, false, true, true, false, false, true, true, true, true, false, true, false, true, true, false, false, false, true, true, true, true, true]
def zNF (k : Nat) : Nat := (zRk k).length
def zfv (g : zG) (w : zWS) (k i j : Nat) : Value := if (zRk k).getD j false then va_rf ((w.2.1 i j).map (zad g)) else .int (zJ (w.2.2 i j))
def zce (g : zG) (w : zWS) (i : Nat) (sh : Nat × Nat) : va_E :=
  if sh.1 < 12 then .inr (sh.1, (List.range (zNF sh.1)).map (zfv g w sh.1 i))
  else if sh.1 = 12 then .inl (zgc g 12, sh.2, .inl (fun j => zJ (w.2.2 i j)))
  else .inl (zgc g sh.1, sh.2, .inr (.inr (.inr (.inr (fun j => (w.2.1 i j).map (zad g))))))
def zwl (g : zG) (w : zWS) : va_W := (List.range w.1.length).map (fun i => (zgB g + i, zce g w i (w.1.getD i (99, 0))))
def zHW (g : zG) (w : zWS) (H : Heap) : Prop := va_P (zgD g) vwCl (zwl g w) H ∧ H.size = zgB g + w.1.length ∧ w.1.length < 90000
def zA (g : zG) : Nat → Prop := fun q => zgB g ≤ q
/-- the arrays' classes -/
def zTys (g : zG) : List (ClassId × FieldType) := [(zgc g 12, .int), (zgc g 13, .object "LevelEquations$Polynomial"), (zgc g 14, .object "LevelEquations$Series"), (zgc g 15, .array .int)]
def ztbl : List Cond := lw_tbl.filter goodWord
/-- the String constants -/
def zTx : List String := ["prime", "j", "sum", "times", "stretch", "over", "power", "find", "keep"]
def zTi : List Nat := [68, 70, 72, 74, 76, 78, 80, 82, 84]
def zTl : List Nat := [5, 1, 3, 5, 7, 4, 5, 4, 4]
def zTb : List (List Int32) := [[112, 114, 105, 109, 101], [106], [115, 117, 109], [116, 105, 109, 101, 115], [115, 116, 114, 101, 116, 99, 104], [111, 118, 101, 114], [112, 111, 119, 101, 114], [102, 105, 110, 100], [107, 101, 101, 112]]
/-- the calls of nest mates' private members -/
def zNest : List (String × Nat × MethodName × String) := [(RX0, 23, yX3_init, RX10), (RX0, 36, yX6_init, RX10), (RX10, 23, yX7_init, RX10), (RX10, 30, yX9_init, RX10), (RX10, 37, yX1_init, RX10), (RX10, 51, yX8_init, RX10), (RX10, 58, yX5_init, RX10), (RX10, 65, yX4_init, RX10), (RX4, 11, yX3_init, RX10), (RX7, 57, yX10_multiply, RX10), (RX7, 84, yX10_inverse, RX10), (RX9, 67, yX10_multiply, RX10), (RX1, 98, yX10_inverse, RX10), (RX0, 58, yX10_inverse, RX10)]
/-- what a method may take of the machine's state at its entry -/
def zU (g : zG) (U : State) : Prop := va_K (zgD g) vwCl (zTys g) U ∧ (∀ q ∈ zNest, va_Nw (.methodLinkNest q.1 q.2.1 q.2.2.1 q.2.2.2) U) ∧
  (∀ k, k < 9 → vk_R RX5 (zTi.getD k 0) (zTx.getD k "") (zgx g (k + 1)) U) ∧ vk_S 9 zTl zTb (fun k => zgx g (k + 1)) (fun k => zgx g (k + 101)) (zA g) U U.heap ∧ va_Z "java/lang/String" "COMPACT_STRINGS" "Z" (.int 1) (zA g) U U.heap ∧ (va_Z "jdk/internal/util/Preconditions" "SIOOBE_FORMATTER" "Ljava/util/function/BiFunction;" .null (zA g) U U.heap ∨ va_Z "jdk/internal/util/Preconditions" "SIOOBE_FORMATTER" "Ljava/util/function/BiFunction;" (.ref (zgx g 201)) (zA g) U U.heap)
/-- what a method's code may take of the machine -/
def zCX (g : zG) (M : zM) (EX : State → Prop) (p : Program) (s : State) (m : MethodId) (args : Array Value) (meth : Method) (c : Code) : Prop :=
  p.tables.exec = Jvm.exec ∧ c.code = M.2.1 ∧ c.maxLocals = M.2.2.1 ∧ meth.sig.returnType = M.2.2.2.1 ∧ (∀ w ∈ ztbl, w.before args s = true) ∧ s.vm.findClass M.1.cls = some m.cls ∧ meth.locks = false ∧ (M.1.name = "<init>" → meth.name = "<init>") ∧ zU g s ∧ zgB g ≤ s.heap.size ∧ EX s
/-- further facts of the entry's state; where the machine is to come -/
abbrev zMo : Type := (State → Prop) × (List Frame → Array Value → State → State → Prop)
/-- from here on the machine comes there -/
def zWP (g : zG) (M : zM) (mo : zMo) (pc : Nat) (lv : List (Nat × Value)) (st : List Value) (nc ns : Nat) (w : zWS) : Prop :=
  ∀ (p : Program) (e : Env) (s : State) (m : MethodId) (args : Array Value) (below : List Frame) (meth : Method) (c : Code) (H : Heap) (locs : List Loc) (ls : Array Slot),
    zCX g M mo.1 p s m args meth c → lv_has ls M.2.2.1 (zlv g lv) → zHW g w H → va_S (zA g) s.heap H locs →
    W p (zgl g) e M.2.2.2.2 s m args below meth c H locs nc ns (mo.2 below args s) (F0 m pc ls (st.map (ztv g)))
def zQ (g : zG) (Φ : Option Value → zWS → Prop) : Array Value → State → Outcome → State → Prop := fun _ st oc t =>
  (∃ (r : Option Value) (w' : zWS), oc = .returned (r.map (ztv g)) ∧ Φ r w' ∧ zHW g w' t.heap) ∧ va_F (zA g) st t
def zws (M : zM) : List Cond := .code M.1 M.2.1 M.2.2.1 M.2.2.2.1 :: ztbl
/-- the method's mode: it comes back with what Φ says -/
def zmo (g : zG) (M : zM) (Φ : Option Value → zWS → Prop) : zMo := (fun _ => True, fun below args s => MQ below (zQ g Φ) args s M.2.2.2.2.cells M.2.2.2.2.slots (zA g))
/-- a call of the method with these arguments in this world comes back with what Φ says -/
def zOK (g : zG) (M : zM) (args : List Value) (w : zWS) (Φ : Option Value → zWS → Prop) : Prop :=
  Met (zgl g) M.1 (zws M) M.2.2.2.2 (va_Pc (args.map (ztv g)) (fun U => zU g U ∧ zgB g ≤ U.heap.size ∧ zHW g w U.heap)) (zQ g Φ) M.2.2.2.2.cells M.2.2.2.2.slots (zA g)
def zOKi (g : zG) (M : zM) (args : List Value) (w : zWS) (φ : Int → zWS → Prop) : Prop := zOK g M args w (fun r w' => ∃ x : Int, r = some (.int (zJ x)) ∧ φ x w')
def zOKl (g : zG) (M : zM) (args : List Value) (w : zWS) (φ : Int → zWS → Prop) : Prop := zOK g M args w (fun r w' => ∃ x : Int, r = some (.long (zL x)) ∧ φ x w')
def zOKr (g : zG) (M : zM) (args : List Value) (w : zWS) (φ : Nat → zWS → Prop) : Prop := zOK g M args w (fun r w' => ∃ x : Nat, r = some (.ref x) ∧ φ x w')
def zOKv (g : zG) (M : zM) (args : List Value) (w : zWS) (φ : zWS → Prop) : Prop := zOK g M args w (fun r w' => r = none ∧ φ w')
-- the world's list
theorem zwl_len (g : zG) (w : zWS) : (zwl g w).length = w.1.length := by simp [zwl]
theorem zwl_get {g : zG} {w : zWS} {i : Nat} {sh : Nat × Nat} (h : w.1[i]? = some sh) (hn : w.1.length < 90000) : (zwl g w)[i]? = some (zad g i, zce g w i sh) := by
  have hi : i < w.1.length := (List.getElem?_eq_some_iff.mp h).1
  have hd : w.1.getD i (99, 0) = sh := by rw [List.getD_eq_getElem?_getD, h]; rfl
  rw [zwl, List.getElem?_map, List.getElem?_range hi]
  show some (zgB g + i, zce g w i (w.1.getD i (99, 0))) = some (zad g i, zce g w i sh)
  rw [hd, zad, if_pos (by omega)]
theorem zwl_at {g : zG} {w : zWS} {k : Nat} {q : Nat × va_E} (h : (zwl g w)[k]? = some q) : k < w.1.length ∧ q.1 = zgB g + k := by
  have hk : k < w.1.length := by rw [← zwl_len g w]; exact (List.getElem?_eq_some_iff.mp h).1
  refine ⟨hk, ?_⟩
  rw [zwl, List.getElem?_map, List.getElem?_range hk] at h
  rw [← Option.some.inj h]
theorem zwl_D (g : zG) (w : zWS) : va_D (zA g) (zwl g w) := by
  refine ⟨fun i j p q hi hj e => ?_, fun k q hk => ?_⟩
  · have := (zwl_at hi).2
    have := (zwl_at hj).2
    omega
  · rw [(zwl_at hk).2]
    exact Nat.le_add_right _ _
theorem zw_set {g : zG} {w w' : zWS} {i : Nat} {sh : Nat × Nat} {e : va_E} (h : w.1[i]? = some sh) (hn : w.1.length < 90000) (h1 : w'.1 = w.1) (he : zce g w' i sh = e) (ho : ∀ j s2, j ≠ i → w.1[j]? = some s2 → zce g w' j s2 = zce g w j s2) : (zwl g w).set i (zad g i, e) = zwl g w' := by
  have hi : i < w.1.length := (List.getElem?_eq_some_iff.mp h).1
  apply List.ext_getElem?
  intro j
  by_cases hj : j < w.1.length
  · obtain ⟨s2, hs2⟩ : ∃ s2, w.1[j]? = some s2 := ⟨_, List.getElem?_eq_getElem hj⟩
    rw [zwl_get (g := g) (w := w') (i := j) (sh := s2) (by rw [h1]; exact hs2) (by rw [h1]; exact hn)]
    by_cases hji : j = i
    · subst hji
      rw [List.getElem?_set_self (by rw [zwl_len]; exact hj)]
      rw [h] at hs2
      rw [← Option.some.inj hs2, he]
    · rw [List.getElem?_set_ne (Ne.symm hji), zwl_get hs2 hn, ho j s2 hji hs2]
  · rw [List.getElem?_eq_none (by rw [List.length_set, zwl_len]; omega), List.getElem?_eq_none (by rw [zwl_len, h1]; omega)]
def zuI (w : zWS) (i j : Nat) (v : Int) : zWS := (w.1, w.2.1, fun a b => if a = i ∧ b = j then v else w.2.2 a b)
def zuR (w : zWS) (i j : Nat) (r : Option Nat) : zWS := (w.1, fun a b => if a = i ∧ b = j then r else w.2.1 a b, w.2.2)
/-- all whole numbers of a cell anew -/
def zuA (w : zWS) (i : Nat) (f : Nat → Int) : zWS := (w.1, w.2.1, fun a b => if a = i then f b else w.2.2 a b)
def zpu (w : zWS) (k n : Nat) : zWS := (w.1 ++ [(k, n)], fun a b => if a = w.1.length then none else w.2.1 a b, fun a b => if a = w.1.length then 0 else w.2.2 a b)
theorem zfv_ne {g : zG} {w : zWS} {k i j : Nat} (hr : (zRk k).getD j false = false) : zfv g w k i j = .int (zJ (w.2.2 i j)) := by rw [zfv, hr]; rfl
theorem zfv_rf {g : zG} {w : zWS} {k i j : Nat} (hr : (zRk k).getD j false = true) : zfv g w k i j = va_rf ((w.2.1 i j).map (zad g)) := by rw [zfv, hr]; rfl
theorem zce_ob {g : zG} {w : zWS} {i k n : Nat} (h : k < 12) : zce g w i (k, n) = .inr (k, (List.range (zNF k)).map (zfv g w k i)) := by rw [zce, if_pos h]
theorem zce_ar {g : zG} {w : zWS} {i n : Nat} : zce g w i (12, n) = .inl (zgc g 12, n, .inl (fun j => zJ (w.2.2 i j))) := by rw [zce, if_neg (show ¬ (12 : Nat) < 12 by decide), if_pos rfl]
theorem zce_rr {g : zG} {w : zWS} {i k n : Nat} (h : 12 < k) : zce g w i (k, n) = .inl (zgc g k, n, .inr (.inr (.inr (.inr (fun j => (w.2.1 i j).map (zad g)))))) := by rw [zce, if_neg (by show ¬ k < 12; omega), if_neg (by show ¬ k = 12; omega)]
theorem zce_eq {g : zG} {w w' : zWS} {i : Nat} {sh : Nat × Nat} (h1 : ∀ b, w'.2.1 i b = w.2.1 i b) (h2 : ∀ b, w'.2.2 i b = w.2.2 i b) : zce g w' i sh = zce g w i sh := by
  have e1 : w'.2.1 i = w.2.1 i := funext h1
  have e2 : w'.2.2 i = w.2.2 i := funext h2
  unfold zce
  have e3 : zfv g w' sh.1 i = zfv g w sh.1 i := by
    funext j
    unfold zfv
    rw [e1, e2]
  rw [e1, e2, e3]
theorem zw_uI {g : zG} {w : zWS} {i j k n : Nat} {v : Int} (h : w.1[i]? = some (k, n)) (hn : w.1.length < 90000) (hk : k < 12) (hj : j < zNF k) (hr : (zRk k).getD j false = false) : (zwl g w).set i (zad g i, .inr (k, ((List.range (zNF k)).map (zfv g w k i)).set j (.int (zJ v)))) = zwl g (zuI w i j v) := by
  refine zw_set h hn rfl ?_ (fun a s2 ha _ => zce_eq (fun b => rfl) (fun b => if_neg (fun q => ha q.1)))
  rw [zce_ob hk]
  refine congrArg (fun l => (Sum.inr (k, l) : va_E)) ?_
  apply List.ext_getElem?
  intro b
  by_cases hb : b < zNF k
  · rw [List.getElem?_map, List.getElem?_range hb]
    by_cases hbj : b = j
    · subst hbj
      rw [List.getElem?_set_self (by simp [hb])]
      show some (zfv g _ k i b) = _
      rw [zfv_ne hr, show (zuI w i b v).2.2 i b = v from if_pos ⟨rfl, rfl⟩]
    · rw [List.getElem?_set_ne (Ne.symm hbj), List.getElem?_map, List.getElem?_range hb]
      show some (zfv g _ k i b) = some (zfv g w k i b)
      unfold zfv
      rw [show (zuI w i j v).2.2 i b = w.2.2 i b from if_neg (fun q => hbj q.2), show (zuI w i j v).2.1 = w.2.1 from rfl]
  · rw [List.getElem?_eq_none (by simp; omega), List.getElem?_eq_none (by simp; omega)]
theorem zw_uR {g : zG} {w : zWS} {i j k n : Nat} {v : Option Nat} (h : w.1[i]? = some (k, n)) (hn : w.1.length < 90000) (hk : k < 12) (hj : j < zNF k) (hr : (zRk k).getD j false = true) : (zwl g w).set i (zad g i, .inr (k, ((List.range (zNF k)).map (zfv g w k i)).set j (va_rf (v.map (zad g))))) = zwl g (zuR w i j v) := by
  refine zw_set h hn rfl ?_ (fun a s2 ha _ => zce_eq (fun b => if_neg (fun q => ha q.1)) (fun b => rfl))
  rw [zce_ob hk]
  refine congrArg (fun l => (Sum.inr (k, l) : va_E)) ?_
  apply List.ext_getElem?
  intro b
  by_cases hb : b < zNF k
  · rw [List.getElem?_map, List.getElem?_range hb]
    by_cases hbj : b = j
    · subst hbj
      rw [List.getElem?_set_self (by simp [hb])]
      show some (zfv g _ k i b) = _
      rw [zfv_rf hr, show (zuR w i b v).2.1 i b = v from if_pos ⟨rfl, rfl⟩]
    · rw [List.getElem?_set_ne (Ne.symm hbj), List.getElem?_map, List.getElem?_range hb]
      show some (zfv g _ k i b) = some (zfv g w k i b)
      unfold zfv
      rw [show (zuR w i j v).2.1 i b = w.2.1 i b from if_neg (fun q => hbj q.2), show (zuR w i j v).2.2 = w.2.2 from rfl]
  · rw [List.getElem?_eq_none (by simp; omega), List.getElem?_eq_none (by simp; omega)]
theorem zw_aI {g : zG} {w : zWS} {i n : Nat} {f : Nat → Int32} {F : Nat → Int} (h : w.1[i]? = some (12, n)) (hn : w.1.length < 90000) (hf : ∀ b, f b = zJ (F b)) : (zwl g w).set i (zad g i, .inl (zgc g 12, n, .inl f)) = zwl g (zuA w i F) := by
  refine zw_set h hn rfl ?_ (fun a s2 ha _ => zce_eq (fun b => rfl) (fun b => if_neg ha))
  rw [zce_ar]
  have : f = fun j => zJ ((zuA w i F).2.2 i j) := funext fun b => by rw [hf b]; exact congrArg zJ (if_pos rfl).symm
  rw [this]
theorem zw_aR {g : zG} {w : zWS} {i k n j : Nat} {v : Option Nat} (h : w.1[i]? = some (k, n)) (hk : 12 < k) (hn : w.1.length < 90000) : (zwl g w).set i (zad g i, .inl (zgc g k, n, .inr (.inr (.inr (.inr (va_up (fun j => (w.2.1 i j).map (zad g)) j (v.map (zad g)))))))) = zwl g (zuR w i j v) := by
  refine zw_set h hn rfl ?_ (fun a s2 ha _ => zce_eq (fun b => if_neg (fun q => ha q.1)) (fun b => rfl))
  rw [zce_rr hk]
  refine congrArg (fun f => (Sum.inl (zgc g k, n, .inr (.inr (.inr (.inr f)))) : va_E)) (funext fun b => ?_)
  by_cases hb : b = j
  · subst hb
    simp [va_up, zuR]
  · simp [va_up, zuR, hb]
theorem zuI_A (w : zWS) (i j : Nat) (v : Int) : zuA w i (fun b => if b = j then v else w.2.2 i b) = zuI w i j v := by
  refine congrArg (fun f => (w.1, w.2.1, f)) (funext fun a => funext fun b => ?_)
  by_cases ha : a = i
  · subst ha
    by_cases hb : b = j <;> simp [hb]
  · simp [ha]
end
section
/-! THE RULES, an instruction each, over the pure world -/
abbrev zR (x : Int) : Prop := -2147483648 ≤ x ∧ x ≤ 2147483647
abbrev zR64 (x : Int) : Prop := -9223372036854775808 ≤ x ∧ x ≤ 9223372036854775807
theorem zJ_toInt {x : Int} (h : zR x) : (zJ x).toInt = x := Int32.toInt_ofInt_of_le (by have := h.1; omega) (by have := h.2; omega)
theorem zL_toInt {x : Int} (h : zR64 x) : (zL x).toInt = x := Int64.toInt_ofInt_of_le (by have := h.1; omega) (by have := h.2; omega)
theorem zJ_of (x : Int32) : zJ x.toInt = x := Int32.ofInt_toInt x
theorem zL_of (x : Int64) : zL x.toInt = x := Int64.ofInt_toInt x
theorem zR_of (x : Int32) : zR x.toInt := ⟨by have := Int32.le_toInt x; omega, by have := Int32.toInt_lt x; omega⟩
theorem zR64_of (x : Int64) : zR64 x.toInt := ⟨by have := Int64.le_toInt x; omega, by have := Int64.toInt_lt x; omega⟩
theorem zJ_add (x y : Int) : zJ x + zJ y = zJ (x + y) := (Int32.ofInt_add x y).symm
theorem zJ_sub (x y : Int) : zJ x - zJ y = zJ (x - y) := (Int32.ofInt_sub x y).symm
theorem zJ_mul (x y : Int) : zJ x * zJ y = zJ (x * y) := (Int32.ofInt_mul x y).symm
theorem zJ_neg (x : Int) : - zJ x = zJ (- x) := (Int32.ofInt_neg x).symm
theorem zL_add (x y : Int) : zL x + zL y = zL (x + y) := (Int64.ofInt_add x y).symm
theorem zL_sub (x y : Int) : zL x - zL y = zL (x - y) := (Int64.ofInt_sub x y).symm
theorem zL_mul (x y : Int) : zL x * zL y = zL (x * y) := (Int64.ofInt_mul x y).symm
theorem zJ_lt {x y : Int} (hx : zR x) (hy : zR y) : zJ x < zJ y ↔ x < y := by rw [Int32.lt_iff_toInt_lt, zJ_toInt hx, zJ_toInt hy]
theorem zJ_le {x y : Int} (hx : zR x) (hy : zR y) : zJ x ≤ zJ y ↔ x ≤ y := by rw [Int32.le_iff_toInt_le, zJ_toInt hx, zJ_toInt hy]
theorem zJ_eq {x y : Int} (hx : zR x) (hy : zR y) : zJ x = zJ y ↔ x = y := by rw [← Int32.toInt_inj, zJ_toInt hx, zJ_toInt hy]
theorem zL_lt {x y : Int} (hx : zR64 x) (hy : zR64 y) : zL x < zL y ↔ x < y := by rw [Int64.lt_iff_toInt_lt, zL_toInt hx, zL_toInt hy]
theorem zL_eq {x y : Int} (hx : zR64 x) (hy : zR64 y) : zL x = zL y ↔ x = y := by rw [← Int64.toInt_inj, zL_toInt hx, zL_toInt hy]
theorem zJ_div {x y : Int} (hx : zR x) (hy : zR y) : zJ x / zJ y = zJ (x.tdiv y) := by
  apply Int32.toInt_inj.mp
  rw [Int32.toInt_div, zJ_toInt hx, zJ_toInt hy, zJ, Int32.toInt_ofInt]
theorem zJ_rem {x y : Int} (hx : zR x) (hy : zR y) : zJ x - zJ x / zJ y * zJ y = zJ (x.tmod y) := by
  rw [zJ_div hx hy, zJ_mul, zJ_sub]
  congr 1
  rw [Int.tmod_def, Int.mul_comm]
theorem zL_div {x y : Int} (hx : zR64 x) (hy : zR64 y) : zL x / zL y = zL (x.tdiv y) := by
  apply Int64.toInt_inj.mp
  rw [Int64.toInt_div, zL_toInt hx, zL_toInt hy, zL, Int64.toInt_ofInt]
theorem zL_rem {x y : Int} (hx : zR64 x) (hy : zR64 y) : zL x - zL x / zL y * zL y = zL (x.tmod y) := by
  rw [zL_div hx hy, zL_mul, zL_sub]
  congr 1
  rw [Int.tmod_def, Int.mul_comm]
theorem zJ_l {x : Int} (hx : zR x) : (zJ x).toInt64 = zL x := by
  apply Int64.toInt_inj.mp
  rw [Int32.toInt_toInt64, zJ_toInt hx, zL_toInt ⟨by have := hx.1; omega, by have := hx.2; omega⟩]
theorem zL_i (x : Int) : (zL x).toInt32 = zJ x := by
  apply Int32.toInt_inj.mp
  rw [Int64.toInt_toInt32, zL, zJ, Int64.toInt_ofInt, Int32.toInt_ofInt]
  exact Int.bmod_bmod_of_dvd (by decide)
def zand (x y : Int) : Int := (zJ x &&& zJ y).toInt
def zor (x y : Int) : Int := (zJ x ||| zJ y).toInt
def zxor (x y : Int) : Int := (zJ x ^^^ zJ y).toInt
def zshl (x y : Int) : Int := (zJ x <<< (zJ y &&& 31)).toInt
def zshr (x y : Int) : Int := (zJ x >>> (zJ y &&& 31)).toInt
def zcmp (x y : Int) : Int := if y < x then 1 else if x = y then 0 else -1
theorem zin {x : Int} {n : Nat} (h0 : 0 ≤ x) (h : x < n) (hn : n < 2147483648) : vp_in (zJ x) n ∧ (zJ x).toNatClampNeg = x.toNat := by
  have e := zJ_toInt (x := x) ⟨by omega, by omega⟩
  have e2 : (zJ x).toNatClampNeg = x.toNat := by
    show (zJ x).toInt.toNat = x.toNat
    rw [e]
  refine ⟨vp_in_iff.mpr ⟨by rw [e]; exact h0, by rw [e]; omega⟩, e2⟩
/-- locals: a value put in its place -/
def zfl (l : List (Nat × Value)) (i : Nat) : List (Nat × Value) := l.filter (fun q => !(q.1 == i) && !(q.1 + 1 == i && q.2.category == 2))
def zins : List (Nat × Value) → Nat → Value → List (Nat × Value)
  | [], i, v => [(i, v)]
  | q :: t, i, v => bif Nat.blt q.1 i then q :: zins t i v else (i, v) :: q :: t
theorem zins_mem {l : List (Nat × Value)} {i : Nat} {v : Value} {q : Nat × Value} (h : q ∈ zins l i v) : q = (i, v) ∨ q ∈ l := by
  induction l with
  | nil => exact Or.inl (List.mem_singleton.mp h)
  | cons a t ih =>
    unfold zins at h
    cases hb : Nat.blt a.1 i with
    | true =>
      rw [hb] at h
      rcases List.mem_cons.mp h with e | e
      · exact Or.inr (by rw [e]; exact List.mem_cons_self)
      · rcases ih e with e | e
        · exact Or.inl e
        · exact Or.inr (List.mem_cons_of_mem _ e)
    | false =>
      rw [hb] at h
      rcases List.mem_cons.mp h with e | e
      · exact Or.inl e
      · exact Or.inr e
def zst (l : List (Nat × Value)) (i : Nat) (v : Value) : List (Nat × Value) := zins (zfl l i) i v
def zfl2 (l : List (Nat × Value)) (i : Nat) : List (Nat × Value) := l.filter (fun q => !(q.1 == i) && (!(q.1 == i + 1) && !(q.1 + 1 == i && q.2.category == 2)))
def zst2 (l : List (Nat × Value)) (i : Nat) (v : Value) : List (Nat × Value) := zins (zfl2 l i) i v
theorem zlv_at {g : zG} {ls : Array Slot} {nL : Nat} {lv : List (Nat × Value)} (h : lv_has ls nL (zlv g lv)) (j : Nat) {i : Nat} {v : Value} (hk : lv[j]? = some (i, v)) : ls[i]? = some (.val (ztv g v)) :=
  lv_at h j (by rw [zlv, List.getElem?_map, hk]; rfl)
theorem zlv_mem {g : zG} {lv : List (Nat × Value)} {q : Nat × Value} (h : q ∈ lv) : (q.1, ztv g q.2) ∈ zlv g lv := List.mem_map.mpr ⟨q, h, rfl⟩
theorem zlv_sub {g : zG} {ls : Array Slot} {nL : Nat} {l l' : List (Nat × Value)} (h : lv_has ls nL (zlv g l)) (hs : ∀ q ∈ l', q ∈ l) : lv_has ls nL (zlv g l') := by
  refine ⟨h.1, h.2.1, fun q hq => ?_⟩
  obtain ⟨r, hr, rfl⟩ := List.mem_map.mp hq
  exact h.2.2 _ (zlv_mem (hs r hr))
theorem zlv_st {g : zG} {ls' : Array Slot} {nL i : Nat} {lv : List (Nat × Value)} {v : Value} (h : lv_has ls' nL ((i, ztv g v) :: (zlv g lv).filter (fun q => !(q.1 == i) && !(q.1 + 1 == i && q.2.category == 2)))) : lv_has ls' nL (zlv g (zst lv i v)) := by
  refine ⟨h.1, h.2.1, fun q hq => ?_⟩
  obtain ⟨r, hr, rfl⟩ := List.mem_map.mp hq
  refine h.2.2 _ ?_
  rcases zins_mem hr with e | e
  · rw [e]; exact List.mem_cons_self
  · obtain ⟨e1, e2⟩ := List.mem_filter.mp e
    refine List.mem_cons_of_mem _ (List.mem_filter.mpr ⟨zlv_mem e1, ?_⟩)
    show (!(r.1 == i) && !(r.1 + 1 == i && (ztv g r.2).category == 2)) = true
    rw [ztv_cat]
    exact e2
theorem zlv_st2 {g : zG} {ls' : Array Slot} {nL i : Nat} {lv : List (Nat × Value)} {v : Value} (h : lv_has ls' nL ((i, ztv g v) :: (zlv g lv).filter (fun q => !(q.1 == i) && (!(q.1 == i + 1) && !(q.1 + 1 == i && q.2.category == 2))))) : lv_has ls' nL (zlv g (zst2 lv i v)) := by
  refine ⟨h.1, h.2.1, fun q hq => ?_⟩
  obtain ⟨r, hr, rfl⟩ := List.mem_map.mp hq
  refine h.2.2 _ ?_
  rcases zins_mem hr with e | e
  · rw [e]; exact List.mem_cons_self
  · obtain ⟨e1, e2⟩ := List.mem_filter.mp e
    refine List.mem_cons_of_mem _ (List.mem_filter.mpr ⟨zlv_mem e1, ?_⟩)
    show (!(r.1 == i) && (!(r.1 == i + 1) && !(r.1 + 1 == i && (ztv g r.2).category == 2))) = true
    rw [ztv_cat]
    exact e2
section ZR
variable {g : zG} {M : zM} {mo : zMo} {pc nc ns : Nat} {lv : List (Nat × Value)} {st : List Value} {w : zWS}
theorem zw_sub {lv' : List (Nat × Value)} (hs : ∀ q ∈ lv', q ∈ lv) (k : zWP g M mo pc lv' st nc ns w) : zWP g M mo pc lv st nc ns w := by
  intro p e s m args below meth c H locs ls C hl hW hS
  exact k p e s m args below meth c H locs ls C (zlv_sub hl hs) hW hS
/-- fewer locals, by their places -/
theorem zw_pick (ks : List Nat) {lv' : List (Nat × Value)} (hs : lv_pick lv ks = lv') (k : zWP g M mo pc lv' st nc ns w) : zWP g M mo pc lv st nc ns w := by
  refine zw_sub (fun q hq => ?_) k
  rw [← hs] at hq
  obtain ⟨k, -, hk⟩ := List.mem_filterMap.mp hq
  exact List.mem_of_getElem? hk
theorem zw_iconst {n : Int} (hd : decode M.2.1 pc = .ok (.iconst n, 1)) (k : zWP g M mo (pc + 1) lv (.int (zJ n) :: st) nc ns w) : zWP g M mo pc lv st nc ns w := by
  intro p e s m args below meth c H locs ls C hl hW hS
  exact lv_iconst C.1 C.2.1 hd rfl (k p e s m args below meth c H locs ls C hl hW hS)
theorem zw_bipush {n : Int} (hd : decode M.2.1 pc = .ok (.bipush n, 2)) (hv : (Int8.ofInt n).toInt32 = zJ n) (k : zWP g M mo (pc + 2) lv (.int (zJ n) :: st) nc ns w) : zWP g M mo pc lv st nc ns w := by
  intro p e s m args below meth c H locs ls C hl hW hS
  exact lv_bipush C.1 C.2.1 hd hv (k p e s m args below meth c H locs ls C hl hW hS)
theorem zw_sipush {n : Int} (hd : decode M.2.1 pc = .ok (.sipush n, 3)) (hv : (Int16.ofInt n).toInt32 = zJ n) (k : zWP g M mo (pc + 3) lv (.int (zJ n) :: st) nc ns w) : zWP g M mo pc lv st nc ns w := by
  intro p e s m args below meth c H locs ls C hl hW hS
  exact lv_sipush C.1 C.2.1 hd hv (k p e s m args below meth c H locs ls C hl hW hS)
theorem zw_lconst {n : Fin 2} {v : Int} (hd : decode M.2.1 pc = .ok (.lconst n, 1)) (hv : ((n : Nat) : Int) = v) (k : zWP g M mo (pc + 1) lv (.long (zL v) :: st) nc ns w) : zWP g M mo pc lv st nc ns w := by
  intro p e s m args below meth c H locs ls C hl hW hS
  exact lv_lconst C.1 C.2.1 hd (by rw [← hv]; rfl) (k p e s m args below meth c H locs ls C hl hW hS)
theorem zw_iload_n {n : Fin 4} (j : Nat) {i : Nat} {x : Int32} (hd : decode M.2.1 pc = .ok (.iload_n n, 1)) (hi : (n : Nat) = i) (hj : lv[j]? = some (i, .int x)) (k : zWP g M mo (pc + 1) lv (.int x :: st) nc ns w) : zWP g M mo pc lv st nc ns w := by
  intro p e s m args below meth c H locs ls C hl hW hS
  exact lv_iload_n C.1 C.2.1 hd hi (zlv_at hl j hj) (k p e s m args below meth c H locs ls C hl hW hS)
theorem zw_iload (j : Nat) {i : Nat} {x : Int32} (hd : decode M.2.1 pc = .ok (.iload i, 2)) (hj : lv[j]? = some (i, .int x)) (k : zWP g M mo (pc + 2) lv (.int x :: st) nc ns w) : zWP g M mo pc lv st nc ns w := by
  intro p e s m args below meth c H locs ls C hl hW hS
  exact lv_iload C.1 C.2.1 hd (zlv_at hl j hj) (k p e s m args below meth c H locs ls C hl hW hS)
theorem zw_lload_n {n : Fin 4} (j : Nat) {i : Nat} {x : Int64} (hd : decode M.2.1 pc = .ok (.lload_n n, 1)) (hi : (n : Nat) = i) (hj : lv[j]? = some (i, .long x)) (k : zWP g M mo (pc + 1) lv (.long x :: st) nc ns w) : zWP g M mo pc lv st nc ns w := by
  intro p e s m args below meth c H locs ls C hl hW hS
  exact lv_lload_n C.1 C.2.1 hd hi (zlv_at hl j hj) (k p e s m args below meth c H locs ls C hl hW hS)
theorem zw_lload (j : Nat) {i : Nat} {x : Int64} (hd : decode M.2.1 pc = .ok (.lload i, 2)) (hj : lv[j]? = some (i, .long x)) (k : zWP g M mo (pc + 2) lv (.long x :: st) nc ns w) : zWP g M mo pc lv st nc ns w := by
  intro p e s m args below meth c H locs ls C hl hW hS
  exact lv_lload C.1 C.2.1 hd (zlv_at hl j hj) (k p e s m args below meth c H locs ls C hl hW hS)
theorem zw_aload_n {n : Fin 4} (j : Nat) {i x : Nat} (hd : decode M.2.1 pc = .ok (.aload_n n, 1)) (hi : (n : Nat) = i) (hj : lv[j]? = some (i, .ref x)) (k : zWP g M mo (pc + 1) lv (.ref x :: st) nc ns w) : zWP g M mo pc lv st nc ns w := by
  intro p e s m args below meth c H locs ls C hl hW hS
  exact lv_aload_n C.1 C.2.1 hd hi (zlv_at hl j hj) (k p e s m args below meth c H locs ls C hl hW hS)
theorem zw_aload (j : Nat) {i x : Nat} (hd : decode M.2.1 pc = .ok (.aload i, 2)) (hj : lv[j]? = some (i, .ref x)) (k : zWP g M mo (pc + 2) lv (.ref x :: st) nc ns w) : zWP g M mo pc lv st nc ns w := by
  intro p e s m args below meth c H locs ls C hl hW hS
  exact lv_aload C.1 C.2.1 hd (zlv_at hl j hj) (k p e s m args below meth c H locs ls C hl hW hS)
theorem zw_istore_n {n : Fin 4} {i : Nat} {x : Int32} {lv' : List (Nat × Value)} (hd : decode M.2.1 pc = .ok (.istore_n n, 1)) (hi : (n : Nat) = i) (hn : i < M.2.2.1) (hl' : zst lv i (.int x) = lv') (k : zWP g M mo (pc + 1) lv' st nc ns w) : zWP g M mo pc lv (.int x :: st) nc ns w := by
  intro p e s m args below meth c H locs ls C hl hW hS
  exact lv_istore_n C.1 C.2.1 hd hi hl hn rfl (fun ls' h' => k p e s m args below meth c H locs ls' C (by rw [← hl']; exact zlv_st h') hW hS)
theorem zw_istore {i : Nat} {x : Int32} {lv' : List (Nat × Value)} (hd : decode M.2.1 pc = .ok (.istore i, 2)) (hn : i < M.2.2.1) (hl' : zst lv i (.int x) = lv') (k : zWP g M mo (pc + 2) lv' st nc ns w) : zWP g M mo pc lv (.int x :: st) nc ns w := by
  intro p e s m args below meth c H locs ls C hl hW hS
  exact lv_istore C.1 C.2.1 hd hl hn rfl (fun ls' h' => k p e s m args below meth c H locs ls' C (by rw [← hl']; exact zlv_st h') hW hS)
theorem zw_astore_n {n : Fin 4} {i x : Nat} {lv' : List (Nat × Value)} (hd : decode M.2.1 pc = .ok (.astore_n n, 1)) (hi : (n : Nat) = i) (hn : i < M.2.2.1) (hl' : zst lv i (.ref x) = lv') (k : zWP g M mo (pc + 1) lv' st nc ns w) : zWP g M mo pc lv (.ref x :: st) nc ns w := by
  intro p e s m args below meth c H locs ls C hl hW hS
  exact lv_astore_n C.1 C.2.1 hd hi hl hn rfl (fun ls' h' => k p e s m args below meth c H locs ls' C (by rw [← hl']; exact zlv_st h') hW hS)
theorem zw_astore {i x : Nat} {lv' : List (Nat × Value)} (hd : decode M.2.1 pc = .ok (.astore i, 2)) (hn : i < M.2.2.1) (hl' : zst lv i (.ref x) = lv') (k : zWP g M mo (pc + 2) lv' st nc ns w) : zWP g M mo pc lv (.ref x :: st) nc ns w := by
  intro p e s m args below meth c H locs ls C hl hW hS
  exact lv_astore C.1 C.2.1 hd hl hn rfl (fun ls' h' => k p e s m args below meth c H locs ls' C (by rw [← hl']; exact zlv_st h') hW hS)
theorem zw_lstore_n {n : Fin 4} {i : Nat} {x : Int64} {lv' : List (Nat × Value)} (hd : decode M.2.1 pc = .ok (.lstore_n n, 1)) (hi : (n : Nat) = i) (hn : i + 1 < M.2.2.1) (hl' : zst2 lv i (.long x) = lv') (k : zWP g M mo (pc + 1) lv' st nc ns w) : zWP g M mo pc lv (.long x :: st) nc ns w := by
  intro p e s m args below meth c H locs ls C hl hW hS
  exact lv_lstore_n C.1 C.2.1 hd hi hl hn rfl (fun ls' h' => k p e s m args below meth c H locs ls' C (by rw [← hl']; exact zlv_st2 h') hW hS)
theorem zw_lstore {i : Nat} {x : Int64} {lv' : List (Nat × Value)} (hd : decode M.2.1 pc = .ok (.lstore i, 2)) (hn : i + 1 < M.2.2.1) (hl' : zst2 lv i (.long x) = lv') (k : zWP g M mo (pc + 2) lv' st nc ns w) : zWP g M mo pc lv (.long x :: st) nc ns w := by
  intro p e s m args below meth c H locs ls C hl hW hS
  exact lv_lstore C.1 C.2.1 hd hl hn rfl (fun ls' h' => k p e s m args below meth c H locs ls' C (by rw [← hl']; exact zlv_st2 h') hW hS)
theorem zw_iinc (j : Nat) {i : Nat} {n x v : Int} {lv' : List (Nat × Value)} (hd : decode M.2.1 pc = .ok (.iinc i n, 3)) (hj : lv[j]? = some (i, .int (zJ x))) (hv : x + n = v) (hn : i < M.2.2.1) (hl' : zst lv i (.int (zJ v)) = lv') (k : zWP g M mo (pc + 3) lv' st nc ns w) : zWP g M mo pc lv st nc ns w := by
  intro p e s m args below meth c H locs ls C hl hW hS
  exact lv_iinc (v := zJ v) (k := j) C.1 C.2.1 hd hl (by rw [zlv, List.getElem?_map, hj]; rfl) (by rw [← hv]; exact zJ_add x n) hn rfl (fun ls' h' => k p e s m args below meth c H locs ls' C (by rw [← hl']; exact zlv_st h') hW hS)
theorem zw_iadd {x y : Int} (hd : decode M.2.1 pc = .ok (.iadd, 1)) (k : zWP g M mo (pc + 1) lv (.int (zJ (x + y)) :: st) nc ns w) : zWP g M mo pc lv (.int (zJ y) :: .int (zJ x) :: st) nc ns w := by
  intro p e s m args below meth c H locs ls C hl hW hS
  refine lv_iadd C.1 C.2.1 hd ?_
  rw [zJ_add]
  exact k p e s m args below meth c H locs ls C hl hW hS
theorem zw_isub {x y : Int} (hd : decode M.2.1 pc = .ok (.isub, 1)) (k : zWP g M mo (pc + 1) lv (.int (zJ (x - y)) :: st) nc ns w) : zWP g M mo pc lv (.int (zJ y) :: .int (zJ x) :: st) nc ns w := by
  intro p e s m args below meth c H locs ls C hl hW hS
  refine lv_isub C.1 C.2.1 hd ?_
  rw [zJ_sub]
  exact k p e s m args below meth c H locs ls C hl hW hS
theorem zw_imul {x y : Int} (hd : decode M.2.1 pc = .ok (.imul, 1)) (k : zWP g M mo (pc + 1) lv (.int (zJ (x * y)) :: st) nc ns w) : zWP g M mo pc lv (.int (zJ y) :: .int (zJ x) :: st) nc ns w := by
  intro p e s m args below meth c H locs ls C hl hW hS
  refine lv_imul C.1 C.2.1 hd ?_
  rw [zJ_mul]
  exact k p e s m args below meth c H locs ls C hl hW hS
theorem zw_ineg {x : Int} (hd : decode M.2.1 pc = .ok (.ineg, 1)) (k : zWP g M mo (pc + 1) lv (.int (zJ (-x)) :: st) nc ns w) : zWP g M mo pc lv (.int (zJ x) :: st) nc ns w := by
  intro p e s m args below meth c H locs ls C hl hW hS
  refine lv_ineg C.1 C.2.1 hd ?_
  rw [zJ_neg]
  exact k p e s m args below meth c H locs ls C hl hW hS
theorem zw_idiv {x y : Int} (hd : decode M.2.1 pc = .ok (.idiv, 1)) (hx : zR x) (hy : zR y) (h0 : y ≠ 0) (k : zWP g M mo (pc + 1) lv (.int (zJ (x.tdiv y)) :: st) nc ns w) : zWP g M mo pc lv (.int (zJ y) :: .int (zJ x) :: st) nc ns w := by
  intro p e s m args below meth c H locs ls C hl hW hS
  refine lv_idiv C.1 C.2.1 hd (fun h => h0 ((zJ_eq hy ⟨by decide, by decide⟩).mp (show zJ y = zJ 0 from h))) ?_
  rw [zJ_div hx hy]
  exact k p e s m args below meth c H locs ls C hl hW hS
theorem zw_irem {x y : Int} (hd : decode M.2.1 pc = .ok (.irem, 1)) (hx : zR x) (hy : zR y) (h0 : y ≠ 0) (k : zWP g M mo (pc + 1) lv (.int (zJ (x.tmod y)) :: st) nc ns w) : zWP g M mo pc lv (.int (zJ y) :: .int (zJ x) :: st) nc ns w := by
  intro p e s m args below meth c H locs ls C hl hW hS
  refine lv_irem C.1 C.2.1 hd (fun h => h0 ((zJ_eq hy ⟨by decide, by decide⟩).mp (show zJ y = zJ 0 from h))) ?_
  rw [zJ_rem hx hy]
  exact k p e s m args below meth c H locs ls C hl hW hS
theorem zw_iand {x y : Int} (hd : decode M.2.1 pc = .ok (.iand, 1)) (k : zWP g M mo (pc + 1) lv (.int (zJ (zand x y)) :: st) nc ns w) : zWP g M mo pc lv (.int (zJ y) :: .int (zJ x) :: st) nc ns w := by
  intro p e s m args below meth c H locs ls C hl hW hS
  refine lv_iand C.1 C.2.1 hd ?_
  rw [show zJ x &&& zJ y = zJ (zand x y) from (zJ_of _).symm]
  exact k p e s m args below meth c H locs ls C hl hW hS
theorem zw_ior {x y : Int} (hd : decode M.2.1 pc = .ok (.ior, 1)) (k : zWP g M mo (pc + 1) lv (.int (zJ (zor x y)) :: st) nc ns w) : zWP g M mo pc lv (.int (zJ y) :: .int (zJ x) :: st) nc ns w := by
  intro p e s m args below meth c H locs ls C hl hW hS
  refine lv_ior C.1 C.2.1 hd ?_
  rw [show zJ x ||| zJ y = zJ (zor x y) from (zJ_of _).symm]
  exact k p e s m args below meth c H locs ls C hl hW hS
theorem zw_ixor {x y : Int} (hd : decode M.2.1 pc = .ok (.ixor, 1)) (k : zWP g M mo (pc + 1) lv (.int (zJ (zxor x y)) :: st) nc ns w) : zWP g M mo pc lv (.int (zJ y) :: .int (zJ x) :: st) nc ns w := by
  intro p e s m args below meth c H locs ls C hl hW hS
  refine lv_ixor C.1 C.2.1 hd ?_
  rw [show zJ x ^^^ zJ y = zJ (zxor x y) from (zJ_of _).symm]
  exact k p e s m args below meth c H locs ls C hl hW hS
theorem zw_ishr {x y : Int} (hd : decode M.2.1 pc = .ok (.ishr, 1)) (k : zWP g M mo (pc + 1) lv (.int (zJ (zshr x y)) :: st) nc ns w) : zWP g M mo pc lv (.int (zJ y) :: .int (zJ x) :: st) nc ns w := by
  intro p e s m args below meth c H locs ls C hl hW hS
  refine lv_ishr C.1 C.2.1 hd ?_
  rw [show zJ x >>> (zJ y &&& 31) = zJ (zshr x y) from (zJ_of _).symm]
  exact k p e s m args below meth c H locs ls C hl hW hS
theorem zw_ladd {x y : Int} (hd : decode M.2.1 pc = .ok (.ladd, 1)) (k : zWP g M mo (pc + 1) lv (.long (zL (x + y)) :: st) nc ns w) : zWP g M mo pc lv (.long (zL y) :: .long (zL x) :: st) nc ns w := by
  intro p e s m args below meth c H locs ls C hl hW hS
  refine lv_ladd C.1 C.2.1 hd ?_
  rw [zL_add]
  exact k p e s m args below meth c H locs ls C hl hW hS
theorem zw_lsub {x y : Int} (hd : decode M.2.1 pc = .ok (.lsub, 1)) (k : zWP g M mo (pc + 1) lv (.long (zL (x - y)) :: st) nc ns w) : zWP g M mo pc lv (.long (zL y) :: .long (zL x) :: st) nc ns w := by
  intro p e s m args below meth c H locs ls C hl hW hS
  refine lv_lsub C.1 C.2.1 hd ?_
  rw [zL_sub]
  exact k p e s m args below meth c H locs ls C hl hW hS
theorem zw_lmul {x y : Int} (hd : decode M.2.1 pc = .ok (.lmul, 1)) (k : zWP g M mo (pc + 1) lv (.long (zL (x * y)) :: st) nc ns w) : zWP g M mo pc lv (.long (zL y) :: .long (zL x) :: st) nc ns w := by
  intro p e s m args below meth c H locs ls C hl hW hS
  refine lv_lmul C.1 C.2.1 hd ?_
  rw [zL_mul]
  exact k p e s m args below meth c H locs ls C hl hW hS
theorem zw_lrem {x y : Int} (hd : decode M.2.1 pc = .ok (.lrem, 1)) (hx : zR64 x) (hy : zR64 y) (h0 : y ≠ 0) (k : zWP g M mo (pc + 1) lv (.long (zL (x.tmod y)) :: st) nc ns w) : zWP g M mo pc lv (.long (zL y) :: .long (zL x) :: st) nc ns w := by
  intro p e s m args below meth c H locs ls C hl hW hS
  refine lv_lrem C.1 C.2.1 hd (fun h => h0 ((zL_eq hy ⟨by decide, by decide⟩).mp (show zL y = zL 0 from h))) ?_
  rw [zL_rem hx hy]
  exact k p e s m args below meth c H locs ls C hl hW hS
theorem zw_lcmp {x y : Int} (hd : decode M.2.1 pc = .ok (.lcmp, 1)) (hx : zR64 x) (hy : zR64 y) (k : zWP g M mo (pc + 1) lv (.int (zJ (zcmp x y)) :: st) nc ns w) : zWP g M mo pc lv (.long (zL y) :: .long (zL x) :: st) nc ns w := by
  intro p e s m args below meth c H locs ls C hl hW hS
  refine W.lcmp C.1 C.2.1 hd ?_
  have ee : lg_cmp (zL x) (zL y) = zJ (zcmp x y) := by
    unfold lg_cmp zcmp
    by_cases h1 : y < x
    · rw [if_pos (show zL x > zL y from (zL_lt hy hx).mpr h1), if_pos h1]; rfl
    · rw [if_neg (show ¬ zL x > zL y from fun q => h1 ((zL_lt hy hx).mp q)), if_neg h1]
      by_cases h2 : x = y
      · rw [if_pos (show zL x = zL y by rw [h2]), if_pos h2]; rfl
      · rw [if_neg (show ¬ zL x = zL y from fun q => h2 ((zL_eq hx hy).mp q)), if_neg h2]; rfl
  rw [ee]
  exact k p e s m args below meth c H locs ls C hl hW hS
theorem zw_i2l {x : Int} (hd : decode M.2.1 pc = .ok (.i2l, 1)) (hx : zR x) (k : zWP g M mo (pc + 1) lv (.long (zL x) :: st) nc ns w) : zWP g M mo pc lv (.int (zJ x) :: st) nc ns w := by
  intro p e s m args below meth c H locs ls C hl hW hS
  exact lv_i2l C.1 C.2.1 hd (zJ_l hx) (k p e s m args below meth c H locs ls C hl hW hS)
theorem zw_l2i {x : Int} (hd : decode M.2.1 pc = .ok (.l2i, 1)) (k : zWP g M mo (pc + 1) lv (.int (zJ x) :: st) nc ns w) : zWP g M mo pc lv (.long (zL x) :: st) nc ns w := by
  intro p e s m args below meth c H locs ls C hl hW hS
  exact lv_l2i C.1 C.2.1 hd (zL_i x) (k p e s m args below meth c H locs ls C hl hW hS)
theorem zw_dup {v : Value} (hd : decode M.2.1 pc = .ok (.dup, 1)) (hv : v.category = 1) (k : zWP g M mo (pc + 1) lv (v :: v :: st) nc ns w) : zWP g M mo pc lv (v :: st) nc ns w := by
  intro p e s m args below meth c H locs ls C hl hW hS
  exact lv_dup C.1 C.2.1 hd (by rw [ztv_cat]; exact hv) (k p e s m args below meth c H locs ls C hl hW hS)
theorem zw_dup2 {v u : Value} (hd : decode M.2.1 pc = .ok (.dup2, 1)) (hv : v.category = 1) (hu : u.category = 1) (k : zWP g M mo (pc + 1) lv (v :: u :: v :: u :: st) nc ns w) : zWP g M mo pc lv (v :: u :: st) nc ns w := by
  intro p e s m args below meth c H locs ls C hl hW hS
  exact lv_dup2_11 C.1 C.2.1 hd (by rw [ztv_cat]; exact hv) (by rw [ztv_cat]; exact hu) (k p e s m args below meth c H locs ls C hl hW hS)
theorem zw_pop {v : Value} (hd : decode M.2.1 pc = .ok (.pop, 1)) (hv : v.category = 1) (k : zWP g M mo (pc + 1) lv st nc ns w) : zWP g M mo pc lv (v :: st) nc ns w := by
  intro p e s m args below meth c H locs ls C hl hW hS
  exact lv_pop C.1 C.2.1 hd (by rw [ztv_cat]; exact hv) (k p e s m args below meth c H locs ls C hl hW hS)
theorem zw_goto {off : Int} {tgt : Nat} (hd : decode M.2.1 pc = .ok (.goto off, 3)) (ht : (pc : Int) + off = (tgt : Int)) (k : zWP g M mo tgt lv st nc ns w) : zWP g M mo pc lv st nc ns w := by
  intro p e s m args below meth c H locs ls C hl hW hS
  exact lv_goto C.1 C.2.1 hd ht (k p e s m args below meth c H locs ls C hl hW hS)
theorem zw_icmp_eq {x y off : Int} {tgt : Nat} (hd : decode M.2.1 pc = .ok (.if_icmp .eq off, 3)) (ht : (pc : Int) + off = (tgt : Int)) (hx : zR x) (hy : zR y) (kt : x = y → zWP g M mo tgt lv st nc ns w) (kf : ¬ x = y → zWP g M mo (pc + 3) lv st nc ns w) : zWP g M mo pc lv (.int (zJ y) :: .int (zJ x) :: st) nc ns w := by
  intro p e s m args below meth c H locs ls C hl hW hS
  exact lv_icmp_eq C.1 C.2.1 hd ht (fun h => kt ((zJ_eq hx hy).mp h) p e s m args below meth c H locs ls C hl hW hS) (fun h => kf (fun q => h ((zJ_eq hx hy).mpr q)) p e s m args below meth c H locs ls C hl hW hS)
theorem zw_icmp_ne {x y off : Int} {tgt : Nat} (hd : decode M.2.1 pc = .ok (.if_icmp .ne off, 3)) (ht : (pc : Int) + off = (tgt : Int)) (hx : zR x) (hy : zR y) (kt : ¬ x = y → zWP g M mo tgt lv st nc ns w) (kf : x = y → zWP g M mo (pc + 3) lv st nc ns w) : zWP g M mo pc lv (.int (zJ y) :: .int (zJ x) :: st) nc ns w := by
  intro p e s m args below meth c H locs ls C hl hW hS
  exact lv_icmp_ne C.1 C.2.1 hd ht (fun h => kt (fun q => h ((zJ_eq hx hy).mpr q)) p e s m args below meth c H locs ls C hl hW hS) (fun h => kf ((zJ_eq hx hy).mp h) p e s m args below meth c H locs ls C hl hW hS)
theorem zw_icmp_lt {x y off : Int} {tgt : Nat} (hd : decode M.2.1 pc = .ok (.if_icmp .lt off, 3)) (ht : (pc : Int) + off = (tgt : Int)) (hx : zR x) (hy : zR y) (kt : x < y → zWP g M mo tgt lv st nc ns w) (kf : y ≤ x → zWP g M mo (pc + 3) lv st nc ns w) : zWP g M mo pc lv (.int (zJ y) :: .int (zJ x) :: st) nc ns w := by
  intro p e s m args below meth c H locs ls C hl hW hS
  exact lv_icmp_lt C.1 C.2.1 hd ht (fun h => kt ((zJ_lt hx hy).mp h) p e s m args below meth c H locs ls C hl hW hS) (fun h => kf (Int.not_lt.mp fun q => h ((zJ_lt hx hy).mpr q)) p e s m args below meth c H locs ls C hl hW hS)
theorem zw_icmp_ge {x y off : Int} {tgt : Nat} (hd : decode M.2.1 pc = .ok (.if_icmp .ge off, 3)) (ht : (pc : Int) + off = (tgt : Int)) (hx : zR x) (hy : zR y) (kt : y ≤ x → zWP g M mo tgt lv st nc ns w) (kf : x < y → zWP g M mo (pc + 3) lv st nc ns w) : zWP g M mo pc lv (.int (zJ y) :: .int (zJ x) :: st) nc ns w := by
  intro p e s m args below meth c H locs ls C hl hW hS
  exact lv_icmp_ge C.1 C.2.1 hd ht (fun h => kt ((zJ_le hy hx).mp h) p e s m args below meth c H locs ls C hl hW hS) (fun h => kf (Int.not_le.mp fun q => h ((zJ_le hy hx).mpr q)) p e s m args below meth c H locs ls C hl hW hS)
theorem zw_icmp_gt {x y off : Int} {tgt : Nat} (hd : decode M.2.1 pc = .ok (.if_icmp .gt off, 3)) (ht : (pc : Int) + off = (tgt : Int)) (hx : zR x) (hy : zR y) (kt : y < x → zWP g M mo tgt lv st nc ns w) (kf : x ≤ y → zWP g M mo (pc + 3) lv st nc ns w) : zWP g M mo pc lv (.int (zJ y) :: .int (zJ x) :: st) nc ns w := by
  intro p e s m args below meth c H locs ls C hl hW hS
  exact lv_icmp_gt C.1 C.2.1 hd ht (fun h => kt ((zJ_lt hy hx).mp h) p e s m args below meth c H locs ls C hl hW hS) (fun h => kf (Int.not_lt.mp fun q => h ((zJ_lt hy hx).mpr q)) p e s m args below meth c H locs ls C hl hW hS)
theorem zw_icmp_le {x y off : Int} {tgt : Nat} (hd : decode M.2.1 pc = .ok (.if_icmp .le off, 3)) (ht : (pc : Int) + off = (tgt : Int)) (hx : zR x) (hy : zR y) (kt : x ≤ y → zWP g M mo tgt lv st nc ns w) (kf : y < x → zWP g M mo (pc + 3) lv st nc ns w) : zWP g M mo pc lv (.int (zJ y) :: .int (zJ x) :: st) nc ns w := by
  intro p e s m args below meth c H locs ls C hl hW hS
  exact lv_icmp_le C.1 C.2.1 hd ht (fun h => kt ((zJ_le hx hy).mp h) p e s m args below meth c H locs ls C hl hW hS) (fun h => kf (Int.not_le.mp fun q => h ((zJ_le hx hy).mpr q)) p e s m args below meth c H locs ls C hl hW hS)
theorem zR0 : zR 0 := ⟨by decide, by decide⟩
theorem zw_if_eq {x off : Int} {tgt : Nat} (hd : decode M.2.1 pc = .ok (.ifCond .eq off, 3)) (ht : (pc : Int) + off = (tgt : Int)) (hx : zR x) (kt : x = 0 → zWP g M mo tgt lv st nc ns w) (kf : ¬ x = 0 → zWP g M mo (pc + 3) lv st nc ns w) : zWP g M mo pc lv (.int (zJ x) :: st) nc ns w := by
  intro p e s m args below meth c H locs ls C hl hW hS
  exact lv_if_eq C.1 C.2.1 hd ht (fun h => kt ((zJ_eq hx zR0).mp h) p e s m args below meth c H locs ls C hl hW hS) (fun h => kf (fun q => h ((zJ_eq hx zR0).mpr q)) p e s m args below meth c H locs ls C hl hW hS)
theorem zw_if_ne {x off : Int} {tgt : Nat} (hd : decode M.2.1 pc = .ok (.ifCond .ne off, 3)) (ht : (pc : Int) + off = (tgt : Int)) (hx : zR x) (kt : ¬ x = 0 → zWP g M mo tgt lv st nc ns w) (kf : x = 0 → zWP g M mo (pc + 3) lv st nc ns w) : zWP g M mo pc lv (.int (zJ x) :: st) nc ns w := by
  intro p e s m args below meth c H locs ls C hl hW hS
  exact lv_if_ne C.1 C.2.1 hd ht (fun h => kt (fun q => h ((zJ_eq hx zR0).mpr q)) p e s m args below meth c H locs ls C hl hW hS) (fun h => kf ((zJ_eq hx zR0).mp h) p e s m args below meth c H locs ls C hl hW hS)
theorem zw_if_lt {x off : Int} {tgt : Nat} (hd : decode M.2.1 pc = .ok (.ifCond .lt off, 3)) (ht : (pc : Int) + off = (tgt : Int)) (hx : zR x) (kt : x < 0 → zWP g M mo tgt lv st nc ns w) (kf : 0 ≤ x → zWP g M mo (pc + 3) lv st nc ns w) : zWP g M mo pc lv (.int (zJ x) :: st) nc ns w := by
  intro p e s m args below meth c H locs ls C hl hW hS
  exact lv_if_lt C.1 C.2.1 hd ht (fun h => kt ((zJ_lt hx zR0).mp h) p e s m args below meth c H locs ls C hl hW hS) (fun h => kf (Int.not_lt.mp fun q => h ((zJ_lt hx zR0).mpr q)) p e s m args below meth c H locs ls C hl hW hS)
theorem zw_if_ge {x off : Int} {tgt : Nat} (hd : decode M.2.1 pc = .ok (.ifCond .ge off, 3)) (ht : (pc : Int) + off = (tgt : Int)) (hx : zR x) (kt : 0 ≤ x → zWP g M mo tgt lv st nc ns w) (kf : x < 0 → zWP g M mo (pc + 3) lv st nc ns w) : zWP g M mo pc lv (.int (zJ x) :: st) nc ns w := by
  intro p e s m args below meth c H locs ls C hl hW hS
  exact lv_if_ge C.1 C.2.1 hd ht (fun h => kt ((zJ_le zR0 hx).mp h) p e s m args below meth c H locs ls C hl hW hS) (fun h => kf (Int.not_le.mp fun q => h ((zJ_le zR0 hx).mpr q)) p e s m args below meth c H locs ls C hl hW hS)
theorem zw_if_gt {x off : Int} {tgt : Nat} (hd : decode M.2.1 pc = .ok (.ifCond .gt off, 3)) (ht : (pc : Int) + off = (tgt : Int)) (hx : zR x) (kt : 0 < x → zWP g M mo tgt lv st nc ns w) (kf : x ≤ 0 → zWP g M mo (pc + 3) lv st nc ns w) : zWP g M mo pc lv (.int (zJ x) :: st) nc ns w := by
  intro p e s m args below meth c H locs ls C hl hW hS
  exact lv_if_gt C.1 C.2.1 hd ht (fun h => kt ((zJ_lt zR0 hx).mp h) p e s m args below meth c H locs ls C hl hW hS) (fun h => kf (Int.not_lt.mp fun q => h ((zJ_lt zR0 hx).mpr q)) p e s m args below meth c H locs ls C hl hW hS)
theorem zw_if_le {x off : Int} {tgt : Nat} (hd : decode M.2.1 pc = .ok (.ifCond .le off, 3)) (ht : (pc : Int) + off = (tgt : Int)) (hx : zR x) (kt : x ≤ 0 → zWP g M mo tgt lv st nc ns w) (kf : 0 < x → zWP g M mo (pc + 3) lv st nc ns w) : zWP g M mo pc lv (.int (zJ x) :: st) nc ns w := by
  intro p e s m args below meth c H locs ls C hl hW hS
  exact lv_if_le C.1 C.2.1 hd ht (fun h => kt ((zJ_le hx zR0).mp h) p e s m args below meth c H locs ls C hl hW hS) (fun h => kf (Int.not_le.mp fun q => h ((zJ_le hx zR0).mpr q)) p e s m args below meth c H locs ls C hl hW hS)
end ZR
end
section
/-! RULES of the heap, of calls and of ends -/
theorem zJ_vp {x : Int} {n : Nat} (h0 : 0 ≤ x) (h : x < n) (hn : n < 2147483648) : vp_in (zJ x) n := (zin h0 h hn).1
/-- a class of the world, by its number -/
def zCB (kc : Nat) (C : String) (T : u_T) (N : Nat) : Prop := vwCl[kc]? = some (C, T, N) ∧ kc < 12 ∧ N = zNF kc ∧ (∀ k, k < N → (T k).1 = C) ∧ (∃ ty : Nat → FieldType, ∀ k, k < N → parseFieldDescriptor (T k).2.2.1 = some (ty k)) ∧ (∀ a, a < N → ∀ b, b < N → a ≠ b → (T a).2.1 ≠ (T b).2.1) ∧ (∀ w ∈ u_ws C T N, w ∈ ztbl)
/-- an entry of a class's pool that links a field -/
def zFL (own : String) (idx kc k : Nat) (ty : FieldType) (fin : Bool) : Prop := ∃ (C : String) (T : u_T) (N : Nat), zCB kc C T N ∧ k < N ∧ (T k).2.2.2 = fin ∧ parseFieldDescriptor (T k).2.2.1 = some ty ∧ Cond.fieldLink own idx C (T k).2.1 (T k).2.2.1 ∈ ztbl
/-- a method that can be called -/
def zCal (M : zM) (n : Nat) : Prop := Cond.initialized M.1.cls ∈ ztbl ∧ Cond.code M.1 M.2.1 M.2.2.1 M.2.2.2.1 ∈ ztbl ∧ M.1.cls ≠ "java/lang/invoke/MethodHandle" ∧ M.1.cls ≠ "java/lang/invoke/VarHandle" ∧ (parseMethodDescriptor M.1.desc).map (fun d => d.parameters.length) = some n
def zRm (M M' : zM) : Prop := M'.2.2.2.2.frames + 1 ≤ M.2.2.2.2.frames ∧ 8 + (M'.2.2.1 + 11) + M'.2.2.2.2.locals ≤ M.2.2.2.2.locals
theorem z_good {big : List Cond} {w : Cond} (hb : ∀ w ∈ ztbl, w ∈ big) (h : w ∈ ztbl) : w ∈ big ∧ ((w.onTables && w.keeps) = true ∨ ∃ ty, w = .arrayClass ty) := ⟨hb w h, good_of_word (List.mem_filter.mp h).2⟩
theorem z_goodIn {ws : List Cond} (h : ∀ w ∈ ws, w ∈ ztbl) : GoodIn ztbl ws := fun w hw => z_good (fun _ h => h) (h w hw)
theorem zws_in {M : zM} {n : Nat} (h : zCal M n) : ∀ w ∈ zws M, w ∈ ztbl := fun w hw => (List.mem_cons.mp hw).elim (fun e => by rw [e]; exact h.2.1) (fun h => h)
theorem zUvm {g : zG} {u U : State} (hv : U.vm = u.vm) (hh : U.heap = u.heap) (h : zU g u) : zU g U := by
  obtain ⟨h1, h2, h3, h4, h5, h6⟩ := h
  have ha : u.vm.Alike U.vm := by rw [hv]; exact Vm.Alike.refl _
  refine ⟨va_K.moved ha h1, fun q hq => va_Nw.same rfl hv.symm (h2 q hq), fun k hk => vk_R.same hv (h3 k hk), ?_, ?_, ?_⟩
  · rw [hh]; exact vk_S.moved ha h4
  · rw [hh]; exact va_Z.moved ha h5
  · rw [hh]; exact h6.imp (va_Z.moved ha) (va_Z.moved ha)
theorem zUwarm {g : zG} {s U : State} (hW : s.WarmedH U.vm) (hq : ∀ a : Nat, a < s.heap.size → ¬ zA g a → U.heap[a]? = s.heap[a]?) (h : zU g s) : zU g U := by
  obtain ⟨h1, h2, h3, h4, h5, h6⟩ := h
  exact ⟨va_K.moved hW.alike h1, fun q hq => va_Nw.warmM hW (h2 q hq), fun k hk => vk_R.warm hW (h3 k hk), (vk_S.moved hW.alike h4).kept hq, (va_Z.moved hW.alike h5).kept hq, h6.imp (fun h => (va_Z.moved hW.alike h).kept hq) (fun h => (va_Z.moved hW.alike h).kept hq)⟩
theorem z_blind {g : zG} {w : zWS} {av : List Value} : FrameBlind (va_Pc av (fun U => zU g U ∧ zgB g ≤ U.heap.size ∧ zHW g w U.heap)) := fun a U f mk h =>
  ⟨h.1, zUvm (u := U) rfl rfl h.2.1, h.2.2⟩
theorem zlv_args (g : zG) : ∀ (vs : List Value) (i : Nat), lv_args i (vs.map (ztv g)) = zlv g (lv_args i vs)
  | [], _ => rfl
  | v :: vs, i => by
    show (i, ztv g v) :: lv_args _ (vs.map (ztv g)) = (i, ztv g v) :: zlv g (lv_args _ vs)
    rw [ztv_cat, zlv_args g vs]
theorem zlg_len (g : zG) : ∀ (vs : List Value), (lg_sl (vs.map (ztv g))).length = (lg_sl vs).length
  | [] => rfl
  | v :: vs => by
    have ih := zlg_len g vs
    simp only [lg_sl, List.map_cons, List.flatMap_cons, List.length_append, ztv_cat] at ih ⊢
    rw [ih]
    by_cases h : v.category = 2 <;> simp [h]
/-- a method's contract, by its walk -/
theorem zok_of {g : zG} {M : zM} {args : List Value} {w : zWS} {Φ : Option Value → zWS → Prop} (hy : plainName M.1.cls = true) (hn : Nat.ble (lg_sl args).length M.2.2.1 = true) (k : zWP g M (zmo g M Φ) 0 (lv_args 0 args) [] 0 0 w) : zOK g M args w Φ := by
  refine Met.ofW (cc := M.2.1) (maxL := M.2.2.1) (ret := M.2.2.2.1) hy rfl ?_
  intro p e s m av below meth c s₁ B hml hv
  obtain ⟨rfl, hU, hB, hW⟩ := hv
  have hts := atoms_spec (ws := zws M) B.pre
  have hl := lv_entry (args.map (ztv g)) (n := M.2.2.1) (by rw [zlg_len]; exact Nat.le_of_ble_eq_true hn)
  rw [lg_entry_eq]
  generalize (lg_sl (args.map (ztv g)) ++ List.replicate (M.2.2.1 - (lg_sl (args.map (ztv g))).length) Slot.unset).toArray = ls at hl ⊢
  rw [zlv_args] at hl
  exact k p e s m _ below meth c s.heap [] ls ⟨B.exec, B.bytes, hml, B.returns, fun x hx => hts x (List.mem_cons_of_mem _ hx), findClass_of_methodNamed B.named, B.notSynchronized, fun _ => (name_of_methodNamed B.named B.method).1.trans (by assumption), hU, hB, trivial⟩ hl hW va_S.rf
theorem zOK.mono {g : zG} {M : zM} {args : List Value} {w : zWS} {Φ Ψ : Option Value → zWS → Prop} (h : zOK g M args w Φ) (hm : ∀ r w', Φ r w' → Ψ r w') : zOK g M args w Ψ := by
  intro p e ha hc hk s m av below hf happ hP hK
  obtain ⟨t, o, h1, h2, h3, ⟨⟨⟨r, w', q1, q2, q3⟩, q4⟩, q5⟩⟩ := h p e ha hc hk s m av below hf happ hP hK
  exact ⟨t, o, h1, h2, h3, ⟨⟨⟨r, w', q1, hm r w' q2, q3⟩, q4⟩, q5⟩⟩
section ZH
variable {g : zG} {M : zM} {mo : zMo} {pc nc ns : Nat} {lv : List (Nat × Value)} {st : List Value} {w : zWS}
-- fields
theorem zw_getI {i idx kc k n : Nat} {ty : FieldType} {fin : Bool} (hF : zFL M.1.cls idx kc k ty fin) (hd : decode M.2.1 pc = .ok (.getfield idx, 3)) (hr : (zRk kc).getD k false = false) (hs : w.1[i]? = some (kc, n)) (kk : zWP g M mo (pc + 3) lv (.int (zJ (w.2.2 i k)) :: st) nc ns w) : zWP g M mo pc lv (.ref i :: st) nc ns w := by
  intro p e s m args below meth c H locs ls C hl hW hS
  obtain ⟨Cn, T, N, ⟨c1, c2, c3, c4, -, -, c7⟩, f1, -, -, f2⟩ := hF
  have he := zwl_get (g := g) hs hW.2.2
  rw [zce_ob c2] at he
  refine va_get (Ts := ztbl) C.1 C.2.1 C.2.2.2.2.1 c7 C.2.2.2.2.2.1 C.2.2.2.2.2.2.2.2.1.1 hW.1 i he c1 k f1 (C.2.2.2.2.1 _ f2) (fun x h => by rw [c4 k f1] at h; exact h) (v := .int (zJ (w.2.2 i k))) ?_ hd (kk p e s m args below meth c H locs ls C hl hW hS)
  rw [List.getElem?_map, List.getElem?_range (by rw [← c3]; exact f1)]
  exact congrArg some (zfv_ne hr)
theorem zw_getR {i idx kc k n r : Nat} {ty : FieldType} {fin : Bool} (hF : zFL M.1.cls idx kc k ty fin) (hd : decode M.2.1 pc = .ok (.getfield idx, 3)) (hr : (zRk kc).getD k false = true) (hs : w.1[i]? = some (kc, n)) (hv : w.2.1 i k = some r) (kk : zWP g M mo (pc + 3) lv (.ref r :: st) nc ns w) : zWP g M mo pc lv (.ref i :: st) nc ns w := by
  intro p e s m args below meth c H locs ls C hl hW hS
  obtain ⟨Cn, T, N, ⟨c1, c2, c3, c4, -, -, c7⟩, f1, -, -, f2⟩ := hF
  have he := zwl_get (g := g) hs hW.2.2
  rw [zce_ob c2] at he
  refine va_get (Ts := ztbl) C.1 C.2.1 C.2.2.2.2.1 c7 C.2.2.2.2.2.1 C.2.2.2.2.2.2.2.2.1.1 hW.1 i he c1 k f1 (C.2.2.2.2.1 _ f2) (fun x h => by rw [c4 k f1] at h; exact h) (v := .ref (zad g r)) ?_ hd (kk p e s m args below meth c H locs ls C hl hW hS)
  rw [List.getElem?_map, List.getElem?_range (by rw [← c3]; exact f1)]
  show some (zfv g w kc i k) = _
  rw [zfv_rf hr, hv]
  rfl
theorem zput {kc k : Nat} {C : String} {T : u_T} {N i n : Nat} {V : Value} {w' : zWS} {H H' : Heap} (hC : zCB kc C T N) (hk : k < N) (hW : zHW g w H) (hs : w.1[i]? = some (kc, n)) (hset : (zwl g w).set i (zad g i, .inr (kc, ((List.range (zNF kc)).map (zfv g w kc i)).set k V)) = zwl g w') (hlen : w'.1 = w.1) {s : State} {args : Array Value} (hts : ∀ w ∈ ztbl, w.before args s = true) (hK : va_K (zgD g) vwCl (zTys g) s) {cell : Cell} (hcell : H[zad g i]? = some cell) (hvm : cell.vm = .none)
    (e1 : H'[zad g i]? = some (cell.setSlot ((zgD g).2 kc k) V)) (e2 : H'.size = H.size) (e3 : ∀ q, q ≠ zad g i → H'[q]? = H[q]?) : zHW g w' H' := by
  obtain ⟨c1, c2, c3, c4, ⟨tyf, c5⟩, c6, c7⟩ := hC
  have he := zwl_get (g := g) hs hW.2.2
  rw [zce_ob c2] at he
  have hap := va_apart (own := C) hts c7 tyf c5 c6 hK c1
  obtain ⟨r, h1, cell', q1, q2, q3, q4⟩ := hW.1 i _ he
  have hr : r = (C, T, N) := Option.some.inj (h1.symm.trans c1)
  subst hr
  cases hcell.symm.trans q1
  refine ⟨?_, by rw [e2, hlen]; exact hW.2.1, by rw [hlen]; exact hW.2.2⟩
  rw [← hset]
  exact hW.1.set (zwl_D g w) he ⟨_, c1, t_OB.to (V := updV (vp_V ((List.range (zNF kc)).map (zfv g w kc i))) k V) ⟨_, e1, q2, q3, t_set q4 hap hk V⟩ (fun j _ => vp_updV_set (by rw [List.length_map, List.length_range, ← c3]; exact hk) V j)⟩ e3
theorem zw_putG {i idx kc k n : Nat} {ty : FieldType} {V : Value} {w' : zWS} (hF : zFL M.1.cls idx kc k ty false) (hd : decode M.2.1 pc = .ok (.putfield idx, 3)) (hs : w.1[i]? = some (kc, n)) (hnar : narrow ty (ztv g V) = ztv g V) (hfit : fits ty (ztv g V) = true) (hlen : w'.1 = w.1)
    (hset : w.1.length < 90000 → (zwl g w).set i (zad g i, .inr (kc, ((List.range (zNF kc)).map (zfv g w kc i)).set k (ztv g V))) = zwl g w') (kk : zWP g M mo (pc + 3) lv st nc ns w') : zWP g M mo pc lv (V :: .ref i :: st) nc ns w := by
  intro p e s m args below meth c H locs ls C hl hW hS
  obtain ⟨Cn, T, N, hC, f1, f3, f4, f2⟩ := hF
  obtain ⟨c1, c2, c3, c4, ⟨tyf, c5⟩, c6, c7⟩ := id hC
  have hts := C.2.2.2.2.1
  have hK := C.2.2.2.2.2.2.2.2.1.1
  have he := zwl_get (g := g) hs hW.2.2
  rw [zce_ob c2] at he
  obtain ⟨r, h1, cell, q1, q2, q3, q4⟩ := hW.1 i _ he
  have hr : r = (Cn, T, N) := Option.some.inj (h1.symm.trans c1)
  subst hr
  obtain ⟨hSl, hfc, kC, hkC, hkind⟩ := hK.1 kc _ c1
  obtain ⟨cf, kf, fi, f, hi, hsl⟩ := hSl k f1
  have hlay := hts _ (c7 _ (u_in_lay f1))
  unfold u_lay at hlay
  rw [if_neg (by rw [f3]; decide)] at hlay
  have hst := (u_facts hfc hkC (u_lays hts c7 f1) hi).1
  have h6 := u_store hfc hkC hkind hlay hi f4 hnar hfit
  have hi' : s.fieldFound? Cn (T k).2.1 (T k).2.2.1 = some (cf, kf, fi, f) := by rw [c4 k f1] at hi; exact hi
  refine W.putK C.1 C.2.1 (f := f) ⟨C.2.2.2.2.2.1, hts _ f2, ⟨_, _, _, hi'⟩, hst⟩ (by rw [q2]; exact h6) q1 q3 (by rw [hsl]; exact k2_hasslot (q4 k f1)) rfl rfl hd fun H' e1 e2 e3 => ?_
  rw [hsl] at e1 ⊢
  refine kk p e s m args below meth c H' _ ls C hl (zput hC f1 hW hs (hset hW.2.2) hlen hts hK q1 q3 e1 e2 e3) (hS.put e2 e3 ?_)
  show zgB g ≤ zad g i
  have hi2 : i < w.1.length := (List.getElem?_eq_some_iff.mp hs).1
  rw [zad, if_pos (by have := hW.2.2; omega)]
  exact Nat.le_add_right _ _
theorem zw_putF {i idx kc k n : Nat} {ty : FieldType} {V : Value} {w' : zWS} (hF : zFL M.1.cls idx kc k ty true) (hd : decode M.2.1 pc = .ok (.putfield idx, 3)) (hs : w.1[i]? = some (kc, n)) (hnar : narrow ty (ztv g V) = ztv g V) (hfit : fits ty (ztv g V) = true) (hlen : w'.1 = w.1) (hown : (vwCl.map (fun q => q.1))[kc]? = some M.1.cls) (hini : M.1.name = "<init>")
    (hset : w.1.length < 90000 → (zwl g w).set i (zad g i, .inr (kc, ((List.range (zNF kc)).map (zfv g w kc i)).set k (ztv g V))) = zwl g w') (kk : zWP g M mo (pc + 3) lv st nc ns w') : zWP g M mo pc lv (V :: .ref i :: st) nc ns w := by
  intro p e s m args below meth c H locs ls C hl hW hS
  obtain ⟨Cn, T, N, hC, f1, f3, f4, f2⟩ := hF
  obtain ⟨c1, c2, c3, c4, ⟨tyf, c5⟩, c6, c7⟩ := id hC
  have hts := C.2.2.2.2.1
  have hK := C.2.2.2.2.2.2.2.2.1.1
  have he := zwl_get (g := g) hs hW.2.2
  rw [zce_ob c2] at he
  obtain ⟨r, h1, cell, q1, q2, q3, q4⟩ := hW.1 i _ he
  have hr : r = (Cn, T, N) := Option.some.inj (h1.symm.trans c1)
  subst hr
  obtain ⟨hSl, hfc, kC, hkC, hkind⟩ := hK.1 kc _ c1
  obtain ⟨cf, kf, fi, f, hi, hsl⟩ := hSl k f1
  have hst := (u_facts hfc hkC (u_lays hts c7 f1) hi).1
  have hi' : s.fieldFound? Cn (T k).2.1 (T k).2.2.1 = some (cf, kf, fi, f) := by rw [c4 k f1] at hi; exact hi
  have hCn : Cn = M.1.cls := by
    rw [List.getElem?_map, c1] at hown
    exact Option.some.inj hown
  obtain ⟨v1, v2⟩ := u_fits hfc hkC hkind (u_lays hts c7 f1) hi f4 hnar hfit
  have hlay := hts _ (c7 _ (u_in_lay f1))
  unfold u_lay at hlay
  rw [if_pos f3] at hlay
  have hcf : m.cls = cf := by
    obtain ⟨_, _, c', _, _, _, -, -, hf', -, -, -, hown2, -⟩ := Cond.laysFinal_spec hlay
    have e1 : c' = cf := by have := hi.symm.trans hf'; simp at this; exact this.1.symm
    rw [c4 k f1, hCn] at hown2
    rw [← e1]; exact Option.some.inj (C.2.2.2.2.2.1.symm.trans hown2)
  have hlt : zad g i < H.size := (Array.getElem?_eq_some_iff.mp q1).1
  refine W.putf C.1 C.2.1 C.2.2.2.2.2.1 (hts _ f2) hi' hst (Or.inr ⟨hcf, C.2.2.2.2.2.2.2.1 hini⟩) q1 (by rw [q3]; exact fun h => by cases h) (by rw [hsl]; exact k2_hasslot (q4 k f1)) v1 (by rw [q2, q3]; exact v2) rfl rfl hd ?_
  rw [hsl]
  refine kk p e s m args below meth c _ _ ls C hl (zput (H' := H.setIfInBounds (zad g i) (cell.setSlot ((zgD g).2 kc k) (ztv g V))) hC f1 hW hs (hset hW.2.2) hlen hts hK q1 q3 (by simp [Array.getElem?_setIfInBounds, hlt]) (by simp) (fun q hq => by simp [Array.getElem?_setIfInBounds, Ne.symm hq])) (hS.put (by simp) (fun q hq => by simp [Array.getElem?_setIfInBounds, Ne.symm hq]) ?_)
  show zgB g ≤ zad g i
  have hi2 : i < w.1.length := (List.getElem?_eq_some_iff.mp hs).1
  rw [zad, if_pos (by have := hW.2.2; omega)]
  exact Nat.le_add_right _ _
end ZH
section ZH2
variable {g : zG} {M : zM} {mo : zMo} {pc nc ns : Nat} {lv : List (Nat × Value)} {st : List Value} {w : zWS}
theorem zw_putI {i idx kc k n : Nat} {x : Int} (hF : zFL M.1.cls idx kc k .int false) (hd : decode M.2.1 pc = .ok (.putfield idx, 3)) (hr : (zRk kc).getD k false = false) (hs : w.1[i]? = some (kc, n)) (kk : zWP g M mo (pc + 3) lv st nc ns (zuI w i k x)) : zWP g M mo pc lv (.int (zJ x) :: .ref i :: st) nc ns w := by
  have hk : kc < 12 ∧ k < zNF kc := by
    obtain ⟨_, _, _, ⟨-, c2, c3, -⟩, f1, -⟩ := hF
    exact ⟨c2, by rw [← c3]; exact f1⟩
  exact zw_putG (w' := zuI w i k x) hF hd hs rfl rfl rfl (fun hn => zw_uI hs hn hk.1 hk.2 hr) kk
theorem z01 {x : Int} (h : x = 0 ∨ x = 1) : narrow .boolean (.int (zJ x)) = .int (zJ x) ∧ fits .boolean (.int (zJ x)) = true := by
  rcases h with rfl | rfl <;> exact ⟨by decide +kernel, by decide +kernel⟩
theorem zw_putZ {i idx kc k n : Nat} {x : Int} (hF : zFL M.1.cls idx kc k .boolean false) (hd : decode M.2.1 pc = .ok (.putfield idx, 3)) (hr : (zRk kc).getD k false = false) (hs : w.1[i]? = some (kc, n)) (hx : x = 0 ∨ x = 1) (kk : zWP g M mo (pc + 3) lv st nc ns (zuI w i k x)) : zWP g M mo pc lv (.int (zJ x) :: .ref i :: st) nc ns w := by
  have hk : kc < 12 ∧ k < zNF kc := by
    obtain ⟨_, _, _, ⟨-, c2, c3, -⟩, f1, -⟩ := hF
    exact ⟨c2, by rw [← c3]; exact f1⟩
  exact zw_putG (w' := zuI w i k x) hF hd hs (z01 hx).1 (z01 hx).2 rfl (fun hn => zw_uI hs hn hk.1 hk.2 hr) kk
theorem zw_putRF {i idx kc k n r : Nat} {ty : FieldType} (hF : zFL M.1.cls idx kc k ty true) (hty : (∃ C, ty = .object C) ∨ ∃ t, ty = .array t) (hd : decode M.2.1 pc = .ok (.putfield idx, 3)) (hr : (zRk kc).getD k false = true) (hs : w.1[i]? = some (kc, n)) (hown : (vwCl.map (fun q => q.1))[kc]? = some M.1.cls) (hini : M.1.name = "<init>") (kk : zWP g M mo (pc + 3) lv st nc ns (zuR w i k (some r))) : zWP g M mo pc lv (.ref r :: .ref i :: st) nc ns w := by
  have hk : kc < 12 ∧ k < zNF kc := by
    obtain ⟨_, _, _, ⟨-, c2, c3, -⟩, f1, -⟩ := hF
    exact ⟨c2, by rw [← c3]; exact f1⟩
  exact zw_putF (w' := zuR w i k (some r)) hF hd hs (by rcases hty with ⟨C, rfl⟩ | ⟨t, rfl⟩ <;> rfl) (by rcases hty with ⟨C, rfl⟩ | ⟨t, rfl⟩ <;> rfl) rfl hown hini (fun hn => zw_uR (v := some r) hs hn hk.1 hk.2 hr) kk
-- arrays of ints
theorem zw_iaload {i n : Nat} {x : Int} (hd : decode M.2.1 pc = .ok (.iaload, 1)) (hs : w.1[i]? = some (12, n)) (h0 : 0 ≤ x) (hx : x < n) (hn : n < 2147483648) (kk : zWP g M mo (pc + 1) lv (.int (zJ (w.2.2 i x.toNat)) :: st) nc ns w) : zWP g M mo pc lv (.int (zJ x) :: .ref i :: st) nc ns w := by
  intro p e s m args below meth c H locs ls C hl hW hS
  have he := zwl_get (g := g) hs hW.2.2
  rw [zce_ar] at he
  obtain ⟨hin, ht⟩ := zin h0 hx hn
  refine va_iald C.1 C.2.1 C.2.2.2.2.2.2.2.2.1.1 hW.1 i 0 he rfl hin hd ?_
  rw [ht]
  exact kk p e s m args below meth c H locs ls C hl hW hS
theorem z_in {H : Heap} (hW : zHW g w H) {i : Nat} {sh : Nat × Nat} (hs : w.1[i]? = some sh) : zA g (zad g i) := by
  show zgB g ≤ zad g i
  have hi2 : i < w.1.length := (List.getElem?_eq_some_iff.mp hs).1
  rw [zad, if_pos (by have := hW.2.2; omega)]
  exact Nat.le_add_right _ _
theorem zw_iastore {i n : Nat} {x y : Int} (hd : decode M.2.1 pc = .ok (.iastore, 1)) (hs : w.1[i]? = some (12, n)) (h0 : 0 ≤ x) (hx : x < n) (hn : n < 2147483648) (kk : zWP g M mo (pc + 1) lv st nc ns (zuI w i x.toNat y)) : zWP g M mo pc lv (.int (zJ y) :: .int (zJ x) :: .ref i :: st) nc ns w := by
  intro p e s m args below meth c H locs ls C hl hW hS
  have he := zwl_get (g := g) hs hW.2.2
  rw [zce_ar] at he
  obtain ⟨hin, ht⟩ := zin h0 hx hn
  have hK := C.2.2.2.2.2.2.2.2.1.1
  have hc : H[zad g i]? = some (vp_cell (zgc g 12) (n, .inl (fun j => zJ (w.2.2 i j)))) := hW.1 i _ he
  refine W.iast C.1 C.2.1 hc ((hK.2 0 _ rfl).1 n (fun j => .int (zJ (w.2.2 i j)))) (fun q => by cases q) (by show ¬ (zJ x < 0 ∨ (arrV _ _ _).slots.size ≤ _); rw [arrV_size]; exact hin) rfl rfl hd fun H1 e1 e2 e3 => ?_
  refine kk p e s m args below meth c H1 _ ls C hl ⟨?_, by rw [e2]; exact hW.2.1, hW.2.2⟩ (hS.put e2 e3 (z_in hW hs))
  rw [← zuI_A, ← zw_aI (f := fun b => if b = x.toNat then zJ y else zJ (w.2.2 i b)) hs hW.2.2 (fun b => by by_cases hb : b = x.toNat <;> simp [hb])]
  refine hW.1.set (zwl_D g w) he ?_ e3
  show H1[zad g i]? = some (vp_cell _ _)
  rw [e1, vp_cell_i, vp_cell_i, arrV_store, ht]
  congr 2
  funext q
  by_cases hq : q = x.toNat
  · subst hq
    simp [updV]
  · simp [updV, hq]
theorem zw_alen {i k n : Nat} (hd : decode M.2.1 pc = .ok (.arraylength, 1)) (hs : w.1[i]? = some (k, n)) (hk : k = 12) (kk : zWP g M mo (pc + 1) lv (.int (zJ (n : Int)) :: st) nc ns w) : zWP g M mo pc lv (.ref i :: st) nc ns w := by
  intro p e s m args below meth c H locs ls C hl hW hS
  subst hk
  have he := zwl_get (g := g) hs hW.2.2
  rw [zce_ar] at he
  exact va_alen C.1 C.2.1 C.2.2.2.2.2.2.2.2.1.1 hW.1 i 0 he rfl (v := zJ (n : Int)) rfl hd (kk p e s m args below meth c H locs ls C hl hW hS)
-- arrays of references
theorem zw_aaload {i n r k : Nat} {x : Int} (hd : decode M.2.1 pc = .ok (.aaload, 1)) (hs : w.1[i]? = some (k, n)) (hk : k = 13 ∨ k = 14 ∨ k = 15) (h0 : 0 ≤ x) (hx : x < n) (hn : n < 2147483648) (hv : w.2.1 i x.toNat = some r) (kk : zWP g M mo (pc + 1) lv (.ref r :: st) nc ns w) : zWP g M mo pc lv (.int (zJ x) :: .ref i :: st) nc ns w := by
  intro p e s m args below meth c H locs ls C hl hW hS
  have he := zwl_get (g := g) hs hW.2.2
  rw [zce_rr (by omega)] at he
  obtain ⟨hin, ht⟩ := zin h0 hx hn
  have hK := C.2.2.2.2.2.2.2.2.1.1
  have hc : H[zad g i]? = some (vp_cell (zgc g k) (n, .inr (.inr (.inr (.inr (fun j => (w.2.1 i j).map (zad g))))))) := hW.1 i _ he
  have hlt : (zJ x).toNatClampNeg < n := Nat.not_le.mp fun q => hin (Or.inr q)
  obtain ⟨ty, hty, hA⟩ : ∃ ty : FieldType, ty.isReference = true ∧ ArrOfT s (zgc g k) ty := by
    rcases hk with rfl | rfl | rfl
    · exact ⟨_, rfl, (hK.2 1 _ rfl).1⟩
    · exact ⟨_, rfl, (hK.2 2 _ rfl).1⟩
    · exact ⟨_, rfl, (hK.2 3 _ rfl).1⟩
  refine W.aald (v := .ref (zad g r)) (ty := ty) C.1 C.2.1 hc (hA n (fun j => va_rf ((w.2.1 i j).map (zad g)))) hty (fun q => by cases q) (by show ¬ (zJ x < 0 ∨ (arrV _ _ _).slots.size ≤ _); rw [arrV_size]; exact hin) (by show (arrV _ _ _).slots[_]? = _; rw [arrV_read _ _ hlt, ht]; show some (va_rf ((w.2.1 i x.toNat).map (zad g))) = _; rw [hv]; rfl) rfl rfl hd (kk p e s m args below meth c H locs ls C hl hW hS)
-- ends
theorem zw_iret {Φ : Option Value → zWS → Prop} {x : Int} (hd : decode M.2.1 pc = .ok (.ireturn, 1)) (hr : M.2.2.2.1 = some .int) (hn : nc ≤ M.2.2.2.2.cells) (hs : ns ≤ M.2.2.2.2.slots) (h : Φ (some (.int (zJ x))) w) : zWP g M (zmo g M Φ) pc lv [.int (zJ x)] nc ns w := by
  intro p e s m args below meth c H locs ls C hl hW hS
  refine W.widen hn hs ?_
  exact W.iret C.1 C.2.1 (C.2.2.2.1.trans hr) (fun t ht hv => ⟨⟨some (.int (zJ x)), w, rfl, h, by rw [ht]; exact hW⟩, hS.F ht⟩) hS.2.2 hd C.2.2.2.2.2.2.1
theorem zw_zret {Φ : Option Value → zWS → Prop} {x : Int} (hd : decode M.2.1 pc = .ok (.ireturn, 1)) (hr : M.2.2.2.1 = some .boolean) (hn : nc ≤ M.2.2.2.2.cells) (hs : ns ≤ M.2.2.2.2.slots) (hx : x = 0 ∨ x = 1) (h : Φ (some (.int (zJ x))) w) : zWP g M (zmo g M Φ) pc lv [.int (zJ x)] nc ns w := by
  intro p e s m args below meth c H locs ls C hl hW hS
  refine W.widen hn hs ?_
  exact W.zret C.1 C.2.1 (C.2.2.2.1.trans hr) (z01 hx).1 (fun t ht hv => ⟨⟨some (.int (zJ x)), w, rfl, h, by rw [ht]; exact hW⟩, hS.F ht⟩) hS.2.2 hd C.2.2.2.2.2.2.1
theorem zw_lret {Φ : Option Value → zWS → Prop} {x : Int} (hd : decode M.2.1 pc = .ok (.lreturn, 1)) (hr : M.2.2.2.1 = some .long) (hn : nc ≤ M.2.2.2.2.cells) (hs : ns ≤ M.2.2.2.2.slots) (h : Φ (some (.long (zL x))) w) : zWP g M (zmo g M Φ) pc lv [.long (zL x)] nc ns w := by
  intro p e s m args below meth c H locs ls C hl hW hS
  refine W.widen hn hs ?_
  exact W.lret C.1 C.2.1 (C.2.2.2.1.trans hr) (fun t ht hv => ⟨⟨some (.long (zL x)), w, rfl, h, by rw [ht]; exact hW⟩, hS.F ht⟩) hS.2.2 hd C.2.2.2.2.2.2.1
theorem zw_aret {Φ : Option Value → zWS → Prop} {r : Nat} {C : String} (hd : decode M.2.1 pc = .ok (.areturn, 1)) (hr : M.2.2.2.1 = some (.object C)) (hn : nc ≤ M.2.2.2.2.cells) (hs : ns ≤ M.2.2.2.2.slots) (h : Φ (some (.ref r)) w) : zWP g M (zmo g M Φ) pc lv [.ref r] nc ns w := by
  intro p e s m args below meth c H locs ls C hl hW hS
  refine W.widen hn hs ?_
  exact W.aret C.1 C.2.1 (C.2.2.2.1.trans hr) (Or.inl ⟨_, rfl⟩) (Or.inr ⟨_, rfl⟩) (fun t ht hv => ⟨⟨some (.ref r), w, rfl, h, by rw [ht]; exact hW⟩, hS.F ht⟩) hS.2.2 hd C.2.2.2.2.2.2.1
theorem zw_vret {Φ : Option Value → zWS → Prop} (hd : decode M.2.1 pc = .ok (.return_, 1)) (hr : M.2.2.2.1 = none) (hn : nc ≤ M.2.2.2.2.cells) (hs : ns ≤ M.2.2.2.2.slots) (h : Φ none w) : zWP g M (zmo g M Φ) pc lv [] nc ns w := by
  intro p e s m args below meth c H locs ls C hl hW hS
  refine W.widen hn hs ?_
  exact W.vret C.1 C.2.1 (C.2.2.2.1.trans hr) (fun t ht hv => ⟨⟨none, w, rfl, h, by rw [ht]; exact hW⟩, hS.F ht⟩) hS.2.2 hd C.2.2.2.2.2.2.1
-- constants
theorem zw_ldc2 {idx : Nat} {v : Int} (hd : decode M.2.1 pc = .ok (.ldc2_w idx, 3)) (hw : Cond.constantLong M.1.cls idx (zL v) ∈ ztbl) (kk : zWP g M mo (pc + 3) lv (.long (zL v) :: st) nc ns w) : zWP g M mo pc lv st nc ns w := by
  intro p e s m args below meth c H locs ls C hl hW hS
  exact lv_ldc2 C.1 C.2.1 C.2.2.2.2.2.1 (C.2.2.2.2.1 _ hw) hd (kk p e s m args below meth c H locs ls C hl hW hS)
-- switches
theorem zw_swIn {dflt lo hi : Int} {offs : Array Int} {len : Nat} {x off : Int} {tgt : Nat} (hd : decode M.2.1 pc = .ok (.tableswitch dflt lo hi offs, len)) (hx : zR x) (h1 : lo ≤ x) (h2 : x ≤ hi) (ho : offs[(x - lo).toNat]? = some off) (ht : (pc : Int) + off = (tgt : Int)) (kk : zWP g M mo tgt lv st nc ns w) : zWP g M mo pc lv (.int (zJ x) :: st) nc ns w := by
  intro p e s m args below meth c H locs ls C hl hW hS
  exact lv_tableIn C.1 C.2.1 hd (by rw [zJ_toInt hx]; omega) (by rw [zJ_toInt hx]; omega) (by rw [zJ_toInt hx]; exact ho) ht (kk p e s m args below meth c H locs ls C hl hW hS)
theorem zw_swOut {dflt lo hi : Int} {offs : Array Int} {len : Nat} {x : Int} {tgt : Nat} (hd : decode M.2.1 pc = .ok (.tableswitch dflt lo hi offs, len)) (hx : zR x) (h : x < lo ∨ hi < x) (ht : (pc : Int) + dflt = (tgt : Int)) (kk : zWP g M mo tgt lv st nc ns w) : zWP g M mo pc lv (.int (zJ x) :: st) nc ns w := by
  intro p e s m args below meth c H locs ls C hl hW hS
  exact lv_tableOut C.1 C.2.1 hd (by rw [zJ_toInt hx]; exact h) ht (kk p e s m args below meth c H locs ls C hl hW hS)
end ZH2
end
section
/-! RULES of calls -/
theorem z_opt (g : zG) (r : Option Value) (st : List Value) : (r.map (ztv g)).toList ++ st.map (ztv g) = (r.toList ++ st).map (ztv g) := by cases r <;> rfl
theorem z_rev (g : zG) (As : List Value) (st : List Value) : (As.reverse ++ st).map (ztv g) = (As.map (ztv g)).reverse ++ st.map (ztv g) := by rw [List.map_append, List.map_reverse]
theorem z_sum (g : zG) (st : List Value) : ((st.map (ztv g)).map fun v => v.category).sum = (st.map fun v => v.category).sum := by
  rw [List.map_map]
  congr 1
  apply List.map_congr_left
  intro v _
  exact ztv_cat g v
section ZC
variable {g : zG} {M : zM} {mo : zMo} {pc nc ns : Nat} {lv : List (Nat × Value)} {st : List Value} {w : zWS}
theorem zw_run {p : Program} {e : Env} {s : State} {m : MethodId} {args : Array Value} {below : List Frame} {meth : Method} {c : Code} {H : Heap} {locs : List Loc} {ls : Array Slot} {mc ms : Nat} {Φ : Option Value → zWS → Prop} {a : Array Value} {st0 : List Value}
    (hr : va_Run p (zgl g) e M.2.2.2.2 s m args below meth c H locs nc ns mc ms (F0 m pc ls st0) (st.map (ztv g)) (zQ g Φ a) (zA g)) (C : zCX g M mo.1 p s m args meth c) (hl : lv_has ls M.2.2.1 (zlv g lv)) (hS : va_S (zA g) s.heap H locs)
    (kk : ∀ r w', Φ r w' → zWP g M mo (pc + 3) lv (r.toList ++ st) (nc + mc) (ns + ms) w') : W p (zgl g) e M.2.2.2.2 s m args below meth c H locs nc ns (mo.2 below args s) (F0 m pc ls st0) := by
  intro T hT X
  obtain ⟨v, st₀, t, T', L, h0, X', hL, e1, e2, ⟨⟨r, w', hv, hp, hb⟩, hz, hk⟩, stp⟩ := hr T hT X
  cases hv
  rw [h0] at hz hk
  obtain ⟨t2, a1, b1⟩ := kk r w' hp p e s m args below meth c T'.heap (locs ++ L) ls C hl (by rw [e1]; exact hb)
    ⟨Nat.le_trans hS.1 (by rw [e1]; exact hz), fun q h1 h2 => by rw [e1, hk q (Nat.lt_of_lt_of_le h1 hS.1) h2]; exact hS.2.1 q h1 h2, fun q hq => by
      rcases List.mem_append.mp hq with h | h
      · exact hS.2.2 q h
      · exact hL q h⟩ T' rfl X'
  rw [← z_opt] at a1
  exact ⟨t2, stp t2 a1, b1⟩
theorem z_pre {p : Program} {s : State} {m : MethodId} {args : Array Value} {meth : Method} {c : Code} {H : Heap} {locs : List Loc} (C : zCX g M mo.1 p s m args meth c) (hW : zHW g w H) (hS : va_S (zA g) s.heap H locs) (As : List Value) :
    PreS s H (va_Pc (As.map (ztv g)) (fun U => zU g U ∧ zgB g ≤ U.heap.size ∧ zHW g w U.heap)) (As.map (ztv g)) :=
  ⟨z_blind, fun U hU hv => ⟨rfl, zUwarm hv (fun a h1 h2 => by rw [hU]; exact hS.2.1 a h1 h2) C.2.2.2.2.2.2.2.2.1, by rw [hU]; exact Nat.le_trans C.2.2.2.2.2.2.2.2.2.1 hS.1, by rw [hU]; exact hW⟩⟩
theorem zw_callV {M' : zM} {idx kc n b k : Nat} {As : List Value} (hcal : zCal M' n) (hin : Cond.instanceMethod M'.1 ∈ ztbl) (hse : Cond.selects M'.1.cls M'.1 M'.1 ∈ ztbl) (hli : Cond.methodLink M.1.cls idx M'.1 ∈ ztbl) (hd : decode M.2.1 pc = .ok (.invokevirtual idx, 3)) (hrm : zRm M M') (hn : As.length = n)
    (hs : w.1[b]? = some (kc, k)) (hkc : kc < 12) (hcls : (vwCl.map (fun q => q.1))[kc]? = some M'.1.cls) (hsum : Nat.ble (st.map fun v => v.category).sum 8 = true) (hc1 : nc + M'.2.2.2.2.cells ≤ M.2.2.2.2.cells) (hc2 : ns + M'.2.2.2.2.slots ≤ M.2.2.2.2.slots)
    (hOK : zOK g M' (.ref b :: As) w (fun r w' => zWP g M mo (pc + 3) lv (r.toList ++ st) (nc + M'.2.2.2.2.cells) (ns + M'.2.2.2.2.slots) w')) : zWP g M mo pc lv (As.reverse ++ .ref b :: st) nc ns w := by
  intro p e s m args below meth c H locs ls C hl hW hS
  have hts := C.2.2.2.2.1
  have he := zwl_get (g := g) hs hW.2.2
  rw [zce_ob hkc] at he
  obtain ⟨q, hq, hqc⟩ : ∃ q, vwCl[kc]? = some q ∧ q.1 = M'.1.cls := by
    rw [List.getElem?_map] at hcls
    cases hz : vwCl[kc]? with
    | none => rw [hz] at hcls; cases hcls
    | some q => rw [hz] at hcls; exact ⟨q, rfl, Option.some.inj hcls⟩
  have hrecv := va_recv C.2.2.2.2.2.2.2.2.1.1 hW.1 hq he
  rw [hqc] at hrecv
  have hall : ∀ x ∈ wsV M.1.cls idx M'.1.cls M'.1 (zws M'), x ∈ ztbl := fun x hx => by
    rcases List.mem_append.mp hx with h | h
    · simp only [List.mem_cons, List.not_mem_nil, or_false] at h
      rcases h with rfl | rfl | rfl | rfl
      · exact hli
      · exact hin
      · exact hse
      · exact hcal.1
    · exact zws_in hcal x h
  rw [z_rev, List.map_cons]
  refine zw_run (st := st) (va_runV (As := As.map (ztv g)) (rest := st.map (ztv g)) (b := zad g b) ⟨C.1, C.2.1, C.2.2.1, C.2.2.2.2.2.1, hts⟩ hOK (cwV n hts (z_goodIn hall) rfl rfl rfl ⟨rfl, hcal.2.2⟩ hrm) ⟨z_blind, hrecv, (z_pre C hW hS (.ref b :: As)).2⟩ rfl (by rw [List.length_map]; exact hn) hl.1 rfl (lv_room (by rw [z_sum]; exact Nat.le_of_ble_eq_true hsum)) hd ⟨hc1, hc2⟩) C hl hS (fun r w' h => h)
theorem zw_callS {M' : zM} {idx n : Nat} {As : List Value} (hcal : zCal M' n) (hst : Cond.static M'.1 ∈ ztbl) (hli : Cond.methodLink M.1.cls idx M'.1 ∈ ztbl) (hd : decode M.2.1 pc = .ok (.invokestatic idx, 3)) (hrm : zRm M M') (hn : As.length = n)
    (hsum : Nat.ble (st.map fun v => v.category).sum 8 = true) (hc1 : nc + M'.2.2.2.2.cells ≤ M.2.2.2.2.cells) (hc2 : ns + M'.2.2.2.2.slots ≤ M.2.2.2.2.slots)
    (hOK : zOK g M' As w (fun r w' => zWP g M mo (pc + 3) lv (r.toList ++ st) (nc + M'.2.2.2.2.cells) (ns + M'.2.2.2.2.slots) w')) : zWP g M mo pc lv (As.reverse ++ st) nc ns w := by
  intro p e s m args below meth c H locs ls C hl hW hS
  have hts := C.2.2.2.2.1
  have hall : ∀ x ∈ va_wsS M.1.cls idx M'.1 (zws M'), x ∈ ztbl := fun x hx => by
    rcases List.mem_append.mp hx with h | h
    · simp only [List.mem_cons, List.not_mem_nil, or_false] at h
      rcases h with rfl | rfl | rfl
      · exact hli
      · exact hst
      · exact hcal.1
    · exact zws_in hcal x h
  rw [z_rev]
  refine zw_run (st := st) (va_runS (As := As.map (ztv g)) (rest := st.map (ztv g)) ⟨C.1, C.2.1, C.2.2.1, C.2.2.2.2.2.1, hts⟩ hOK (va_cwS n hts (z_goodIn hall) rfl rfl rfl hcal.2.2 hrm) (z_pre C hW hS As) rfl (by rw [List.length_map]; exact hn) hl.1 rfl (lv_room (by rw [z_sum]; exact Nat.le_of_ble_eq_true hsum)) hd ⟨hc1, hc2⟩) C hl hS (fun r w' h => h)
theorem zw_callSN {M' : zM} {idx n : Nat} {host : String} {As : List Value} (hcal : zCal M' n) (hst : Cond.static M'.1 ∈ ztbl) (hne : (M.1.cls, idx, M'.1, host) ∈ zNest) (hd : decode M.2.1 pc = .ok (.invokestatic idx, 3)) (hrm : zRm M M') (hn : As.length = n)
    (hsum : Nat.ble (st.map fun v => v.category).sum 8 = true) (hc1 : nc + M'.2.2.2.2.cells ≤ M.2.2.2.2.cells) (hc2 : ns + M'.2.2.2.2.slots ≤ M.2.2.2.2.slots)
    (hOK : zOK g M' As w (fun r w' => zWP g M mo (pc + 3) lv (r.toList ++ st) (nc + M'.2.2.2.2.cells) (ns + M'.2.2.2.2.slots) w')) : zWP g M mo pc lv (As.reverse ++ st) nc ns w := by
  intro p e s m args below meth c H locs ls C hl hW hS
  have hts := C.2.2.2.2.1
  rw [z_rev]
  refine zw_run (st := st) (va_runSN (As := As.map (ztv g)) (rest := st.map (ztv g)) ⟨C.1, C.2.1, C.2.2.1, C.2.2.2.2.2.1, hts⟩ hOK ⟨va_cnB n hts (z_goodIn (zws_in hcal)) rfl rfl rfl (C.2.2.2.2.2.2.2.2.1.2.1 _ hne) (hts _ hcal.1) hcal.2.2 hrm, hts _ hst, trivial⟩ (z_pre C hW hS As) rfl (by rw [List.length_map]; exact hn) hl.1 rfl (lv_room (by rw [z_sum]; exact Nat.le_of_ble_eq_true hsum)) hd ⟨hc1, hc2⟩) C hl hS (fun r w' h => h)
theorem zw_callIN {M' : zM} {idx n b : Nat} {host : String} {As : List Value} (hcal : zCal M' n) (hr : M'.2.2.2.1 = none) (hin : Cond.instanceMethod M'.1 ∈ ztbl) (hne : (M.1.cls, idx, M'.1, host) ∈ zNest) (hini : M'.1.name = "<init>") (hd : decode M.2.1 pc = .ok (.invokespecial idx, 3)) (hrm : zRm M M') (hn : As.length = n)
    (hsum : Nat.ble (st.map fun v => v.category).sum 8 = true) (hc1 : nc + M'.2.2.2.2.cells ≤ M.2.2.2.2.cells) (hc2 : ns + M'.2.2.2.2.slots ≤ M.2.2.2.2.slots)
    (hOK : zOK g M' (.ref b :: As) w (fun r w' => zWP g M mo (pc + 3) lv (r.toList ++ st) (nc + M'.2.2.2.2.cells) (ns + M'.2.2.2.2.slots) w')) : zWP g M mo pc lv (As.reverse ++ .ref b :: st) nc ns w := by
  intro p e s m args below meth c H locs ls C hl hW hS
  have hts := C.2.2.2.2.1
  rw [z_rev, List.map_cons]
  refine zw_run (st := st) (va_runIN (As := As.map (ztv g)) (rest := st.map (ztv g)) (b := zad g b) ⟨C.1, C.2.1, C.2.2.1, C.2.2.2.2.2.1, hts⟩ hOK ⟨va_cnB n hts (z_goodIn (zws_in hcal)) (by rw [zws, hr]) rfl rfl (C.2.2.2.2.2.2.2.2.1.2.1 _ hne) (hts _ hcal.1) hcal.2.2 hrm, hini, hts _ hin⟩ (z_pre C hW hS (.ref b :: As)) rfl (by rw [List.length_map]; exact hn) hl.1 rfl (lv_room (by rw [z_sum]; exact Nat.le_of_ble_eq_true hsum)) hd ⟨hc1, hc2⟩) C hl hS (fun r w' h => h)
theorem zw_callI {M' : zM} {idx n b : Nat} {As : List Value} (hcal : zCal M' n) (hr : M'.2.2.2.1 = none) (hin : Cond.instanceMethod M'.1 ∈ ztbl) (hli : Cond.methodLink M.1.cls idx M'.1 ∈ ztbl) (hini : M'.1.name = "<init>") (hd : decode M.2.1 pc = .ok (.invokespecial idx, 3)) (hrm : zRm M M') (hn : As.length = n)
    (hsum : Nat.ble (st.map fun v => v.category).sum 8 = true) (hc1 : nc + M'.2.2.2.2.cells ≤ M.2.2.2.2.cells) (hc2 : ns + M'.2.2.2.2.slots ≤ M.2.2.2.2.slots)
    (hOK : zOK g M' (.ref b :: As) w (fun r w' => zWP g M mo (pc + 3) lv (r.toList ++ st) (nc + M'.2.2.2.2.cells) (ns + M'.2.2.2.2.slots) w')) : zWP g M mo pc lv (As.reverse ++ .ref b :: st) nc ns w := by
  intro p e s m args below meth c H locs ls C hl hW hS
  have hts := C.2.2.2.2.1
  rw [z_rev, List.map_cons]
  refine zw_run (st := st) (va_runI (As := As.map (ztv g)) (rest := st.map (ztv g)) (b := zad g b) ⟨C.1, C.2.1, C.2.2.1, C.2.2.2.2.2.1, hts⟩ hOK (cwI n hts (z_goodIn (zws_in hcal)) (by rw [zws, hr]) rfl rfl (hts _ hcal.1) (hts _ hli) (hts _ hin) hini hcal.2.2 hrm) (z_pre C hW hS (.ref b :: As)) rfl (by rw [List.length_map]; exact hn) hl.1 rfl (lv_room (by rw [z_sum]; exact Nat.le_of_ble_eq_true hsum)) hd ⟨hc1, hc2⟩) C hl hS (fun r w' h => h)
end ZC
-- typed: what comes back
section ZT
variable {g : zG} {M : zM} {args : List Value} {w : zWS}
theorem zOKi.to {φ : Int → zWS → Prop} {Ψ : Option Value → zWS → Prop} (h : zOKi g M args w φ) (k : ∀ x w', φ x w' → Ψ (some (.int (zJ x))) w') : zOK g M args w Ψ := zOK.mono h (fun r w' ⟨x, hx, hp⟩ => by rw [hx]; exact k x w' hp)
theorem zOKl.to {φ : Int → zWS → Prop} {Ψ : Option Value → zWS → Prop} (h : zOKl g M args w φ) (k : ∀ x w', φ x w' → Ψ (some (.long (zL x))) w') : zOK g M args w Ψ := zOK.mono h (fun r w' ⟨x, hx, hp⟩ => by rw [hx]; exact k x w' hp)
theorem zOKr.to {φ : Nat → zWS → Prop} {Ψ : Option Value → zWS → Prop} (h : zOKr g M args w φ) (k : ∀ x w', φ x w' → Ψ (some (.ref x)) w') : zOK g M args w Ψ := zOK.mono h (fun r w' ⟨x, hx, hp⟩ => by rw [hx]; exact k x w' hp)
theorem zOKv.to {φ : zWS → Prop} {Ψ : Option Value → zWS → Prop} (h : zOKv g M args w φ) (k : ∀ w', φ w' → Ψ none w') : zOK g M args w Ψ := zOK.mono h (fun r w' ⟨hx, hp⟩ => by rw [hx]; exact k w' hp)
end ZT
section ZB
variable {g : zG} {M : zM} {mo : zMo} {pc nc ns : Nat} {lv : List (Nat × Value)} {st : List Value} {w : zWS}
-- Math, arraycopy
theorem zw_min {idx : Nat} {x y : Int} (hli : Cond.methodLink M.1.cls idx Lib.Math.min.name ∈ ztbl) (hst : Cond.static Lib.Math.min.name ∈ ztbl) (hini : Cond.initialized "java/lang/Math" ∈ ztbl) (hco : Cond.code Lib.Math.min.name Lib.Math.min.code 2 (some .int) ∈ ztbl) (hd : decode M.2.1 pc = .ok (.invokestatic idx, 3))
    (hrm : 1 ≤ M.2.2.2.2.frames ∧ 21 ≤ M.2.2.2.2.locals) (hc1 : nc ≤ M.2.2.2.2.cells) (hc2 : ns ≤ M.2.2.2.2.slots) (hsum : Nat.ble (st.map fun v => v.category).sum 8 = true) (hx : zR x) (hy : zR y) (kk : zWP g M mo (pc + 3) lv (.int (zJ (min x y)) :: st) nc ns w) : zWP g M mo pc lv (.int (zJ y) :: .int (zJ x) :: st) nc ns w := by
  intro p e s m args below meth c H locs ls C hl hW hS
  have hts := C.2.2.2.2.1
  have h8 := Nat.le_of_ble_eq_true hsum
  refine va_mmin C.1 C.2.1 (C.2.2.1.trans hl.1.symm) C.2.2.2.2.2.1 (hts _ hli) (hts _ hst) (hts _ hini) (hts _ hco) hrm.1 (by rw [z_sum]; have := hrm.2; omega) hc1 hc2 hd ?_
  have e2 : (if zJ y < zJ x then zJ y else zJ x) = zJ (min x y) := by
    by_cases h : y < x
    · rw [if_pos ((zJ_lt hy hx).mpr h), show min x y = y by omega]
    · rw [if_neg (fun q => h ((zJ_lt hy hx).mp q)), show min x y = x by omega]
  rw [e2]
  exact kk p e s m args below meth c H locs ls C hl hW hS
theorem zw_max {idx : Nat} {x y : Int} (hli : Cond.methodLink M.1.cls idx Lib.Math.max.name ∈ ztbl) (hst : Cond.static Lib.Math.max.name ∈ ztbl) (hini : Cond.initialized "java/lang/Math" ∈ ztbl) (hco : Cond.code Lib.Math.max.name Lib.Math.max.code 2 (some .int) ∈ ztbl) (hd : decode M.2.1 pc = .ok (.invokestatic idx, 3))
    (hrm : 1 ≤ M.2.2.2.2.frames ∧ 21 ≤ M.2.2.2.2.locals) (hc1 : nc ≤ M.2.2.2.2.cells) (hc2 : ns ≤ M.2.2.2.2.slots) (hsum : Nat.ble (st.map fun v => v.category).sum 8 = true) (hx : zR x) (hy : zR y) (kk : zWP g M mo (pc + 3) lv (.int (zJ (max x y)) :: st) nc ns w) : zWP g M mo pc lv (.int (zJ y) :: .int (zJ x) :: st) nc ns w := by
  intro p e s m args below meth c H locs ls C hl hW hS
  have hts := C.2.2.2.2.1
  have h8 := Nat.le_of_ble_eq_true hsum
  refine va_mmax C.1 C.2.1 (C.2.2.1.trans hl.1.symm) C.2.2.2.2.2.1 (hts _ hli) (hts _ hst) (hts _ hini) (hts _ hco) hrm.1 (by rw [z_sum]; have := hrm.2; omega) hc1 hc2 hd ?_
  have e2 : (if zJ x < zJ y then zJ y else zJ x) = zJ (max x y) := by
    by_cases h : x < y
    · rw [if_pos ((zJ_lt hx hy).mpr h), show max x y = y by omega]
    · rw [if_neg (fun q => h ((zJ_lt hx hy).mp q)), show max x y = x by omega]
  rw [e2]
  exact kk p e s m args below meth c H locs ls C hl hW hS
/-- a cell's numbers, some of another's put in -/
def zcpy (w : zWS) (a sp b dp n : Nat) : zWS := zuA w b (fun k => if dp ≤ k ∧ k < dp + n then w.2.2 a (sp + (k - dp)) else w.2.2 b k)
theorem zw_copy {idx a b n0 n1 : Nat} {sp dp n : Int} (hli : Cond.methodLink M.1.cls idx arraycopyName ∈ ztbl) (hna : Cond.native arraycopyName ∈ ztbl) (hst : Cond.static arraycopyName ∈ ztbl) (hini : Cond.initialized "java/lang/System" ∈ ztbl) (hd : decode M.2.1 pc = .ok (.invokestatic idx, 3))
    (hrm : 1 ≤ M.2.2.2.2.frames ∧ 8 + (nativeFrameWords "java/lang/System" "arraycopy" 5 + 11) ≤ M.2.2.2.2.locals) (hsum : Nat.ble (st.map fun v => v.category).sum 8 = true) (hsa : w.1[a]? = some (12, n0)) (hsb : w.1[b]? = some (12, n1)) (h1 : 0 ≤ sp) (h2 : 0 ≤ dp) (h3 : 0 ≤ n) (h4 : sp + n ≤ n0) (h5 : dp + n ≤ n1) (hn0 : n0 < 2147483648) (hn1 : n1 < 2147483648)
    (kk : zWP g M mo (pc + 3) lv st nc ns (zcpy w a sp.toNat b dp.toNat n.toNat)) : zWP g M mo pc lv (.int (zJ n) :: .int (zJ dp) :: .ref b :: .int (zJ sp) :: .ref a :: st) nc ns w := by
  intro p e s m args below meth c H locs ls C hl hW hS
  have hts := C.2.2.2.2.1
  have h8 := Nat.le_of_ble_eq_true hsum
  have ea := zwl_get (g := g) hsa hW.2.2
  have eb := zwl_get (g := g) hsb hW.2.2
  rw [zce_ar] at ea eb
  have rs : zR sp := ⟨by omega, by omega⟩
  have rd : zR dp := ⟨by omega, by omega⟩
  have rn : zR n := ⟨by omega, by omega⟩
  have cs : (zJ sp).toNatClampNeg = sp.toNat := by show (zJ sp).toInt.toNat = _; rw [zJ_toInt rs]
  have cd : (zJ dp).toNatClampNeg = dp.toNat := by show (zJ dp).toInt.toNat = _; rw [zJ_toInt rd]
  have cn : (zJ n).toNatClampNeg = n.toNat := by show (zJ n).toInt.toNat = _; rw [zJ_toInt rn]
  have hK := C.2.2.2.2.2.2.2.2.1.1
  have hc0 : H[zad g a]? = some (vp_cell (zgc g 12) (n0, .inl (fun j => zJ (w.2.2 a j)))) := hW.1 a _ ea
  have hc1 : H[zad g b]? = some (vp_cell (zgc g 12) (n1, .inl (fun j => zJ (w.2.2 b j)))) := hW.1 b _ eb
  obtain ⟨-, k0, hk0, cm0, hkk0⟩ := (hK.2 0 _ rfl).1 n0 (fun j => .int (zJ (w.2.2 a j)))
  intro T hT X
  obtain ⟨vm', X', step⟩ := X.arraycopy C.1 C.2.2.2.2.2.1 (hts _ hli) (hts _ hna) (hts _ hst) (hts _ hini) (src := zad g a) (dst := zad g b) (cs := vp_cell (zgc g 12) (n0, .inl (fun j => zJ (w.2.2 a j)))) (cd := vp_cell (zgc g 12) (n1, .inl (fun j => zJ (w.2.2 b j)))) (srcPos := zJ sp) (destPos := zJ dp) (n := zJ n) (by rw [hT]; exact hc0) (by rw [hT]; exact hc1)
    (fun _ h => by cases h) (fun _ h => by cases h) (fun h => by cases h) (fun h => by cases h) hk0 hk0 hkk0 hkk0 (by simp [refKind]) (fun q => by have := (zJ_lt rs zR0).mp q; omega) (fun q => by have := (zJ_lt rd zR0).mp q; omega) (fun q => by have := (zJ_lt rn zR0).mp q; omega)
    (by rw [zJ_toInt rs, zJ_toInt rn]; show ¬ _ > ((arrV (zgc g 12) n0 (fun j => .int (zJ (w.2.2 a j)))).slots.size : Int); rw [arrV_size]; omega)
    (by rw [zJ_toInt rd, zJ_toInt rn]; show ¬ _ > ((arrV (zgc g 12) n1 (fun j => .int (zJ (w.2.2 b j)))).slots.size : Int); rw [arrV_size]; omega)
    (fun vm₁ _ i hi => by
      have ee : (vp_cell (zgc g 12) (n0, .inl (fun j => zJ (w.2.2 a j)))).slots.getD ((zJ sp).toNatClampNeg + i) .null = .int (zJ (w.2.2 a ((zJ sp).toNatClampNeg + i))) := by
        show (arrV (zgc g 12) n0 (fun j => .int (zJ (w.2.2 a j)))).slots.getD _ _ = _
        rw [Array.getD_eq_getD_getElem?, arrV_read _ _ (by rw [cs]; rw [cn] at hi; omega)]
        rfl
      refine ⟨?_, ?_⟩
      · rw [ee]; rfl
      · rw [ee]; exact trivial)
    (g := F0 m pc ls _) rfl (by rw [C.2.2.1]; exact hl.1) (rest := st.map (ztv g)) rfl (by rw [C.2.1]; exact hd) hrm.1 (by rw [z_sum]; show 2 * 0 + _ + _ ≤ _; have := hrm.2; omega)
  have e1' : copied (vp_cell (zgc g 12) (n0, .inl (fun j => zJ (w.2.2 a j)))) (vp_cell (zgc g 12) (n1, .inl (fun j => zJ (w.2.2 b j)))) (zJ sp) (zJ dp) (zJ n) = vp_cell (zgc g 12) (n1, .inl (va_cpy (fun j => zJ (w.2.2 a j)) (fun j => zJ (w.2.2 b j)) sp.toNat dp.toNat n.toNat)) := by rw [← cs, ← cd, ← cn]; exact va_copied (fun z => Value.int z) (zgc g 12) (zgc g 12) (fun j => zJ (w.2.2 a j)) (fun j => zJ (w.2.2 b j)) (by rw [cs, cn]; omega)
  rw [e1'] at X' step
  have hlt : zad g b < H.size := (Array.getElem?_eq_some_iff.mp hc1).1
  generalize hV : vp_cell (zgc g 12) (n1, .inl (va_cpy (fun j => zJ (w.2.2 a j)) (fun j => zJ (w.2.2 b j)) sp.toNat dp.toNat n.toNat)) = V at X' step
  have hheap : ((T.setVm vm').setCell (zad g b) V).heap = H.setIfInBounds (zad g b) V := by rw [← hT]; rfl
  have oq : ∀ q : Nat, q ≠ zad g b → (H.setIfInBounds (zad g b) V)[q]? = H[q]? := fun q hq => by simp [Array.getElem?_setIfInBounds, Ne.symm hq]
  have hW' : zHW g (zcpy w a sp.toNat b dp.toNat n.toNat) (H.setIfInBounds (zad g b) V) := by
    refine ⟨?_, by simp; exact hW.2.1, hW.2.2⟩
    rw [zcpy, ← zw_aI (f := va_cpy (fun j => zJ (w.2.2 a j)) (fun j => zJ (w.2.2 b j)) sp.toNat dp.toNat n.toNat) hsb hW.2.2 (fun k => (apply_ite zJ _ _ _).symm)]
    refine hW.1.set (zwl_D g w) eb ?_ oq
    show (H.setIfInBounds (zad g b) V)[zad g b]? = some (vp_cell _ _)
    rw [hV]
    simp [Array.getElem?_setIfInBounds, hlt]
  obtain ⟨t, a1, b1⟩ := kk p e s m args below meth c _ _ ls C hl hW' ⟨by simp; exact hS.1, fun q g1 g2 => by
      rw [oq q (fun ee => g2 (by rw [ee]; exact z_in hW hsb))]
      exact hS.2.1 q g1 g2, fun q hq => by
      rcases List.mem_append.mp hq with h | h
      · exact hS.2.2 q h
      · obtain ⟨z, -, hz⟩ := List.mem_map.mp h
        rw [← hz]
        exact z_in hW hsb⟩ _ hheap X'
  exact ⟨t, step t a1, b1⟩
end ZB
end
section
/-! THE WORLD AS IT STANDS BEHIND THE CONSTRUCTORS: shape and references are fixed, the numbers move -/
def zsh : List (Nat × Nat) := [(10, 12), (0, 5), (14, 6), (3, 2), (12, 81), (13, 8), (12, 8), (6, 3), (12, 80), (6, 3), (12, 80), (6, 3), (12, 80), (6, 3), (12, 80), (6, 3), (12, 80), (6, 3), (12, 80), (3, 2), (12, 81), (3, 2), (12, 81), (3, 2), (12, 81), (3, 2), (12, 81), (3, 2), (12, 81), (3, 2), (12, 81), (3, 2), (12, 81), (3, 2), (12, 81), (0, 5), (14, 6), (3, 2), (12, 81), (13, 8), (12, 8), (6, 3), (12, 80), (6, 3), (12, 80), (6, 3), (12, 80), (6, 3), (12, 80), (6, 3), (12, 80), (6, 3), (12, 80), (3, 2), (12, 81), (3, 2), (12, 81), (3, 2), (12, 81), (3, 2), (12, 81), (3, 2), (12, 81), (3, 2), (12, 81), (3, 2), (12, 81), (3, 2), (12, 81), (7, 4), (12, 80), (12, 80), (12, 80), (12, 80), (9, 9), (15, 9), (12, 80), (12, 80), (12, 80), (12, 80), (12, 80), (12, 80), (12, 80), (12, 80), (12, 80), (15, 9), (12, 80), (12, 80), (12, 80), (12, 80), (12, 80), (12, 80), (12, 80), (12, 80), (12, 80), (12, 80), (12, 80), (1, 10), (15, 80), (12, 81), (12, 81), (12, 81), (12, 81), (12, 81), (12, 81), (12, 81), (12, 81), (12, 81), (12, 81), (12, 81), (12, 81), (12, 81), (12, 81), (12, 81), (12, 81), (12, 81), (12, 81), (12, 81), (12, 81), (12, 81), (12, 81), (12, 81), (12, 81), (12, 81), (12, 81), (12, 81), (12, 81), (12, 81), (12, 81), (12, 81), (12, 81), (12, 81), (12, 81), (12, 81), (12, 81), (12, 81), (12, 81), (12, 81), (12, 81), (12, 81), (12, 81), (12, 81), (12, 81), (12, 81), (12, 81), (12, 81), (12, 81), (12, 81), (12, 81), (12, 81), (12, 81), (12, 81), (12, 81), (12, 81), (12, 81), (12, 81), (12, 81), (12, 81), (12, 81), (12, 81), (12, 81), (12, 81), (12, 81), (12, 81), (12, 81), (12, 81), (12, 81), (12, 81), (12, 81), (12, 81), (12, 81), (12, 81), (12, 81), (12, 81), (12, 81), (12, 81), (12, 81), (12, 81), (12, 81), (12, 81), (12, 81), (12, 81), (2, 5), (12, 199), (12, 1592), (12, 9), (12, 199), (12, 199), (8, 4), (12, 100), (5, 3), (12, 100), (12, 400), (4, 3), (3, 2), (12, 81), (12, 648), (15, 4), (12, 80), (12, 80), (12, 80), (12, 80), (12, 4), (11, 50), (12, 6), (12, 6), (12, 480), (12, 81), (12, 664), (12, 80), (12, 80), (12, 80), (12, 720), (12, 720), (12, 80), (12, 6400), (12, 6480), (12, 80), (12, 81), (12, 81), (12, 9), (12, 8), (12, 200), (12, 100), (12, 47), (12, 9), (12, 500), (12, 81), (12, 729), (12, 4), (12, 320), (12, 6), (12, 6), (12, 480), (12, 81), (12, 664)]
def zOffs : List (List Nat) := [[0, 1, 2, 4, 5], [1, 82, 83, 84, 0, 0, 0, 0, 0, 0], [1, 2, 3, 4, 5], [1, 0], [1, 3, 0], [1, 2, 0], [1, 0, 0], [1, 2, 3, 4], [1, 0, 0, 0], [1, 11, 21, 22, 0, 0, 0, 0, 0], [1, 35, 0, 69, 74, 97, 182, 188, 190, 193, 197, 202], [0, 1, 2, 3, 0, 4, 5, 0, 0, 6, 7, 8, 9, 10, 0, 0, 0, 0, 11, 12, 13, 14, 0, 15, 0, 16, 17, 18, 0, 19, 20, 0, 0, 21, 22, 23, 24, 0, 25, 0, 26, 27, 0, 0, 0, 28, 29, 30, 31, 32]]
def zOff (k j : Nat) : Option Nat := match (zOffs.getD k []).getD j 0 with
  | 0 => none
  | o + 1 => some (o + 1)
def zSt (k : Nat) : Nat := if k = 13 then 14 else if k = 14 then 5 else 1
def zTp (k : Nat) : Nat := if k = 15 then 1 else 2
def zrf (i j : Nat) : Option Nat := match zsh[i]? with
  | none => none
  | some (k, n) => if k < 12 then (zOff k j).map (fun o => i + o) else if k = 12 then none else if j < n then some (i + zSt k + zTp k * j) else none
abbrev zMu : Type := Nat → Nat → Int
def zw (μ : zMu) : zWS := (zsh, zrf, μ)
def zS (i k n : Nat) : Prop := zsh[i]? = some (k, n)
def zIx (a : Nat) (x : Int) : Prop := ∃ n, zS a 12 n ∧ 0 ≤ x ∧ x < n
def zAx (k a : Nat) (x : Int) : Prop := ∃ n, zS a k n ∧ 0 ≤ x ∧ x < n
def zup (μ : zMu) (i j : Nat) (v : Int) : zMu := fun a b => if a = i ∧ b = j then v else μ a b
def zua (μ : zMu) (i : Nat) (f : Nat → Int) : zMu := fun a b => if a = i then f b else μ a b
def zcp (μ : zMu) (a sp b dp n : Nat) : zMu := zua μ b (fun k => if dp ≤ k ∧ k < dp + n then μ a (sp + (k - dp)) else μ b k)
theorem zsh_small : ∀ i, i < 236 → ∀ p, zsh[i]? = some p → p.2 < 100000 := by
  have h : (List.range 236).all (fun i => match zsh[i]? with | none => true | some p => decide (p.2 < 100000)) = true := by decide +kernel
  intro i hi p hp
  have h1 := List.all_eq_true.mp h i (List.mem_range.mpr hi)
  rw [hp] at h1
  exact of_decide_eq_true h1
theorem zS_lt {i k n : Nat} (h : zS i k n) : i < 236 := (List.getElem?_eq_some_iff.mp h).1
theorem zS_n {i k n : Nat} (h : zS i k n) : n < 2147483648 := Nat.lt_trans (zsh_small i (zS_lt h) _ h) (by decide)
theorem zrf_ob {i k n j o : Nat} (h : zS i k n) (hk : k < 12) (ho : zOff k j = some o) : zrf i j = some (i + o) := by
  unfold zrf
  rw [show zsh[i]? = some (k, n) from h]
  show (if k < 12 then _ else _) = _
  rw [if_pos hk, ho]
  rfl
theorem zrf_ar {i k n j : Nat} (h : zS i k n) (hk : 12 < k) (hj : j < n) : zrf i j = some (i + zSt k + zTp k * j) := by
  unfold zrf
  rw [show zsh[i]? = some (k, n) from h]
  show (if k < 12 then _ else if k = 12 then _ else if j < n then _ else _) = _
  rw [if_neg (by omega), if_neg (by omega), if_pos hj]
/-- what comes back -/
def zΦi (φ : Int → zMu → Prop) : Option Value → zWS → Prop := fun r w => ∃ (x : Int) (μ : zMu), r = some (.int (zJ x)) ∧ w = zw μ ∧ φ x μ
def zΦl (φ : Int → zMu → Prop) : Option Value → zWS → Prop := fun r w => ∃ (x : Int) (μ : zMu), r = some (.long (zL x)) ∧ w = zw μ ∧ φ x μ
def zΦr (φ : Nat → zMu → Prop) : Option Value → zWS → Prop := fun r w => ∃ (x : Nat) (μ : zMu), r = some (.ref x) ∧ w = zw μ ∧ φ x μ
def zΦv (φ : zMu → Prop) : Option Value → zWS → Prop := fun r w => ∃ (μ : zMu), r = none ∧ w = zw μ ∧ φ μ
abbrev zOi (g : zG) (M : zM) (args : List Value) (μ : zMu) (φ : Int → zMu → Prop) : Prop := zOK g M args (zw μ) (zΦi φ)
abbrev zOl (g : zG) (M : zM) (args : List Value) (μ : zMu) (φ : Int → zMu → Prop) : Prop := zOK g M args (zw μ) (zΦl φ)
abbrev zOr (g : zG) (M : zM) (args : List Value) (μ : zMu) (φ : Nat → zMu → Prop) : Prop := zOK g M args (zw μ) (zΦr φ)
abbrev zOv (g : zG) (M : zM) (args : List Value) (μ : zMu) (φ : zMu → Prop) : Prop := zOK g M args (zw μ) (zΦv φ)
section ZX
variable {g : zG} {M : zM} {mo : zMo} {pc nc ns : Nat} {lv : List (Nat × Value)} {st : List Value} {μ : zMu}
theorem zx_getI {i idx kc k n : Nat} {ty : FieldType} {fin : Bool} (hF : zFL M.1.cls idx kc k ty fin) (hd : decode M.2.1 pc = .ok (.getfield idx, 3)) (hr : (zRk kc).getD k false = false) (hs : zS i kc n) (kk : zWP g M mo (pc + 3) lv (.int (zJ (μ i k)) :: st) nc ns (zw μ)) : zWP g M mo pc lv (.ref i :: st) nc ns (zw μ) := zw_getI hF hd hr hs kk
theorem zx_getR {i idx kc k n o r : Nat} {ty : FieldType} {fin : Bool} (hF : zFL M.1.cls idx kc k ty fin) (hd : decode M.2.1 pc = .ok (.getfield idx, 3)) (hr : (zRk kc).getD k false = true) (hs : zS i kc n) (ho : zOff kc k = some o) (hk : kc < 12) (he : i + o = r) (kk : zWP g M mo (pc + 3) lv (.ref r :: st) nc ns (zw μ)) : zWP g M mo pc lv (.ref i :: st) nc ns (zw μ) := zw_getR (r := r) hF hd hr hs (by rw [← he]; exact zrf_ob hs hk ho) kk
theorem zx_putI {i idx kc k n : Nat} {x : Int} (hF : zFL M.1.cls idx kc k .int false) (hd : decode M.2.1 pc = .ok (.putfield idx, 3)) (hr : (zRk kc).getD k false = false) (hs : zS i kc n) (kk : zWP g M mo (pc + 3) lv st nc ns (zw (zup μ i k x))) : zWP g M mo pc lv (.int (zJ x) :: .ref i :: st) nc ns (zw μ) := zw_putI hF hd hr hs kk
theorem zx_putZ {i idx kc k n : Nat} {x : Int} (hF : zFL M.1.cls idx kc k .boolean false) (hd : decode M.2.1 pc = .ok (.putfield idx, 3)) (hr : (zRk kc).getD k false = false) (hs : zS i kc n) (hx : x = 0 ∨ x = 1) (kk : zWP g M mo (pc + 3) lv st nc ns (zw (zup μ i k x))) : zWP g M mo pc lv (.int (zJ x) :: .ref i :: st) nc ns (zw μ) := zw_putZ hF hd hr hs hx kk
theorem zx_iaload {i : Nat} {x : Int} (hd : decode M.2.1 pc = .ok (.iaload, 1)) (hs : zIx i x) (kk : zWP g M mo (pc + 1) lv (.int (zJ (μ i x.toNat)) :: st) nc ns (zw μ)) : zWP g M mo pc lv (.int (zJ x) :: .ref i :: st) nc ns (zw μ) := by
  obtain ⟨n, h1, h2, h3⟩ := hs
  exact zw_iaload hd h1 h2 h3 (zS_n h1) kk
theorem zx_iastore {i : Nat} {x y : Int} (hd : decode M.2.1 pc = .ok (.iastore, 1)) (hs : zIx i x) (kk : zWP g M mo (pc + 1) lv st nc ns (zw (zup μ i x.toNat y))) : zWP g M mo pc lv (.int (zJ y) :: .int (zJ x) :: .ref i :: st) nc ns (zw μ) := by
  obtain ⟨n, h1, h2, h3⟩ := hs
  exact zw_iastore hd h1 h2 h3 (zS_n h1) kk
theorem zx_alen {i n : Nat} (hd : decode M.2.1 pc = .ok (.arraylength, 1)) (hs : zS i 12 n) (kk : zWP g M mo (pc + 1) lv (.int (zJ (n : Int)) :: st) nc ns (zw μ)) : zWP g M mo pc lv (.ref i :: st) nc ns (zw μ) := zw_alen hd hs rfl kk
theorem zx_aaload {k i r : Nat} {x : Int} (hd : decode M.2.1 pc = .ok (.aaload, 1)) (hk : k = 13 ∨ k = 14 ∨ k = 15) (hs : zAx k i x) (he : i + zSt k + zTp k * x.toNat = r) (kk : zWP g M mo (pc + 1) lv (.ref r :: st) nc ns (zw μ)) : zWP g M mo pc lv (.int (zJ x) :: .ref i :: st) nc ns (zw μ) := by
  obtain ⟨n, h1, h2, h3⟩ := hs
  exact zw_aaload (r := r) hd h1 hk h2 h3 (zS_n h1) (by rw [← he]; exact zrf_ar h1 (by omega) (by omega)) kk
theorem zx_copy {idx a b : Nat} {sp dp n : Int} (hli : Cond.methodLink M.1.cls idx arraycopyName ∈ ztbl) (hna : Cond.native arraycopyName ∈ ztbl) (hst : Cond.static arraycopyName ∈ ztbl) (hini : Cond.initialized "java/lang/System" ∈ ztbl) (hd : decode M.2.1 pc = .ok (.invokestatic idx, 3))
    (hrm : 1 ≤ M.2.2.2.2.frames ∧ 8 + (nativeFrameWords "java/lang/System" "arraycopy" 5 + 11) ≤ M.2.2.2.2.locals) (hsum : Nat.ble (st.map fun v => v.category).sum 8 = true) (h : ∃ n0 n1, zS a 12 n0 ∧ zS b 12 n1 ∧ 0 ≤ sp ∧ 0 ≤ dp ∧ 0 ≤ n ∧ sp + n ≤ n0 ∧ dp + n ≤ n1)
    (kk : zWP g M mo (pc + 3) lv st nc ns (zw (zcp μ a sp.toNat b dp.toNat n.toNat))) : zWP g M mo pc lv (.int (zJ n) :: .int (zJ dp) :: .ref b :: .int (zJ sp) :: .ref a :: st) nc ns (zw μ) := by
  obtain ⟨n0, n1, a1, a2, a3, a4, a5, a6, a7⟩ := h
  exact zw_copy hli hna hst hini hd hrm hsum a1 a2 a3 a4 a5 a6 a7 (zS_n a1) (zS_n a2) kk
theorem zx_ldcS {idx k : Nat} {tx : String} (hd : decode M.2.1 pc = .ok (.ldc idx, 2)) (hc : M.1.cls = RX5) (hk : k < 9) (h1 : zTi.getD k 0 = idx) (kk : zWP g M mo (pc + 2) lv (.ref (90001 + k) :: st) nc ns (zw μ)) : zWP g M mo pc lv st nc ns (zw μ) := by
  intro p e s m args below meth c H locs ls C hl hW hS
  have hZ := C.2.2.2.2.2.2.2.2.1.2.2.1 k hk
  rw [h1] at hZ
  refine va_ldcS C.1 C.2.1 (by rw [← hc]; exact C.2.2.2.2.2.1) hZ hd ?_
  have k2 := kk p e s m args below meth c H locs ls C hl hW hS
  have ha : zad g (90001 + k) = zgx g (k + 1) := by
    rw [zad, if_neg (by omega), show 90001 + k - 90000 = k + 1 by omega]
  rw [← ha]
  exact k2
-- calls
theorem zx_callV {M' : zM} {idx kc n b k : Nat} {As : List Value} {Φ : Option Value → zWS → Prop} (hOK : zOK g M' (.ref b :: As) (zw μ) Φ) (hcal : zCal M' n) (hin : Cond.instanceMethod M'.1 ∈ ztbl) (hse : Cond.selects M'.1.cls M'.1 M'.1 ∈ ztbl) (hli : Cond.methodLink M.1.cls idx M'.1 ∈ ztbl) (hd : decode M.2.1 pc = .ok (.invokevirtual idx, 3)) (hrm : zRm M M') (hn : As.length = n)
    (hs : zS b kc k) (hkc : kc < 12) (hcls : (vwCl.map (fun q => q.1))[kc]? = some M'.1.cls) (hsum : Nat.ble (st.map fun v => v.category).sum 8 = true) (hc : M'.2.2.2.2.cells = 0 ∧ M'.2.2.2.2.slots = 0) (hnn : nc ≤ M.2.2.2.2.cells ∧ ns ≤ M.2.2.2.2.slots)
    (kk : ∀ r w', Φ r w' → zWP g M mo (pc + 3) lv (r.toList ++ st) nc ns w') : zWP g M mo pc lv (As.reverse ++ .ref b :: st) nc ns (zw μ) :=
  zw_callV hcal hin hse hli hd hrm hn hs hkc hcls hsum (by rw [hc.1]; exact hnn.1) (by rw [hc.2]; exact hnn.2) (hOK.mono (fun r w' h => by rw [hc.1, hc.2]; exact kk r w' h))
theorem zx_callS {M' : zM} {idx n : Nat} {As : List Value} {Φ : Option Value → zWS → Prop} (hOK : zOK g M' As (zw μ) Φ) (hcal : zCal M' n) (hst : Cond.static M'.1 ∈ ztbl) (hli : Cond.methodLink M.1.cls idx M'.1 ∈ ztbl) (hd : decode M.2.1 pc = .ok (.invokestatic idx, 3)) (hrm : zRm M M') (hn : As.length = n)
    (hsum : Nat.ble (st.map fun v => v.category).sum 8 = true) (hc : M'.2.2.2.2.cells = 0 ∧ M'.2.2.2.2.slots = 0) (hnn : nc ≤ M.2.2.2.2.cells ∧ ns ≤ M.2.2.2.2.slots)
    (kk : ∀ r w', Φ r w' → zWP g M mo (pc + 3) lv (r.toList ++ st) nc ns w') : zWP g M mo pc lv (As.reverse ++ st) nc ns (zw μ) :=
  zw_callS hcal hst hli hd hrm hn hsum (by rw [hc.1]; exact hnn.1) (by rw [hc.2]; exact hnn.2) (hOK.mono (fun r w' h => by rw [hc.1, hc.2]; exact kk r w' h))
theorem zx_callSN {M' : zM} {idx n : Nat} {host : String} {As : List Value} {Φ : Option Value → zWS → Prop} (hOK : zOK g M' As (zw μ) Φ) (hcal : zCal M' n) (hst : Cond.static M'.1 ∈ ztbl) (hne : (M.1.cls, idx, M'.1, host) ∈ zNest) (hd : decode M.2.1 pc = .ok (.invokestatic idx, 3)) (hrm : zRm M M') (hn : As.length = n)
    (hsum : Nat.ble (st.map fun v => v.category).sum 8 = true) (hc : M'.2.2.2.2.cells = 0 ∧ M'.2.2.2.2.slots = 0) (hnn : nc ≤ M.2.2.2.2.cells ∧ ns ≤ M.2.2.2.2.slots)
    (kk : ∀ r w', Φ r w' → zWP g M mo (pc + 3) lv (r.toList ++ st) nc ns w') : zWP g M mo pc lv (As.reverse ++ st) nc ns (zw μ) :=
  zw_callSN hcal hst hne hd hrm hn hsum (by rw [hc.1]; exact hnn.1) (by rw [hc.2]; exact hnn.2) (hOK.mono (fun r w' h => by rw [hc.1, hc.2]; exact kk r w' h))
end ZX
theorem zki {φ : Int → zMu → Prop} {P : Option Value → zWS → Prop} (h : ∀ x μ, φ x μ → P (some (.int (zJ x))) (zw μ)) : ∀ r w', zΦi φ r w' → P r w' := fun r w' ⟨x, μ, e1, e2, e3⟩ => by rw [e1, e2]; exact h x μ e3
theorem zkl {φ : Int → zMu → Prop} {P : Option Value → zWS → Prop} (h : ∀ x μ, φ x μ → P (some (.long (zL x))) (zw μ)) : ∀ r w', zΦl φ r w' → P r w' := fun r w' ⟨x, μ, e1, e2, e3⟩ => by rw [e1, e2]; exact h x μ e3
theorem zkr {φ : Nat → zMu → Prop} {P : Option Value → zWS → Prop} (h : ∀ x μ, φ x μ → P (some (.ref x)) (zw μ)) : ∀ r w', zΦr φ r w' → P r w' := fun r w' ⟨x, μ, e1, e2, e3⟩ => by rw [e1, e2]; exact h x μ e3
theorem zkv {φ : zMu → Prop} {P : Option Value → zWS → Prop} (h : ∀ μ, φ μ → P none (zw μ)) : ∀ r w', zΦv φ r w' → P r w' := fun r w' ⟨μ, e1, e2, e3⟩ => by rw [e1, e2]; exact h μ e3
-- facts of the shape
def zTg (k : Nat) : List (Nat × Nat × Nat) := match k with
  | 0 => [(1, 14, 6), (2, 3, 2), (4, 13, 8), (5, 12, 8)]
  | 1 => [(1, 15, 80), (82, 12, 81), (83, 12, 81), (84, 12, 81)]
  | 2 => [(1, 12, 199), (2, 12, 1592), (3, 12, 9), (4, 12, 199), (5, 12, 199)]
  | 3 => [(1, 12, 81)]
  | 4 => [(1, 3, 2), (3, 12, 648)]
  | 5 => [(1, 12, 100), (2, 12, 400)]
  | 6 => [(1, 12, 80)]
  | 7 => [(1, 12, 80), (2, 12, 80), (3, 12, 80), (4, 12, 80)]
  | 8 => [(1, 12, 100)]
  | 9 => [(1, 15, 9), (11, 15, 9), (21, 12, 80), (22, 12, 80)]
  | 10 => [(1, 0, 5), (35, 0, 5), (69, 7, 4), (74, 9, 9), (97, 1, 10), (182, 2, 5), (188, 8, 4), (190, 5, 3), (193, 4, 3), (197, 15, 4), (202, 12, 4)]
  | 11 => [(1, 12, 6), (2, 12, 6), (3, 12, 480), (4, 12, 81), (5, 12, 664), (6, 12, 80), (7, 12, 80), (8, 12, 80), (9, 12, 720), (10, 12, 720), (11, 12, 80), (12, 12, 6400), (13, 12, 6480), (14, 12, 80), (15, 12, 81), (16, 12, 81), (17, 12, 9), (18, 12, 8), (19, 12, 200), (20, 12, 100), (21, 12, 47), (22, 12, 9), (23, 12, 500), (24, 12, 81), (25, 12, 729), (26, 12, 4), (27, 12, 320), (28, 12, 6), (29, 12, 6), (30, 12, 480), (31, 12, 81), (32, 12, 664)]
  | _ => []
def zbq (i k n : Nat) : Bool := match zsh[i]? with
  | none => false
  | some p => Nat.beq p.1 k && Nat.beq p.2 n
theorem zbq_of {i k n : Nat} (h : zbq i k n = true) : zS i k n := by
  unfold zbq at h
  unfold zS
  cases hz : zsh[i]? with
  | none => rw [hz] at h; cases h
  | some p =>
    rw [hz] at h
    simp only [Bool.and_eq_true, Nat.beq_eq] at h
    obtain ⟨a, b⟩ := p
    rw [show a = k from h.1, show b = n from h.2]
def zchk (i : Nat) : Bool := match zsh[i]? with
  | none => true
  | some p => (zTg p.1).all (fun t => zbq (i + t.1) t.2.1 t.2.2)
theorem zchk_all : (List.range 236).all zchk = true := by decide +kernel
theorem zq (t : Nat) {i k n o k2 n2 : Nat} (h : zS i k n) (hm : (zTg k)[t]? = some (o, k2, n2)) : zS (i + o) k2 n2 := by
  have h1 := List.all_eq_true.mp zchk_all i (List.mem_range.mpr (zS_lt h))
  unfold zchk at h1
  rw [show zsh[i]? = some (k, n) from h] at h1
  exact zbq_of (List.all_eq_true.mp h1 _ (List.mem_of_getElem? hm))
def zchr (i : Nat) : Bool := match zsh[i]? with
  | none => true
  | some p => if p.1 = 13 then (List.range p.2).all (fun j => zbq (i + zSt 13 + zTp 13 * j) 3 2) else if p.1 = 14 then (List.range p.2).all (fun j => zbq (i + zSt 14 + zTp 14 * j) 6 3) else true
theorem zchr_all : (List.range 236).all zchr = true := by decide +kernel
theorem zqe_13 {i n j : Nat} (h : zS i 13 n) (hj : j < n) : zS (i + zSt 13 + zTp 13 * j) 3 2 := by
  have h1 := List.all_eq_true.mp zchr_all i (List.mem_range.mpr (zS_lt h))
  unfold zchr at h1
  rw [show zsh[i]? = some (13, n) from h] at h1
  exact zbq_of (List.all_eq_true.mp h1 _ (List.mem_range.mpr hj))
theorem zqe_14 {i n j : Nat} (h : zS i 14 n) (hj : j < n) : zS (i + zSt 14 + zTp 14 * j) 6 3 := by
  have h1 := List.all_eq_true.mp zchr_all i (List.mem_range.mpr (zS_lt h))
  unfold zchr at h1
  rw [show zsh[i]? = some (14, n) from h] at h1
  exact zbq_of (List.all_eq_true.mp h1 _ (List.mem_range.mpr hj))
theorem zqr_75_b : (List.range 9).all (fun j => zbq (75 + zSt 15 + zTp 15 * j) 12 80) = true := by decide +kernel
theorem zqr_75 {j : Nat} (hj : j < 9) : zS (75 + zSt 15 + zTp 15 * j) 12 80 := zbq_of (List.all_eq_true.mp zqr_75_b _ (List.mem_range.mpr hj))
theorem zqr_85_b : (List.range 9).all (fun j => zbq (85 + zSt 15 + zTp 15 * j) 12 80) = true := by decide +kernel
theorem zqr_85 {j : Nat} (hj : j < 9) : zS (85 + zSt 15 + zTp 15 * j) 12 80 := zbq_of (List.all_eq_true.mp zqr_85_b _ (List.mem_range.mpr hj))
theorem zqr_98_b : (List.range 80).all (fun j => zbq (98 + zSt 15 + zTp 15 * j) 12 81) = true := by decide +kernel
theorem zqr_98 {j : Nat} (hj : j < 80) : zS (98 + zSt 15 + zTp 15 * j) 12 81 := zbq_of (List.all_eq_true.mp zqr_98_b _ (List.mem_range.mpr hj))
theorem zqr_197_b : (List.range 4).all (fun j => zbq (197 + zSt 15 + zTp 15 * j) 12 80) = true := by decide +kernel
theorem zqr_197 {j : Nat} (hj : j < 4) : zS (197 + zSt 15 + zTp 15 * j) 12 80 := zbq_of (List.all_eq_true.mp zqr_197_b _ (List.mem_range.mpr hj))
end
section
/-! METHODS, LINKS, by program -/
theorem zmem (i : Nat) {w : Cond} (h : tables_1[i]? = some w) (hg : goodWord w = true) : w ∈ ztbl := List.mem_filter.mpr ⟨List.mem_append_right _ (List.mem_of_getElem? h), hg⟩
theorem zmemp (i : Nat) {w : Cond} (h : (k2_sels lw_privs)[i]? = some w) (hg : goodWord w = true) : w ∈ ztbl := List.mem_filter.mpr ⟨List.mem_append_left _ (List.mem_of_getElem? h), hg⟩
theorem zmem_1 (i : Nat) {w : Cond} (h : tables_1_1[i]? = some w) (hg : goodWord w = true) : w ∈ ztbl := List.mem_filter.mpr ⟨List.mem_append_right _ (show w ∈ tables_1_1 ++ (tables_1_2 ++ (tables_1_3 ++ (tables_1_4 ++ (tables_1_5 ++ (tables_1_6 ++ tables_1_7))))) from (List.mem_append_left _ (List.mem_of_getElem? h))), hg⟩
theorem zmem_2 (i : Nat) {w : Cond} (h : tables_1_2[i]? = some w) (hg : goodWord w = true) : w ∈ ztbl := List.mem_filter.mpr ⟨List.mem_append_right _ (show w ∈ tables_1_1 ++ (tables_1_2 ++ (tables_1_3 ++ (tables_1_4 ++ (tables_1_5 ++ (tables_1_6 ++ tables_1_7))))) from (List.mem_append_right _ (List.mem_append_left _ (List.mem_of_getElem? h)))), hg⟩
theorem zmem_3 (i : Nat) {w : Cond} (h : tables_1_3[i]? = some w) (hg : goodWord w = true) : w ∈ ztbl := List.mem_filter.mpr ⟨List.mem_append_right _ (show w ∈ tables_1_1 ++ (tables_1_2 ++ (tables_1_3 ++ (tables_1_4 ++ (tables_1_5 ++ (tables_1_6 ++ tables_1_7))))) from (List.mem_append_right _ (List.mem_append_right _ (List.mem_append_left _ (List.mem_of_getElem? h))))), hg⟩
theorem zmem_4 (i : Nat) {w : Cond} (h : tables_1_4[i]? = some w) (hg : goodWord w = true) : w ∈ ztbl := List.mem_filter.mpr ⟨List.mem_append_right _ (show w ∈ tables_1_1 ++ (tables_1_2 ++ (tables_1_3 ++ (tables_1_4 ++ (tables_1_5 ++ (tables_1_6 ++ tables_1_7))))) from (List.mem_append_right _ (List.mem_append_right _ (List.mem_append_right _ (List.mem_append_left _ (List.mem_of_getElem? h)))))), hg⟩
theorem zmem_5 (i : Nat) {w : Cond} (h : tables_1_5[i]? = some w) (hg : goodWord w = true) : w ∈ ztbl := List.mem_filter.mpr ⟨List.mem_append_right _ (show w ∈ tables_1_1 ++ (tables_1_2 ++ (tables_1_3 ++ (tables_1_4 ++ (tables_1_5 ++ (tables_1_6 ++ tables_1_7))))) from (List.mem_append_right _ (List.mem_append_right _ (List.mem_append_right _ (List.mem_append_right _ (List.mem_append_left _ (List.mem_of_getElem? h))))))), hg⟩
theorem zmem_6 (i : Nat) {w : Cond} (h : tables_1_6[i]? = some w) (hg : goodWord w = true) : w ∈ ztbl := List.mem_filter.mpr ⟨List.mem_append_right _ (show w ∈ tables_1_1 ++ (tables_1_2 ++ (tables_1_3 ++ (tables_1_4 ++ (tables_1_5 ++ (tables_1_6 ++ tables_1_7))))) from (List.mem_append_right _ (List.mem_append_right _ (List.mem_append_right _ (List.mem_append_right _ (List.mem_append_right _ (List.mem_append_left _ (List.mem_of_getElem? h)))))))), hg⟩
theorem zmem_7 (i : Nat) {w : Cond} (h : tables_1_7[i]? = some w) (hg : goodWord w = true) : w ∈ ztbl := List.mem_filter.mpr ⟨List.mem_append_right _ (show w ∈ tables_1_1 ++ (tables_1_2 ++ (tables_1_3 ++ (tables_1_4 ++ (tables_1_5 ++ (tables_1_6 ++ tables_1_7))))) from (List.mem_append_right _ (List.mem_append_right _ (List.mem_append_right _ (List.mem_append_right _ (List.mem_append_right _ (List.mem_append_right _ (List.mem_of_getElem? h)))))))), hg⟩
theorem zmems (ps : List Nat) {ws : List Cond} (h : ws = ps.filterMap (fun i => tables_1[i]?)) (hg : ws.all goodWord = true) : ∀ w ∈ ws, w ∈ ztbl := fun w hw => by
  have h1 := List.all_eq_true.mp hg w hw
  rw [h] at hw
  obtain ⟨i, -, hi⟩ := List.mem_filterMap.mp hw
  exact zmem i hi h1
theorem zc_0 : zS 0 10 12 := zbq_of (by decide +kernel)
theorem zc_1 : zS 1 0 5 := zbq_of (by decide +kernel)
theorem zc_2 : zS 2 14 6 := zbq_of (by decide +kernel)
theorem zc_3 : zS 3 3 2 := zbq_of (by decide +kernel)
theorem zc_4 : zS 4 12 81 := zbq_of (by decide +kernel)
theorem zc_5 : zS 5 13 8 := zbq_of (by decide +kernel)
theorem zc_6 : zS 6 12 8 := zbq_of (by decide +kernel)
theorem zc_7 : zS 7 6 3 := zbq_of (by decide +kernel)
theorem zc_8 : zS 8 12 80 := zbq_of (by decide +kernel)
theorem zc_9 : zS 9 6 3 := zbq_of (by decide +kernel)
theorem zc_10 : zS 10 12 80 := zbq_of (by decide +kernel)
theorem zc_11 : zS 11 6 3 := zbq_of (by decide +kernel)
theorem zc_12 : zS 12 12 80 := zbq_of (by decide +kernel)
theorem zc_13 : zS 13 6 3 := zbq_of (by decide +kernel)
theorem zc_14 : zS 14 12 80 := zbq_of (by decide +kernel)
theorem zc_15 : zS 15 6 3 := zbq_of (by decide +kernel)
theorem zc_16 : zS 16 12 80 := zbq_of (by decide +kernel)
theorem zc_17 : zS 17 6 3 := zbq_of (by decide +kernel)
theorem zc_18 : zS 18 12 80 := zbq_of (by decide +kernel)
theorem zc_19 : zS 19 3 2 := zbq_of (by decide +kernel)
theorem zc_20 : zS 20 12 81 := zbq_of (by decide +kernel)
theorem zc_21 : zS 21 3 2 := zbq_of (by decide +kernel)
theorem zc_22 : zS 22 12 81 := zbq_of (by decide +kernel)
theorem zc_23 : zS 23 3 2 := zbq_of (by decide +kernel)
theorem zc_24 : zS 24 12 81 := zbq_of (by decide +kernel)
theorem zc_25 : zS 25 3 2 := zbq_of (by decide +kernel)
theorem zc_26 : zS 26 12 81 := zbq_of (by decide +kernel)
theorem zc_27 : zS 27 3 2 := zbq_of (by decide +kernel)
theorem zc_28 : zS 28 12 81 := zbq_of (by decide +kernel)
theorem zc_29 : zS 29 3 2 := zbq_of (by decide +kernel)
theorem zc_30 : zS 30 12 81 := zbq_of (by decide +kernel)
theorem zc_31 : zS 31 3 2 := zbq_of (by decide +kernel)
theorem zc_32 : zS 32 12 81 := zbq_of (by decide +kernel)
theorem zc_33 : zS 33 3 2 := zbq_of (by decide +kernel)
theorem zc_34 : zS 34 12 81 := zbq_of (by decide +kernel)
theorem zc_35 : zS 35 0 5 := zbq_of (by decide +kernel)
theorem zc_36 : zS 36 14 6 := zbq_of (by decide +kernel)
theorem zc_37 : zS 37 3 2 := zbq_of (by decide +kernel)
theorem zc_38 : zS 38 12 81 := zbq_of (by decide +kernel)
theorem zc_39 : zS 39 13 8 := zbq_of (by decide +kernel)
theorem zc_40 : zS 40 12 8 := zbq_of (by decide +kernel)
theorem zc_41 : zS 41 6 3 := zbq_of (by decide +kernel)
theorem zc_42 : zS 42 12 80 := zbq_of (by decide +kernel)
theorem zc_43 : zS 43 6 3 := zbq_of (by decide +kernel)
theorem zc_44 : zS 44 12 80 := zbq_of (by decide +kernel)
theorem zc_45 : zS 45 6 3 := zbq_of (by decide +kernel)
theorem zc_46 : zS 46 12 80 := zbq_of (by decide +kernel)
theorem zc_47 : zS 47 6 3 := zbq_of (by decide +kernel)
theorem zc_48 : zS 48 12 80 := zbq_of (by decide +kernel)
theorem zc_49 : zS 49 6 3 := zbq_of (by decide +kernel)
theorem zc_50 : zS 50 12 80 := zbq_of (by decide +kernel)
theorem zc_51 : zS 51 6 3 := zbq_of (by decide +kernel)
theorem zc_52 : zS 52 12 80 := zbq_of (by decide +kernel)
theorem zc_53 : zS 53 3 2 := zbq_of (by decide +kernel)
theorem zc_54 : zS 54 12 81 := zbq_of (by decide +kernel)
theorem zc_55 : zS 55 3 2 := zbq_of (by decide +kernel)
theorem zc_56 : zS 56 12 81 := zbq_of (by decide +kernel)
theorem zc_57 : zS 57 3 2 := zbq_of (by decide +kernel)
theorem zc_58 : zS 58 12 81 := zbq_of (by decide +kernel)
theorem zc_59 : zS 59 3 2 := zbq_of (by decide +kernel)
theorem zc_60 : zS 60 12 81 := zbq_of (by decide +kernel)
theorem zc_61 : zS 61 3 2 := zbq_of (by decide +kernel)
theorem zc_62 : zS 62 12 81 := zbq_of (by decide +kernel)
theorem zc_63 : zS 63 3 2 := zbq_of (by decide +kernel)
theorem zc_64 : zS 64 12 81 := zbq_of (by decide +kernel)
theorem zc_65 : zS 65 3 2 := zbq_of (by decide +kernel)
theorem zc_66 : zS 66 12 81 := zbq_of (by decide +kernel)
theorem zc_67 : zS 67 3 2 := zbq_of (by decide +kernel)
theorem zc_68 : zS 68 12 81 := zbq_of (by decide +kernel)
theorem zc_69 : zS 69 7 4 := zbq_of (by decide +kernel)
theorem zc_70 : zS 70 12 80 := zbq_of (by decide +kernel)
theorem zc_71 : zS 71 12 80 := zbq_of (by decide +kernel)
theorem zc_72 : zS 72 12 80 := zbq_of (by decide +kernel)
theorem zc_73 : zS 73 12 80 := zbq_of (by decide +kernel)
theorem zc_74 : zS 74 9 9 := zbq_of (by decide +kernel)
theorem zc_75 : zS 75 15 9 := zbq_of (by decide +kernel)
theorem zc_76 : zS 76 12 80 := zbq_of (by decide +kernel)
theorem zc_77 : zS 77 12 80 := zbq_of (by decide +kernel)
theorem zc_78 : zS 78 12 80 := zbq_of (by decide +kernel)
theorem zc_79 : zS 79 12 80 := zbq_of (by decide +kernel)
theorem zc_80 : zS 80 12 80 := zbq_of (by decide +kernel)
theorem zc_81 : zS 81 12 80 := zbq_of (by decide +kernel)
theorem zc_82 : zS 82 12 80 := zbq_of (by decide +kernel)
theorem zc_83 : zS 83 12 80 := zbq_of (by decide +kernel)
theorem zc_84 : zS 84 12 80 := zbq_of (by decide +kernel)
theorem zc_85 : zS 85 15 9 := zbq_of (by decide +kernel)
theorem zc_86 : zS 86 12 80 := zbq_of (by decide +kernel)
theorem zc_87 : zS 87 12 80 := zbq_of (by decide +kernel)
theorem zc_88 : zS 88 12 80 := zbq_of (by decide +kernel)
theorem zc_89 : zS 89 12 80 := zbq_of (by decide +kernel)
theorem zc_90 : zS 90 12 80 := zbq_of (by decide +kernel)
theorem zc_91 : zS 91 12 80 := zbq_of (by decide +kernel)
theorem zc_92 : zS 92 12 80 := zbq_of (by decide +kernel)
theorem zc_93 : zS 93 12 80 := zbq_of (by decide +kernel)
theorem zc_94 : zS 94 12 80 := zbq_of (by decide +kernel)
theorem zc_95 : zS 95 12 80 := zbq_of (by decide +kernel)
theorem zc_96 : zS 96 12 80 := zbq_of (by decide +kernel)
theorem zc_97 : zS 97 1 10 := zbq_of (by decide +kernel)
theorem zc_98 : zS 98 15 80 := zbq_of (by decide +kernel)
theorem zc_99 : zS 99 12 81 := zbq_of (by decide +kernel)
theorem zc_100 : zS 100 12 81 := zbq_of (by decide +kernel)
theorem zc_101 : zS 101 12 81 := zbq_of (by decide +kernel)
theorem zc_102 : zS 102 12 81 := zbq_of (by decide +kernel)
theorem zc_103 : zS 103 12 81 := zbq_of (by decide +kernel)
theorem zc_104 : zS 104 12 81 := zbq_of (by decide +kernel)
theorem zc_105 : zS 105 12 81 := zbq_of (by decide +kernel)
theorem zc_106 : zS 106 12 81 := zbq_of (by decide +kernel)
theorem zc_107 : zS 107 12 81 := zbq_of (by decide +kernel)
theorem zc_108 : zS 108 12 81 := zbq_of (by decide +kernel)
theorem zc_109 : zS 109 12 81 := zbq_of (by decide +kernel)
theorem zc_110 : zS 110 12 81 := zbq_of (by decide +kernel)
theorem zc_111 : zS 111 12 81 := zbq_of (by decide +kernel)
theorem zc_112 : zS 112 12 81 := zbq_of (by decide +kernel)
theorem zc_113 : zS 113 12 81 := zbq_of (by decide +kernel)
theorem zc_114 : zS 114 12 81 := zbq_of (by decide +kernel)
theorem zc_115 : zS 115 12 81 := zbq_of (by decide +kernel)
theorem zc_116 : zS 116 12 81 := zbq_of (by decide +kernel)
theorem zc_117 : zS 117 12 81 := zbq_of (by decide +kernel)
theorem zc_118 : zS 118 12 81 := zbq_of (by decide +kernel)
theorem zc_119 : zS 119 12 81 := zbq_of (by decide +kernel)
theorem zc_120 : zS 120 12 81 := zbq_of (by decide +kernel)
theorem zc_121 : zS 121 12 81 := zbq_of (by decide +kernel)
theorem zc_122 : zS 122 12 81 := zbq_of (by decide +kernel)
theorem zc_123 : zS 123 12 81 := zbq_of (by decide +kernel)
theorem zc_124 : zS 124 12 81 := zbq_of (by decide +kernel)
theorem zc_125 : zS 125 12 81 := zbq_of (by decide +kernel)
theorem zc_126 : zS 126 12 81 := zbq_of (by decide +kernel)
theorem zc_127 : zS 127 12 81 := zbq_of (by decide +kernel)
theorem zc_128 : zS 128 12 81 := zbq_of (by decide +kernel)
theorem zc_129 : zS 129 12 81 := zbq_of (by decide +kernel)
theorem zc_130 : zS 130 12 81 := zbq_of (by decide +kernel)
theorem zc_131 : zS 131 12 81 := zbq_of (by decide +kernel)
theorem zc_132 : zS 132 12 81 := zbq_of (by decide +kernel)
theorem zc_133 : zS 133 12 81 := zbq_of (by decide +kernel)
theorem zc_134 : zS 134 12 81 := zbq_of (by decide +kernel)
theorem zc_135 : zS 135 12 81 := zbq_of (by decide +kernel)
theorem zc_136 : zS 136 12 81 := zbq_of (by decide +kernel)
theorem zc_137 : zS 137 12 81 := zbq_of (by decide +kernel)
theorem zc_138 : zS 138 12 81 := zbq_of (by decide +kernel)
theorem zc_139 : zS 139 12 81 := zbq_of (by decide +kernel)
theorem zc_140 : zS 140 12 81 := zbq_of (by decide +kernel)
theorem zc_141 : zS 141 12 81 := zbq_of (by decide +kernel)
theorem zc_142 : zS 142 12 81 := zbq_of (by decide +kernel)
theorem zc_143 : zS 143 12 81 := zbq_of (by decide +kernel)
theorem zc_144 : zS 144 12 81 := zbq_of (by decide +kernel)
theorem zc_145 : zS 145 12 81 := zbq_of (by decide +kernel)
theorem zc_146 : zS 146 12 81 := zbq_of (by decide +kernel)
theorem zc_147 : zS 147 12 81 := zbq_of (by decide +kernel)
theorem zc_148 : zS 148 12 81 := zbq_of (by decide +kernel)
theorem zc_149 : zS 149 12 81 := zbq_of (by decide +kernel)
theorem zc_150 : zS 150 12 81 := zbq_of (by decide +kernel)
theorem zc_151 : zS 151 12 81 := zbq_of (by decide +kernel)
theorem zc_152 : zS 152 12 81 := zbq_of (by decide +kernel)
theorem zc_153 : zS 153 12 81 := zbq_of (by decide +kernel)
theorem zc_154 : zS 154 12 81 := zbq_of (by decide +kernel)
theorem zc_155 : zS 155 12 81 := zbq_of (by decide +kernel)
theorem zc_156 : zS 156 12 81 := zbq_of (by decide +kernel)
theorem zc_157 : zS 157 12 81 := zbq_of (by decide +kernel)
theorem zc_158 : zS 158 12 81 := zbq_of (by decide +kernel)
theorem zc_159 : zS 159 12 81 := zbq_of (by decide +kernel)
theorem zc_160 : zS 160 12 81 := zbq_of (by decide +kernel)
theorem zc_161 : zS 161 12 81 := zbq_of (by decide +kernel)
theorem zc_162 : zS 162 12 81 := zbq_of (by decide +kernel)
theorem zc_163 : zS 163 12 81 := zbq_of (by decide +kernel)
theorem zc_164 : zS 164 12 81 := zbq_of (by decide +kernel)
theorem zc_165 : zS 165 12 81 := zbq_of (by decide +kernel)
theorem zc_166 : zS 166 12 81 := zbq_of (by decide +kernel)
theorem zc_167 : zS 167 12 81 := zbq_of (by decide +kernel)
theorem zc_168 : zS 168 12 81 := zbq_of (by decide +kernel)
theorem zc_169 : zS 169 12 81 := zbq_of (by decide +kernel)
theorem zc_170 : zS 170 12 81 := zbq_of (by decide +kernel)
theorem zc_171 : zS 171 12 81 := zbq_of (by decide +kernel)
theorem zc_172 : zS 172 12 81 := zbq_of (by decide +kernel)
theorem zc_173 : zS 173 12 81 := zbq_of (by decide +kernel)
theorem zc_174 : zS 174 12 81 := zbq_of (by decide +kernel)
theorem zc_175 : zS 175 12 81 := zbq_of (by decide +kernel)
theorem zc_176 : zS 176 12 81 := zbq_of (by decide +kernel)
theorem zc_177 : zS 177 12 81 := zbq_of (by decide +kernel)
theorem zc_178 : zS 178 12 81 := zbq_of (by decide +kernel)
theorem zc_179 : zS 179 12 81 := zbq_of (by decide +kernel)
theorem zc_180 : zS 180 12 81 := zbq_of (by decide +kernel)
theorem zc_181 : zS 181 12 81 := zbq_of (by decide +kernel)
theorem zc_182 : zS 182 2 5 := zbq_of (by decide +kernel)
theorem zc_183 : zS 183 12 199 := zbq_of (by decide +kernel)
theorem zc_184 : zS 184 12 1592 := zbq_of (by decide +kernel)
theorem zc_185 : zS 185 12 9 := zbq_of (by decide +kernel)
theorem zc_186 : zS 186 12 199 := zbq_of (by decide +kernel)
theorem zc_187 : zS 187 12 199 := zbq_of (by decide +kernel)
theorem zc_188 : zS 188 8 4 := zbq_of (by decide +kernel)
theorem zc_189 : zS 189 12 100 := zbq_of (by decide +kernel)
theorem zc_190 : zS 190 5 3 := zbq_of (by decide +kernel)
theorem zc_191 : zS 191 12 100 := zbq_of (by decide +kernel)
theorem zc_192 : zS 192 12 400 := zbq_of (by decide +kernel)
theorem zc_193 : zS 193 4 3 := zbq_of (by decide +kernel)
theorem zc_194 : zS 194 3 2 := zbq_of (by decide +kernel)
theorem zc_195 : zS 195 12 81 := zbq_of (by decide +kernel)
theorem zc_196 : zS 196 12 648 := zbq_of (by decide +kernel)
theorem zc_197 : zS 197 15 4 := zbq_of (by decide +kernel)
theorem zc_198 : zS 198 12 80 := zbq_of (by decide +kernel)
theorem zc_199 : zS 199 12 80 := zbq_of (by decide +kernel)
theorem zc_200 : zS 200 12 80 := zbq_of (by decide +kernel)
theorem zc_201 : zS 201 12 80 := zbq_of (by decide +kernel)
theorem zc_202 : zS 202 12 4 := zbq_of (by decide +kernel)
theorem zc_203 : zS 203 11 50 := zbq_of (by decide +kernel)
theorem zc_204 : zS 204 12 6 := zbq_of (by decide +kernel)
theorem zc_205 : zS 205 12 6 := zbq_of (by decide +kernel)
theorem zc_206 : zS 206 12 480 := zbq_of (by decide +kernel)
theorem zc_207 : zS 207 12 81 := zbq_of (by decide +kernel)
theorem zc_208 : zS 208 12 664 := zbq_of (by decide +kernel)
theorem zc_209 : zS 209 12 80 := zbq_of (by decide +kernel)
theorem zc_210 : zS 210 12 80 := zbq_of (by decide +kernel)
theorem zc_211 : zS 211 12 80 := zbq_of (by decide +kernel)
theorem zc_212 : zS 212 12 720 := zbq_of (by decide +kernel)
theorem zc_213 : zS 213 12 720 := zbq_of (by decide +kernel)
theorem zc_214 : zS 214 12 80 := zbq_of (by decide +kernel)
theorem zc_215 : zS 215 12 6400 := zbq_of (by decide +kernel)
theorem zc_216 : zS 216 12 6480 := zbq_of (by decide +kernel)
theorem zc_217 : zS 217 12 80 := zbq_of (by decide +kernel)
theorem zc_218 : zS 218 12 81 := zbq_of (by decide +kernel)
theorem zc_219 : zS 219 12 81 := zbq_of (by decide +kernel)
theorem zc_220 : zS 220 12 9 := zbq_of (by decide +kernel)
theorem zc_221 : zS 221 12 8 := zbq_of (by decide +kernel)
theorem zc_222 : zS 222 12 200 := zbq_of (by decide +kernel)
theorem zc_223 : zS 223 12 100 := zbq_of (by decide +kernel)
theorem zc_224 : zS 224 12 47 := zbq_of (by decide +kernel)
theorem zc_225 : zS 225 12 9 := zbq_of (by decide +kernel)
theorem zc_226 : zS 226 12 500 := zbq_of (by decide +kernel)
theorem zc_227 : zS 227 12 81 := zbq_of (by decide +kernel)
theorem zc_228 : zS 228 12 729 := zbq_of (by decide +kernel)
theorem zc_229 : zS 229 12 4 := zbq_of (by decide +kernel)
theorem zc_230 : zS 230 12 320 := zbq_of (by decide +kernel)
theorem zc_231 : zS 231 12 6 := zbq_of (by decide +kernel)
theorem zc_232 : zS 232 12 6 := zbq_of (by decide +kernel)
theorem zc_233 : zS 233 12 480 := zbq_of (by decide +kernel)
theorem zc_234 : zS 234 12 81 := zbq_of (by decide +kernel)
theorem zc_235 : zS 235 12 664 := zbq_of (by decide +kernel)
theorem zcb_0 : zCB 0 RX0 TX0 5 := ⟨rfl, by decide, rfl, by decide +kernel, ⟨tyX0, tyX0_ok⟩, nmX0, zmems [98, 100, 102, 104, 106] (by decide +kernel) (by decide +kernel)⟩
theorem zcb_1 : zCB 1 RX1 TX1 10 := ⟨rfl, by decide, rfl, by decide +kernel, ⟨tyX1, tyX1_ok⟩, nmX1, zmems [184, 186, 188, 190, 192, 194, 196, 198, 200, 202] (by decide +kernel) (by decide +kernel)⟩
theorem zcb_2 : zCB 2 RX2 TX2 5 := ⟨rfl, by decide, rfl, by decide +kernel, ⟨tyX2, tyX2_ok⟩, nmX2, zmems [219, 221, 223, 225, 227] (by decide +kernel) (by decide +kernel)⟩
theorem zcb_3 : zCB 3 RX3 TX3 2 := ⟨rfl, by decide, rfl, by decide +kernel, ⟨tyX3, tyX3_ok⟩, nmX3, zmems [54, 56] (by decide +kernel) (by decide +kernel)⟩
theorem zcb_4 : zCB 4 RX4 TX4 3 := ⟨rfl, by decide, rfl, by decide +kernel, ⟨tyX4, tyX4_ok⟩, nmX4, zmems [286, 288, 290] (by decide +kernel) (by decide +kernel)⟩
theorem zcb_5 : zCB 5 RX5 TX5 3 := ⟨rfl, by decide, rfl, by decide +kernel, ⟨tyX5, tyX5_ok⟩, nmX5, zmems [265, 267, 269] (by decide +kernel) (by decide +kernel)⟩
theorem zcb_6 : zCB 6 RX6 TX6 3 := ⟨rfl, by decide, rfl, by decide +kernel, ⟨tyX6, tyX6_ok⟩, nmX6, zmems [79, 81, 83] (by decide +kernel) (by decide +kernel)⟩
theorem zcb_7 : zCB 7 RX7 TX7 4 := ⟨rfl, by decide, rfl, by decide +kernel, ⟨tyX7, tyX7_ok⟩, nmX7, zmems [119, 121, 123, 125] (by decide +kernel) (by decide +kernel)⟩
theorem zcb_8 : zCB 8 RX8 TX8 4 := ⟨rfl, by decide, rfl, by decide +kernel, ⟨tyX8, tyX8_ok⟩, nmX8, zmems [245, 247, 249, 251] (by decide +kernel) (by decide +kernel)⟩
theorem zcb_9 : zCB 9 RX9 TX9 9 := ⟨rfl, by decide, rfl, by decide +kernel, ⟨tyX9, tyX9_ok⟩, nmX9, zmems [148, 150, 152, 154, 156, 158, 160, 162, 164] (by decide +kernel) (by decide +kernel)⟩
theorem zcb_10 : zCB 10 RX10 TX10 12 := ⟨rfl, by decide, rfl, by decide +kernel, ⟨tyX10, tyX10_ok⟩, nmX10, zmems [307, 309, 311, 313, 315, 317, 319, 321, 323, 325, 327, 329] (by decide +kernel) (by decide +kernel)⟩
theorem zcb_11 : zCB 11 RX11 TX11 50 := ⟨rfl, by decide, rfl, by decide +kernel, ⟨tyX11, tyX11_ok⟩, nmX11, zmems [1017, 1019, 1021, 1023, 1025, 1027, 1029, 1031, 1033, 1035, 1037, 1039, 1041, 1043, 1045, 1047, 1049, 1051, 1053, 1055, 1057, 1059, 1061, 1063, 1065, 1067, 1069, 1071, 1073, 1075, 1077, 1079, 1081, 1083, 1085, 1087, 1089, 1091, 1093, 1095, 1097, 1099, 1101, 1103, 1105, 1107, 1109, 1111, 1113, 1115] (by decide +kernel) (by decide +kernel)⟩
theorem zf_10_14 : zFL RX10 14 10 0 (.object "LevelEquations$Contents") true := ⟨_, _, _, zcb_10, by decide, rfl, by decide +kernel, zmem_2 55 (by decide +kernel) rfl⟩
theorem zf_10_18 : zFL RX10 18 10 1 (.object "LevelEquations$Contents") true := ⟨_, _, _, zcb_10, by decide, rfl, by decide +kernel, zmem_2 56 (by decide +kernel) rfl⟩
theorem zf_10_24 : zFL RX10 24 10 3 (.object "LevelEquations$SeriesMath") true := ⟨_, _, _, zcb_10, by decide, rfl, by decide +kernel, zmem_2 58 (by decide +kernel) rfl⟩
theorem zf_10_31 : zFL RX10 31 10 4 (.object "LevelEquations$Vanishing") true := ⟨_, _, _, zcb_10, by decide, rfl, by decide +kernel, zmem_2 59 (by decide +kernel) rfl⟩
theorem zf_10_38 : zFL RX10 38 10 5 (.object "LevelEquations$Finder") true := ⟨_, _, _, zcb_10, by decide, rfl, by decide +kernel, zmem_2 60 (by decide +kernel) rfl⟩
theorem zf_10_45 : zFL RX10 45 10 6 (.object "LevelEquations$Graph") true := ⟨_, _, _, zcb_10, by decide, rfl, by decide +kernel, zmem_2 61 (by decide +kernel) rfl⟩
theorem zf_10_52 : zFL RX10 52 10 7 (.object "LevelEquations$Tape") true := ⟨_, _, _, zcb_10, by decide, rfl, by decide +kernel, zmem_2 62 (by decide +kernel) rfl⟩
theorem zf_10_59 : zFL RX10 59 10 8 (.object "LevelEquations$Program") true := ⟨_, _, _, zcb_10, by decide, rfl, by decide +kernel, zmem_2 63 (by decide +kernel) rfl⟩
theorem zf_10_66 : zFL RX10 66 10 9 (.object "LevelEquations$PolynomialText") true := ⟨_, _, _, zcb_10, by decide, rfl, by decide +kernel, zmem_2 64 (by decide +kernel) rfl⟩
theorem zf_10_72 : zFL RX10 72 10 10 (.array (.array .int)) true := ⟨_, _, _, zcb_10, by decide, rfl, by decide +kernel, zmem_2 65 (by decide +kernel) rfl⟩
theorem zf_10_75 : zFL RX10 75 10 11 (.array .int) true := ⟨_, _, _, zcb_10, by decide, rfl, by decide +kernel, zmem_2 66 (by decide +kernel) rfl⟩
theorem zf_10_89 : zFL RX10 89 0 0 .int false := ⟨_, _, _, zcb_0, by decide, rfl, by decide +kernel, zmem_1 87 (by decide +kernel) rfl⟩
theorem zf_10_103 : zFL RX10 103 0 1 (.array (.object "LevelEquations$Series")) true := ⟨_, _, _, zcb_0, by decide, rfl, by decide +kernel, zmem_1 90 (by decide +kernel) rfl⟩
theorem zf_10_131 : zFL RX10 131 6 2 .int false := ⟨_, _, _, zcb_6, by decide, rfl, by decide +kernel, zmem_1 78 (by decide +kernel) rfl⟩
theorem zf_10_134 : zFL RX10 134 6 1 .int false := ⟨_, _, _, zcb_6, by decide, rfl, by decide +kernel, zmem_1 73 (by decide +kernel) rfl⟩
theorem zf_10_144 : zFL RX10 144 6 0 (.array .int) true := ⟨_, _, _, zcb_6, by decide, rfl, by decide +kernel, zmem_1 69 (by decide +kernel) rfl⟩
theorem zf_10_174 : zFL RX10 174 0 2 (.object "LevelEquations$Polynomial") true := ⟨_, _, _, zcb_0, by decide, rfl, by decide +kernel, zmem_1 93 (by decide +kernel) rfl⟩
theorem zf_10_185 : zFL RX10 185 3 1 .int false := ⟨_, _, _, zcb_3, by decide, rfl, by decide +kernel, zmem_1 53 (by decide +kernel) rfl⟩
theorem zf_10_201 : zFL RX10 201 3 0 (.array .int) true := ⟨_, _, _, zcb_3, by decide, rfl, by decide +kernel, zmem_1 47 (by decide +kernel) rfl⟩
theorem zf_10_249 : zFL RX10 249 0 3 (.array (.object "LevelEquations$Polynomial")) true := ⟨_, _, _, zcb_0, by decide, rfl, by decide +kernel, zmem_1 95 (by decide +kernel) rfl⟩
theorem zf_10_256 : zFL RX10 256 0 4 (.array .int) true := ⟨_, _, _, zcb_0, by decide, rfl, by decide +kernel, zmem_1 97 (by decide +kernel) rfl⟩
theorem zf_10_275 : zFL RX10 275 8 1 .int false := ⟨_, _, _, zcb_8, by decide, rfl, by decide +kernel, zmem_1 238 (by decide +kernel) rfl⟩
theorem zf_10_283 : zFL RX10 283 8 2 .int false := ⟨_, _, _, zcb_8, by decide, rfl, by decide +kernel, zmem_2 1 (by decide +kernel) rfl⟩
theorem zf_10_289 : zFL RX10 289 5 2 .int false := ⟨_, _, _, zcb_5, by decide, rfl, by decide +kernel, zmem_2 24 (by decide +kernel) rfl⟩
theorem zf_10_298 : zFL RX10 298 5 0 (.array .int) true := ⟨_, _, _, zcb_5, by decide, rfl, by decide +kernel, zmem_2 21 (by decide +kernel) rfl⟩
theorem zf_10_332 : zFL RX10 332 4 0 (.object "LevelEquations$Polynomial") true := ⟨_, _, _, zcb_4, by decide, rfl, by decide +kernel, zmem_2 41 (by decide +kernel) rfl⟩
theorem zf_10_338 : zFL RX10 338 4 2 .int false := ⟨_, _, _, zcb_4, by decide, rfl, by decide +kernel, zmem_2 45 (by decide +kernel) rfl⟩
theorem zf_10_341 : zFL RX10 341 4 1 (.array .int) true := ⟨_, _, _, zcb_4, by decide, rfl, by decide +kernel, zmem_2 43 (by decide +kernel) rfl⟩
theorem zf_10_358 : zFL RX10 358 10 2 .boolean false := ⟨_, _, _, zcb_10, by decide, rfl, by decide +kernel, zmem_2 57 (by decide +kernel) rfl⟩
theorem zf_0_9 : zFL RX0 9 0 0 .int false := ⟨_, _, _, zcb_0, by decide, rfl, by decide +kernel, zmem_1 86 (by decide +kernel) rfl⟩
theorem zf_0_17 : zFL RX0 17 0 1 (.array (.object "LevelEquations$Series")) true := ⟨_, _, _, zcb_0, by decide, rfl, by decide +kernel, zmem_1 89 (by decide +kernel) rfl⟩
theorem zf_0_24 : zFL RX0 24 0 2 (.object "LevelEquations$Polynomial") true := ⟨_, _, _, zcb_0, by decide, rfl, by decide +kernel, zmem_1 91 (by decide +kernel) rfl⟩
theorem zf_0_28 : zFL RX0 28 0 3 (.array (.object "LevelEquations$Polynomial")) true := ⟨_, _, _, zcb_0, by decide, rfl, by decide +kernel, zmem_1 94 (by decide +kernel) rfl⟩
theorem zf_0_32 : zFL RX0 32 0 4 (.array .int) true := ⟨_, _, _, zcb_0, by decide, rfl, by decide +kernel, zmem_1 96 (by decide +kernel) rfl⟩
theorem zf_0_37 : zFL RX0 37 3 1 .int false := ⟨_, _, _, zcb_3, by decide, rfl, by decide +kernel, zmem_1 49 (by decide +kernel) rfl⟩
theorem zf_0_40 : zFL RX0 40 6 2 .int false := ⟨_, _, _, zcb_6, by decide, rfl, by decide +kernel, zmem_1 75 (by decide +kernel) rfl⟩
theorem zf_0_55 : zFL RX0 55 3 0 (.array .int) true := ⟨_, _, _, zcb_3, by decide, rfl, by decide +kernel, zmem_1 45 (by decide +kernel) rfl⟩
theorem zf_1_11 : zFL RX1 11 1 0 (.array (.array .int)) true := ⟨_, _, _, zcb_1, by decide, rfl, by decide +kernel, zmem_1 174 (by decide +kernel) rfl⟩
theorem zf_1_16 : zFL RX1 16 1 1 (.array .int) true := ⟨_, _, _, zcb_1, by decide, rfl, by decide +kernel, zmem_1 175 (by decide +kernel) rfl⟩
theorem zf_1_20 : zFL RX1 20 1 2 (.array .int) true := ⟨_, _, _, zcb_1, by decide, rfl, by decide +kernel, zmem_1 176 (by decide +kernel) rfl⟩
theorem zf_1_23 : zFL RX1 23 1 3 (.array .int) true := ⟨_, _, _, zcb_1, by decide, rfl, by decide +kernel, zmem_1 177 (by decide +kernel) rfl⟩
theorem zf_1_26 : zFL RX1 26 1 4 .int false := ⟨_, _, _, zcb_1, by decide, rfl, by decide +kernel, zmem_1 178 (by decide +kernel) rfl⟩
theorem zf_1_30 : zFL RX1 30 1 5 .boolean false := ⟨_, _, _, zcb_1, by decide, rfl, by decide +kernel, zmem_1 179 (by decide +kernel) rfl⟩
theorem zf_1_34 : zFL RX1 34 9 7 .int false := ⟨_, _, _, zcb_9, by decide, rfl, by decide +kernel, zmem_1 144 (by decide +kernel) rfl⟩
theorem zf_1_39 : zFL RX1 39 1 7 .int false := ⟨_, _, _, zcb_1, by decide, rfl, by decide +kernel, zmem_1 181 (by decide +kernel) rfl⟩
theorem zf_1_42 : zFL RX1 42 9 8 .int false := ⟨_, _, _, zcb_9, by decide, rfl, by decide +kernel, zmem_1 146 (by decide +kernel) rfl⟩
theorem zf_1_45 : zFL RX1 45 1 9 .int false := ⟨_, _, _, zcb_1, by decide, rfl, by decide +kernel, zmem_1 183 (by decide +kernel) rfl⟩
theorem zf_1_52 : zFL RX1 52 1 6 .int false := ⟨_, _, _, zcb_1, by decide, rfl, by decide +kernel, zmem_1 180 (by decide +kernel) rfl⟩
theorem zf_1_73 : zFL RX1 73 9 2 (.array .int) true := ⟨_, _, _, zcb_9, by decide, rfl, by decide +kernel, zmem_1 139 (by decide +kernel) rfl⟩
theorem zf_1_76 : zFL RX1 76 1 8 .int false := ⟨_, _, _, zcb_1, by decide, rfl, by decide +kernel, zmem_1 182 (by decide +kernel) rfl⟩
theorem zf_1_110 : zFL RX1 110 3 0 (.array .int) true := ⟨_, _, _, zcb_3, by decide, rfl, by decide +kernel, zmem_1 46 (by decide +kernel) rfl⟩
theorem zf_2_9 : zFL RX2 9 2 0 (.array .int) true := ⟨_, _, _, zcb_2, by decide, rfl, by decide +kernel, zmem_1 214 (by decide +kernel) rfl⟩
theorem zf_2_15 : zFL RX2 15 2 1 (.array .int) true := ⟨_, _, _, zcb_2, by decide, rfl, by decide +kernel, zmem_1 215 (by decide +kernel) rfl⟩
theorem zf_2_18 : zFL RX2 18 2 2 (.array .int) true := ⟨_, _, _, zcb_2, by decide, rfl, by decide +kernel, zmem_1 216 (by decide +kernel) rfl⟩
theorem zf_2_21 : zFL RX2 21 2 3 (.array .int) true := ⟨_, _, _, zcb_2, by decide, rfl, by decide +kernel, zmem_1 217 (by decide +kernel) rfl⟩
theorem zf_2_24 : zFL RX2 24 2 4 (.array .int) true := ⟨_, _, _, zcb_2, by decide, rfl, by decide +kernel, zmem_1 218 (by decide +kernel) rfl⟩
theorem zf_2_43 : zFL RX2 43 0 2 (.object "LevelEquations$Polynomial") true := ⟨_, _, _, zcb_0, by decide, rfl, by decide +kernel, zmem_1 92 (by decide +kernel) rfl⟩
theorem zf_2_49 : zFL RX2 49 0 0 .int false := ⟨_, _, _, zcb_0, by decide, rfl, by decide +kernel, zmem_1 88 (by decide +kernel) rfl⟩
theorem zf_2_68 : zFL RX2 68 3 1 .int false := ⟨_, _, _, zcb_3, by decide, rfl, by decide +kernel, zmem_1 52 (by decide +kernel) rfl⟩
theorem zf_3_9 : zFL RX3 9 3 0 (.array .int) true := ⟨_, _, _, zcb_3, by decide, rfl, by decide +kernel, zmem_1 42 (by decide +kernel) rfl⟩
theorem zf_3_15 : zFL RX3 15 3 1 .int false := ⟨_, _, _, zcb_3, by decide, rfl, by decide +kernel, zmem_1 48 (by decide +kernel) rfl⟩
theorem zf_4_12 : zFL RX4 12 4 0 (.object "LevelEquations$Polynomial") true := ⟨_, _, _, zcb_4, by decide, rfl, by decide +kernel, zmem_2 40 (by decide +kernel) rfl⟩
theorem zf_4_18 : zFL RX4 18 4 1 (.array .int) true := ⟨_, _, _, zcb_4, by decide, rfl, by decide +kernel, zmem_2 42 (by decide +kernel) rfl⟩
theorem zf_4_46 : zFL RX4 46 8 3 .int false := ⟨_, _, _, zcb_8, by decide, rfl, by decide +kernel, zmem_2 2 (by decide +kernel) rfl⟩
theorem zf_4_53 : zFL RX4 53 3 0 (.array .int) true := ⟨_, _, _, zcb_3, by decide, rfl, by decide +kernel, zmem_1 43 (by decide +kernel) rfl⟩
theorem zf_4_56 : zFL RX4 56 3 1 .int false := ⟨_, _, _, zcb_3, by decide, rfl, by decide +kernel, zmem_1 50 (by decide +kernel) rfl⟩
theorem zf_4_65 : zFL RX4 65 4 2 .int false := ⟨_, _, _, zcb_4, by decide, rfl, by decide +kernel, zmem_2 44 (by decide +kernel) rfl⟩
theorem zf_5_9 : zFL RX5 9 5 0 (.array .int) true := ⟨_, _, _, zcb_5, by decide, rfl, by decide +kernel, zmem_2 20 (by decide +kernel) rfl⟩
theorem zf_5_15 : zFL RX5 15 5 1 (.array .int) true := ⟨_, _, _, zcb_5, by decide, rfl, by decide +kernel, zmem_2 22 (by decide +kernel) rfl⟩
theorem zf_5_23 : zFL RX5 23 5 2 .int false := ⟨_, _, _, zcb_5, by decide, rfl, by decide +kernel, zmem_2 23 (by decide +kernel) rfl⟩
theorem zf_5_47 : zFL RX5 47 8 2 .int false := ⟨_, _, _, zcb_8, by decide, rfl, by decide +kernel, zmem_2 0 (by decide +kernel) rfl⟩
theorem zf_5_57 : zFL RX5 57 8 3 .int false := ⟨_, _, _, zcb_8, by decide, rfl, by decide +kernel, zmem_2 3 (by decide +kernel) rfl⟩
theorem zf_6_9 : zFL RX6 9 6 0 (.array .int) true := ⟨_, _, _, zcb_6, by decide, rfl, by decide +kernel, zmem_1 66 (by decide +kernel) rfl⟩
theorem zf_6_15 : zFL RX6 15 6 1 .int false := ⟨_, _, _, zcb_6, by decide, rfl, by decide +kernel, zmem_1 70 (by decide +kernel) rfl⟩
theorem zf_6_19 : zFL RX6 19 6 2 .int false := ⟨_, _, _, zcb_6, by decide, rfl, by decide +kernel, zmem_1 74 (by decide +kernel) rfl⟩
theorem zf_7_9 : zFL RX7 9 7 0 (.array .int) true := ⟨_, _, _, zcb_7, by decide, rfl, by decide +kernel, zmem_1 115 (by decide +kernel) rfl⟩
theorem zf_7_15 : zFL RX7 15 7 1 (.array .int) true := ⟨_, _, _, zcb_7, by decide, rfl, by decide +kernel, zmem_1 116 (by decide +kernel) rfl⟩
theorem zf_7_18 : zFL RX7 18 7 2 (.array .int) true := ⟨_, _, _, zcb_7, by decide, rfl, by decide +kernel, zmem_1 117 (by decide +kernel) rfl⟩
theorem zf_7_21 : zFL RX7 21 7 3 (.array .int) true := ⟨_, _, _, zcb_7, by decide, rfl, by decide +kernel, zmem_1 118 (by decide +kernel) rfl⟩
theorem zf_7_36 : zFL RX7 36 6 1 .int false := ⟨_, _, _, zcb_6, by decide, rfl, by decide +kernel, zmem_1 72 (by decide +kernel) rfl⟩
theorem zf_7_51 : zFL RX7 51 6 2 .int false := ⟨_, _, _, zcb_6, by decide, rfl, by decide +kernel, zmem_1 77 (by decide +kernel) rfl⟩
theorem zf_7_54 : zFL RX7 54 6 0 (.array .int) true := ⟨_, _, _, zcb_6, by decide, rfl, by decide +kernel, zmem_1 68 (by decide +kernel) rfl⟩
theorem zf_8_9 : zFL RX8 9 8 0 (.array .int) true := ⟨_, _, _, zcb_8, by decide, rfl, by decide +kernel, zmem_1 236 (by decide +kernel) rfl⟩
theorem zf_8_15 : zFL RX8 15 8 1 .int false := ⟨_, _, _, zcb_8, by decide, rfl, by decide +kernel, zmem_1 237 (by decide +kernel) rfl⟩
theorem zf_8_19 : zFL RX8 19 8 2 .int false := ⟨_, _, _, zcb_8, by decide, rfl, by decide +kernel, zmem_1 239 (by decide +kernel) rfl⟩
theorem zf_8_22 : zFL RX8 22 8 3 .int false := ⟨_, _, _, zcb_8, by decide, rfl, by decide +kernel, zmem_2 4 (by decide +kernel) rfl⟩
theorem zf_9_11 : zFL RX9 11 9 0 (.array (.array .int)) true := ⟨_, _, _, zcb_9, by decide, rfl, by decide +kernel, zmem_1 136 (by decide +kernel) rfl⟩
theorem zf_9_16 : zFL RX9 16 9 1 (.array (.array .int)) true := ⟨_, _, _, zcb_9, by decide, rfl, by decide +kernel, zmem_1 137 (by decide +kernel) rfl⟩
theorem zf_9_19 : zFL RX9 19 9 2 (.array .int) true := ⟨_, _, _, zcb_9, by decide, rfl, by decide +kernel, zmem_1 138 (by decide +kernel) rfl⟩
theorem zf_9_23 : zFL RX9 23 9 3 (.array .int) true := ⟨_, _, _, zcb_9, by decide, rfl, by decide +kernel, zmem_1 140 (by decide +kernel) rfl⟩
theorem zf_9_26 : zFL RX9 26 6 1 .int false := ⟨_, _, _, zcb_6, by decide, rfl, by decide +kernel, zmem_1 71 (by decide +kernel) rfl⟩
theorem zf_9_32 : zFL RX9 32 9 4 .int false := ⟨_, _, _, zcb_9, by decide, rfl, by decide +kernel, zmem_1 141 (by decide +kernel) rfl⟩
theorem zf_9_35 : zFL RX9 35 9 5 .int false := ⟨_, _, _, zcb_9, by decide, rfl, by decide +kernel, zmem_1 142 (by decide +kernel) rfl⟩
theorem zf_9_44 : zFL RX9 44 9 6 .int false := ⟨_, _, _, zcb_9, by decide, rfl, by decide +kernel, zmem_1 143 (by decide +kernel) rfl⟩
theorem zf_9_47 : zFL RX9 47 6 2 .int false := ⟨_, _, _, zcb_6, by decide, rfl, by decide +kernel, zmem_1 76 (by decide +kernel) rfl⟩
theorem zf_9_50 : zFL RX9 50 9 7 .int false := ⟨_, _, _, zcb_9, by decide, rfl, by decide +kernel, zmem_1 145 (by decide +kernel) rfl⟩
theorem zf_9_51 : zFL RX9 51 9 8 .int false := ⟨_, _, _, zcb_9, by decide, rfl, by decide +kernel, zmem_1 147 (by decide +kernel) rfl⟩
theorem zf_9_54 : zFL RX9 54 6 0 (.array .int) true := ⟨_, _, _, zcb_6, by decide, rfl, by decide +kernel, zmem_1 67 (by decide +kernel) rfl⟩
theorem zf_9_71 : zFL RX9 71 3 1 .int false := ⟨_, _, _, zcb_3, by decide, rfl, by decide +kernel, zmem_1 51 (by decide +kernel) rfl⟩
theorem zf_9_76 : zFL RX9 76 3 0 (.array .int) true := ⟨_, _, _, zcb_3, by decide, rfl, by decide +kernel, zmem_1 44 (by decide +kernel) rfl⟩
theorem zf_11_9 : zFL RX11 9 11 0 .int false := ⟨_, _, _, zcb_11, by decide, rfl, by decide +kernel, zmem_5 7 (by decide +kernel) rfl⟩
theorem zf_11_15 : zFL RX11 15 11 1 (.array .int) true := ⟨_, _, _, zcb_11, by decide, rfl, by decide +kernel, zmem_5 8 (by decide +kernel) rfl⟩
theorem zf_11_19 : zFL RX11 19 11 2 (.array .int) true := ⟨_, _, _, zcb_11, by decide, rfl, by decide +kernel, zmem_5 9 (by decide +kernel) rfl⟩
theorem zf_11_22 : zFL RX11 22 11 3 (.array .int) true := ⟨_, _, _, zcb_11, by decide, rfl, by decide +kernel, zmem_5 10 (by decide +kernel) rfl⟩
theorem zf_11_25 : zFL RX11 25 11 5 (.array .int) true := ⟨_, _, _, zcb_11, by decide, rfl, by decide +kernel, zmem_5 12 (by decide +kernel) rfl⟩
theorem zf_11_28 : zFL RX11 28 11 6 (.array .int) true := ⟨_, _, _, zcb_11, by decide, rfl, by decide +kernel, zmem_5 13 (by decide +kernel) rfl⟩
theorem zf_11_31 : zFL RX11 31 11 9 (.array .int) true := ⟨_, _, _, zcb_11, by decide, rfl, by decide +kernel, zmem_5 16 (by decide +kernel) rfl⟩
theorem zf_11_34 : zFL RX11 34 11 10 (.array .int) true := ⟨_, _, _, zcb_11, by decide, rfl, by decide +kernel, zmem_5 17 (by decide +kernel) rfl⟩
theorem zf_11_37 : zFL RX11 37 11 11 (.array .int) true := ⟨_, _, _, zcb_11, by decide, rfl, by decide +kernel, zmem_5 18 (by decide +kernel) rfl⟩
theorem zf_11_40 : zFL RX11 40 11 12 (.array .int) true := ⟨_, _, _, zcb_11, by decide, rfl, by decide +kernel, zmem_5 19 (by decide +kernel) rfl⟩
theorem zf_11_43 : zFL RX11 43 11 13 (.array .int) true := ⟨_, _, _, zcb_11, by decide, rfl, by decide +kernel, zmem_5 20 (by decide +kernel) rfl⟩
theorem zf_11_46 : zFL RX11 46 11 18 (.array .int) true := ⟨_, _, _, zcb_11, by decide, rfl, by decide +kernel, zmem_5 25 (by decide +kernel) rfl⟩
theorem zf_11_49 : zFL RX11 49 11 19 (.array .int) true := ⟨_, _, _, zcb_11, by decide, rfl, by decide +kernel, zmem_5 26 (by decide +kernel) rfl⟩
theorem zf_11_52 : zFL RX11 52 11 20 (.array .int) true := ⟨_, _, _, zcb_11, by decide, rfl, by decide +kernel, zmem_5 27 (by decide +kernel) rfl⟩
theorem zf_11_55 : zFL RX11 55 11 21 (.array .int) true := ⟨_, _, _, zcb_11, by decide, rfl, by decide +kernel, zmem_5 28 (by decide +kernel) rfl⟩
theorem zf_11_58 : zFL RX11 58 11 23 (.array .int) true := ⟨_, _, _, zcb_11, by decide, rfl, by decide +kernel, zmem_5 30 (by decide +kernel) rfl⟩
theorem zf_11_61 : zFL RX11 61 11 25 (.array .int) true := ⟨_, _, _, zcb_11, by decide, rfl, by decide +kernel, zmem_5 32 (by decide +kernel) rfl⟩
theorem zf_11_64 : zFL RX11 64 11 26 (.array .int) true := ⟨_, _, _, zcb_11, by decide, rfl, by decide +kernel, zmem_5 33 (by decide +kernel) rfl⟩
theorem zf_11_67 : zFL RX11 67 11 27 (.array .int) true := ⟨_, _, _, zcb_11, by decide, rfl, by decide +kernel, zmem_5 34 (by decide +kernel) rfl⟩
theorem zf_11_70 : zFL RX11 70 11 29 (.array .int) true := ⟨_, _, _, zcb_11, by decide, rfl, by decide +kernel, zmem_5 36 (by decide +kernel) rfl⟩
theorem zf_11_73 : zFL RX11 73 11 30 (.array .int) true := ⟨_, _, _, zcb_11, by decide, rfl, by decide +kernel, zmem_5 37 (by decide +kernel) rfl⟩
theorem zf_11_76 : zFL RX11 76 11 33 (.array .int) true := ⟨_, _, _, zcb_11, by decide, rfl, by decide +kernel, zmem_5 40 (by decide +kernel) rfl⟩
theorem zf_11_79 : zFL RX11 79 11 34 (.array .int) true := ⟨_, _, _, zcb_11, by decide, rfl, by decide +kernel, zmem_5 41 (by decide +kernel) rfl⟩
theorem zf_11_82 : zFL RX11 82 11 35 (.array .int) true := ⟨_, _, _, zcb_11, by decide, rfl, by decide +kernel, zmem_5 42 (by decide +kernel) rfl⟩
theorem zf_11_85 : zFL RX11 85 11 36 (.array .int) true := ⟨_, _, _, zcb_11, by decide, rfl, by decide +kernel, zmem_5 43 (by decide +kernel) rfl⟩
theorem zf_11_88 : zFL RX11 88 11 38 (.array .int) true := ⟨_, _, _, zcb_11, by decide, rfl, by decide +kernel, zmem_5 45 (by decide +kernel) rfl⟩
theorem zf_11_91 : zFL RX11 91 11 40 (.array .int) true := ⟨_, _, _, zcb_11, by decide, rfl, by decide +kernel, zmem_5 47 (by decide +kernel) rfl⟩
theorem zf_11_94 : zFL RX11 94 11 41 (.array .int) true := ⟨_, _, _, zcb_11, by decide, rfl, by decide +kernel, zmem_5 48 (by decide +kernel) rfl⟩
theorem zf_11_97 : zFL RX11 97 11 45 (.array .int) true := ⟨_, _, _, zcb_11, by decide, rfl, by decide +kernel, zmem_5 52 (by decide +kernel) rfl⟩
theorem zf_11_100 : zFL RX11 100 11 46 (.array .int) true := ⟨_, _, _, zcb_11, by decide, rfl, by decide +kernel, zmem_5 53 (by decide +kernel) rfl⟩
theorem zf_11_103 : zFL RX11 103 11 47 (.array .int) true := ⟨_, _, _, zcb_11, by decide, rfl, by decide +kernel, zmem_5 54 (by decide +kernel) rfl⟩
theorem zf_11_106 : zFL RX11 106 11 48 (.array .int) true := ⟨_, _, _, zcb_11, by decide, rfl, by decide +kernel, zmem_5 55 (by decide +kernel) rfl⟩
theorem zf_11_109 : zFL RX11 109 11 49 (.array .int) true := ⟨_, _, _, zcb_11, by decide, rfl, by decide +kernel, zmem_5 56 (by decide +kernel) rfl⟩
theorem zf_11_128 : zFL RX11 128 11 4 .int false := ⟨_, _, _, zcb_11, by decide, rfl, by decide +kernel, zmem_5 11 (by decide +kernel) rfl⟩
theorem zf_11_131 : zFL RX11 131 11 7 .int false := ⟨_, _, _, zcb_11, by decide, rfl, by decide +kernel, zmem_5 14 (by decide +kernel) rfl⟩
theorem zf_11_134 : zFL RX11 134 11 8 .int false := ⟨_, _, _, zcb_11, by decide, rfl, by decide +kernel, zmem_5 15 (by decide +kernel) rfl⟩
theorem zf_11_189 : zFL RX11 189 11 14 .int false := ⟨_, _, _, zcb_11, by decide, rfl, by decide +kernel, zmem_5 21 (by decide +kernel) rfl⟩
theorem zf_11_192 : zFL RX11 192 11 16 .int false := ⟨_, _, _, zcb_11, by decide, rfl, by decide +kernel, zmem_5 23 (by decide +kernel) rfl⟩
theorem zf_11_195 : zFL RX11 195 11 17 .int false := ⟨_, _, _, zcb_11, by decide, rfl, by decide +kernel, zmem_5 24 (by decide +kernel) rfl⟩
theorem zf_11_198 : zFL RX11 198 11 15 .int false := ⟨_, _, _, zcb_11, by decide, rfl, by decide +kernel, zmem_5 22 (by decide +kernel) rfl⟩
theorem zf_11_201 : zFL RX11 201 11 22 .int false := ⟨_, _, _, zcb_11, by decide, rfl, by decide +kernel, zmem_5 29 (by decide +kernel) rfl⟩
theorem zf_11_226 : zFL RX11 226 11 24 .int false := ⟨_, _, _, zcb_11, by decide, rfl, by decide +kernel, zmem_5 31 (by decide +kernel) rfl⟩
theorem zf_11_252 : zFL RX11 252 11 28 .int false := ⟨_, _, _, zcb_11, by decide, rfl, by decide +kernel, zmem_5 35 (by decide +kernel) rfl⟩
theorem zf_11_282 : zFL RX11 282 11 31 .int false := ⟨_, _, _, zcb_11, by decide, rfl, by decide +kernel, zmem_5 38 (by decide +kernel) rfl⟩
theorem zf_11_285 : zFL RX11 285 11 32 .int false := ⟨_, _, _, zcb_11, by decide, rfl, by decide +kernel, zmem_5 39 (by decide +kernel) rfl⟩
theorem zf_11_349 : zFL RX11 349 11 37 .int false := ⟨_, _, _, zcb_11, by decide, rfl, by decide +kernel, zmem_5 44 (by decide +kernel) rfl⟩
theorem zf_11_358 : zFL RX11 358 11 39 .int false := ⟨_, _, _, zcb_11, by decide, rfl, by decide +kernel, zmem_5 46 (by decide +kernel) rfl⟩
theorem zf_11_374 : zFL RX11 374 11 42 .boolean false := ⟨_, _, _, zcb_11, by decide, rfl, by decide +kernel, zmem_5 49 (by decide +kernel) rfl⟩
theorem zf_11_378 : zFL RX11 378 11 43 .int false := ⟨_, _, _, zcb_11, by decide, rfl, by decide +kernel, zmem_5 50 (by decide +kernel) rfl⟩
theorem zf_11_381 : zFL RX11 381 11 44 .int false := ⟨_, _, _, zcb_11, by decide, rfl, by decide +kernel, zmem_5 51 (by decide +kernel) rfl⟩
abbrev zm_X10_init : zM := (yX10_init, cX10_init, 1, none, { frames := 3, cells := 202, slots := 15180, locals := 61 })
theorem zi_X10_init : zCal zm_X10_init 0 := ⟨zmem_1 1 (by decide +kernel) rfl, zmem_1 24 (by decide +kernel) rfl, by decide +kernel, by decide +kernel, by decide +kernel⟩
theorem zii_X10_init : Cond.instanceMethod yX10_init ∈ ztbl := zmem_1 23 (by decide +kernel) rfl
abbrev zm_X0_init : zM := (yX0_init, cX0_init, 2, none, { frames := 2, cells := 33, slots := 1267, locals := 40 })
theorem zi_X0_init : zCal zm_X0_init 0 := ⟨zmem_1 2 (by decide +kernel) rfl, zmem_1 32 (by decide +kernel) rfl, by decide +kernel, by decide +kernel, by decide +kernel⟩
theorem zii_X0_init : Cond.instanceMethod yX0_init ∈ ztbl := zmem_1 31 (by decide +kernel) rfl
abbrev zm_X3_init : zM := (yX3_init, cX3_init, 1, none, { frames := 1, cells := 1, slots := 81, locals := 20 })
theorem zi_X3_init : zCal zm_X3_init 0 := ⟨zmem_1 3 (by decide +kernel) rfl, zmem_1 40 (by decide +kernel) rfl, by decide +kernel, by decide +kernel, by decide +kernel⟩
theorem zii_X3_init : Cond.instanceMethod yX3_init ∈ ztbl := zmem_1 39 (by decide +kernel) rfl
abbrev zm_X6_init : zM := (yX6_init, cX6_init, 1, none, { frames := 1, cells := 1, slots := 80, locals := 20 })
theorem zi_X6_init : zCal zm_X6_init 0 := ⟨zmem_1 4 (by decide +kernel) rfl, zmem_1 64 (by decide +kernel) rfl, by decide +kernel, by decide +kernel, by decide +kernel⟩
theorem zii_X6_init : Cond.instanceMethod yX6_init ∈ ztbl := zmem_1 63 (by decide +kernel) rfl
abbrev zm_X7_init : zM := (yX7_init, cX7_init, 1, none, { frames := 1, cells := 4, slots := 320, locals := 20 })
theorem zi_X7_init : zCal zm_X7_init 0 := ⟨zmem_1 5 (by decide +kernel) rfl, zmem_1 113 (by decide +kernel) rfl, by decide +kernel, by decide +kernel, by decide +kernel⟩
theorem zii_X7_init : Cond.instanceMethod yX7_init ∈ ztbl := zmem_1 112 (by decide +kernel) rfl
abbrev zm_X9_init : zM := (yX9_init, cX9_init, 1, none, { frames := 1, cells := 22, slots := 1618, locals := 20 })
theorem zi_X9_init : zCal zm_X9_init 0 := ⟨zmem_1 6 (by decide +kernel) rfl, zmem_1 132 (by decide +kernel) rfl, by decide +kernel, by decide +kernel, by decide +kernel⟩
theorem zii_X9_init : Cond.instanceMethod yX9_init ∈ ztbl := zmem_1 131 (by decide +kernel) rfl
abbrev zm_X1_init : zM := (yX1_init, cX1_init, 1, none, { frames := 1, cells := 84, slots := 6803, locals := 20 })
theorem zi_X1_init : zCal zm_X1_init 0 := ⟨zmem_1 7 (by decide +kernel) rfl, zmem_1 171 (by decide +kernel) rfl, by decide +kernel, by decide +kernel, by decide +kernel⟩
theorem zii_X1_init : Cond.instanceMethod yX1_init ∈ ztbl := zmem_1 170 (by decide +kernel) rfl
abbrev zm_X2_init : zM := (yX2_init, cX2_init, 1, none, { frames := 1, cells := 5, slots := 2198, locals := 23 })
theorem zi_X2_init : zCal zm_X2_init 0 := ⟨zmem_1 8 (by decide +kernel) rfl, zmem_1 209 (by decide +kernel) rfl, by decide +kernel, by decide +kernel, by decide +kernel⟩
theorem zii_X2_init : Cond.instanceMethod yX2_init ∈ ztbl := zmem_1 208 (by decide +kernel) rfl
abbrev zm_J7_fill_53178 : zM := (yJ7_fill_53178, cJ7_fill_53178, 4, none, { frames := 0, cells := 0, slots := 0, locals := 0 })
theorem zi_J7_fill_53178 : zCal zm_J7_fill_53178 2 := ⟨zmem_1 9 (by decide +kernel) rfl, zmem_1 213 (by decide +kernel) rfl, by decide +kernel, by decide +kernel, by decide +kernel⟩
theorem zis_J7_fill_53178 : Cond.static yJ7_fill_53178 ∈ ztbl := zmem_1 212 (by decide +kernel) rfl
abbrev zm_X8_init : zM := (yX8_init, cX8_init, 1, none, { frames := 1, cells := 1, slots := 100, locals := 20 })
theorem zi_X8_init : zCal zm_X8_init 0 := ⟨zmem_1 10 (by decide +kernel) rfl, zmem_1 234 (by decide +kernel) rfl, by decide +kernel, by decide +kernel, by decide +kernel⟩
theorem zii_X8_init : Cond.instanceMethod yX8_init ∈ ztbl := zmem_1 233 (by decide +kernel) rfl
abbrev zm_X5_init : zM := (yX5_init, cX5_init, 1, none, { frames := 1, cells := 2, slots := 500, locals := 20 })
theorem zi_X5_init : zCal zm_X5_init 0 := ⟨zmem_1 11 (by decide +kernel) rfl, zmem_2 18 (by decide +kernel) rfl, by decide +kernel, by decide +kernel, by decide +kernel⟩
theorem zii_X5_init : Cond.instanceMethod yX5_init ∈ ztbl := zmem_2 17 (by decide +kernel) rfl
abbrev zm_X4_init : zM := (yX4_init, cX4_init, 1, none, { frames := 2, cells := 3, slots := 731, locals := 40 })
theorem zi_X4_init : zCal zm_X4_init 0 := ⟨zmem_1 12 (by decide +kernel) rfl, zmem_2 36 (by decide +kernel) rfl, by decide +kernel, by decide +kernel, by decide +kernel⟩
theorem zii_X4_init : Cond.instanceMethod yX4_init ∈ ztbl := zmem_2 35 (by decide +kernel) rfl
abbrev zm_X10_prime : zM := (yX10_prime, cX10_prime, 3, (some .int), { frames := 2, cells := 0, slots := 0, locals := 43 })
theorem zi_X10_prime : zCal zm_X10_prime 1 := ⟨zmem_1 1 (by decide +kernel) rfl, zmem_2 95 (by decide +kernel) rfl, by decide +kernel, by decide +kernel, by decide +kernel⟩
theorem zii_X10_prime : Cond.instanceMethod yX10_prime ∈ ztbl := zmem_2 93 (by decide +kernel) rfl
theorem zie_X10_prime : Cond.selects zm_X10_prime.1.cls yX10_prime yX10_prime ∈ ztbl := zmem_2 94 (by decide +kernel) rfl
abbrev zm_X10_isModulus : zM := (yX10_isModulus, cX10_isModulus, 2, (some .boolean), { frames := 0, cells := 0, slots := 0, locals := 0 })
theorem zi_X10_isModulus : zCal zm_X10_isModulus 1 := ⟨zmem_1 1 (by decide +kernel) rfl, zmem_2 98 (by decide +kernel) rfl, by decide +kernel, by decide +kernel, by decide +kernel⟩
theorem zis_X10_isModulus : Cond.static yX10_isModulus ∈ ztbl := zmem_2 97 (by decide +kernel) rfl
abbrev zm_X0_startAnew : zM := (yX0_startAnew, cX0_startAnew, 3, none, { frames := 0, cells := 0, slots := 0, locals := 0 })
theorem zi_X0_startAnew : zCal zm_X0_startAnew 1 := ⟨zmem_1 2 (by decide +kernel) rfl, zmem_2 102 (by decide +kernel) rfl, by decide +kernel, by decide +kernel, by decide +kernel⟩
theorem zii_X0_startAnew : Cond.instanceMethod yX0_startAnew ∈ ztbl := zmem_2 100 (by decide +kernel) rfl
theorem zie_X0_startAnew : Cond.selects zm_X0_startAnew.1.cls yX0_startAnew yX0_startAnew ∈ ztbl := zmem_2 101 (by decide +kernel) rfl
abbrev zm_X2_forget : zM := (yX2_forget, cX2_forget, 1, none, { frames := 1, cells := 0, slots := 0, locals := 23 })
theorem zi_X2_forget : zCal zm_X2_forget 0 := ⟨zmem_1 8 (by decide +kernel) rfl, zmem_2 106 (by decide +kernel) rfl, by decide +kernel, by decide +kernel, by decide +kernel⟩
theorem zii_X2_forget : Cond.instanceMethod yX2_forget ∈ ztbl := zmem_2 104 (by decide +kernel) rfl
theorem zie_X2_forget : Cond.selects zm_X2_forget.1.cls yX2_forget yX2_forget ∈ ztbl := zmem_2 105 (by decide +kernel) rfl
abbrev zm_X10_j : zM := (yX10_j, cX10_j, 3, (some .int), { frames := 3, cells := 0, slots := 0, locals := 74 })
theorem zi_X10_j : zCal zm_X10_j 2 := ⟨zmem_1 1 (by decide +kernel) rfl, zmem_2 110 (by decide +kernel) rfl, by decide +kernel, by decide +kernel, by decide +kernel⟩
theorem zii_X10_j : Cond.instanceMethod yX10_j ∈ ztbl := zmem_2 108 (by decide +kernel) rfl
theorem zie_X10_j : Cond.selects zm_X10_j.1.cls yX10_j yX10_j ∈ ztbl := zmem_2 109 (by decide +kernel) rfl
abbrev zm_X10_isSeries : zM := (yX10_isSeries, cX10_isSeries, 1, (some .boolean), { frames := 0, cells := 0, slots := 0, locals := 0 })
theorem zi_X10_isSeries : zCal zm_X10_isSeries 1 := ⟨zmem_1 1 (by decide +kernel) rfl, zmem_2 113 (by decide +kernel) rfl, by decide +kernel, by decide +kernel, by decide +kernel⟩
theorem zis_X10_isSeries : Cond.static yX10_isSeries ∈ ztbl := zmem_2 112 (by decide +kernel) rfl
abbrev zm_X7_makeInvariant : zM := (yX7_makeInvariant, cX7_makeInvariant, 4, none, { frames := 2, cells := 0, slots := 0, locals := 51 })
theorem zi_X7_makeInvariant : zCal zm_X7_makeInvariant 3 := ⟨zmem_1 5 (by decide +kernel) rfl, zmem_2 117 (by decide +kernel) rfl, by decide +kernel, by decide +kernel, by decide +kernel⟩
theorem zii_X7_makeInvariant : Cond.instanceMethod yX7_makeInvariant ∈ ztbl := zmem_2 115 (by decide +kernel) rfl
theorem zie_X7_makeInvariant : Cond.selects zm_X7_makeInvariant.1.cls yX7_makeInvariant yX7_makeInvariant ∈ ztbl := zmem_2 116 (by decide +kernel) rfl
abbrev zm_X7_fillEisenstein : zM := (yX7_fillEisenstein, cX7_fillEisenstein, 6, none, { frames := 1, cells := 0, slots := 0, locals := 23 })
theorem zi_X7_fillEisenstein : zCal zm_X7_fillEisenstein 2 := ⟨zmem_1 5 (by decide +kernel) rfl, zmem_2 121 (by decide +kernel) rfl, by decide +kernel, by decide +kernel, by decide +kernel⟩
theorem zii_X7_fillEisenstein : Cond.instanceMethod yX7_fillEisenstein ∈ ztbl := zmem_2 120 (by decide +kernel) rfl
theorem zie_X7_fillEisenstein : Cond.selects zm_X7_fillEisenstein.1.cls yX7_fillEisenstein yX7_fillEisenstein ∈ ztbl := zmemp 0 (by decide +kernel) rfl
abbrev zm_X10_multiply : zM := (yX10_multiply, cX10_multiply, 8, none, { frames := 1, cells := 0, slots := 0, locals := 23 })
theorem zi_X10_multiply : zCal zm_X10_multiply 5 := ⟨zmem_1 1 (by decide +kernel) rfl, zmem_2 125 (by decide +kernel) rfl, by decide +kernel, by decide +kernel, by decide +kernel⟩
theorem zis_X10_multiply : Cond.static yX10_multiply ∈ ztbl := zmem_2 124 (by decide +kernel) rfl
abbrev zm_X7_fillEulerProduct : zM := (yX7_fillEulerProduct, cX7_fillEulerProduct, 5, none, { frames := 1, cells := 0, slots := 0, locals := 23 })
theorem zi_X7_fillEulerProduct : zCal zm_X7_fillEulerProduct 2 := ⟨zmem_1 5 (by decide +kernel) rfl, zmem_2 129 (by decide +kernel) rfl, by decide +kernel, by decide +kernel, by decide +kernel⟩
theorem zii_X7_fillEulerProduct : Cond.instanceMethod yX7_fillEulerProduct ∈ ztbl := zmem_2 128 (by decide +kernel) rfl
theorem zie_X7_fillEulerProduct : Cond.selects zm_X7_fillEulerProduct.1.cls yX7_fillEulerProduct yX7_fillEulerProduct ∈ ztbl := zmemp 1 (by decide +kernel) rfl
abbrev zm_X7_invert : zM := (yX7_invert, cX7_invert, 8, none, { frames := 1, cells := 0, slots := 0, locals := 24 })
theorem zi_X7_invert : zCal zm_X7_invert 4 := ⟨zmem_1 5 (by decide +kernel) rfl, zmem_2 132 (by decide +kernel) rfl, by decide +kernel, by decide +kernel, by decide +kernel⟩
theorem zis_X7_invert : Cond.static yX7_invert ∈ ztbl := zmem_2 131 (by decide +kernel) rfl
abbrev zm_X10_inverse : zM := (yX10_inverse, cX10_inverse, 5, (some .int), { frames := 0, cells := 0, slots := 0, locals := 0 })
theorem zi_X10_inverse : zCal zm_X10_inverse 2 := ⟨zmem_1 1 (by decide +kernel) rfl, zmem_2 135 (by decide +kernel) rfl, by decide +kernel, by decide +kernel, by decide +kernel⟩
theorem zis_X10_inverse : Cond.static yX10_inverse ∈ ztbl := zmem_2 134 (by decide +kernel) rfl
abbrev zm_X6_become : zM := (yX6_become, cX6_become, 4, none, { frames := 1, cells := 0, slots := 0, locals := 26 })
theorem zi_X6_become : zCal zm_X6_become 3 := ⟨zmem_1 4 (by decide +kernel) rfl, zmem_2 139 (by decide +kernel) rfl, by decide +kernel, by decide +kernel, by decide +kernel⟩
theorem zii_X6_become : Cond.instanceMethod yX6_become ∈ ztbl := zmem_2 137 (by decide +kernel) rfl
theorem zie_X6_become : Cond.selects zm_X6_become.1.cls yX6_become yX6_become ∈ ztbl := zmem_2 138 (by decide +kernel) rfl
abbrev zm_X10_tell : zM := (yX10_tell, cX10_tell, 5, (some .int), { frames := 3, cells := 0, slots := 0, locals := 75 })
theorem zi_X10_tell : zCal zm_X10_tell 3 := ⟨zmem_1 1 (by decide +kernel) rfl, zmem_2 146 (by decide +kernel) rfl, by decide +kernel, by decide +kernel, by decide +kernel⟩
theorem zii_X10_tell : Cond.instanceMethod yX10_tell ∈ ztbl := zmem_2 144 (by decide +kernel) rfl
theorem zie_X10_tell : Cond.selects zm_X10_tell.1.cls yX10_tell yX10_tell ∈ ztbl := zmem_2 145 (by decide +kernel) rfl
abbrev zm_X10_isList : zM := (yX10_isList, cX10_isList, 1, (some .boolean), { frames := 0, cells := 0, slots := 0, locals := 0 })
theorem zi_X10_isList : zCal zm_X10_isList 1 := ⟨zmem_1 1 (by decide +kernel) rfl, zmem_2 149 (by decide +kernel) rfl, by decide +kernel, by decide +kernel, by decide +kernel⟩
theorem zis_X10_isList : Cond.static yX10_isList ∈ ztbl := zmem_2 148 (by decide +kernel) rfl
abbrev zm_X10_isTooFar : zM := (yX10_isTooFar, cX10_isTooFar, 1, (some .boolean), { frames := 0, cells := 0, slots := 0, locals := 0 })
theorem zi_X10_isTooFar : zCal zm_X10_isTooFar 1 := ⟨zmem_1 1 (by decide +kernel) rfl, zmem_2 152 (by decide +kernel) rfl, by decide +kernel, by decide +kernel, by decide +kernel⟩
theorem zis_X10_isTooFar : Cond.static yX10_isTooFar ∈ ztbl := zmem_2 151 (by decide +kernel) rfl
abbrev zm_X7_reduce : zM := (yX7_reduce, cX7_reduce, 7, none, { frames := 2, cells := 0, slots := 0, locals := 49 })
theorem zi_X7_reduce : zCal zm_X7_reduce 5 := ⟨zmem_1 5 (by decide +kernel) rfl, zmem_2 156 (by decide +kernel) rfl, by decide +kernel, by decide +kernel, by decide +kernel⟩
theorem zii_X7_reduce : Cond.instanceMethod yX7_reduce ∈ ztbl := zmem_2 154 (by decide +kernel) rfl
theorem zie_X7_reduce : Cond.selects zm_X7_reduce.1.cls yX7_reduce yX7_reduce ∈ ztbl := zmem_2 155 (by decide +kernel) rfl
abbrev zm_J9_floorMod_7cf53 : zM := (yJ9_floorMod_7cf53, cJ9_floorMod_7cf53, 3, (some .int), { frames := 0, cells := 0, slots := 0, locals := 0 })
theorem zi_J9_floorMod_7cf53 : zCal zm_J9_floorMod_7cf53 2 := ⟨zmem_1 15 (by decide +kernel) rfl, zmem_2 159 (by decide +kernel) rfl, by decide +kernel, by decide +kernel, by decide +kernel⟩
theorem zis_J9_floorMod_7cf53 : Cond.static yJ9_floorMod_7cf53 ∈ ztbl := zmem_2 158 (by decide +kernel) rfl
abbrev zm_X10_sum : zM := (yX10_sum, cX10_sum, 4, (some .int), { frames := 3, cells := 0, slots := 0, locals := 76 })
theorem zi_X10_sum : zCal zm_X10_sum 3 := ⟨zmem_1 1 (by decide +kernel) rfl, zmem_2 163 (by decide +kernel) rfl, by decide +kernel, by decide +kernel, by decide +kernel⟩
theorem zii_X10_sum : Cond.instanceMethod yX10_sum ∈ ztbl := zmem_2 161 (by decide +kernel) rfl
theorem zie_X10_sum : Cond.selects zm_X10_sum.1.cls yX10_sum yX10_sum ∈ ztbl := zmem_2 162 (by decide +kernel) rfl
abbrev zm_X6_isMissing : zM := (yX6_isMissing, cX6_isMissing, 1, (some .boolean), { frames := 0, cells := 0, slots := 0, locals := 0 })
theorem zi_X6_isMissing : zCal zm_X6_isMissing 0 := ⟨zmem_1 4 (by decide +kernel) rfl, zmem_2 167 (by decide +kernel) rfl, by decide +kernel, by decide +kernel, by decide +kernel⟩
theorem zii_X6_isMissing : Cond.instanceMethod yX6_isMissing ∈ ztbl := zmem_2 165 (by decide +kernel) rfl
theorem zie_X6_isMissing : Cond.selects zm_X6_isMissing.1.cls yX6_isMissing yX6_isMissing ∈ ztbl := zmem_2 166 (by decide +kernel) rfl
abbrev zm_X7_add : zM := (yX7_add, cX7_add, 8, none, { frames := 2, cells := 0, slots := 0, locals := 49 })
theorem zi_X7_add : zCal zm_X7_add 4 := ⟨zmem_1 5 (by decide +kernel) rfl, zmem_2 171 (by decide +kernel) rfl, by decide +kernel, by decide +kernel, by decide +kernel⟩
theorem zii_X7_add : Cond.instanceMethod yX7_add ∈ ztbl := zmem_2 169 (by decide +kernel) rfl
theorem zie_X7_add : Cond.selects zm_X7_add.1.cls yX7_add yX7_add ∈ ztbl := zmem_2 170 (by decide +kernel) rfl
abbrev zm_X6_last : zM := (yX6_last, cX6_last, 1, (some .int), { frames := 0, cells := 0, slots := 0, locals := 0 })
theorem zi_X6_last : zCal zm_X6_last 0 := ⟨zmem_1 4 (by decide +kernel) rfl, zmem_2 178 (by decide +kernel) rfl, by decide +kernel, by decide +kernel, by decide +kernel⟩
theorem zii_X6_last : Cond.instanceMethod yX6_last ∈ ztbl := zmem_2 176 (by decide +kernel) rfl
theorem zie_X6_last : Cond.selects zm_X6_last.1.cls yX6_last yX6_last ∈ ztbl := zmem_2 177 (by decide +kernel) rfl
abbrev zm_X6_valueOf : zM := (yX6_valueOf, cX6_valueOf, 2, (some .int), { frames := 0, cells := 0, slots := 0, locals := 0 })
theorem zi_X6_valueOf : zCal zm_X6_valueOf 1 := ⟨zmem_1 4 (by decide +kernel) rfl, zmem_2 182 (by decide +kernel) rfl, by decide +kernel, by decide +kernel, by decide +kernel⟩
theorem zii_X6_valueOf : Cond.instanceMethod yX6_valueOf ∈ ztbl := zmem_2 180 (by decide +kernel) rfl
theorem zie_X6_valueOf : Cond.selects zm_X6_valueOf.1.cls yX6_valueOf yX6_valueOf ∈ ztbl := zmem_2 181 (by decide +kernel) rfl
abbrev zm_X10_times : zM := (yX10_times, cX10_times, 6, (some .int), { frames := 3, cells := 0, slots := 0, locals := 75 })
theorem zi_X10_times : zCal zm_X10_times 3 := ⟨zmem_1 1 (by decide +kernel) rfl, zmem_2 186 (by decide +kernel) rfl, by decide +kernel, by decide +kernel, by decide +kernel⟩
theorem zii_X10_times : Cond.instanceMethod yX10_times ∈ ztbl := zmem_2 184 (by decide +kernel) rfl
theorem zie_X10_times : Cond.selects zm_X10_times.1.cls yX10_times yX10_times ∈ ztbl := zmem_2 185 (by decide +kernel) rfl
abbrev zm_X7_makeProduct : zM := (yX7_makeProduct, cX7_makeProduct, 6, none, { frames := 2, cells := 0, slots := 0, locals := 50 })
theorem zi_X7_makeProduct : zCal zm_X7_makeProduct 4 := ⟨zmem_1 5 (by decide +kernel) rfl, zmem_2 190 (by decide +kernel) rfl, by decide +kernel, by decide +kernel, by decide +kernel⟩
theorem zii_X7_makeProduct : Cond.instanceMethod yX7_makeProduct ∈ ztbl := zmem_2 188 (by decide +kernel) rfl
theorem zie_X7_makeProduct : Cond.selects zm_X7_makeProduct.1.cls yX7_makeProduct yX7_makeProduct ∈ ztbl := zmem_2 189 (by decide +kernel) rfl
abbrev zm_X10_stretch : zM := (yX10_stretch, cX10_stretch, 4, (some .int), { frames := 3, cells := 0, slots := 0, locals := 74 })
theorem zi_X10_stretch : zCal zm_X10_stretch 3 := ⟨zmem_1 1 (by decide +kernel) rfl, zmem_2 194 (by decide +kernel) rfl, by decide +kernel, by decide +kernel, by decide +kernel⟩
theorem zii_X10_stretch : Cond.instanceMethod yX10_stretch ∈ ztbl := zmem_2 192 (by decide +kernel) rfl
theorem zie_X10_stretch : Cond.selects zm_X10_stretch.1.cls yX10_stretch yX10_stretch ∈ ztbl := zmem_2 193 (by decide +kernel) rfl
abbrev zm_X7_widen : zM := (yX7_widen, cX7_widen, 6, none, { frames := 2, cells := 0, slots := 0, locals := 49 })
theorem zi_X7_widen : zCal zm_X7_widen 3 := ⟨zmem_1 5 (by decide +kernel) rfl, zmem_2 198 (by decide +kernel) rfl, by decide +kernel, by decide +kernel, by decide +kernel⟩
theorem zii_X7_widen : Cond.instanceMethod yX7_widen ∈ ztbl := zmem_2 196 (by decide +kernel) rfl
theorem zie_X7_widen : Cond.selects zm_X7_widen.1.cls yX7_widen yX7_widen ∈ ztbl := zmem_2 197 (by decide +kernel) rfl
abbrev zm_X10_over : zM := (yX10_over, cX10_over, 3, (some .int), { frames := 3, cells := 0, slots := 0, locals := 74 })
theorem zi_X10_over : zCal zm_X10_over 2 := ⟨zmem_1 1 (by decide +kernel) rfl, zmem_2 202 (by decide +kernel) rfl, by decide +kernel, by decide +kernel, by decide +kernel⟩
theorem zii_X10_over : Cond.instanceMethod yX10_over ∈ ztbl := zmem_2 200 (by decide +kernel) rfl
theorem zie_X10_over : Cond.selects zm_X10_over.1.cls yX10_over yX10_over ∈ ztbl := zmem_2 201 (by decide +kernel) rfl
abbrev zm_X7_makeReciprocal : zM := (yX7_makeReciprocal, cX7_makeReciprocal, 4, none, { frames := 2, cells := 0, slots := 0, locals := 51 })
theorem zi_X7_makeReciprocal : zCal zm_X7_makeReciprocal 3 := ⟨zmem_1 5 (by decide +kernel) rfl, zmem_2 206 (by decide +kernel) rfl, by decide +kernel, by decide +kernel, by decide +kernel⟩
theorem zii_X7_makeReciprocal : Cond.instanceMethod yX7_makeReciprocal ∈ ztbl := zmem_2 204 (by decide +kernel) rfl
theorem zie_X7_makeReciprocal : Cond.selects zm_X7_makeReciprocal.1.cls yX7_makeReciprocal yX7_makeReciprocal ∈ ztbl := zmem_2 205 (by decide +kernel) rfl
abbrev zm_X10_power : zM := (yX10_power, cX10_power, 4, (some .int), { frames := 3, cells := 0, slots := 0, locals := 75 })
theorem zi_X10_power : zCal zm_X10_power 3 := ⟨zmem_1 1 (by decide +kernel) rfl, zmem_2 210 (by decide +kernel) rfl, by decide +kernel, by decide +kernel, by decide +kernel⟩
theorem zii_X10_power : Cond.instanceMethod yX10_power ∈ ztbl := zmem_2 208 (by decide +kernel) rfl
theorem zie_X10_power : Cond.selects zm_X10_power.1.cls yX10_power yX10_power ∈ ztbl := zmem_2 209 (by decide +kernel) rfl
abbrev zm_X7_makePower : zM := (yX7_makePower, cX7_makePower, 6, none, { frames := 2, cells := 0, slots := 0, locals := 50 })
theorem zi_X7_makePower : zCal zm_X7_makePower 4 := ⟨zmem_1 5 (by decide +kernel) rfl, zmem_2 214 (by decide +kernel) rfl, by decide +kernel, by decide +kernel, by decide +kernel⟩
theorem zii_X7_makePower : Cond.instanceMethod yX7_makePower ∈ ztbl := zmem_2 212 (by decide +kernel) rfl
theorem zie_X7_makePower : Cond.selects zm_X7_makePower.1.cls yX7_makePower yX7_makePower ∈ ztbl := zmem_2 213 (by decide +kernel) rfl
abbrev zm_X10_of : zM := (yX10_of, cX10_of, 5, (some .int), { frames := 1, cells := 0, slots := 0, locals := 21 })
theorem zi_X10_of : zCal zm_X10_of 2 := ⟨zmem_1 1 (by decide +kernel) rfl, zmem_2 219 (by decide +kernel) rfl, by decide +kernel, by decide +kernel, by decide +kernel⟩
theorem zii_X10_of : Cond.instanceMethod yX10_of ∈ ztbl := zmem_2 217 (by decide +kernel) rfl
theorem zie_X10_of : Cond.selects zm_X10_of.1.cls yX10_of yX10_of ∈ ztbl := zmem_2 218 (by decide +kernel) rfl
abbrev zm_X6_firstNonzero : zM := (yX6_firstNonzero, cX6_firstNonzero, 2, (some .int), { frames := 0, cells := 0, slots := 0, locals := 0 })
theorem zi_X6_firstNonzero : zCal zm_X6_firstNonzero 0 := ⟨zmem_1 4 (by decide +kernel) rfl, zmem_2 223 (by decide +kernel) rfl, by decide +kernel, by decide +kernel, by decide +kernel⟩
theorem zii_X6_firstNonzero : Cond.instanceMethod yX6_firstNonzero ∈ ztbl := zmem_2 221 (by decide +kernel) rfl
theorem zie_X6_firstNonzero : Cond.selects zm_X6_firstNonzero.1.cls yX6_firstNonzero yX6_firstNonzero ∈ ztbl := zmem_2 222 (by decide +kernel) rfl
abbrev zm_X10_coefficient : zM := (yX10_coefficient, cX10_coefficient, 3, (some .int), { frames := 1, cells := 0, slots := 0, locals := 21 })
theorem zi_X10_coefficient : zCal zm_X10_coefficient 2 := ⟨zmem_1 1 (by decide +kernel) rfl, zmem_2 227 (by decide +kernel) rfl, by decide +kernel, by decide +kernel, by decide +kernel⟩
theorem zii_X10_coefficient : Cond.instanceMethod yX10_coefficient ∈ ztbl := zmem_2 225 (by decide +kernel) rfl
theorem zie_X10_coefficient : Cond.selects zm_X10_coefficient.1.cls yX10_coefficient yX10_coefficient ∈ ztbl := zmem_2 226 (by decide +kernel) rfl
abbrev zm_X10_find : zM := (yX10_find, cX10_find, 6, (some .int), { frames := 5, cells := 0, slots := 0, locals := 123 })
theorem zi_X10_find : zCal zm_X10_find 4 := ⟨zmem_1 1 (by decide +kernel) rfl, zmem_2 233 (by decide +kernel) rfl, by decide +kernel, by decide +kernel, by decide +kernel⟩
theorem zii_X10_find : Cond.instanceMethod yX10_find ∈ ztbl := zmem_2 231 (by decide +kernel) rfl
theorem zie_X10_find : Cond.selects zm_X10_find.1.cls yX10_find yX10_find ∈ ztbl := zmem_2 232 (by decide +kernel) rfl
abbrev zm_X9_prepare : zM := (yX9_prepare, cX9_prepare, 5, none, { frames := 3, cells := 0, slots := 0, locals := 74 })
theorem zi_X9_prepare : zCal zm_X9_prepare 4 := ⟨zmem_1 6 (by decide +kernel) rfl, zmem_2 237 (by decide +kernel) rfl, by decide +kernel, by decide +kernel, by decide +kernel⟩
theorem zii_X9_prepare : Cond.instanceMethod yX9_prepare ∈ ztbl := zmem_2 235 (by decide +kernel) rfl
theorem zie_X9_prepare : Cond.selects zm_X9_prepare.1.cls yX9_prepare yX9_prepare ∈ ztbl := zmem_2 236 (by decide +kernel) rfl
abbrev zm_X9_fillPowers : zM := (yX9_fillPowers, cX9_fillPowers, 5, none, { frames := 2, cells := 0, slots := 0, locals := 50 })
theorem zi_X9_fillPowers : zCal zm_X9_fillPowers 3 := ⟨zmem_1 6 (by decide +kernel) rfl, zmem_3 2 (by decide +kernel) rfl, by decide +kernel, by decide +kernel, by decide +kernel⟩
theorem zii_X9_fillPowers : Cond.instanceMethod yX9_fillPowers ∈ ztbl := zmem_3 1 (by decide +kernel) rfl
theorem zie_X9_fillPowers : Cond.selects zm_X9_fillPowers.1.cls yX9_fillPowers yX9_fillPowers ∈ ztbl := zmemp 2 (by decide +kernel) rfl
abbrev zm_X1_search : zM := (yX1_search, cX1_search, 5, (some .int), { frames := 4, cells := 0, slots := 0, locals := 99 })
theorem zi_X1_search : zCal zm_X1_search 3 := ⟨zmem_1 7 (by decide +kernel) rfl, zmem_3 8 (by decide +kernel) rfl, by decide +kernel, by decide +kernel, by decide +kernel⟩
theorem zii_X1_search : Cond.instanceMethod yX1_search ∈ ztbl := zmem_3 6 (by decide +kernel) rfl
theorem zie_X1_search : Cond.selects zm_X1_search.1.cls yX1_search yX1_search ∈ ztbl := zmem_3 7 (by decide +kernel) rfl
abbrev zm_X1_listTerms : zM := (yX1_listTerms, cX1_listTerms, 4, none, { frames := 0, cells := 0, slots := 0, locals := 0 })
theorem zi_X1_listTerms : zCal zm_X1_listTerms 0 := ⟨zmem_1 7 (by decide +kernel) rfl, zmem_3 12 (by decide +kernel) rfl, by decide +kernel, by decide +kernel, by decide +kernel⟩
theorem zii_X1_listTerms : Cond.instanceMethod yX1_listTerms ∈ ztbl := zmem_3 11 (by decide +kernel) rfl
theorem zie_X1_listTerms : Cond.selects zm_X1_listTerms.1.cls yX1_listTerms yX1_listTerms ∈ ztbl := zmemp 3 (by decide +kernel) rfl
abbrev zm_X1_clearMatrix : zM := (yX1_clearMatrix, cX1_clearMatrix, 2, none, { frames := 1, cells := 0, slots := 0, locals := 23 })
theorem zi_X1_clearMatrix : zCal zm_X1_clearMatrix 0 := ⟨zmem_1 7 (by decide +kernel) rfl, zmem_3 16 (by decide +kernel) rfl, by decide +kernel, by decide +kernel, by decide +kernel⟩
theorem zii_X1_clearMatrix : Cond.instanceMethod yX1_clearMatrix ∈ ztbl := zmem_3 15 (by decide +kernel) rfl
theorem zie_X1_clearMatrix : Cond.selects zm_X1_clearMatrix.1.cls yX1_clearMatrix yX1_clearMatrix ∈ ztbl := zmemp 4 (by decide +kernel) rfl
abbrev zm_X1_addProduct : zM := (yX1_addProduct, cX1_addProduct, 7, none, { frames := 3, cells := 0, slots := 0, locals := 73 })
theorem zi_X1_addProduct : zCal zm_X1_addProduct 4 := ⟨zmem_1 7 (by decide +kernel) rfl, zmem_3 21 (by decide +kernel) rfl, by decide +kernel, by decide +kernel, by decide +kernel⟩
theorem zii_X1_addProduct : Cond.instanceMethod yX1_addProduct ∈ ztbl := zmem_3 20 (by decide +kernel) rfl
theorem zie_X1_addProduct : Cond.selects zm_X1_addProduct.1.cls yX1_addProduct yX1_addProduct ∈ ztbl := zmemp 5 (by decide +kernel) rfl
abbrev zm_X9_multiplyTerm : zM := (yX9_multiplyTerm, cX9_multiplyTerm, 4, (some .int), { frames := 2, cells := 0, slots := 0, locals := 50 })
theorem zi_X9_multiplyTerm : zCal zm_X9_multiplyTerm 2 := ⟨zmem_1 6 (by decide +kernel) rfl, zmem_3 25 (by decide +kernel) rfl, by decide +kernel, by decide +kernel, by decide +kernel⟩
theorem zii_X9_multiplyTerm : Cond.instanceMethod yX9_multiplyTerm ∈ ztbl := zmem_3 23 (by decide +kernel) rfl
theorem zie_X9_multiplyTerm : Cond.selects zm_X9_multiplyTerm.1.cls yX9_multiplyTerm yX9_multiplyTerm ∈ ztbl := zmem_3 24 (by decide +kernel) rfl
abbrev zm_X1_eliminate : zM := (yX1_eliminate, cX1_eliminate, 4, (some .int), { frames := 2, cells := 0, slots := 0, locals := 48 })
theorem zi_X1_eliminate : zCal zm_X1_eliminate 0 := ⟨zmem_1 7 (by decide +kernel) rfl, zmem_3 29 (by decide +kernel) rfl, by decide +kernel, by decide +kernel, by decide +kernel⟩
theorem zii_X1_eliminate : Cond.instanceMethod yX1_eliminate ∈ ztbl := zmem_3 28 (by decide +kernel) rfl
theorem zie_X1_eliminate : Cond.selects zm_X1_eliminate.1.cls yX1_eliminate yX1_eliminate ∈ ztbl := zmemp 6 (by decide +kernel) rfl
abbrev zm_X1_pivotRow : zM := (yX1_pivotRow, cX1_pivotRow, 4, (some .int), { frames := 0, cells := 0, slots := 0, locals := 0 })
theorem zi_X1_pivotRow : zCal zm_X1_pivotRow 2 := ⟨zmem_1 7 (by decide +kernel) rfl, zmem_3 33 (by decide +kernel) rfl, by decide +kernel, by decide +kernel, by decide +kernel⟩
theorem zii_X1_pivotRow : Cond.instanceMethod yX1_pivotRow ∈ ztbl := zmem_3 32 (by decide +kernel) rfl
theorem zie_X1_pivotRow : Cond.selects zm_X1_pivotRow.1.cls yX1_pivotRow yX1_pivotRow ∈ ztbl := zmemp 7 (by decide +kernel) rfl
abbrev zm_X1_swapRows : zM := (yX1_swapRows, cX1_swapRows, 6, none, { frames := 0, cells := 0, slots := 0, locals := 0 })
theorem zi_X1_swapRows : zCal zm_X1_swapRows 3 := ⟨zmem_1 7 (by decide +kernel) rfl, zmem_3 38 (by decide +kernel) rfl, by decide +kernel, by decide +kernel, by decide +kernel⟩
theorem zii_X1_swapRows : Cond.instanceMethod yX1_swapRows ∈ ztbl := zmem_3 37 (by decide +kernel) rfl
theorem zie_X1_swapRows : Cond.selects zm_X1_swapRows.1.cls yX1_swapRows yX1_swapRows ∈ ztbl := zmemp 8 (by decide +kernel) rfl
abbrev zm_X1_scaleRow : zM := (yX1_scaleRow, cX1_scaleRow, 5, none, { frames := 1, cells := 0, slots := 0, locals := 24 })
theorem zi_X1_scaleRow : zCal zm_X1_scaleRow 2 := ⟨zmem_1 7 (by decide +kernel) rfl, zmem_3 42 (by decide +kernel) rfl, by decide +kernel, by decide +kernel, by decide +kernel⟩
theorem zii_X1_scaleRow : Cond.instanceMethod yX1_scaleRow ∈ ztbl := zmem_3 41 (by decide +kernel) rfl
theorem zie_X1_scaleRow : Cond.selects zm_X1_scaleRow.1.cls yX1_scaleRow yX1_scaleRow ∈ ztbl := zmemp 9 (by decide +kernel) rfl
abbrev zm_X1_clearBelow : zM := (yX1_clearBelow, cX1_clearBelow, 8, none, { frames := 0, cells := 0, slots := 0, locals := 0 })
theorem zi_X1_clearBelow : zCal zm_X1_clearBelow 2 := ⟨zmem_1 7 (by decide +kernel) rfl, zmem_3 47 (by decide +kernel) rfl, by decide +kernel, by decide +kernel, by decide +kernel⟩
theorem zii_X1_clearBelow : Cond.instanceMethod yX1_clearBelow ∈ ztbl := zmem_3 46 (by decide +kernel) rfl
theorem zie_X1_clearBelow : Cond.selects zm_X1_clearBelow.1.cls yX1_clearBelow yX1_clearBelow ∈ ztbl := zmemp 10 (by decide +kernel) rfl
abbrev zm_X1_handOver : zM := (yX1_handOver, cX1_handOver, 3, none, { frames := 2, cells := 0, slots := 0, locals := 44 })
theorem zi_X1_handOver : zCal zm_X1_handOver 1 := ⟨zmem_1 7 (by decide +kernel) rfl, zmem_3 51 (by decide +kernel) rfl, by decide +kernel, by decide +kernel, by decide +kernel⟩
theorem zii_X1_handOver : Cond.instanceMethod yX1_handOver ∈ ztbl := zmem_3 49 (by decide +kernel) rfl
theorem zie_X1_handOver : Cond.selects zm_X1_handOver.1.cls yX1_handOver yX1_handOver ∈ ztbl := zmem_3 50 (by decide +kernel) rfl
abbrev zm_X1_solve : zM := (yX1_solve, cX1_solve, 4, none, { frames := 0, cells := 0, slots := 0, locals := 0 })
theorem zi_X1_solve : zCal zm_X1_solve 0 := ⟨zmem_1 7 (by decide +kernel) rfl, zmem_3 55 (by decide +kernel) rfl, by decide +kernel, by decide +kernel, by decide +kernel⟩
theorem zii_X1_solve : Cond.instanceMethod yX1_solve ∈ ztbl := zmem_3 54 (by decide +kernel) rfl
theorem zie_X1_solve : Cond.selects zm_X1_solve.1.cls yX1_solve yX1_solve ∈ ztbl := zmemp 11 (by decide +kernel) rfl
abbrev zm_X3_clear : zM := (yX3_clear, cX3_clear, 2, none, { frames := 1, cells := 0, slots := 0, locals := 23 })
theorem zi_X3_clear : zCal zm_X3_clear 1 := ⟨zmem_1 3 (by decide +kernel) rfl, zmem_3 59 (by decide +kernel) rfl, by decide +kernel, by decide +kernel, by decide +kernel⟩
theorem zii_X3_clear : Cond.instanceMethod yX3_clear ∈ ztbl := zmem_3 57 (by decide +kernel) rfl
theorem zie_X3_clear : Cond.selects zm_X3_clear.1.cls yX3_clear yX3_clear ∈ ztbl := zmem_3 58 (by decide +kernel) rfl
abbrev zm_X10_equation : zM := (yX10_equation, cX10_equation, 2, (some .int), { frames := 1, cells := 0, slots := 0, locals := 22 })
theorem zi_X10_equation : zCal zm_X10_equation 1 := ⟨zmem_1 1 (by decide +kernel) rfl, zmem_3 64 (by decide +kernel) rfl, by decide +kernel, by decide +kernel, by decide +kernel⟩
theorem zii_X10_equation : Cond.instanceMethod yX10_equation ∈ ztbl := zmem_3 62 (by decide +kernel) rfl
theorem zie_X10_equation : Cond.selects zm_X10_equation.1.cls yX10_equation yX10_equation ∈ ztbl := zmem_3 63 (by decide +kernel) rfl
abbrev zm_X3_isMissing : zM := (yX3_isMissing, cX3_isMissing, 1, (some .boolean), { frames := 0, cells := 0, slots := 0, locals := 0 })
theorem zi_X3_isMissing : zCal zm_X3_isMissing 0 := ⟨zmem_1 3 (by decide +kernel) rfl, zmem_3 68 (by decide +kernel) rfl, by decide +kernel, by decide +kernel, by decide +kernel⟩
theorem zii_X3_isMissing : Cond.instanceMethod yX3_isMissing ∈ ztbl := zmem_3 66 (by decide +kernel) rfl
theorem zie_X3_isMissing : Cond.selects zm_X3_isMissing.1.cls yX3_isMissing yX3_isMissing ∈ ztbl := zmem_3 67 (by decide +kernel) rfl
abbrev zm_X3_leadingTerm : zM := (yX3_leadingTerm, cX3_leadingTerm, 2, (some .int), { frames := 0, cells := 0, slots := 0, locals := 0 })
theorem zi_X3_leadingTerm : zCal zm_X3_leadingTerm 0 := ⟨zmem_1 3 (by decide +kernel) rfl, zmem_3 72 (by decide +kernel) rfl, by decide +kernel, by decide +kernel, by decide +kernel⟩
theorem zii_X3_leadingTerm : Cond.instanceMethod yX3_leadingTerm ∈ ztbl := zmem_3 70 (by decide +kernel) rfl
theorem zie_X3_leadingTerm : Cond.selects zm_X3_leadingTerm.1.cls yX3_leadingTerm yX3_leadingTerm ∈ ztbl := zmem_3 71 (by decide +kernel) rfl
abbrev zm_X3_isSymmetric : zM := (yX3_isSymmetric, cX3_isSymmetric, 3, (some .boolean), { frames := 0, cells := 0, slots := 0, locals := 0 })
theorem zi_X3_isSymmetric : zCal zm_X3_isSymmetric 0 := ⟨zmem_1 3 (by decide +kernel) rfl, zmem_3 76 (by decide +kernel) rfl, by decide +kernel, by decide +kernel, by decide +kernel⟩
theorem zii_X3_isSymmetric : Cond.instanceMethod yX3_isSymmetric ∈ ztbl := zmem_3 74 (by decide +kernel) rfl
theorem zie_X3_isSymmetric : Cond.selects zm_X3_isSymmetric.1.cls yX3_isSymmetric yX3_isSymmetric ∈ ztbl := zmem_3 75 (by decide +kernel) rfl
abbrev zm_X3_nonzeroCount : zM := (yX3_nonzeroCount, cX3_nonzeroCount, 3, (some .int), { frames := 0, cells := 0, slots := 0, locals := 0 })
theorem zi_X3_nonzeroCount : zCal zm_X3_nonzeroCount 0 := ⟨zmem_1 3 (by decide +kernel) rfl, zmem_3 80 (by decide +kernel) rfl, by decide +kernel, by decide +kernel, by decide +kernel⟩
theorem zii_X3_nonzeroCount : Cond.instanceMethod yX3_nonzeroCount ∈ ztbl := zmem_3 78 (by decide +kernel) rfl
theorem zie_X3_nonzeroCount : Cond.selects zm_X3_nonzeroCount.1.cls yX3_nonzeroCount yX3_nonzeroCount ∈ ztbl := zmem_3 79 (by decide +kernel) rfl
abbrev zm_X10_term : zM := (yX10_term, cX10_term, 3, (some .int), { frames := 1, cells := 0, slots := 0, locals := 22 })
theorem zi_X10_term : zCal zm_X10_term 2 := ⟨zmem_1 1 (by decide +kernel) rfl, zmem_3 84 (by decide +kernel) rfl, by decide +kernel, by decide +kernel, by decide +kernel⟩
theorem zii_X10_term : Cond.instanceMethod yX10_term ∈ ztbl := zmem_3 82 (by decide +kernel) rfl
theorem zie_X10_term : Cond.selects zm_X10_term.1.cls yX10_term yX10_term ∈ ztbl := zmem_3 83 (by decide +kernel) rfl
abbrev zm_X3_has : zM := (yX3_has, cX3_has, 3, (some .boolean), { frames := 0, cells := 0, slots := 0, locals := 0 })
theorem zi_X3_has : zCal zm_X3_has 2 := ⟨zmem_1 3 (by decide +kernel) rfl, zmem_3 88 (by decide +kernel) rfl, by decide +kernel, by decide +kernel, by decide +kernel⟩
theorem zii_X3_has : Cond.instanceMethod yX3_has ∈ ztbl := zmem_3 86 (by decide +kernel) rfl
theorem zie_X3_has : Cond.selects zm_X3_has.1.cls yX3_has yX3_has ∈ ztbl := zmem_3 87 (by decide +kernel) rfl
abbrev zm_X10_at : zM := (yX10_at, cX10_at, 3, (some .int), { frames := 1, cells := 0, slots := 0, locals := 27 })
theorem zi_X10_at : zCal zm_X10_at 2 := ⟨zmem_1 1 (by decide +kernel) rfl, zmem_3 92 (by decide +kernel) rfl, by decide +kernel, by decide +kernel, by decide +kernel⟩
theorem zii_X10_at : Cond.instanceMethod yX10_at ∈ ztbl := zmem_3 90 (by decide +kernel) rfl
theorem zie_X10_at : Cond.selects zm_X10_at.1.cls yX10_at yX10_at ∈ ztbl := zmem_3 91 (by decide +kernel) rfl
abbrev zm_X10_isValue : zM := (yX10_isValue, cX10_isValue, 2, (some .boolean), { frames := 0, cells := 0, slots := 0, locals := 0 })
theorem zi_X10_isValue : zCal zm_X10_isValue 1 := ⟨zmem_1 1 (by decide +kernel) rfl, zmem_3 96 (by decide +kernel) rfl, by decide +kernel, by decide +kernel, by decide +kernel⟩
theorem zii_X10_isValue : Cond.instanceMethod yX10_isValue ∈ ztbl := zmem_3 95 (by decide +kernel) rfl
theorem zie_X10_isValue : Cond.selects zm_X10_isValue.1.cls yX10_isValue yX10_isValue ∈ ztbl := zmemp 12 (by decide +kernel) rfl
abbrev zm_X3_valueOf : zM := (yX3_valueOf, cX3_valueOf, 8, (some .int), { frames := 0, cells := 0, slots := 0, locals := 0 })
theorem zi_X3_valueOf : zCal zm_X3_valueOf 3 := ⟨zmem_1 3 (by decide +kernel) rfl, zmem_3 100 (by decide +kernel) rfl, by decide +kernel, by decide +kernel, by decide +kernel⟩
theorem zii_X3_valueOf : Cond.instanceMethod yX3_valueOf ∈ ztbl := zmem_3 98 (by decide +kernel) rfl
theorem zie_X3_valueOf : Cond.selects zm_X3_valueOf.1.cls yX3_valueOf yX3_valueOf ∈ ztbl := zmem_3 99 (by decide +kernel) rfl
abbrev zm_X10_vanishes : zM := (yX10_vanishes, cX10_vanishes, 3, (some .int), { frames := 5, cells := 0, slots := 0, locals := 121 })
theorem zi_X10_vanishes : zCal zm_X10_vanishes 2 := ⟨zmem_1 1 (by decide +kernel) rfl, zmem_3 104 (by decide +kernel) rfl, by decide +kernel, by decide +kernel, by decide +kernel⟩
theorem zii_X10_vanishes : Cond.instanceMethod yX10_vanishes ∈ ztbl := zmem_3 102 (by decide +kernel) rfl
theorem zie_X10_vanishes : Cond.selects zm_X10_vanishes.1.cls yX10_vanishes yX10_vanishes ∈ ztbl := zmem_3 103 (by decide +kernel) rfl
abbrev zm_X9_isZeroFor : zM := (yX9_isZeroFor, cX9_isZeroFor, 4, (some .boolean), { frames := 4, cells := 0, slots := 0, locals := 98 })
theorem zi_X9_isZeroFor : zCal zm_X9_isZeroFor 1 := ⟨zmem_1 6 (by decide +kernel) rfl, zmem_3 108 (by decide +kernel) rfl, by decide +kernel, by decide +kernel, by decide +kernel⟩
theorem zii_X9_isZeroFor : Cond.instanceMethod yX9_isZeroFor ∈ ztbl := zmem_3 106 (by decide +kernel) rfl
theorem zie_X9_isZeroFor : Cond.selects zm_X9_isZeroFor.1.cls yX9_isZeroFor yX9_isZeroFor ∈ ztbl := zmem_3 107 (by decide +kernel) rfl
abbrev zm_X9_addTerm : zM := (yX9_addTerm, cX9_addTerm, 6, none, { frames := 3, cells := 0, slots := 0, locals := 73 })
theorem zi_X9_addTerm : zCal zm_X9_addTerm 3 := ⟨zmem_1 6 (by decide +kernel) rfl, zmem_3 112 (by decide +kernel) rfl, by decide +kernel, by decide +kernel, by decide +kernel⟩
theorem zii_X9_addTerm : Cond.instanceMethod yX9_addTerm ∈ ztbl := zmem_3 111 (by decide +kernel) rfl
theorem zie_X9_addTerm : Cond.selects zm_X9_addTerm.1.cls yX9_addTerm yX9_addTerm ∈ ztbl := zmemp 13 (by decide +kernel) rfl
abbrev zm_X10_neighbour : zM := (yX10_neighbour, cX10_neighbour, 4, (some .int), { frames := 5, cells := 0, slots := 0, locals := 120 })
theorem zi_X10_neighbour : zCal zm_X10_neighbour 2 := ⟨zmem_1 1 (by decide +kernel) rfl, zmem_3 117 (by decide +kernel) rfl, by decide +kernel, by decide +kernel, by decide +kernel⟩
theorem zii_X10_neighbour : Cond.instanceMethod yX10_neighbour ∈ ztbl := zmem_3 115 (by decide +kernel) rfl
theorem zie_X10_neighbour : Cond.selects zm_X10_neighbour.1.cls yX10_neighbour yX10_neighbour ∈ ztbl := zmem_3 116 (by decide +kernel) rfl
abbrev zm_X2_isDegenerate : zM := (yX2_isDegenerate, cX2_isDegenerate, 3, (some .boolean), { frames := 4, cells := 0, slots := 0, locals := 98 })
theorem zi_X2_isDegenerate : zCal zm_X2_isDegenerate 2 := ⟨zmem_1 8 (by decide +kernel) rfl, zmem_3 121 (by decide +kernel) rfl, by decide +kernel, by decide +kernel, by decide +kernel⟩
theorem zii_X2_isDegenerate : Cond.instanceMethod yX2_isDegenerate ∈ ztbl := zmem_3 119 (by decide +kernel) rfl
theorem zie_X2_isDegenerate : Cond.selects zm_X2_isDegenerate.1.cls yX2_isDegenerate yX2_isDegenerate ∈ ztbl := zmem_3 120 (by decide +kernel) rfl
abbrev zm_X2_explore : zM := (yX2_explore, cX2_explore, 3, none, { frames := 3, cells := 0, slots := 0, locals := 76 })
theorem zi_X2_explore : zCal zm_X2_explore 2 := ⟨zmem_1 8 (by decide +kernel) rfl, zmem_3 125 (by decide +kernel) rfl, by decide +kernel, by decide +kernel, by decide +kernel⟩
theorem zii_X2_explore : Cond.instanceMethod yX2_explore ∈ ztbl := zmem_3 124 (by decide +kernel) rfl
theorem zie_X2_explore : Cond.selects zm_X2_explore.1.cls yX2_explore yX2_explore ∈ ztbl := zmemp 14 (by decide +kernel) rfl
abbrev zm_X2_listNeighbours : zM := (yX2_listNeighbours, cX2_listNeighbours, 7, (some .int), { frames := 2, cells := 0, slots := 0, locals := 50 })
theorem zi_X2_listNeighbours : zCal zm_X2_listNeighbours 3 := ⟨zmem_1 8 (by decide +kernel) rfl, zmem_3 129 (by decide +kernel) rfl, by decide +kernel, by decide +kernel, by decide +kernel⟩
theorem zii_X2_listNeighbours : Cond.instanceMethod yX2_listNeighbours ∈ ztbl := zmem_3 128 (by decide +kernel) rfl
theorem zie_X2_listNeighbours : Cond.selects zm_X2_listNeighbours.1.cls yX2_listNeighbours yX2_listNeighbours ∈ ztbl := zmemp 15 (by decide +kernel) rfl
abbrev zm_X2_fillLine : zM := (yX2_fillLine, cX2_fillLine, 6, (some .int), { frames := 1, cells := 0, slots := 0, locals := 25 })
theorem zi_X2_fillLine : zCal zm_X2_fillLine 3 := ⟨zmem_1 8 (by decide +kernel) rfl, zmem_3 133 (by decide +kernel) rfl, by decide +kernel, by decide +kernel, by decide +kernel⟩
theorem zii_X2_fillLine : Cond.instanceMethod yX2_fillLine ∈ ztbl := zmem_3 132 (by decide +kernel) rfl
theorem zie_X2_fillLine : Cond.selects zm_X2_fillLine.1.cls yX2_fillLine yX2_fillLine ∈ ztbl := zmemp 16 (by decide +kernel) rfl
abbrev zm_X3_lineCoefficient : zM := (yX3_lineCoefficient, cX3_lineCoefficient, 6, (some .int), { frames := 0, cells := 0, slots := 0, locals := 0 })
theorem zi_X3_lineCoefficient : zCal zm_X3_lineCoefficient 3 := ⟨zmem_1 3 (by decide +kernel) rfl, zmem_3 137 (by decide +kernel) rfl, by decide +kernel, by decide +kernel, by decide +kernel⟩
theorem zii_X3_lineCoefficient : Cond.instanceMethod yX3_lineCoefficient ∈ ztbl := zmem_3 135 (by decide +kernel) rfl
theorem zie_X3_lineCoefficient : Cond.selects zm_X3_lineCoefficient.1.cls yX3_lineCoefficient yX3_lineCoefficient ∈ ztbl := zmem_3 136 (by decide +kernel) rfl
abbrev zm_X2_lineAt : zM := (yX2_lineAt, cX2_lineAt, 6, (some .int), { frames := 0, cells := 0, slots := 0, locals := 0 })
theorem zi_X2_lineAt : zCal zm_X2_lineAt 3 := ⟨zmem_1 8 (by decide +kernel) rfl, zmem_3 141 (by decide +kernel) rfl, by decide +kernel, by decide +kernel, by decide +kernel⟩
theorem zii_X2_lineAt : Cond.instanceMethod yX2_lineAt ∈ ztbl := zmem_3 140 (by decide +kernel) rfl
theorem zie_X2_lineAt : Cond.selects zm_X2_lineAt.1.cls yX2_lineAt yX2_lineAt ∈ ztbl := zmemp 17 (by decide +kernel) rfl
abbrev zm_X2_divideLine : zM := (yX2_divideLine, cX2_divideLine, 7, none, { frames := 0, cells := 0, slots := 0, locals := 0 })
theorem zi_X2_divideLine : zCal zm_X2_divideLine 3 := ⟨zmem_1 8 (by decide +kernel) rfl, zmem_3 145 (by decide +kernel) rfl, by decide +kernel, by decide +kernel, by decide +kernel⟩
theorem zii_X2_divideLine : Cond.instanceMethod yX2_divideLine ∈ ztbl := zmem_3 144 (by decide +kernel) rfl
theorem zie_X2_divideLine : Cond.selects zm_X2_divideLine.1.cls yX2_divideLine yX2_divideLine ∈ ztbl := zmemp 18 (by decide +kernel) rfl
abbrev zm_X2_sizeOf : zM := (yX2_sizeOf, cX2_sizeOf, 3, (some .int), { frames := 4, cells := 0, slots := 0, locals := 98 })
theorem zi_X2_sizeOf : zCal zm_X2_sizeOf 2 := ⟨zmem_1 8 (by decide +kernel) rfl, zmem_3 149 (by decide +kernel) rfl, by decide +kernel, by decide +kernel, by decide +kernel⟩
theorem zii_X2_sizeOf : Cond.instanceMethod yX2_sizeOf ∈ ztbl := zmem_3 147 (by decide +kernel) rfl
theorem zie_X2_sizeOf : Cond.selects zm_X2_sizeOf.1.cls yX2_sizeOf yX2_sizeOf ∈ ztbl := zmem_3 148 (by decide +kernel) rfl
abbrev zm_X2_neighbourOf : zM := (yX2_neighbourOf, cX2_neighbourOf, 3, (some .int), { frames := 0, cells := 0, slots := 0, locals := 0 })
theorem zi_X2_neighbourOf : zCal zm_X2_neighbourOf 2 := ⟨zmem_1 8 (by decide +kernel) rfl, zmem_3 156 (by decide +kernel) rfl, by decide +kernel, by decide +kernel, by decide +kernel⟩
theorem zii_X2_neighbourOf : Cond.instanceMethod yX2_neighbourOf ∈ ztbl := zmem_3 154 (by decide +kernel) rfl
theorem zie_X2_neighbourOf : Cond.selects zm_X2_neighbourOf.1.cls yX2_neighbourOf yX2_neighbourOf ∈ ztbl := zmem_3 155 (by decide +kernel) rfl
abbrev zm_X10_far : zM := (yX10_far, cX10_far, 4, (some .int), { frames := 6, cells := 0, slots := 0, locals := 148 })
theorem zi_X10_far : zCal zm_X10_far 2 := ⟨zmem_1 1 (by decide +kernel) rfl, zmem_3 160 (by decide +kernel) rfl, by decide +kernel, by decide +kernel, by decide +kernel⟩
theorem zii_X10_far : Cond.instanceMethod yX10_far ∈ ztbl := zmem_3 158 (by decide +kernel) rfl
theorem zie_X10_far : Cond.selects zm_X10_far.1.cls yX10_far yX10_far ∈ ztbl := zmem_3 159 (by decide +kernel) rfl
abbrev zm_X2_walkFrom : zM := (yX2_walkFrom, cX2_walkFrom, 9, (some .int), { frames := 5, cells := 0, slots := 0, locals := 120 })
theorem zi_X2_walkFrom : zCal zm_X2_walkFrom 2 := ⟨zmem_1 8 (by decide +kernel) rfl, zmem_3 164 (by decide +kernel) rfl, by decide +kernel, by decide +kernel, by decide +kernel⟩
theorem zii_X2_walkFrom : Cond.instanceMethod yX2_walkFrom ∈ ztbl := zmem_3 162 (by decide +kernel) rfl
theorem zie_X2_walkFrom : Cond.selects zm_X2_walkFrom.1.cls yX2_walkFrom yX2_walkFrom ∈ ztbl := zmem_3 163 (by decide +kernel) rfl
abbrev zm_X2_distanceTo : zM := (yX2_distanceTo, cX2_distanceTo, 2, (some .int), { frames := 0, cells := 0, slots := 0, locals := 0 })
theorem zi_X2_distanceTo : zCal zm_X2_distanceTo 1 := ⟨zmem_1 8 (by decide +kernel) rfl, zmem_3 170 (by decide +kernel) rfl, by decide +kernel, by decide +kernel, by decide +kernel⟩
theorem zii_X2_distanceTo : Cond.instanceMethod yX2_distanceTo ∈ ztbl := zmem_3 168 (by decide +kernel) rfl
theorem zie_X2_distanceTo : Cond.selects zm_X2_distanceTo.1.cls yX2_distanceTo yX2_distanceTo ∈ ztbl := zmem_3 169 (by decide +kernel) rfl
abbrev zm_X10_reach : zM := (yX10_reach, cX10_reach, 2, (some .int), { frames := 6, cells := 0, slots := 0, locals := 148 })
theorem zi_X10_reach : zCal zm_X10_reach 1 := ⟨zmem_1 1 (by decide +kernel) rfl, zmem_3 174 (by decide +kernel) rfl, by decide +kernel, by decide +kernel, by decide +kernel⟩
theorem zii_X10_reach : Cond.instanceMethod yX10_reach ∈ ztbl := zmem_3 172 (by decide +kernel) rfl
theorem zie_X10_reach : Cond.selects zm_X10_reach.1.cls yX10_reach yX10_reach ∈ ztbl := zmem_3 173 (by decide +kernel) rfl
abbrev zm_X10_values : zM := (yX10_values, cX10_values, 2, (some .int), { frames := 6, cells := 0, slots := 0, locals := 143 })
theorem zi_X10_values : zCal zm_X10_values 1 := ⟨zmem_1 1 (by decide +kernel) rfl, zmem_3 178 (by decide +kernel) rfl, by decide +kernel, by decide +kernel, by decide +kernel⟩
theorem zii_X10_values : Cond.instanceMethod yX10_values ∈ ztbl := zmem_3 176 (by decide +kernel) rfl
theorem zie_X10_values : Cond.selects zm_X10_values.1.cls yX10_values yX10_values ∈ ztbl := zmem_3 177 (by decide +kernel) rfl
abbrev zm_X2_ownNeighbours : zM := (yX2_ownNeighbours, cX2_ownNeighbours, 4, (some .int), { frames := 5, cells := 0, slots := 0, locals := 120 })
theorem zi_X2_ownNeighbours : zCal zm_X2_ownNeighbours 1 := ⟨zmem_1 8 (by decide +kernel) rfl, zmem_3 182 (by decide +kernel) rfl, by decide +kernel, by decide +kernel, by decide +kernel⟩
theorem zii_X2_ownNeighbours : Cond.instanceMethod yX2_ownNeighbours ∈ ztbl := zmem_3 180 (by decide +kernel) rfl
theorem zie_X2_ownNeighbours : Cond.selects zm_X2_ownNeighbours.1.cls yX2_ownNeighbours yX2_ownNeighbours ∈ ztbl := zmem_3 181 (by decide +kernel) rfl
abbrev zm_X2_degenerateValues : zM := (yX2_degenerateValues, cX2_degenerateValues, 4, (some .int), { frames := 5, cells := 0, slots := 0, locals := 120 })
theorem zi_X2_degenerateValues : zCal zm_X2_degenerateValues 1 := ⟨zmem_1 8 (by decide +kernel) rfl, zmem_3 188 (by decide +kernel) rfl, by decide +kernel, by decide +kernel, by decide +kernel⟩
theorem zii_X2_degenerateValues : Cond.instanceMethod yX2_degenerateValues ∈ ztbl := zmem_3 186 (by decide +kernel) rfl
theorem zie_X2_degenerateValues : Cond.selects zm_X2_degenerateValues.1.cls yX2_degenerateValues yX2_degenerateValues ∈ ztbl := zmem_3 187 (by decide +kernel) rfl
abbrev zm_X2_lonelyValues : zM := (yX2_lonelyValues, cX2_lonelyValues, 4, (some .int), { frames := 5, cells := 0, slots := 0, locals := 120 })
theorem zi_X2_lonelyValues : zCal zm_X2_lonelyValues 1 := ⟨zmem_1 8 (by decide +kernel) rfl, zmem_3 192 (by decide +kernel) rfl, by decide +kernel, by decide +kernel, by decide +kernel⟩
theorem zii_X2_lonelyValues : Cond.instanceMethod yX2_lonelyValues ∈ ztbl := zmem_3 190 (by decide +kernel) rfl
theorem zie_X2_lonelyValues : Cond.selects zm_X2_lonelyValues.1.cls yX2_lonelyValues yX2_lonelyValues ∈ ztbl := zmem_3 191 (by decide +kernel) rfl
abbrev zm_X2_greatestSize : zM := (yX2_greatestSize, cX2_greatestSize, 4, (some .int), { frames := 5, cells := 0, slots := 0, locals := 120 })
theorem zi_X2_greatestSize : zCal zm_X2_greatestSize 1 := ⟨zmem_1 8 (by decide +kernel) rfl, zmem_3 196 (by decide +kernel) rfl, by decide +kernel, by decide +kernel, by decide +kernel⟩
theorem zii_X2_greatestSize : Cond.instanceMethod yX2_greatestSize ∈ ztbl := zmem_3 194 (by decide +kernel) rfl
theorem zie_X2_greatestSize : Cond.selects zm_X2_greatestSize.1.cls yX2_greatestSize yX2_greatestSize ∈ ztbl := zmem_3 195 (by decide +kernel) rfl
abbrev zm_X10_keep : zM := (yX10_keep, cX10_keep, 3, (some .int), { frames := 2, cells := 0, slots := 0, locals := 47 })
theorem zi_X10_keep : zCal zm_X10_keep 1 := ⟨zmem_1 1 (by decide +kernel) rfl, zmem_3 200 (by decide +kernel) rfl, by decide +kernel, by decide +kernel, by decide +kernel⟩
theorem zii_X10_keep : Cond.instanceMethod yX10_keep ∈ ztbl := zmem_3 198 (by decide +kernel) rfl
theorem zie_X10_keep : Cond.selects zm_X10_keep.1.cls yX10_keep yX10_keep ∈ ztbl := zmem_3 199 (by decide +kernel) rfl
abbrev zm_X10_isPlace : zM := (yX10_isPlace, cX10_isPlace, 1, (some .boolean), { frames := 0, cells := 0, slots := 0, locals := 0 })
theorem zi_X10_isPlace : zCal zm_X10_isPlace 1 := ⟨zmem_1 1 (by decide +kernel) rfl, zmem_3 203 (by decide +kernel) rfl, by decide +kernel, by decide +kernel, by decide +kernel⟩
theorem zis_X10_isPlace : Cond.static yX10_isPlace ∈ ztbl := zmem_3 202 (by decide +kernel) rfl
abbrev zm_X0_placeOf : zM := (yX0_placeOf, cX0_placeOf, 3, (some .int), { frames := 1, cells := 0, slots := 0, locals := 20 })
theorem zi_X0_placeOf : zCal zm_X0_placeOf 1 := ⟨zmem_1 2 (by decide +kernel) rfl, zmem_3 207 (by decide +kernel) rfl, by decide +kernel, by decide +kernel, by decide +kernel⟩
theorem zii_X0_placeOf : Cond.instanceMethod yX0_placeOf ∈ ztbl := zmem_3 205 (by decide +kernel) rfl
theorem zie_X0_placeOf : Cond.selects zm_X0_placeOf.1.cls yX0_placeOf yX0_placeOf ∈ ztbl := zmem_3 206 (by decide +kernel) rfl
abbrev zm_X3_copyFrom : zM := (yX3_copyFrom, cX3_copyFrom, 2, none, { frames := 1, cells := 0, slots := 0, locals := 26 })
theorem zi_X3_copyFrom : zCal zm_X3_copyFrom 1 := ⟨zmem_1 3 (by decide +kernel) rfl, zmem_3 212 (by decide +kernel) rfl, by decide +kernel, by decide +kernel, by decide +kernel⟩
theorem zii_X3_copyFrom : Cond.instanceMethod yX3_copyFrom ∈ ztbl := zmem_3 210 (by decide +kernel) rfl
theorem zie_X3_copyFrom : Cond.selects zm_X3_copyFrom.1.cls yX3_copyFrom yX3_copyFrom ∈ ztbl := zmem_3 211 (by decide +kernel) rfl
abbrev zm_X0_keptCount : zM := (yX0_keptCount, cX0_keptCount, 3, (some .int), { frames := 1, cells := 0, slots := 0, locals := 20 })
theorem zi_X0_keptCount : zCal zm_X0_keptCount 0 := ⟨zmem_1 2 (by decide +kernel) rfl, zmem_3 217 (by decide +kernel) rfl, by decide +kernel, by decide +kernel, by decide +kernel⟩
theorem zii_X0_keptCount : Cond.instanceMethod yX0_keptCount ∈ ztbl := zmem_3 215 (by decide +kernel) rfl
theorem zie_X0_keptCount : Cond.selects zm_X0_keptCount.1.cls yX0_keptCount yX0_keptCount ∈ ztbl := zmem_3 216 (by decide +kernel) rfl
abbrev zm_X10_drop : zM := (yX10_drop, cX10_drop, 2, (some .int), { frames := 1, cells := 0, slots := 0, locals := 20 })
theorem zi_X10_drop : zCal zm_X10_drop 1 := ⟨zmem_1 1 (by decide +kernel) rfl, zmem_3 221 (by decide +kernel) rfl, by decide +kernel, by decide +kernel, by decide +kernel⟩
theorem zii_X10_drop : Cond.instanceMethod yX10_drop ∈ ztbl := zmem_3 219 (by decide +kernel) rfl
theorem zie_X10_drop : Cond.selects zm_X10_drop.1.cls yX10_drop yX10_drop ∈ ztbl := zmem_3 220 (by decide +kernel) rfl
abbrev zm_X10_joined : zM := (yX10_joined, cX10_joined, 4, (some .long), { frames := 2, cells := 0, slots := 0, locals := 53 })
theorem zi_X10_joined : zCal zm_X10_joined 2 := ⟨zmem_1 1 (by decide +kernel) rfl, zmem_3 225 (by decide +kernel) rfl, by decide +kernel, by decide +kernel, by decide +kernel⟩
theorem zii_X10_joined : Cond.instanceMethod yX10_joined ∈ ztbl := zmem_3 223 (by decide +kernel) rfl
theorem zie_X10_joined : Cond.selects zm_X10_joined.1.cls yX10_joined yX10_joined ∈ ztbl := zmem_3 224 (by decide +kernel) rfl
abbrev zm_X0_commonDegree : zM := (yX0_commonDegree, cX0_commonDegree, 3, (some .int), { frames := 1, cells := 0, slots := 0, locals := 20 })
theorem zi_X0_commonDegree : zCal zm_X0_commonDegree 0 := ⟨zmem_1 2 (by decide +kernel) rfl, zmem_3 229 (by decide +kernel) rfl, by decide +kernel, by decide +kernel, by decide +kernel⟩
theorem zii_X0_commonDegree : Cond.instanceMethod yX0_commonDegree ∈ ztbl := zmem_3 227 (by decide +kernel) rfl
theorem zie_X0_commonDegree : Cond.selects zm_X0_commonDegree.1.cls yX0_commonDegree yX0_commonDegree ∈ ztbl := zmem_3 228 (by decide +kernel) rfl
abbrev zm_X0_joinAt : zM := (yX0_joinAt, cX0_joinAt, 10, (some .long), { frames := 1, cells := 0, slots := 0, locals := 24 })
theorem zi_X0_joinAt : zCal zm_X0_joinAt 1 := ⟨zmem_1 2 (by decide +kernel) rfl, zmem_3 234 (by decide +kernel) rfl, by decide +kernel, by decide +kernel, by decide +kernel⟩
theorem zii_X0_joinAt : Cond.instanceMethod yX0_joinAt ∈ ztbl := zmem_3 232 (by decide +kernel) rfl
theorem zie_X0_joinAt : Cond.selects zm_X0_joinAt.1.cls yX0_joinAt yX0_joinAt ∈ ztbl := zmem_3 233 (by decide +kernel) rfl
abbrev zm_X10_whole : zM := (yX10_whole, cX10_whole, 1, (some .long), { frames := 2, cells := 0, slots := 0, locals := 43 })
theorem zi_X10_whole : zCal zm_X10_whole 0 := ⟨zmem_1 1 (by decide +kernel) rfl, zmem_4 0 (by decide +kernel) rfl, by decide +kernel, by decide +kernel, by decide +kernel⟩
theorem zii_X10_whole : Cond.instanceMethod yX10_whole ∈ ztbl := zmem_3 238 (by decide +kernel) rfl
theorem zie_X10_whole : Cond.selects zm_X10_whole.1.cls yX10_whole yX10_whole ∈ ztbl := zmem_3 239 (by decide +kernel) rfl
abbrev zm_X0_keptProduct : zM := (yX0_keptProduct, cX0_keptProduct, 4, (some .long), { frames := 1, cells := 0, slots := 0, locals := 20 })
theorem zi_X0_keptProduct : zCal zm_X0_keptProduct 0 := ⟨zmem_1 2 (by decide +kernel) rfl, zmem_4 4 (by decide +kernel) rfl, by decide +kernel, by decide +kernel, by decide +kernel⟩
theorem zii_X0_keptProduct : Cond.instanceMethod yX0_keptProduct ∈ ztbl := zmem_4 2 (by decide +kernel) rfl
theorem zie_X0_keptProduct : Cond.selects zm_X0_keptProduct.1.cls yX0_keptProduct yX0_keptProduct ∈ ztbl := zmem_4 3 (by decide +kernel) rfl
abbrev zm_X10_feed : zM := (yX10_feed, cX10_feed, 2, (some .int), { frames := 1, cells := 0, slots := 0, locals := 21 })
theorem zi_X10_feed : zCal zm_X10_feed 1 := ⟨zmem_1 1 (by decide +kernel) rfl, zmem_4 8 (by decide +kernel) rfl, by decide +kernel, by decide +kernel, by decide +kernel⟩
theorem zii_X10_feed : Cond.instanceMethod yX10_feed ∈ ztbl := zmem_4 6 (by decide +kernel) rfl
theorem zie_X10_feed : Cond.selects zm_X10_feed.1.cls yX10_feed yX10_feed ∈ ztbl := zmem_4 7 (by decide +kernel) rfl
abbrev zm_X8_append : zM := (yX8_append, cX8_append, 2, none, { frames := 0, cells := 0, slots := 0, locals := 0 })
theorem zi_X8_append : zCal zm_X8_append 1 := ⟨zmem_1 10 (by decide +kernel) rfl, zmem_4 12 (by decide +kernel) rfl, by decide +kernel, by decide +kernel, by decide +kernel⟩
theorem zii_X8_append : Cond.instanceMethod yX8_append ∈ ztbl := zmem_4 10 (by decide +kernel) rfl
theorem zie_X8_append : Cond.selects zm_X8_append.1.cls yX8_append yX8_append ∈ ztbl := zmem_4 11 (by decide +kernel) rfl
abbrev zm_X10_deeds : zM := (yX10_deeds, cX10_deeds, 5, (some .int), { frames := 8, cells := 0, slots := 0, locals := 177 })
theorem zi_X10_deeds : zCal zm_X10_deeds 0 := ⟨zmem_1 1 (by decide +kernel) rfl, zmem_4 16 (by decide +kernel) rfl, by decide +kernel, by decide +kernel, by decide +kernel⟩
theorem zii_X10_deeds : Cond.instanceMethod yX10_deeds ∈ ztbl := zmem_4 14 (by decide +kernel) rfl
theorem zie_X10_deeds : Cond.selects zm_X10_deeds.1.cls yX10_deeds yX10_deeds ∈ ztbl := zmem_4 15 (by decide +kernel) rfl
abbrev zm_X5_parse : zM := (yX5_parse, cX5_parse, 3, (some .boolean), { frames := 7, cells := 0, slots := 0, locals := 155 })
theorem zi_X5_parse : zCal zm_X5_parse 1 := ⟨zmem_1 11 (by decide +kernel) rfl, zmem_4 20 (by decide +kernel) rfl, by decide +kernel, by decide +kernel, by decide +kernel⟩
theorem zii_X5_parse : Cond.instanceMethod yX5_parse ∈ ztbl := zmem_4 18 (by decide +kernel) rfl
theorem zie_X5_parse : Cond.selects zm_X5_parse.1.cls yX5_parse yX5_parse ∈ ztbl := zmem_4 19 (by decide +kernel) rfl
abbrev zm_X8_rewind : zM := (yX8_rewind, cX8_rewind, 1, none, { frames := 0, cells := 0, slots := 0, locals := 0 })
theorem zi_X8_rewind : zCal zm_X8_rewind 0 := ⟨zmem_1 10 (by decide +kernel) rfl, zmem_4 24 (by decide +kernel) rfl, by decide +kernel, by decide +kernel, by decide +kernel⟩
theorem zii_X8_rewind : Cond.instanceMethod yX8_rewind ∈ ztbl := zmem_4 22 (by decide +kernel) rfl
theorem zie_X8_rewind : Cond.selects zm_X8_rewind.1.cls yX8_rewind yX8_rewind ∈ ztbl := zmem_4 23 (by decide +kernel) rfl
abbrev zm_X5_parseCommand : zM := (yX5_parseCommand, cX5_parseCommand, 6, (some .boolean), { frames := 6, cells := 0, slots := 0, locals := 130 })
theorem zi_X5_parseCommand : zCal zm_X5_parseCommand 1 := ⟨zmem_1 11 (by decide +kernel) rfl, zmem_4 28 (by decide +kernel) rfl, by decide +kernel, by decide +kernel, by decide +kernel⟩
theorem zii_X5_parseCommand : Cond.instanceMethod yX5_parseCommand ∈ ztbl := zmem_4 27 (by decide +kernel) rfl
theorem zie_X5_parseCommand : Cond.selects zm_X5_parseCommand.1.cls yX5_parseCommand yX5_parseCommand ∈ ztbl := zmemp 19 (by decide +kernel) rfl
abbrev zm_X8_wordEnd : zM := (yX8_wordEnd, cX8_wordEnd, 2, (some .int), { frames := 0, cells := 0, slots := 0, locals := 0 })
theorem zi_X8_wordEnd : zCal zm_X8_wordEnd 0 := ⟨zmem_1 10 (by decide +kernel) rfl, zmem_4 32 (by decide +kernel) rfl, by decide +kernel, by decide +kernel, by decide +kernel⟩
theorem zii_X8_wordEnd : Cond.instanceMethod yX8_wordEnd ∈ ztbl := zmem_4 30 (by decide +kernel) rfl
theorem zie_X8_wordEnd : Cond.selects zm_X8_wordEnd.1.cls yX8_wordEnd yX8_wordEnd ∈ ztbl := zmem_4 31 (by decide +kernel) rfl
abbrev zm_X5_commandAt : zM := (yX5_commandAt, cX5_commandAt, 3, (some .int), { frames := 5, cells := 0, slots := 0, locals := 108 })
theorem zi_X5_commandAt : zCal zm_X5_commandAt 2 := ⟨zmem_1 11 (by decide +kernel) rfl, zmem_4 35 (by decide +kernel) rfl, by decide +kernel, by decide +kernel, by decide +kernel⟩
theorem zis_X5_commandAt : Cond.static yX5_commandAt ∈ ztbl := zmem_4 34 (by decide +kernel) rfl
abbrev zm_X5_wordOf : zM := (yX5_wordOf, cX5_wordOf, 1, (some (.object "java/lang/String")), { frames := 0, cells := 0, slots := 0, locals := 0 })
theorem zi_X5_wordOf : zCal zm_X5_wordOf 1 := ⟨zmem_1 11 (by decide +kernel) rfl, zmem_4 38 (by decide +kernel) rfl, by decide +kernel, by decide +kernel, by decide +kernel⟩
theorem zis_X5_wordOf : Cond.static yX5_wordOf ∈ ztbl := zmem_4 37 (by decide +kernel) rfl
abbrev zm_X8_hasWord : zM := (yX8_hasWord, cX8_hasWord, 4, (some .boolean), { frames := 4, cells := 0, slots := 0, locals := 85 })
theorem zi_X8_hasWord : zCal zm_X8_hasWord 2 := ⟨zmem_1 10 (by decide +kernel) rfl, zmem_4 51 (by decide +kernel) rfl, by decide +kernel, by decide +kernel, by decide +kernel⟩
theorem zii_X8_hasWord : Cond.instanceMethod yX8_hasWord ∈ ztbl := zmem_4 49 (by decide +kernel) rfl
theorem zie_X8_hasWord : Cond.selects zm_X8_hasWord.1.cls yX8_hasWord yX8_hasWord ∈ ztbl := zmem_4 50 (by decide +kernel) rfl
abbrev zm_J0_length_8abf5 : zM := (yJ0_length_8abf5, cJ0_length_8abf5, 1, (some .int), { frames := 1, cells := 0, slots := 0, locals := 20 })
theorem zi_J0_length_8abf5 : zCal zm_J0_length_8abf5 0 := ⟨zmem_1 16 (by decide +kernel) rfl, zmem_4 55 (by decide +kernel) rfl, by decide +kernel, by decide +kernel, by decide +kernel⟩
theorem zii_J0_length_8abf5 : Cond.instanceMethod yJ0_length_8abf5 ∈ ztbl := zmem_4 53 (by decide +kernel) rfl
theorem zie_J0_length_8abf5 : Cond.selects zm_J0_length_8abf5.1.cls yJ0_length_8abf5 yJ0_length_8abf5 ∈ ztbl := zmem_4 54 (by decide +kernel) rfl
abbrev zm_J0_coder_7d493 : zM := (yJ0_coder_7d493, cJ0_coder_7d493, 1, (some .byte), { frames := 0, cells := 0, slots := 0, locals := 0 })
theorem zi_J0_coder_7d493 : zCal zm_J0_coder_7d493 0 := ⟨zmem_1 16 (by decide +kernel) rfl, zmem_4 59 (by decide +kernel) rfl, by decide +kernel, by decide +kernel, by decide +kernel⟩
theorem zii_J0_coder_7d493 : Cond.instanceMethod yJ0_coder_7d493 ∈ ztbl := zmem_4 57 (by decide +kernel) rfl
theorem zie_J0_coder_7d493 : Cond.selects zm_J0_coder_7d493.1.cls yJ0_coder_7d493 yJ0_coder_7d493 ∈ ztbl := zmem_4 58 (by decide +kernel) rfl
abbrev zm_J0_charAt_5068e : zM := (yJ0_charAt_5068e, cJ0_charAt_5068e, 2, (some .char), { frames := 3, cells := 0, slots := 0, locals := 64 })
theorem zi_J0_charAt_5068e : zCal zm_J0_charAt_5068e 1 := ⟨zmem_1 16 (by decide +kernel) rfl, zmem_4 65 (by decide +kernel) rfl, by decide +kernel, by decide +kernel, by decide +kernel⟩
theorem zii_J0_charAt_5068e : Cond.instanceMethod yJ0_charAt_5068e ∈ ztbl := zmem_4 63 (by decide +kernel) rfl
theorem zie_J0_charAt_5068e : Cond.selects zm_J0_charAt_5068e.1.cls yJ0_charAt_5068e yJ0_charAt_5068e ∈ ztbl := zmem_4 64 (by decide +kernel) rfl
abbrev zm_J0_isLatin1_aae02 : zM := (yJ0_isLatin1_aae02, cJ0_isLatin1_aae02, 1, (some .boolean), { frames := 0, cells := 0, slots := 0, locals := 0 })
theorem zi_J0_isLatin1_aae02 : zCal zm_J0_isLatin1_aae02 0 := ⟨zmem_1 16 (by decide +kernel) rfl, zmem_4 69 (by decide +kernel) rfl, by decide +kernel, by decide +kernel, by decide +kernel⟩
theorem zii_J0_isLatin1_aae02 : Cond.instanceMethod yJ0_isLatin1_aae02 ∈ ztbl := zmem_4 67 (by decide +kernel) rfl
theorem zie_J0_isLatin1_aae02 : Cond.selects zm_J0_isLatin1_aae02.1.cls yJ0_isLatin1_aae02 yJ0_isLatin1_aae02 ∈ ztbl := zmem_4 68 (by decide +kernel) rfl
abbrev zm_J1_charAt_3b067 : zM := (yJ1_charAt_3b067, cJ1_charAt_3b067, 2, (some .char), { frames := 2, cells := 0, slots := 0, locals := 43 })
theorem zi_J1_charAt_3b067 : zCal zm_J1_charAt_3b067 2 := ⟨zmem_1 17 (by decide +kernel) rfl, zmem_4 72 (by decide +kernel) rfl, by decide +kernel, by decide +kernel, by decide +kernel⟩
theorem zis_J1_charAt_3b067 : Cond.static yJ1_charAt_3b067 ∈ ztbl := zmem_4 71 (by decide +kernel) rfl
abbrev zm_J0_checkIndex_df160 : zM := (yJ0_checkIndex_df160, cJ0_checkIndex_df160, 2, none, { frames := 1, cells := 0, slots := 0, locals := 22 })
theorem zi_J0_checkIndex_df160 : zCal zm_J0_checkIndex_df160 2 := ⟨zmem_1 16 (by decide +kernel) rfl, zmem_4 75 (by decide +kernel) rfl, by decide +kernel, by decide +kernel, by decide +kernel⟩
theorem zis_J0_checkIndex_df160 : Cond.static yJ0_checkIndex_df160 ∈ ztbl := zmem_4 74 (by decide +kernel) rfl
abbrev zm_J3_checkIndex_8e157 : zM := (yJ3_checkIndex_8e157, cJ3_checkIndex_8e157, 3, (some .int), { frames := 0, cells := 0, slots := 0, locals := 0 })
theorem zi_J3_checkIndex_8e157 : zCal zm_J3_checkIndex_8e157 3 := ⟨zmem_1 18 (by decide +kernel) rfl, zmem_4 80 (by decide +kernel) rfl, by decide +kernel, by decide +kernel, by decide +kernel⟩
theorem zis_J3_checkIndex_8e157 : Cond.static yJ3_checkIndex_8e157 ∈ ztbl := zmem_4 79 (by decide +kernel) rfl
abbrev zm_X5_numbersAfter : zM := (yX5_numbersAfter, cX5_numbersAfter, 1, (some .int), { frames := 0, cells := 0, slots := 0, locals := 0 })
theorem zi_X5_numbersAfter : zCal zm_X5_numbersAfter 1 := ⟨zmem_1 11 (by decide +kernel) rfl, zmem_4 102 (by decide +kernel) rfl, by decide +kernel, by decide +kernel, by decide +kernel⟩
theorem zis_X5_numbersAfter : Cond.static yX5_numbersAfter ∈ ztbl := zmem_4 101 (by decide +kernel) rfl
abbrev zm_X8_accept : zM := (yX8_accept, cX8_accept, 2, (some .boolean), { frames := 0, cells := 0, slots := 0, locals := 0 })
theorem zi_X8_accept : zCal zm_X8_accept 1 := ⟨zmem_1 10 (by decide +kernel) rfl, zmem_4 106 (by decide +kernel) rfl, by decide +kernel, by decide +kernel, by decide +kernel⟩
theorem zii_X8_accept : Cond.instanceMethod yX8_accept ∈ ztbl := zmem_4 104 (by decide +kernel) rfl
theorem zie_X8_accept : Cond.selects zm_X8_accept.1.cls yX8_accept yX8_accept ∈ ztbl := zmem_4 105 (by decide +kernel) rfl
abbrev zm_X8_acceptSignedNumber : zM := (yX8_acceptSignedNumber, cX8_acceptSignedNumber, 3, (some .boolean), { frames := 2, cells := 0, slots := 0, locals := 43 })
theorem zi_X8_acceptSignedNumber : zCal zm_X8_acceptSignedNumber 0 := ⟨zmem_1 10 (by decide +kernel) rfl, zmem_4 110 (by decide +kernel) rfl, by decide +kernel, by decide +kernel, by decide +kernel⟩
theorem zii_X8_acceptSignedNumber : Cond.instanceMethod yX8_acceptSignedNumber ∈ ztbl := zmem_4 108 (by decide +kernel) rfl
theorem zie_X8_acceptSignedNumber : Cond.selects zm_X8_acceptSignedNumber.1.cls yX8_acceptSignedNumber yX8_acceptSignedNumber ∈ ztbl := zmem_4 109 (by decide +kernel) rfl
abbrev zm_X8_acceptNumber : zM := (yX8_acceptNumber, cX8_acceptNumber, 2, (some .boolean), { frames := 1, cells := 0, slots := 0, locals := 22 })
theorem zi_X8_acceptNumber : zCal zm_X8_acceptNumber 0 := ⟨zmem_1 10 (by decide +kernel) rfl, zmem_4 115 (by decide +kernel) rfl, by decide +kernel, by decide +kernel, by decide +kernel⟩
theorem zii_X8_acceptNumber : Cond.instanceMethod yX8_acceptNumber ∈ ztbl := zmem_4 113 (by decide +kernel) rfl
theorem zie_X8_acceptNumber : Cond.selects zm_X8_acceptNumber.1.cls yX8_acceptNumber yX8_acceptNumber ∈ ztbl := zmem_4 114 (by decide +kernel) rfl
abbrev zm_X8_isAtDigit : zM := (yX8_isAtDigit, cX8_isAtDigit, 3, (some .boolean), { frames := 0, cells := 0, slots := 0, locals := 0 })
theorem zi_X8_isAtDigit : zCal zm_X8_isAtDigit 2 := ⟨zmem_1 10 (by decide +kernel) rfl, zmem_4 119 (by decide +kernel) rfl, by decide +kernel, by decide +kernel, by decide +kernel⟩
theorem zii_X8_isAtDigit : Cond.instanceMethod yX8_isAtDigit ∈ ztbl := zmem_4 117 (by decide +kernel) rfl
theorem zie_X8_isAtDigit : Cond.selects zm_X8_isAtDigit.1.cls yX8_isAtDigit yX8_isAtDigit ∈ ztbl := zmem_4 118 (by decide +kernel) rfl
abbrev zm_X8_isAtEnd : zM := (yX8_isAtEnd, cX8_isAtEnd, 1, (some .boolean), { frames := 0, cells := 0, slots := 0, locals := 0 })
theorem zi_X8_isAtEnd : zCal zm_X8_isAtEnd 0 := ⟨zmem_1 10 (by decide +kernel) rfl, zmem_4 123 (by decide +kernel) rfl, by decide +kernel, by decide +kernel, by decide +kernel⟩
theorem zii_X8_isAtEnd : Cond.instanceMethod yX8_isAtEnd ∈ ztbl := zmem_4 121 (by decide +kernel) rfl
theorem zie_X8_isAtEnd : Cond.selects zm_X8_isAtEnd.1.cls yX8_isAtEnd yX8_isAtEnd ∈ ztbl := zmem_4 122 (by decide +kernel) rfl
abbrev zm_X8_clear : zM := (yX8_clear, cX8_clear, 1, none, { frames := 0, cells := 0, slots := 0, locals := 0 })
theorem zi_X8_clear : zCal zm_X8_clear 0 := ⟨zmem_1 10 (by decide +kernel) rfl, zmem_4 127 (by decide +kernel) rfl, by decide +kernel, by decide +kernel, by decide +kernel⟩
theorem zii_X8_clear : Cond.instanceMethod yX8_clear ∈ ztbl := zmem_4 125 (by decide +kernel) rfl
theorem zie_X8_clear : Cond.selects zm_X8_clear.1.cls yX8_clear yX8_clear ∈ ztbl := zmem_4 126 (by decide +kernel) rfl
abbrev zm_X10_carryOut : zM := (yX10_carryOut, cX10_carryOut, 5, (some .int), { frames := 6, cells := 0, slots := 0, locals := 148 })
theorem zi_X10_carryOut : zCal zm_X10_carryOut 1 := ⟨zmem_1 1 (by decide +kernel) rfl, zmem_4 131 (by decide +kernel) rfl, by decide +kernel, by decide +kernel, by decide +kernel⟩
theorem zii_X10_carryOut : Cond.instanceMethod yX10_carryOut ∈ ztbl := zmem_4 130 (by decide +kernel) rfl
theorem zie_X10_carryOut : Cond.selects zm_X10_carryOut.1.cls yX10_carryOut yX10_carryOut ∈ ztbl := zmemp 20 (by decide +kernel) rfl
abbrev zm_X5_numberOf : zM := (yX5_numberOf, cX5_numberOf, 3, (some .int), { frames := 0, cells := 0, slots := 0, locals := 0 })
theorem zi_X5_numberOf : zCal zm_X5_numberOf 2 := ⟨zmem_1 11 (by decide +kernel) rfl, zmem_4 135 (by decide +kernel) rfl, by decide +kernel, by decide +kernel, by decide +kernel⟩
theorem zii_X5_numberOf : Cond.instanceMethod yX5_numberOf ∈ ztbl := zmem_4 133 (by decide +kernel) rfl
theorem zie_X5_numberOf : Cond.selects zm_X5_numberOf.1.cls yX5_numberOf yX5_numberOf ∈ ztbl := zmem_4 134 (by decide +kernel) rfl
abbrev zm_X10_read : zM := (yX10_read, cX10_read, 3, (some .int), { frames := 4, cells := 0, slots := 0, locals := 93 })
theorem zi_X10_read : zCal zm_X10_read 0 := ⟨zmem_1 1 (by decide +kernel) rfl, zmem_4 149 (by decide +kernel) rfl, by decide +kernel, by decide +kernel, by decide +kernel⟩
theorem zii_X10_read : Cond.instanceMethod yX10_read ∈ ztbl := zmem_4 147 (by decide +kernel) rfl
theorem zie_X10_read : Cond.selects zm_X10_read.1.cls yX10_read yX10_read ∈ ztbl := zmem_4 148 (by decide +kernel) rfl
abbrev zm_X4_parse : zM := (yX4_parse, cX4_parse, 5, (some .boolean), { frames := 3, cells := 0, slots := 0, locals := 69 })
theorem zi_X4_parse : zCal zm_X4_parse 2 := ⟨zmem_1 12 (by decide +kernel) rfl, zmem_4 153 (by decide +kernel) rfl, by decide +kernel, by decide +kernel, by decide +kernel⟩
theorem zii_X4_parse : Cond.instanceMethod yX4_parse ∈ ztbl := zmem_4 151 (by decide +kernel) rfl
theorem zie_X4_parse : Cond.selects zm_X4_parse.1.cls yX4_parse yX4_parse ∈ ztbl := zmem_4 152 (by decide +kernel) rfl
abbrev zm_X4_parseTerm : zM := (yX4_parseTerm, cX4_parseTerm, 7, (some .boolean), { frames := 2, cells := 0, slots := 0, locals := 43 })
theorem zi_X4_parseTerm : zCal zm_X4_parseTerm 2 := ⟨zmem_1 12 (by decide +kernel) rfl, zmem_4 159 (by decide +kernel) rfl, by decide +kernel, by decide +kernel, by decide +kernel⟩
theorem zii_X4_parseTerm : Cond.instanceMethod yX4_parseTerm ∈ ztbl := zmem_4 158 (by decide +kernel) rfl
theorem zie_X4_parseTerm : Cond.selects zm_X4_parseTerm.1.cls yX4_parseTerm yX4_parseTerm ∈ ztbl := zmemp 21 (by decide +kernel) rfl
abbrev zm_X8_acceptExponent : zM := (yX8_acceptExponent, cX8_acceptExponent, 1, (some .boolean), { frames := 1, cells := 0, slots := 0, locals := 22 })
theorem zi_X8_acceptExponent : zCal zm_X8_acceptExponent 0 := ⟨zmem_1 10 (by decide +kernel) rfl, zmem_4 165 (by decide +kernel) rfl, by decide +kernel, by decide +kernel, by decide +kernel⟩
theorem zii_X8_acceptExponent : Cond.instanceMethod yX8_acceptExponent ∈ ztbl := zmem_4 163 (by decide +kernel) rfl
theorem zie_X8_acceptExponent : Cond.selects zm_X8_acceptExponent.1.cls yX8_acceptExponent yX8_acceptExponent ∈ ztbl := zmem_4 164 (by decide +kernel) rfl
abbrev zm_X10_write : zM := (yX10_write, cX10_write, 1, (some .int), { frames := 4, cells := 0, slots := 0, locals := 89 })
theorem zi_X10_write : zCal zm_X10_write 0 := ⟨zmem_1 1 (by decide +kernel) rfl, zmem_4 171 (by decide +kernel) rfl, by decide +kernel, by decide +kernel, by decide +kernel⟩
theorem zii_X10_write : Cond.instanceMethod yX10_write ∈ ztbl := zmem_4 169 (by decide +kernel) rfl
theorem zie_X10_write : Cond.selects zm_X10_write.1.cls yX10_write yX10_write ∈ ztbl := zmem_4 170 (by decide +kernel) rfl
abbrev zm_X4_putDown : zM := (yX4_putDown, cX4_putDown, 5, none, { frames := 3, cells := 0, slots := 0, locals := 65 })
theorem zi_X4_putDown : zCal zm_X4_putDown 1 := ⟨zmem_1 12 (by decide +kernel) rfl, zmem_4 175 (by decide +kernel) rfl, by decide +kernel, by decide +kernel, by decide +kernel⟩
theorem zii_X4_putDown : Cond.instanceMethod yX4_putDown ∈ ztbl := zmem_4 173 (by decide +kernel) rfl
theorem zie_X4_putDown : Cond.selects zm_X4_putDown.1.cls yX4_putDown yX4_putDown ∈ ztbl := zmem_4 174 (by decide +kernel) rfl
abbrev zm_X4_putTerm : zM := (yX4_putTerm, cX4_putTerm, 4, none, { frames := 2, cells := 0, slots := 0, locals := 42 })
theorem zi_X4_putTerm : zCal zm_X4_putTerm 3 := ⟨zmem_1 12 (by decide +kernel) rfl, zmem_4 179 (by decide +kernel) rfl, by decide +kernel, by decide +kernel, by decide +kernel⟩
theorem zii_X4_putTerm : Cond.instanceMethod yX4_putTerm ∈ ztbl := zmem_4 178 (by decide +kernel) rfl
theorem zie_X4_putTerm : Cond.selects zm_X4_putTerm.1.cls yX4_putTerm yX4_putTerm ∈ ztbl := zmemp 22 (by decide +kernel) rfl
abbrev zm_X4_putByte : zM := (yX4_putByte, cX4_putByte, 2, none, { frames := 0, cells := 0, slots := 0, locals := 0 })
theorem zi_X4_putByte : zCal zm_X4_putByte 1 := ⟨zmem_1 12 (by decide +kernel) rfl, zmem_4 183 (by decide +kernel) rfl, by decide +kernel, by decide +kernel, by decide +kernel⟩
theorem zii_X4_putByte : Cond.instanceMethod yX4_putByte ∈ ztbl := zmem_4 182 (by decide +kernel) rfl
theorem zie_X4_putByte : Cond.selects zm_X4_putByte.1.cls yX4_putByte yX4_putByte ∈ ztbl := zmemp 23 (by decide +kernel) rfl
abbrev zm_X4_putNumber : zM := (yX4_putNumber, cX4_putNumber, 2, none, { frames := 1, cells := 0, slots := 0, locals := 21 })
theorem zi_X4_putNumber : zCal zm_X4_putNumber 1 := ⟨zmem_1 12 (by decide +kernel) rfl, zmem_4 187 (by decide +kernel) rfl, by decide +kernel, by decide +kernel, by decide +kernel⟩
theorem zii_X4_putNumber : Cond.instanceMethod yX4_putNumber ∈ ztbl := zmem_4 186 (by decide +kernel) rfl
theorem zie_X4_putNumber : Cond.selects zm_X4_putNumber.1.cls yX4_putNumber yX4_putNumber ∈ ztbl := zmemp 24 (by decide +kernel) rfl
abbrev zm_X10_paper : zM := (yX10_paper, cX10_paper, 2, (some .int), { frames := 0, cells := 0, slots := 0, locals := 0 })
theorem zi_X10_paper : zCal zm_X10_paper 1 := ⟨zmem_1 1 (by decide +kernel) rfl, zmem_4 191 (by decide +kernel) rfl, by decide +kernel, by decide +kernel, by decide +kernel⟩
theorem zii_X10_paper : Cond.instanceMethod yX10_paper ∈ ztbl := zmem_4 189 (by decide +kernel) rfl
theorem zie_X10_paper : Cond.selects zm_X10_paper.1.cls yX10_paper yX10_paper ∈ ztbl := zmem_4 190 (by decide +kernel) rfl
abbrev zm_X10_list : zM := (yX10_list, cX10_list, 3, (some .int), { frames := 1, cells := 0, slots := 0, locals := 23 })
theorem zi_X10_list : zCal zm_X10_list 2 := ⟨zmem_1 1 (by decide +kernel) rfl, zmem_4 195 (by decide +kernel) rfl, by decide +kernel, by decide +kernel, by decide +kernel⟩
theorem zii_X10_list : Cond.instanceMethod yX10_list ∈ ztbl := zmem_4 193 (by decide +kernel) rfl
theorem zie_X10_list : Cond.selects zm_X10_list.1.cls yX10_list yX10_list ∈ ztbl := zmem_4 194 (by decide +kernel) rfl
abbrev zm_X10_put : zM := (yX10_put, cX10_put, 4, (some .int), { frames := 1, cells := 0, slots := 0, locals := 20 })
theorem zi_X10_put : zCal zm_X10_put 3 := ⟨zmem_1 1 (by decide +kernel) rfl, zmem_4 199 (by decide +kernel) rfl, by decide +kernel, by decide +kernel, by decide +kernel⟩
theorem zii_X10_put : Cond.instanceMethod yX10_put ∈ ztbl := zmem_4 197 (by decide +kernel) rfl
theorem zie_X10_put : Cond.selects zm_X10_put.1.cls yX10_put yX10_put ∈ ztbl := zmem_4 198 (by decide +kernel) rfl
abbrev zm_X10_get : zM := (yX10_get, cX10_get, 3, (some .long), { frames := 1, cells := 0, slots := 0, locals := 20 })
theorem zi_X10_get : zCal zm_X10_get 2 := ⟨zmem_1 1 (by decide +kernel) rfl, zmem_4 203 (by decide +kernel) rfl, by decide +kernel, by decide +kernel, by decide +kernel⟩
theorem zii_X10_get : Cond.instanceMethod yX10_get ∈ ztbl := zmem_4 201 (by decide +kernel) rfl
theorem zie_X10_get : Cond.selects zm_X10_get.1.cls yX10_get yX10_get ∈ ztbl := zmem_4 202 (by decide +kernel) rfl
abbrev zm_X10_lay : zM := (yX10_lay, cX10_lay, 4, (some .int), { frames := 1, cells := 0, slots := 0, locals := 26 })
theorem zi_X10_lay : zCal zm_X10_lay 2 := ⟨zmem_1 1 (by decide +kernel) rfl, zmem_4 207 (by decide +kernel) rfl, by decide +kernel, by decide +kernel, by decide +kernel⟩
theorem zii_X10_lay : Cond.instanceMethod yX10_lay ∈ ztbl := zmem_4 205 (by decide +kernel) rfl
theorem zie_X10_lay : Cond.selects zm_X10_lay.1.cls yX10_lay yX10_lay ∈ ztbl := zmem_4 206 (by decide +kernel) rfl
abbrev zm_X10_judge : zM := (yX10_judge, cX10_judge, 5, (some .int), { frames := 1, cells := 0, slots := 0, locals := 20 })
theorem zi_X10_judge : zCal zm_X10_judge 2 := ⟨zmem_1 1 (by decide +kernel) rfl, zmem_4 213 (by decide +kernel) rfl, by decide +kernel, by decide +kernel, by decide +kernel⟩
theorem zii_X10_judge : Cond.instanceMethod yX10_judge ∈ ztbl := zmem_4 211 (by decide +kernel) rfl
theorem zie_X10_judge : Cond.selects zm_X10_judge.1.cls yX10_judge yX10_judge ∈ ztbl := zmem_4 212 (by decide +kernel) rfl
abbrev zm_X10_image : zM := (yX10_image, cX10_image, 1, (some .int), { frames := 4, cells := 0, slots := 0, locals := 92 })
theorem zi_X10_image : zCal zm_X10_image 0 := ⟨zmem_1 1 (by decide +kernel) rfl, zmem_4 217 (by decide +kernel) rfl, by decide +kernel, by decide +kernel, by decide +kernel⟩
theorem zii_X10_image : Cond.instanceMethod yX10_image ∈ ztbl := zmem_4 215 (by decide +kernel) rfl
theorem zie_X10_image : Cond.selects zm_X10_image.1.cls yX10_image yX10_image ∈ ztbl := zmem_4 216 (by decide +kernel) rfl
abbrev zm_X0_copyFrom : zM := (yX0_copyFrom, cX0_copyFrom, 3, none, { frames := 3, cells := 0, slots := 0, locals := 70 })
theorem zi_X0_copyFrom : zCal zm_X0_copyFrom 1 := ⟨zmem_1 2 (by decide +kernel) rfl, zmem_4 221 (by decide +kernel) rfl, by decide +kernel, by decide +kernel, by decide +kernel⟩
theorem zii_X0_copyFrom : Cond.instanceMethod yX0_copyFrom ∈ ztbl := zmem_4 219 (by decide +kernel) rfl
theorem zie_X0_copyFrom : Cond.selects zm_X0_copyFrom.1.cls yX0_copyFrom yX0_copyFrom ∈ ztbl := zmem_4 220 (by decide +kernel) rfl
abbrev zm_X6_copyFrom : zM := (yX6_copyFrom, cX6_copyFrom, 2, none, { frames := 2, cells := 0, slots := 0, locals := 49 })
theorem zi_X6_copyFrom : zCal zm_X6_copyFrom 1 := ⟨zmem_1 4 (by decide +kernel) rfl, zmem_4 226 (by decide +kernel) rfl, by decide +kernel, by decide +kernel, by decide +kernel⟩
theorem zii_X6_copyFrom : Cond.instanceMethod yX6_copyFrom ∈ ztbl := zmem_4 224 (by decide +kernel) rfl
theorem zie_X6_copyFrom : Cond.selects zm_X6_copyFrom.1.cls yX6_copyFrom yX6_copyFrom ∈ ztbl := zmem_4 225 (by decide +kernel) rfl
abbrev zm_X0_seriesCount : zM := (yX0_seriesCount, cX0_seriesCount, 3, (some .int), { frames := 1, cells := 0, slots := 0, locals := 20 })
theorem zi_X0_seriesCount : zCal zm_X0_seriesCount 0 := ⟨zmem_1 2 (by decide +kernel) rfl, zmem_4 231 (by decide +kernel) rfl, by decide +kernel, by decide +kernel, by decide +kernel⟩
theorem zii_X0_seriesCount : Cond.instanceMethod yX0_seriesCount ∈ ztbl := zmem_4 229 (by decide +kernel) rfl
theorem zie_X0_seriesCount : Cond.selects zm_X0_seriesCount.1.cls yX0_seriesCount yX0_seriesCount ∈ ztbl := zmem_4 230 (by decide +kernel) rfl
abbrev zm_X10_back : zM := (yX10_back, cX10_back, 1, (some .int), { frames := 4, cells := 0, slots := 0, locals := 92 })
theorem zi_X10_back : zCal zm_X10_back 0 := ⟨zmem_1 1 (by decide +kernel) rfl, zmem_4 236 (by decide +kernel) rfl, by decide +kernel, by decide +kernel, by decide +kernel⟩
theorem zii_X10_back : Cond.instanceMethod yX10_back ∈ ztbl := zmem_4 234 (by decide +kernel) rfl
theorem zie_X10_back : Cond.selects zm_X10_back.1.cls yX10_back yX10_back ∈ ztbl := zmem_4 235 (by decide +kernel) rfl
abbrev zm_X10_count : zM := (yX10_count, cX10_count, 2, (some .int), { frames := 2, cells := 0, slots := 0, locals := 42 })
theorem zi_X10_count : zCal zm_X10_count 1 := ⟨zmem_1 1 (by decide +kernel) rfl, zmem_5 0 (by decide +kernel) rfl, by decide +kernel, by decide +kernel, by decide +kernel⟩
theorem zii_X10_count : Cond.instanceMethod yX10_count ∈ ztbl := zmem_4 238 (by decide +kernel) rfl
theorem zie_X10_count : Cond.selects zm_X10_count.1.cls yX10_count yX10_count ∈ ztbl := zmem_4 239 (by decide +kernel) rfl
abbrev zm_X11_init : zM := (yX11_init, cX11_init, 1, none, { frames := 1, cells := 32, slots := 19363, locals := 20 })
theorem zi_X11_init : zCal zm_X11_init 0 := ⟨zmem_1 13 (by decide +kernel) rfl, zmem_5 5 (by decide +kernel) rfl, by decide +kernel, by decide +kernel, by decide +kernel⟩
theorem zii_X11_init : Cond.instanceMethod yX11_init ∈ ztbl := zmem_5 4 (by decide +kernel) rfl
abbrev zm_X11_prime : zM := (yX11_prime, cX11_prime, 4, (some .int), { frames := 2, cells := 0, slots := 0, locals := 47 })
theorem zi_X11_prime : zCal zm_X11_prime 1 := ⟨zmem_1 13 (by decide +kernel) rfl, zmem_5 161 (by decide +kernel) rfl, by decide +kernel, by decide +kernel, by decide +kernel⟩
theorem zii_X11_prime : Cond.instanceMethod yX11_prime ∈ ztbl := zmem_5 159 (by decide +kernel) rfl
theorem zie_X11_prime : Cond.selects zm_X11_prime.1.cls yX11_prime yX11_prime ∈ ztbl := zmem_5 160 (by decide +kernel) rfl
abbrev zm_X11_isPrime : zM := (yX11_isPrime, cX11_isPrime, 3, (some .boolean), { frames := 1, cells := 0, slots := 0, locals := 25 })
theorem zi_X11_isPrime : zCal zm_X11_isPrime 1 := ⟨zmem_1 13 (by decide +kernel) rfl, zmem_5 164 (by decide +kernel) rfl, by decide +kernel, by decide +kernel, by decide +kernel⟩
theorem zis_X11_isPrime : Cond.static yX11_isPrime ∈ ztbl := zmem_5 163 (by decide +kernel) rfl
abbrev zm_X11_in : zM := (yX11_in, cX11_in, 6, (some .boolean), { frames := 0, cells := 0, slots := 0, locals := 0 })
theorem zi_X11_in : zCal zm_X11_in 3 := ⟨zmem_1 13 (by decide +kernel) rfl, zmem_5 169 (by decide +kernel) rfl, by decide +kernel, by decide +kernel, by decide +kernel⟩
theorem zis_X11_in : Cond.static yX11_in ∈ ztbl := zmem_5 168 (by decide +kernel) rfl
abbrev zm_X11_j : zM := (yX11_j, cX11_j, 7, (some .int), { frames := 2, cells := 0, slots := 0, locals := 49 })
theorem zi_X11_j : zCal zm_X11_j 2 := ⟨zmem_1 13 (by decide +kernel) rfl, zmem_5 173 (by decide +kernel) rfl, by decide +kernel, by decide +kernel, by decide +kernel⟩
theorem zii_X11_j : Cond.instanceMethod yX11_j ∈ ztbl := zmem_5 171 (by decide +kernel) rfl
theorem zie_X11_j : Cond.selects zm_X11_j.1.cls yX11_j yX11_j ∈ ztbl := zmem_5 172 (by decide +kernel) rfl
abbrev zm_X11_isSeries : zM := (yX11_isSeries, cX11_isSeries, 1, (some .boolean), { frames := 1, cells := 0, slots := 0, locals := 25 })
theorem zi_X11_isSeries : zCal zm_X11_isSeries 1 := ⟨zmem_1 13 (by decide +kernel) rfl, zmem_5 176 (by decide +kernel) rfl, by decide +kernel, by decide +kernel, by decide +kernel⟩
theorem zis_X11_isSeries : Cond.static yX11_isSeries ∈ ztbl := zmem_5 175 (by decide +kernel) rfl
abbrev zm_X11_whole : zM := (yX11_whole, cX11_whole, 3, (some .int), { frames := 0, cells := 0, slots := 0, locals := 0 })
theorem zi_X11_whole : zCal zm_X11_whole 1 := ⟨zmem_1 13 (by decide +kernel) rfl, zmem_5 182 (by decide +kernel) rfl, by decide +kernel, by decide +kernel, by decide +kernel⟩
theorem zii_X11_whole : Cond.instanceMethod yX11_whole ∈ ztbl := zmem_5 181 (by decide +kernel) rfl
theorem zie_X11_whole : Cond.selects zm_X11_whole.1.cls yX11_whole yX11_whole ∈ ztbl := zmemp 25 (by decide +kernel) rfl
abbrev zm_X11_multiplies : zM := (yX11_multiplies, cX11_multiplies, 7, none, { frames := 0, cells := 0, slots := 0, locals := 0 })
theorem zi_X11_multiplies : zCal zm_X11_multiplies 3 := ⟨zmem_1 13 (by decide +kernel) rfl, zmem_5 186 (by decide +kernel) rfl, by decide +kernel, by decide +kernel, by decide +kernel⟩
theorem zii_X11_multiplies : Cond.instanceMethod yX11_multiplies ∈ ztbl := zmem_5 185 (by decide +kernel) rfl
theorem zie_X11_multiplies : Cond.selects zm_X11_multiplies.1.cls yX11_multiplies yX11_multiplies ∈ ztbl := zmemp 26 (by decide +kernel) rfl
abbrev zm_X11_lays : zM := (yX11_lays, cX11_lays, 4, none, { frames := 0, cells := 0, slots := 0, locals := 0 })
theorem zi_X11_lays : zCal zm_X11_lays 3 := ⟨zmem_1 13 (by decide +kernel) rfl, zmem_5 189 (by decide +kernel) rfl, by decide +kernel, by decide +kernel, by decide +kernel⟩
theorem zis_X11_lays : Cond.static yX11_lays ∈ ztbl := zmem_5 188 (by decide +kernel) rfl
abbrev zm_X11_divides : zM := (yX11_divides, cX11_divides, 8, none, { frames := 1, cells := 0, slots := 0, locals := 22 })
theorem zi_X11_divides : zCal zm_X11_divides 3 := ⟨zmem_1 13 (by decide +kernel) rfl, zmem_5 193 (by decide +kernel) rfl, by decide +kernel, by decide +kernel, by decide +kernel⟩
theorem zii_X11_divides : Cond.instanceMethod yX11_divides ∈ ztbl := zmem_5 192 (by decide +kernel) rfl
theorem zie_X11_divides : Cond.selects zm_X11_divides.1.cls yX11_divides yX11_divides ∈ ztbl := zmemp 27 (by decide +kernel) rfl
abbrev zm_X11_inverse : zM := (yX11_inverse, cX11_inverse, 3, (some .int), { frames := 0, cells := 0, slots := 0, locals := 0 })
theorem zi_X11_inverse : zCal zm_X11_inverse 1 := ⟨zmem_1 13 (by decide +kernel) rfl, zmem_5 197 (by decide +kernel) rfl, by decide +kernel, by decide +kernel, by decide +kernel⟩
theorem zii_X11_inverse : Cond.instanceMethod yX11_inverse ∈ ztbl := zmem_5 196 (by decide +kernel) rfl
theorem zie_X11_inverse : Cond.selects zm_X11_inverse.1.cls yX11_inverse yX11_inverse ∈ ztbl := zmemp 28 (by decide +kernel) rfl
abbrev zm_X11_becomes : zM := (yX11_becomes, cX11_becomes, 3, (some .int), { frames := 0, cells := 0, slots := 0, locals := 0 })
theorem zi_X11_becomes : zCal zm_X11_becomes 1 := ⟨zmem_1 13 (by decide +kernel) rfl, zmem_5 201 (by decide +kernel) rfl, by decide +kernel, by decide +kernel, by decide +kernel⟩
theorem zii_X11_becomes : Cond.instanceMethod yX11_becomes ∈ ztbl := zmem_5 200 (by decide +kernel) rfl
theorem zie_X11_becomes : Cond.selects zm_X11_becomes.1.cls yX11_becomes yX11_becomes ∈ ztbl := zmemp 29 (by decide +kernel) rfl
abbrev zm_X11_sum : zM := (yX11_sum, cX11_sum, 7, (some .int), { frames := 2, cells := 0, slots := 0, locals := 47 })
theorem zi_X11_sum : zCal zm_X11_sum 3 := ⟨zmem_1 13 (by decide +kernel) rfl, zmem_5 205 (by decide +kernel) rfl, by decide +kernel, by decide +kernel, by decide +kernel⟩
theorem zii_X11_sum : Cond.instanceMethod yX11_sum ∈ ztbl := zmem_5 203 (by decide +kernel) rfl
theorem zie_X11_sum : Cond.selects zm_X11_sum.1.cls yX11_sum yX11_sum ∈ ztbl := zmem_5 204 (by decide +kernel) rfl
abbrev zm_X11_isThere : zM := (yX11_isThere, cX11_isThere, 2, (some .boolean), { frames := 0, cells := 0, slots := 0, locals := 0 })
theorem zi_X11_isThere : zCal zm_X11_isThere 1 := ⟨zmem_1 13 (by decide +kernel) rfl, zmem_5 209 (by decide +kernel) rfl, by decide +kernel, by decide +kernel, by decide +kernel⟩
theorem zii_X11_isThere : Cond.instanceMethod yX11_isThere ∈ ztbl := zmem_5 208 (by decide +kernel) rfl
theorem zie_X11_isThere : Cond.selects zm_X11_isThere.1.cls yX11_isThere yX11_isThere ∈ ztbl := zmemp 30 (by decide +kernel) rfl
abbrev zm_X11_numberOf : zM := (yX11_numberOf, cX11_numberOf, 3, (some .int), { frames := 1, cells := 0, slots := 0, locals := 25 })
theorem zi_X11_numberOf : zCal zm_X11_numberOf 2 := ⟨zmem_1 13 (by decide +kernel) rfl, zmem_5 214 (by decide +kernel) rfl, by decide +kernel, by decide +kernel, by decide +kernel⟩
theorem zii_X11_numberOf : Cond.instanceMethod yX11_numberOf ∈ ztbl := zmem_5 213 (by decide +kernel) rfl
theorem zie_X11_numberOf : Cond.selects zm_X11_numberOf.1.cls yX11_numberOf yX11_numberOf ∈ ztbl := zmemp 31 (by decide +kernel) rfl
abbrev zm_X11_times : zM := (yX11_times, cX11_times, 4, (some .int), { frames := 2, cells := 0, slots := 0, locals := 45 })
theorem zi_X11_times : zCal zm_X11_times 3 := ⟨zmem_1 13 (by decide +kernel) rfl, zmem_5 218 (by decide +kernel) rfl, by decide +kernel, by decide +kernel, by decide +kernel⟩
theorem zii_X11_times : Cond.instanceMethod yX11_times ∈ ztbl := zmem_5 216 (by decide +kernel) rfl
theorem zie_X11_times : Cond.selects zm_X11_times.1.cls yX11_times yX11_times ∈ ztbl := zmem_5 217 (by decide +kernel) rfl
abbrev zm_X11_isStart : zM := (yX11_isStart, cX11_isStart, 1, (some .boolean), { frames := 1, cells := 0, slots := 0, locals := 25 })
theorem zi_X11_isStart : zCal zm_X11_isStart 1 := ⟨zmem_1 13 (by decide +kernel) rfl, zmem_5 221 (by decide +kernel) rfl, by decide +kernel, by decide +kernel, by decide +kernel⟩
theorem zis_X11_isStart : Cond.static yX11_isStart ∈ ztbl := zmem_5 220 (by decide +kernel) rfl
abbrev zm_X11_stretch : zM := (yX11_stretch, cX11_stretch, 5, (some .int), { frames := 2, cells := 0, slots := 0, locals := 45 })
theorem zi_X11_stretch : zCal zm_X11_stretch 3 := ⟨zmem_1 13 (by decide +kernel) rfl, zmem_5 227 (by decide +kernel) rfl, by decide +kernel, by decide +kernel, by decide +kernel⟩
theorem zii_X11_stretch : Cond.instanceMethod yX11_stretch ∈ ztbl := zmem_5 225 (by decide +kernel) rfl
theorem zie_X11_stretch : Cond.selects zm_X11_stretch.1.cls yX11_stretch yX11_stretch ∈ ztbl := zmem_5 226 (by decide +kernel) rfl
abbrev zm_X11_over : zM := (yX11_over, cX11_over, 4, (some .int), { frames := 2, cells := 0, slots := 0, locals := 49 })
theorem zi_X11_over : zCal zm_X11_over 2 := ⟨zmem_1 13 (by decide +kernel) rfl, zmem_5 232 (by decide +kernel) rfl, by decide +kernel, by decide +kernel, by decide +kernel⟩
theorem zii_X11_over : Cond.instanceMethod yX11_over ∈ ztbl := zmem_5 230 (by decide +kernel) rfl
theorem zie_X11_over : Cond.selects zm_X11_over.1.cls yX11_over yX11_over ∈ ztbl := zmem_5 231 (by decide +kernel) rfl
abbrev zm_X11_power : zM := (yX11_power, cX11_power, 4, (some .int), { frames := 2, cells := 0, slots := 0, locals := 50 })
theorem zi_X11_power : zCal zm_X11_power 3 := ⟨zmem_1 13 (by decide +kernel) rfl, zmem_5 236 (by decide +kernel) rfl, by decide +kernel, by decide +kernel, by decide +kernel⟩
theorem zii_X11_power : Cond.instanceMethod yX11_power ∈ ztbl := zmem_5 234 (by decide +kernel) rfl
theorem zie_X11_power : Cond.selects zm_X11_power.1.cls yX11_power yX11_power ∈ ztbl := zmem_5 235 (by decide +kernel) rfl
abbrev zm_X11_powers : zM := (yX11_powers, cX11_powers, 5, none, { frames := 1, cells := 0, slots := 0, locals := 26 })
theorem zi_X11_powers : zCal zm_X11_powers 3 := ⟨zmem_1 13 (by decide +kernel) rfl, zmem_6 0 (by decide +kernel) rfl, by decide +kernel, by decide +kernel, by decide +kernel⟩
theorem zii_X11_powers : Cond.instanceMethod yX11_powers ∈ ztbl := zmem_5 239 (by decide +kernel) rfl
theorem zie_X11_powers : Cond.selects zm_X11_powers.1.cls yX11_powers yX11_powers ∈ ztbl := zmemp 32 (by decide +kernel) rfl
abbrev zm_X11_of : zM := (yX11_of, cX11_of, 4, (some .int), { frames := 2, cells := 0, slots := 0, locals := 45 })
theorem zi_X11_of : zCal zm_X11_of 2 := ⟨zmem_1 13 (by decide +kernel) rfl, zmem_6 4 (by decide +kernel) rfl, by decide +kernel, by decide +kernel, by decide +kernel⟩
theorem zii_X11_of : Cond.instanceMethod yX11_of ∈ ztbl := zmem_6 2 (by decide +kernel) rfl
theorem zie_X11_of : Cond.selects zm_X11_of.1.cls yX11_of yX11_of ∈ ztbl := zmem_6 3 (by decide +kernel) rfl
abbrev zm_X11_coefficient : zM := (yX11_coefficient, cX11_coefficient, 3, (some .int), { frames := 2, cells := 0, slots := 0, locals := 47 })
theorem zi_X11_coefficient : zCal zm_X11_coefficient 2 := ⟨zmem_1 13 (by decide +kernel) rfl, zmem_6 9 (by decide +kernel) rfl, by decide +kernel, by decide +kernel, by decide +kernel⟩
theorem zii_X11_coefficient : Cond.instanceMethod yX11_coefficient ∈ ztbl := zmem_6 7 (by decide +kernel) rfl
theorem zie_X11_coefficient : Cond.selects zm_X11_coefficient.1.cls yX11_coefficient yX11_coefficient ∈ ztbl := zmem_6 8 (by decide +kernel) rfl
abbrev zm_X11_find : zM := (yX11_find, cX11_find, 7, (some .int), { frames := 3, cells := 0, slots := 0, locals := 75 })
theorem zi_X11_find : zCal zm_X11_find 4 := ⟨zmem_1 13 (by decide +kernel) rfl, zmem_6 13 (by decide +kernel) rfl, by decide +kernel, by decide +kernel, by decide +kernel⟩
theorem zii_X11_find : Cond.instanceMethod yX11_find ∈ ztbl := zmem_6 11 (by decide +kernel) rfl
theorem zie_X11_find : Cond.selects zm_X11_find.1.cls yX11_find yX11_find ∈ ztbl := zmem_6 12 (by decide +kernel) rfl
abbrev zm_X11_tellsPowers : zM := (yX11_tellsPowers, cX11_tellsPowers, 6, none, { frames := 2, cells := 0, slots := 0, locals := 50 })
theorem zi_X11_tellsPowers : zCal zm_X11_tellsPowers 3 := ⟨zmem_1 13 (by decide +kernel) rfl, zmem_6 18 (by decide +kernel) rfl, by decide +kernel, by decide +kernel, by decide +kernel⟩
theorem zii_X11_tellsPowers : Cond.instanceMethod yX11_tellsPowers ∈ ztbl := zmem_6 17 (by decide +kernel) rfl
theorem zie_X11_tellsPowers : Cond.selects zm_X11_tellsPowers.1.cls yX11_tellsPowers yX11_tellsPowers ∈ ztbl := zmemp 33 (by decide +kernel) rfl
abbrev zm_X11_tries : zM := (yX11_tries, cX11_tries, 6, none, { frames := 2, cells := 0, slots := 0, locals := 46 })
theorem zi_X11_tries : zCal zm_X11_tries 4 := ⟨zmem_1 13 (by decide +kernel) rfl, zmem_6 22 (by decide +kernel) rfl, by decide +kernel, by decide +kernel, by decide +kernel⟩
theorem zii_X11_tries : Cond.instanceMethod yX11_tries ∈ ztbl := zmem_6 21 (by decide +kernel) rfl
theorem zie_X11_tries : Cond.selects zm_X11_tries.1.cls yX11_tries yX11_tries ∈ ztbl := zmemp 34 (by decide +kernel) rfl
abbrev zm_X11_emptiesColumn : zM := (yX11_emptiesColumn, cX11_emptiesColumn, 2, none, { frames := 0, cells := 0, slots := 0, locals := 0 })
theorem zi_X11_emptiesColumn : zCal zm_X11_emptiesColumn 0 := ⟨zmem_1 13 (by decide +kernel) rfl, zmem_6 26 (by decide +kernel) rfl, by decide +kernel, by decide +kernel, by decide +kernel⟩
theorem zii_X11_emptiesColumn : Cond.instanceMethod yX11_emptiesColumn ∈ ztbl := zmem_6 25 (by decide +kernel) rfl
theorem zie_X11_emptiesColumn : Cond.selects zm_X11_emptiesColumn.1.cls yX11_emptiesColumn yX11_emptiesColumn ∈ ztbl := zmemp 35 (by decide +kernel) rfl
abbrev zm_X11_adds : zM := (yX11_adds, cX11_adds, 8, none, { frames := 0, cells := 0, slots := 0, locals := 0 })
theorem zi_X11_adds : zCal zm_X11_adds 3 := ⟨zmem_1 13 (by decide +kernel) rfl, zmem_6 30 (by decide +kernel) rfl, by decide +kernel, by decide +kernel, by decide +kernel⟩
theorem zii_X11_adds : Cond.instanceMethod yX11_adds ∈ ztbl := zmem_6 29 (by decide +kernel) rfl
theorem zie_X11_adds : Cond.selects zm_X11_adds.1.cls yX11_adds yX11_adds ∈ ztbl := zmemp 36 (by decide +kernel) rfl
abbrev zm_X11_place : zM := (yX11_place, cX11_place, 3, (some .int), { frames := 0, cells := 0, slots := 0, locals := 0 })
theorem zi_X11_place : zCal zm_X11_place 3 := ⟨zmem_1 13 (by decide +kernel) rfl, zmem_6 33 (by decide +kernel) rfl, by decide +kernel, by decide +kernel, by decide +kernel⟩
theorem zis_X11_place : Cond.static yX11_place ∈ ztbl := zmem_6 32 (by decide +kernel) rfl
abbrev zm_X11_comes : zM := (yX11_comes, cX11_comes, 4, (some .boolean), { frames := 1, cells := 0, slots := 0, locals := 23 })
theorem zi_X11_comes : zCal zm_X11_comes 0 := ⟨zmem_1 13 (by decide +kernel) rfl, zmem_6 37 (by decide +kernel) rfl, by decide +kernel, by decide +kernel, by decide +kernel⟩
theorem zii_X11_comes : Cond.instanceMethod yX11_comes ∈ ztbl := zmem_6 36 (by decide +kernel) rfl
theorem zie_X11_comes : Cond.selects zm_X11_comes.1.cls yX11_comes yX11_comes ∈ ztbl := zmemp 37 (by decide +kernel) rfl
abbrev zm_X11_lessens : zM := (yX11_lessens, cX11_lessens, 4, none, { frames := 0, cells := 0, slots := 0, locals := 0 })
theorem zi_X11_lessens : zCal zm_X11_lessens 1 := ⟨zmem_1 13 (by decide +kernel) rfl, zmem_6 41 (by decide +kernel) rfl, by decide +kernel, by decide +kernel, by decide +kernel⟩
theorem zii_X11_lessens : Cond.instanceMethod yX11_lessens ∈ ztbl := zmem_6 40 (by decide +kernel) rfl
theorem zie_X11_lessens : Cond.selects zm_X11_lessens.1.cls yX11_lessens yX11_lessens ∈ ztbl := zmemp 38 (by decide +kernel) rfl
abbrev zm_X11_firstOther : zM := (yX11_firstOther, cX11_firstOther, 2, (some .int), { frames := 0, cells := 0, slots := 0, locals := 0 })
theorem zi_X11_firstOther : zCal zm_X11_firstOther 0 := ⟨zmem_1 13 (by decide +kernel) rfl, zmem_6 45 (by decide +kernel) rfl, by decide +kernel, by decide +kernel, by decide +kernel⟩
theorem zii_X11_firstOther : Cond.instanceMethod yX11_firstOther ∈ ztbl := zmem_6 44 (by decide +kernel) rfl
theorem zie_X11_firstOther : Cond.selects zm_X11_firstOther.1.cls yX11_firstOther yX11_firstOther ∈ ztbl := zmemp 39 (by decide +kernel) rfl
abbrev zm_X11_equation : zM := (yX11_equation, cX11_equation, 7, (some .int), { frames := 2, cells := 0, slots := 0, locals := 44 })
theorem zi_X11_equation : zCal zm_X11_equation 1 := ⟨zmem_1 13 (by decide +kernel) rfl, zmem_6 49 (by decide +kernel) rfl, by decide +kernel, by decide +kernel, by decide +kernel⟩
theorem zii_X11_equation : Cond.instanceMethod yX11_equation ∈ ztbl := zmem_6 47 (by decide +kernel) rfl
theorem zie_X11_equation : Cond.selects zm_X11_equation.1.cls yX11_equation yX11_equation ∈ ztbl := zmem_6 48 (by decide +kernel) rfl
abbrev zm_X11_termAt : zM := (yX11_termAt, cX11_termAt, 3, (some .int), { frames := 1, cells := 0, slots := 0, locals := 22 })
theorem zi_X11_termAt : zCal zm_X11_termAt 2 := ⟨zmem_1 13 (by decide +kernel) rfl, zmem_6 54 (by decide +kernel) rfl, by decide +kernel, by decide +kernel, by decide +kernel⟩
theorem zii_X11_termAt : Cond.instanceMethod yX11_termAt ∈ ztbl := zmem_6 53 (by decide +kernel) rfl
theorem zie_X11_termAt : Cond.selects zm_X11_termAt.1.cls yX11_termAt yX11_termAt ∈ ztbl := zmemp 40 (by decide +kernel) rfl
abbrev zm_X11_term : zM := (yX11_term, cX11_term, 3, (some .int), { frames := 2, cells := 0, slots := 0, locals := 44 })
theorem zi_X11_term : zCal zm_X11_term 2 := ⟨zmem_1 13 (by decide +kernel) rfl, zmem_6 58 (by decide +kernel) rfl, by decide +kernel, by decide +kernel, by decide +kernel⟩
theorem zii_X11_term : Cond.instanceMethod yX11_term ∈ ztbl := zmem_6 56 (by decide +kernel) rfl
theorem zie_X11_term : Cond.selects zm_X11_term.1.cls yX11_term yX11_term ∈ ztbl := zmem_6 57 (by decide +kernel) rfl
abbrev zm_X11_at : zM := (yX11_at, cX11_at, 4, (some .int), { frames := 3, cells := 0, slots := 0, locals := 69 })
theorem zi_X11_at : zCal zm_X11_at 2 := ⟨zmem_1 13 (by decide +kernel) rfl, zmem_6 62 (by decide +kernel) rfl, by decide +kernel, by decide +kernel, by decide +kernel⟩
theorem zii_X11_at : Cond.instanceMethod yX11_at ∈ ztbl := zmem_6 60 (by decide +kernel) rfl
theorem zie_X11_at : Cond.selects zm_X11_at.1.cls yX11_at yX11_at ∈ ztbl := zmem_6 61 (by decide +kernel) rfl
abbrev zm_X11_isValue : zM := (yX11_isValue, cX11_isValue, 2, (some .boolean), { frames := 1, cells := 0, slots := 0, locals := 25 })
theorem zi_X11_isValue : zCal zm_X11_isValue 1 := ⟨zmem_1 13 (by decide +kernel) rfl, zmem_6 66 (by decide +kernel) rfl, by decide +kernel, by decide +kernel, by decide +kernel⟩
theorem zii_X11_isValue : Cond.instanceMethod yX11_isValue ∈ ztbl := zmem_6 65 (by decide +kernel) rfl
theorem zie_X11_isValue : Cond.selects zm_X11_isValue.1.cls yX11_isValue yX11_isValue ∈ ztbl := zmemp 41 (by decide +kernel) rfl
abbrev zm_X11_puts : zM := (yX11_puts, cX11_puts, 6, (some .boolean), { frames := 2, cells := 0, slots := 0, locals := 44 })
theorem zi_X11_puts : zCal zm_X11_puts 1 := ⟨zmem_1 13 (by decide +kernel) rfl, zmem_6 70 (by decide +kernel) rfl, by decide +kernel, by decide +kernel, by decide +kernel⟩
theorem zii_X11_puts : Cond.instanceMethod yX11_puts ∈ ztbl := zmem_6 69 (by decide +kernel) rfl
theorem zie_X11_puts : Cond.selects zm_X11_puts.1.cls yX11_puts yX11_puts ∈ ztbl := zmemp 42 (by decide +kernel) rfl
abbrev zm_X11_worth : zM := (yX11_worth, cX11_worth, 4, (some .int), { frames := 0, cells := 0, slots := 0, locals := 0 })
theorem zi_X11_worth : zCal zm_X11_worth 1 := ⟨zmem_1 13 (by decide +kernel) rfl, zmem_6 74 (by decide +kernel) rfl, by decide +kernel, by decide +kernel, by decide +kernel⟩
theorem zii_X11_worth : Cond.instanceMethod yX11_worth ∈ ztbl := zmem_6 73 (by decide +kernel) rfl
theorem zie_X11_worth : Cond.selects zm_X11_worth.1.cls yX11_worth yX11_worth ∈ ztbl := zmemp 43 (by decide +kernel) rfl
abbrev zm_X11_vanishes : zM := (yX11_vanishes, cX11_vanishes, 5, (some .int), { frames := 3, cells := 0, slots := 0, locals := 75 })
theorem zi_X11_vanishes : zCal zm_X11_vanishes 2 := ⟨zmem_1 13 (by decide +kernel) rfl, zmem_6 78 (by decide +kernel) rfl, by decide +kernel, by decide +kernel, by decide +kernel⟩
theorem zii_X11_vanishes : Cond.instanceMethod yX11_vanishes ∈ ztbl := zmem_6 76 (by decide +kernel) rfl
theorem zie_X11_vanishes : Cond.selects zm_X11_vanishes.1.cls yX11_vanishes yX11_vanishes ∈ ztbl := zmem_6 77 (by decide +kernel) rfl
abbrev zm_X11_neighbour : zM := (yX11_neighbour, cX11_neighbour, 3, (some .int), { frames := 4, cells := 0, slots := 0, locals := 93 })
theorem zi_X11_neighbour : zCal zm_X11_neighbour 2 := ⟨zmem_1 13 (by decide +kernel) rfl, zmem_6 82 (by decide +kernel) rfl, by decide +kernel, by decide +kernel, by decide +kernel⟩
theorem zii_X11_neighbour : Cond.instanceMethod yX11_neighbour ∈ ztbl := zmem_6 80 (by decide +kernel) rfl
theorem zie_X11_neighbour : Cond.selects zm_X11_neighbour.1.cls yX11_neighbour yX11_neighbour ∈ ztbl := zmem_6 81 (by decide +kernel) rfl
abbrev zm_X11_tellsNeighbours : zM := (yX11_tellsNeighbours, cX11_tellsNeighbours, 5, (some .boolean), { frames := 3, cells := 0, slots := 0, locals := 69 })
theorem zi_X11_tellsNeighbours : zCal zm_X11_tellsNeighbours 1 := ⟨zmem_1 13 (by decide +kernel) rfl, zmem_6 86 (by decide +kernel) rfl, by decide +kernel, by decide +kernel, by decide +kernel⟩
theorem zii_X11_tellsNeighbours : Cond.instanceMethod yX11_tellsNeighbours ∈ ztbl := zmem_6 85 (by decide +kernel) rfl
theorem zie_X11_tellsNeighbours : Cond.selects zm_X11_tellsNeighbours.1.cls yX11_tellsNeighbours yX11_tellsNeighbours ∈ ztbl := zmemp 44 (by decide +kernel) rfl
abbrev zm_X11_oftenOf : zM := (yX11_oftenOf, cX11_oftenOf, 6, (some .int), { frames := 1, cells := 0, slots := 0, locals := 23 })
theorem zi_X11_oftenOf : zCal zm_X11_oftenOf 1 := ⟨zmem_1 13 (by decide +kernel) rfl, zmem_6 90 (by decide +kernel) rfl, by decide +kernel, by decide +kernel, by decide +kernel⟩
theorem zii_X11_oftenOf : Cond.instanceMethod yX11_oftenOf ∈ ztbl := zmem_6 89 (by decide +kernel) rfl
theorem zie_X11_oftenOf : Cond.selects zm_X11_oftenOf.1.cls yX11_oftenOf yX11_oftenOf ∈ ztbl := zmemp 45 (by decide +kernel) rfl
abbrev zm_X11_far : zM := (yX11_far, cX11_far, 3, (some .int), { frames := 5, cells := 0, slots := 0, locals := 118 })
theorem zi_X11_far : zCal zm_X11_far 2 := ⟨zmem_1 13 (by decide +kernel) rfl, zmem_6 94 (by decide +kernel) rfl, by decide +kernel, by decide +kernel, by decide +kernel⟩
theorem zii_X11_far : Cond.instanceMethod yX11_far ∈ ztbl := zmem_6 92 (by decide +kernel) rfl
theorem zie_X11_far : Cond.selects zm_X11_far.1.cls yX11_far yX11_far ∈ ztbl := zmem_6 93 (by decide +kernel) rfl
abbrev zm_X11_tellsAway : zM := (yX11_tellsAway, cX11_tellsAway, 6, none, { frames := 4, cells := 0, slots := 0, locals := 93 })
theorem zi_X11_tellsAway : zCal zm_X11_tellsAway 1 := ⟨zmem_1 13 (by decide +kernel) rfl, zmem_6 98 (by decide +kernel) rfl, by decide +kernel, by decide +kernel, by decide +kernel⟩
theorem zii_X11_tellsAway : Cond.instanceMethod yX11_tellsAway ∈ ztbl := zmem_6 97 (by decide +kernel) rfl
theorem zie_X11_tellsAway : Cond.selects zm_X11_tellsAway.1.cls yX11_tellsAway yX11_tellsAway ∈ ztbl := zmemp 46 (by decide +kernel) rfl
abbrev zm_X11_reach : zM := (yX11_reach, cX11_reach, 4, (some .int), { frames := 5, cells := 0, slots := 0, locals := 118 })
theorem zi_X11_reach : zCal zm_X11_reach 1 := ⟨zmem_1 13 (by decide +kernel) rfl, zmem_6 102 (by decide +kernel) rfl, by decide +kernel, by decide +kernel, by decide +kernel⟩
theorem zii_X11_reach : Cond.instanceMethod yX11_reach ∈ ztbl := zmem_6 100 (by decide +kernel) rfl
theorem zie_X11_reach : Cond.selects zm_X11_reach.1.cls yX11_reach yX11_reach ∈ ztbl := zmem_6 101 (by decide +kernel) rfl
abbrev zm_X11_values : zM := (yX11_values, cX11_values, 10, (some .int), { frames := 4, cells := 0, slots := 0, locals := 93 })
theorem zi_X11_values : zCal zm_X11_values 1 := ⟨zmem_1 13 (by decide +kernel) rfl, zmem_6 106 (by decide +kernel) rfl, by decide +kernel, by decide +kernel, by decide +kernel⟩
theorem zii_X11_values : Cond.instanceMethod yX11_values ∈ ztbl := zmem_6 104 (by decide +kernel) rfl
theorem zie_X11_values : Cond.selects zm_X11_values.1.cls yX11_values yX11_values ∈ ztbl := zmem_6 105 (by decide +kernel) rfl
abbrev zm_X11_keep : zM := (yX11_keep, cX11_keep, 4, (some .int), { frames := 2, cells := 0, slots := 0, locals := 45 })
theorem zi_X11_keep : zCal zm_X11_keep 1 := ⟨zmem_1 13 (by decide +kernel) rfl, zmem_6 110 (by decide +kernel) rfl, by decide +kernel, by decide +kernel, by decide +kernel⟩
theorem zii_X11_keep : Cond.instanceMethod yX11_keep ∈ ztbl := zmem_6 108 (by decide +kernel) rfl
theorem zie_X11_keep : Cond.selects zm_X11_keep.1.cls yX11_keep yX11_keep ∈ ztbl := zmem_6 109 (by decide +kernel) rfl
abbrev zm_X11_isKept : zM := (yX11_isKept, cX11_isKept, 1, (some .boolean), { frames := 1, cells := 0, slots := 0, locals := 25 })
theorem zi_X11_isKept : zCal zm_X11_isKept 1 := ⟨zmem_1 13 (by decide +kernel) rfl, zmem_6 113 (by decide +kernel) rfl, by decide +kernel, by decide +kernel, by decide +kernel⟩
theorem zis_X11_isKept : Cond.static yX11_isKept ∈ ztbl := zmem_6 112 (by decide +kernel) rfl
abbrev zm_X11_keptPrime : zM := (yX11_keptPrime, cX11_keptPrime, 2, (some .int), { frames := 0, cells := 0, slots := 0, locals := 0 })
theorem zi_X11_keptPrime : zCal zm_X11_keptPrime 1 := ⟨zmem_1 13 (by decide +kernel) rfl, zmem_6 118 (by decide +kernel) rfl, by decide +kernel, by decide +kernel, by decide +kernel⟩
theorem zii_X11_keptPrime : Cond.instanceMethod yX11_keptPrime ∈ ztbl := zmem_6 117 (by decide +kernel) rfl
theorem zie_X11_keptPrime : Cond.selects zm_X11_keptPrime.1.cls yX11_keptPrime yX11_keptPrime ∈ ztbl := zmemp 47 (by decide +kernel) rfl
abbrev zm_X11_keptMany : zM := (yX11_keptMany, cX11_keptMany, 3, (some .int), { frames := 1, cells := 0, slots := 0, locals := 21 })
theorem zi_X11_keptMany : zCal zm_X11_keptMany 0 := ⟨zmem_1 13 (by decide +kernel) rfl, zmem_6 122 (by decide +kernel) rfl, by decide +kernel, by decide +kernel, by decide +kernel⟩
theorem zii_X11_keptMany : Cond.instanceMethod yX11_keptMany ∈ ztbl := zmem_6 121 (by decide +kernel) rfl
theorem zie_X11_keptMany : Cond.selects zm_X11_keptMany.1.cls yX11_keptMany yX11_keptMany ∈ ztbl := zmemp 48 (by decide +kernel) rfl
abbrev zm_X11_drop : zM := (yX11_drop, cX11_drop, 3, (some .int), { frames := 2, cells := 0, slots := 0, locals := 45 })
theorem zi_X11_drop : zCal zm_X11_drop 1 := ⟨zmem_1 13 (by decide +kernel) rfl, zmem_6 126 (by decide +kernel) rfl, by decide +kernel, by decide +kernel, by decide +kernel⟩
theorem zii_X11_drop : Cond.instanceMethod yX11_drop ∈ ztbl := zmem_6 124 (by decide +kernel) rfl
theorem zie_X11_drop : Cond.selects zm_X11_drop.1.cls yX11_drop yX11_drop ∈ ztbl := zmem_6 125 (by decide +kernel) rfl
abbrev zm_X11_whole_ : zM := (yX11_whole_, cX11_whole_, 4, (some .long), { frames := 2, cells := 0, slots := 0, locals := 43 })
theorem zi_X11_whole_ : zCal zm_X11_whole_ 0 := ⟨zmem_1 13 (by decide +kernel) rfl, zmem_6 130 (by decide +kernel) rfl, by decide +kernel, by decide +kernel, by decide +kernel⟩
theorem zii_X11_whole_ : Cond.instanceMethod yX11_whole_ ∈ ztbl := zmem_6 128 (by decide +kernel) rfl
theorem zie_X11_whole_ : Cond.selects zm_X11_whole_.1.cls yX11_whole_ yX11_whole_ ∈ ztbl := zmem_6 129 (by decide +kernel) rfl
abbrev zm_X11_joined : zM := (yX11_joined, cX11_joined, 12, (some .long), { frames := 2, cells := 0, slots := 0, locals := 44 })
theorem zi_X11_joined : zCal zm_X11_joined 2 := ⟨zmem_1 13 (by decide +kernel) rfl, zmem_6 135 (by decide +kernel) rfl, by decide +kernel, by decide +kernel, by decide +kernel⟩
theorem zii_X11_joined : Cond.instanceMethod yX11_joined ∈ ztbl := zmem_6 133 (by decide +kernel) rfl
theorem zie_X11_joined : Cond.selects zm_X11_joined.1.cls yX11_joined yX11_joined ∈ ztbl := zmem_6 134 (by decide +kernel) rfl
abbrev zm_X11_joinedDegree : zM := (yX11_joinedDegree, cX11_joinedDegree, 4, (some .int), { frames := 1, cells := 0, slots := 0, locals := 21 })
theorem zi_X11_joinedDegree : zCal zm_X11_joinedDegree 0 := ⟨zmem_1 13 (by decide +kernel) rfl, zmem_6 139 (by decide +kernel) rfl, by decide +kernel, by decide +kernel, by decide +kernel⟩
theorem zii_X11_joinedDegree : Cond.instanceMethod yX11_joinedDegree ∈ ztbl := zmem_6 138 (by decide +kernel) rfl
theorem zie_X11_joinedDegree : Cond.selects zm_X11_joinedDegree.1.cls yX11_joinedDegree yX11_joinedDegree ∈ ztbl := zmemp 49 (by decide +kernel) rfl
abbrev zm_X11_feed : zM := (yX11_feed, cX11_feed, 2, (some .int), { frames := 1, cells := 0, slots := 0, locals := 25 })
theorem zi_X11_feed : zCal zm_X11_feed 1 := ⟨zmem_1 13 (by decide +kernel) rfl, zmem_6 143 (by decide +kernel) rfl, by decide +kernel, by decide +kernel, by decide +kernel⟩
theorem zii_X11_feed : Cond.instanceMethod yX11_feed ∈ ztbl := zmem_6 141 (by decide +kernel) rfl
theorem zie_X11_feed : Cond.selects zm_X11_feed.1.cls yX11_feed yX11_feed ∈ ztbl := zmem_6 142 (by decide +kernel) rfl
abbrev zm_X11_deeds : zM := (yX11_deeds, cX11_deeds, 5, (some .int), { frames := 5, cells := 0, slots := 0, locals := 125 })
theorem zi_X11_deeds : zCal zm_X11_deeds 0 := ⟨zmem_1 13 (by decide +kernel) rfl, zmem_6 148 (by decide +kernel) rfl, by decide +kernel, by decide +kernel, by decide +kernel⟩
theorem zii_X11_deeds : Cond.instanceMethod yX11_deeds ∈ ztbl := zmem_6 146 (by decide +kernel) rfl
theorem zie_X11_deeds : Cond.selects zm_X11_deeds.1.cls yX11_deeds yX11_deeds ∈ ztbl := zmem_6 147 (by decide +kernel) rfl
abbrev zm_X11_readsDeed : zM := (yX11_readsDeed, cX11_readsDeed, 8, (some .boolean), { frames := 2, cells := 0, slots := 0, locals := 45 })
theorem zi_X11_readsDeed : zCal zm_X11_readsDeed 1 := ⟨zmem_1 13 (by decide +kernel) rfl, zmem_6 152 (by decide +kernel) rfl, by decide +kernel, by decide +kernel, by decide +kernel⟩
theorem zii_X11_readsDeed : Cond.instanceMethod yX11_readsDeed ∈ ztbl := zmem_6 151 (by decide +kernel) rfl
theorem zie_X11_readsDeed : Cond.selects zm_X11_readsDeed.1.cls yX11_readsDeed yX11_readsDeed ∈ ztbl := zmemp 50 (by decide +kernel) rfl
abbrev zm_X11_isLetter : zM := (yX11_isLetter, cX11_isLetter, 1, (some .boolean), { frames := 1, cells := 0, slots := 0, locals := 25 })
theorem zi_X11_isLetter : zCal zm_X11_isLetter 0 := ⟨zmem_1 13 (by decide +kernel) rfl, zmem_6 156 (by decide +kernel) rfl, by decide +kernel, by decide +kernel, by decide +kernel⟩
theorem zii_X11_isLetter : Cond.instanceMethod yX11_isLetter ∈ ztbl := zmem_6 155 (by decide +kernel) rfl
theorem zie_X11_isLetter : Cond.selects zm_X11_isLetter.1.cls yX11_isLetter yX11_isLetter ∈ ztbl := zmemp 51 (by decide +kernel) rfl
abbrev zm_X11_here : zM := (yX11_here, cX11_here, 1, (some .int), { frames := 0, cells := 0, slots := 0, locals := 0 })
theorem zi_X11_here : zCal zm_X11_here 0 := ⟨zmem_1 13 (by decide +kernel) rfl, zmem_6 160 (by decide +kernel) rfl, by decide +kernel, by decide +kernel, by decide +kernel⟩
theorem zii_X11_here : Cond.instanceMethod yX11_here ∈ ztbl := zmem_6 159 (by decide +kernel) rfl
theorem zie_X11_here : Cond.selects zm_X11_here.1.cls yX11_here yX11_here ∈ ztbl := zmemp 52 (by decide +kernel) rfl
abbrev zm_X11_wordFrom : zM := (yX11_wordFrom, cX11_wordFrom, 6, (some .int), { frames := 0, cells := 0, slots := 0, locals := 0 })
theorem zi_X11_wordFrom : zCal zm_X11_wordFrom 1 := ⟨zmem_1 13 (by decide +kernel) rfl, zmem_6 166 (by decide +kernel) rfl, by decide +kernel, by decide +kernel, by decide +kernel⟩
theorem zii_X11_wordFrom : Cond.instanceMethod yX11_wordFrom ∈ ztbl := zmem_6 165 (by decide +kernel) rfl
theorem zie_X11_wordFrom : Cond.selects zm_X11_wordFrom.1.cls yX11_wordFrom yX11_wordFrom ∈ ztbl := zmemp 53 (by decide +kernel) rfl
abbrev zm_X11_isFigure : zM := (yX11_isFigure, cX11_isFigure, 1, (some .boolean), { frames := 1, cells := 0, slots := 0, locals := 25 })
theorem zi_X11_isFigure : zCal zm_X11_isFigure 0 := ⟨zmem_1 13 (by decide +kernel) rfl, zmem_6 170 (by decide +kernel) rfl, by decide +kernel, by decide +kernel, by decide +kernel⟩
theorem zii_X11_isFigure : Cond.instanceMethod yX11_isFigure ∈ ztbl := zmem_6 169 (by decide +kernel) rfl
theorem zie_X11_isFigure : Cond.selects zm_X11_isFigure.1.cls yX11_isFigure yX11_isFigure ∈ ztbl := zmemp 54 (by decide +kernel) rfl
abbrev zm_X11_does : zM := (yX11_does, cX11_does, 5, (some .int), { frames := 4, cells := 0, slots := 0, locals := 101 })
theorem zi_X11_does : zCal zm_X11_does 1 := ⟨zmem_1 13 (by decide +kernel) rfl, zmem_6 176 (by decide +kernel) rfl, by decide +kernel, by decide +kernel, by decide +kernel⟩
theorem zii_X11_does : Cond.instanceMethod yX11_does ∈ ztbl := zmem_6 175 (by decide +kernel) rfl
theorem zie_X11_does : Cond.selects zm_X11_does.1.cls yX11_does yX11_does ∈ ztbl := zmemp 55 (by decide +kernel) rfl
abbrev zm_X11_read : zM := (yX11_read, cX11_read, 4, (some .int), { frames := 3, cells := 0, slots := 0, locals := 69 })
theorem zi_X11_read : zCal zm_X11_read 0 := ⟨zmem_1 13 (by decide +kernel) rfl, zmem_6 189 (by decide +kernel) rfl, by decide +kernel, by decide +kernel, by decide +kernel⟩
theorem zii_X11_read : Cond.instanceMethod yX11_read ∈ ztbl := zmem_6 187 (by decide +kernel) rfl
theorem zie_X11_read : Cond.selects zm_X11_read.1.cls yX11_read yX11_read ∈ ztbl := zmem_6 188 (by decide +kernel) rfl
abbrev zm_X11_readsTerm : zM := (yX11_readsTerm, cX11_readsTerm, 4, (some .boolean), { frames := 2, cells := 0, slots := 0, locals := 46 })
theorem zi_X11_readsTerm : zCal zm_X11_readsTerm 0 := ⟨zmem_1 13 (by decide +kernel) rfl, zmem_6 193 (by decide +kernel) rfl, by decide +kernel, by decide +kernel, by decide +kernel⟩
theorem zii_X11_readsTerm : Cond.instanceMethod yX11_readsTerm ∈ ztbl := zmem_6 192 (by decide +kernel) rfl
theorem zie_X11_readsTerm : Cond.selects zm_X11_readsTerm.1.cls yX11_readsTerm yX11_readsTerm ∈ ztbl := zmemp 56 (by decide +kernel) rfl
abbrev zm_X11_readsPower : zM := (yX11_readsPower, cX11_readsPower, 2, (some .int), { frames := 1, cells := 0, slots := 0, locals := 25 })
theorem zi_X11_readsPower : zCal zm_X11_readsPower 1 := ⟨zmem_1 13 (by decide +kernel) rfl, zmem_6 197 (by decide +kernel) rfl, by decide +kernel, by decide +kernel, by decide +kernel⟩
theorem zii_X11_readsPower : Cond.instanceMethod yX11_readsPower ∈ ztbl := zmem_6 196 (by decide +kernel) rfl
theorem zie_X11_readsPower : Cond.selects zm_X11_readsPower.1.cls yX11_readsPower yX11_readsPower ∈ ztbl := zmemp 57 (by decide +kernel) rfl
abbrev zm_X11_write : zM := (yX11_write, cX11_write, 3, (some .int), { frames := 2, cells := 0, slots := 0, locals := 44 })
theorem zi_X11_write : zCal zm_X11_write 0 := ⟨zmem_1 13 (by decide +kernel) rfl, zmem_6 204 (by decide +kernel) rfl, by decide +kernel, by decide +kernel, by decide +kernel⟩
theorem zii_X11_write : Cond.instanceMethod yX11_write ∈ ztbl := zmem_6 202 (by decide +kernel) rfl
theorem zie_X11_write : Cond.selects zm_X11_write.1.cls yX11_write yX11_write ∈ ztbl := zmem_6 203 (by decide +kernel) rfl
abbrev zm_X11_writes : zM := (yX11_writes, cX11_writes, 2, none, { frames := 0, cells := 0, slots := 0, locals := 0 })
theorem zi_X11_writes : zCal zm_X11_writes 1 := ⟨zmem_1 13 (by decide +kernel) rfl, zmem_6 208 (by decide +kernel) rfl, by decide +kernel, by decide +kernel, by decide +kernel⟩
theorem zii_X11_writes : Cond.instanceMethod yX11_writes ∈ ztbl := zmem_6 207 (by decide +kernel) rfl
theorem zie_X11_writes : Cond.selects zm_X11_writes.1.cls yX11_writes yX11_writes ∈ ztbl := zmemp 58 (by decide +kernel) rfl
abbrev zm_X11_writesNumber : zM := (yX11_writesNumber, cX11_writesNumber, 2, none, { frames := 1, cells := 0, slots := 0, locals := 21 })
theorem zi_X11_writesNumber : zCal zm_X11_writesNumber 1 := ⟨zmem_1 13 (by decide +kernel) rfl, zmem_6 212 (by decide +kernel) rfl, by decide +kernel, by decide +kernel, by decide +kernel⟩
theorem zii_X11_writesNumber : Cond.instanceMethod yX11_writesNumber ∈ ztbl := zmem_6 211 (by decide +kernel) rfl
theorem zie_X11_writesNumber : Cond.selects zm_X11_writesNumber.1.cls yX11_writesNumber yX11_writesNumber ∈ ztbl := zmemp 59 (by decide +kernel) rfl
abbrev zm_X11_writesPower : zM := (yX11_writesPower, cX11_writesPower, 3, none, { frames := 1, cells := 0, slots := 0, locals := 21 })
theorem zi_X11_writesPower : zCal zm_X11_writesPower 2 := ⟨zmem_1 13 (by decide +kernel) rfl, zmem_6 216 (by decide +kernel) rfl, by decide +kernel, by decide +kernel, by decide +kernel⟩
theorem zii_X11_writesPower : Cond.instanceMethod yX11_writesPower ∈ ztbl := zmem_6 215 (by decide +kernel) rfl
theorem zie_X11_writesPower : Cond.selects zm_X11_writesPower.1.cls yX11_writesPower yX11_writesPower ∈ ztbl := zmemp 60 (by decide +kernel) rfl
abbrev zm_X11_paper : zM := (yX11_paper, cX11_paper, 2, (some .int), { frames := 1, cells := 0, slots := 0, locals := 25 })
theorem zi_X11_paper : zCal zm_X11_paper 1 := ⟨zmem_1 13 (by decide +kernel) rfl, zmem_6 220 (by decide +kernel) rfl, by decide +kernel, by decide +kernel, by decide +kernel⟩
theorem zii_X11_paper : Cond.instanceMethod yX11_paper ∈ ztbl := zmem_6 218 (by decide +kernel) rfl
theorem zie_X11_paper : Cond.selects zm_X11_paper.1.cls yX11_paper yX11_paper ∈ ztbl := zmem_6 219 (by decide +kernel) rfl
abbrev zm_X11_tell : zM := (yX11_tell, cX11_tell, 5, (some .int), { frames := 2, cells := 0, slots := 0, locals := 45 })
theorem zi_X11_tell : zCal zm_X11_tell 3 := ⟨zmem_1 13 (by decide +kernel) rfl, zmem_6 224 (by decide +kernel) rfl, by decide +kernel, by decide +kernel, by decide +kernel⟩
theorem zii_X11_tell : Cond.instanceMethod yX11_tell ∈ ztbl := zmem_6 222 (by decide +kernel) rfl
theorem zie_X11_tell : Cond.selects zm_X11_tell.1.cls yX11_tell yX11_tell ∈ ztbl := zmem_6 223 (by decide +kernel) rfl
abbrev zm_X11_isList : zM := (yX11_isList, cX11_isList, 1, (some .boolean), { frames := 1, cells := 0, slots := 0, locals := 25 })
theorem zi_X11_isList : zCal zm_X11_isList 1 := ⟨zmem_1 13 (by decide +kernel) rfl, zmem_6 227 (by decide +kernel) rfl, by decide +kernel, by decide +kernel, by decide +kernel⟩
theorem zis_X11_isList : Cond.static yX11_isList ∈ ztbl := zmem_6 226 (by decide +kernel) rfl
abbrev zm_X11_list : zM := (yX11_list, cX11_list, 4, (some .int), { frames := 2, cells := 0, slots := 0, locals := 45 })
theorem zi_X11_list : zCal zm_X11_list 2 := ⟨zmem_1 13 (by decide +kernel) rfl, zmem_6 231 (by decide +kernel) rfl, by decide +kernel, by decide +kernel, by decide +kernel⟩
theorem zii_X11_list : Cond.instanceMethod yX11_list ∈ ztbl := zmem_6 229 (by decide +kernel) rfl
theorem zie_X11_list : Cond.selects zm_X11_list.1.cls yX11_list yX11_list ∈ ztbl := zmem_6 230 (by decide +kernel) rfl
abbrev zm_X11_put : zM := (yX11_put, cX11_put, 4, (some .int), { frames := 2, cells := 0, slots := 0, locals := 45 })
theorem zi_X11_put : zCal zm_X11_put 3 := ⟨zmem_1 13 (by decide +kernel) rfl, zmem_6 235 (by decide +kernel) rfl, by decide +kernel, by decide +kernel, by decide +kernel⟩
theorem zii_X11_put : Cond.instanceMethod yX11_put ∈ ztbl := zmem_6 233 (by decide +kernel) rfl
theorem zie_X11_put : Cond.selects zm_X11_put.1.cls yX11_put yX11_put ∈ ztbl := zmem_6 234 (by decide +kernel) rfl
abbrev zm_X11_get : zM := (yX11_get, cX11_get, 3, (some .long), { frames := 2, cells := 0, slots := 0, locals := 45 })
theorem zi_X11_get : zCal zm_X11_get 2 := ⟨zmem_1 13 (by decide +kernel) rfl, zmem_6 239 (by decide +kernel) rfl, by decide +kernel, by decide +kernel, by decide +kernel⟩
theorem zii_X11_get : Cond.instanceMethod yX11_get ∈ ztbl := zmem_6 237 (by decide +kernel) rfl
theorem zie_X11_get : Cond.selects zm_X11_get.1.cls yX11_get yX11_get ∈ ztbl := zmem_6 238 (by decide +kernel) rfl
abbrev zm_X11_lay : zM := (yX11_lay, cX11_lay, 5, (some .int), { frames := 2, cells := 0, slots := 0, locals := 45 })
theorem zi_X11_lay : zCal zm_X11_lay 2 := ⟨zmem_1 13 (by decide +kernel) rfl, zmem_7 3 (by decide +kernel) rfl, by decide +kernel, by decide +kernel, by decide +kernel⟩
theorem zii_X11_lay : Cond.instanceMethod yX11_lay ∈ ztbl := zmem_7 1 (by decide +kernel) rfl
theorem zie_X11_lay : Cond.selects zm_X11_lay.1.cls yX11_lay yX11_lay ∈ ztbl := zmem_7 2 (by decide +kernel) rfl
abbrev zm_X11_judge : zM := (yX11_judge, cX11_judge, 4, (some .int), { frames := 2, cells := 0, slots := 0, locals := 45 })
theorem zi_X11_judge : zCal zm_X11_judge 2 := ⟨zmem_1 13 (by decide +kernel) rfl, zmem_7 7 (by decide +kernel) rfl, by decide +kernel, by decide +kernel, by decide +kernel⟩
theorem zii_X11_judge : Cond.instanceMethod yX11_judge ∈ ztbl := zmem_7 5 (by decide +kernel) rfl
theorem zie_X11_judge : Cond.selects zm_X11_judge.1.cls yX11_judge yX11_judge ∈ ztbl := zmem_7 6 (by decide +kernel) rfl
abbrev zm_X11_image : zM := (yX11_image, cX11_image, 1, (some .int), { frames := 2, cells := 0, slots := 0, locals := 43 })
theorem zi_X11_image : zCal zm_X11_image 0 := ⟨zmem_1 13 (by decide +kernel) rfl, zmem_7 11 (by decide +kernel) rfl, by decide +kernel, by decide +kernel, by decide +kernel⟩
theorem zii_X11_image : Cond.instanceMethod yX11_image ∈ ztbl := zmem_7 9 (by decide +kernel) rfl
theorem zie_X11_image : Cond.selects zm_X11_image.1.cls yX11_image yX11_image ∈ ztbl := zmem_7 10 (by decide +kernel) rfl
abbrev zm_X11_copies : zM := (yX11_copies, cX11_copies, 3, none, { frames := 0, cells := 0, slots := 0, locals := 0 })
theorem zi_X11_copies : zCal zm_X11_copies 2 := ⟨zmem_1 13 (by decide +kernel) rfl, zmem_7 14 (by decide +kernel) rfl, by decide +kernel, by decide +kernel, by decide +kernel⟩
theorem zis_X11_copies : Cond.static yX11_copies ∈ ztbl := zmem_7 13 (by decide +kernel) rfl
abbrev zm_X11_seriesMany : zM := (yX11_seriesMany, cX11_seriesMany, 3, (some .int), { frames := 1, cells := 0, slots := 0, locals := 21 })
theorem zi_X11_seriesMany : zCal zm_X11_seriesMany 0 := ⟨zmem_1 13 (by decide +kernel) rfl, zmem_7 18 (by decide +kernel) rfl, by decide +kernel, by decide +kernel, by decide +kernel⟩
theorem zii_X11_seriesMany : Cond.instanceMethod yX11_seriesMany ∈ ztbl := zmem_7 17 (by decide +kernel) rfl
theorem zie_X11_seriesMany : Cond.selects zm_X11_seriesMany.1.cls yX11_seriesMany yX11_seriesMany ∈ ztbl := zmemp 61 (by decide +kernel) rfl
abbrev zm_X11_back : zM := (yX11_back, cX11_back, 1, (some .int), { frames := 2, cells := 0, slots := 0, locals := 43 })
theorem zi_X11_back : zCal zm_X11_back 0 := ⟨zmem_1 13 (by decide +kernel) rfl, zmem_7 22 (by decide +kernel) rfl, by decide +kernel, by decide +kernel, by decide +kernel⟩
theorem zii_X11_back : Cond.instanceMethod yX11_back ∈ ztbl := zmem_7 20 (by decide +kernel) rfl
theorem zie_X11_back : Cond.selects zm_X11_back.1.cls yX11_back yX11_back ∈ ztbl := zmem_7 21 (by decide +kernel) rfl
abbrev zm_X11_count : zM := (yX11_count, cX11_count, 2, (some .int), { frames := 2, cells := 0, slots := 0, locals := 43 })
theorem zi_X11_count : zCal zm_X11_count 1 := ⟨zmem_1 13 (by decide +kernel) rfl, zmem_7 26 (by decide +kernel) rfl, by decide +kernel, by decide +kernel, by decide +kernel⟩
theorem zii_X11_count : Cond.instanceMethod yX11_count ∈ ztbl := zmem_7 24 (by decide +kernel) rfl
theorem zie_X11_count : Cond.selects zm_X11_count.1.cls yX11_count yX11_count ∈ ztbl := zmem_7 25 (by decide +kernel) rfl
theorem zl_10_5 : Cond.methodLink RX10 5 objectInit ∈ ztbl := zmem_1 25 (by decide +kernel) rfl
theorem zl_10_13 : Cond.methodLink RX10 13 yX0_init ∈ ztbl := zmem_1 30 (by decide +kernel) rfl
theorem zl_10_44 : Cond.methodLink RX10 44 yX2_init ∈ ztbl := zmem_1 207 (by decide +kernel) rfl
theorem zl_10_79 : Cond.methodLink RX10 79 yJ7_fill_53178 ∈ ztbl := zmem_2 54 (by decide +kernel) rfl
theorem zl_10_85 : Cond.methodLink RX10 85 yX10_isModulus ∈ ztbl := zmem_2 96 (by decide +kernel) rfl
theorem zl_10_93 : Cond.methodLink RX10 93 yX0_startAnew ∈ ztbl := zmem_2 99 (by decide +kernel) rfl
theorem zl_10_97 : Cond.methodLink RX10 97 yX2_forget ∈ ztbl := zmem_2 103 (by decide +kernel) rfl
theorem zl_10_100 : Cond.methodLink RX10 100 yX10_isSeries ∈ ztbl := zmem_2 111 (by decide +kernel) rfl
theorem zl_10_107 : Cond.methodLink RX10 107 yX7_makeInvariant ∈ ztbl := zmem_2 114 (by decide +kernel) rfl
theorem zl_10_111 : Cond.methodLink RX10 111 yX10_isList ∈ ztbl := zmem_2 147 (by decide +kernel) rfl
theorem zl_10_114 : Cond.methodLink RX10 114 yX10_isTooFar ∈ ztbl := zmem_2 150 (by decide +kernel) rfl
theorem zl_10_117 : Cond.methodLink RX10 117 yX7_reduce ∈ ztbl := zmem_2 153 (by decide +kernel) rfl
theorem zl_10_121 : Cond.methodLink RX10 121 yX6_isMissing ∈ ztbl := zmem_2 164 (by decide +kernel) rfl
theorem zl_10_127 : Cond.methodLink RX10 127 yX7_add ∈ ztbl := zmem_2 168 (by decide +kernel) rfl
theorem zl_10_137 : Cond.methodLink RX10 137 yX7_makeProduct ∈ ztbl := zmem_2 187 (by decide +kernel) rfl
theorem zl_10_140 : Cond.methodLink RX10 140 yX7_widen ∈ ztbl := zmem_2 195 (by decide +kernel) rfl
theorem zl_10_147 : Cond.methodLink RX10 147 yX7_makeReciprocal ∈ ztbl := zmem_2 203 (by decide +kernel) rfl
theorem zl_10_151 : Cond.methodLink RX10 151 yX7_makePower ∈ ztbl := zmem_2 211 (by decide +kernel) rfl
theorem zl_10_155 : Cond.methodLink RX10 155 yX6_firstNonzero ∈ ztbl := zmem_2 220 (by decide +kernel) rfl
theorem zl_10_159 : Cond.methodLink RX10 159 yX6_last ∈ ztbl := zmem_2 228 (by decide +kernel) rfl
theorem zl_10_162 : Cond.methodLink RX10 162 yX6_valueOf ∈ ztbl := zmem_2 229 (by decide +kernel) rfl
theorem zl_10_166 : Cond.methodLink RX10 166 yX9_prepare ∈ ztbl := zmem_2 234 (by decide +kernel) rfl
theorem zl_10_170 : Cond.methodLink RX10 170 yX1_search ∈ ztbl := zmem_3 5 (by decide +kernel) rfl
theorem zl_10_178 : Cond.methodLink RX10 178 yX1_handOver ∈ ztbl := zmem_3 48 (by decide +kernel) rfl
theorem zl_10_182 : Cond.methodLink RX10 182 yX3_isMissing ∈ ztbl := zmem_3 65 (by decide +kernel) rfl
theorem zl_10_188 : Cond.methodLink RX10 188 yX3_leadingTerm ∈ ztbl := zmem_3 69 (by decide +kernel) rfl
theorem zl_10_191 : Cond.methodLink RX10 191 yX3_isSymmetric ∈ ztbl := zmem_3 73 (by decide +kernel) rfl
theorem zl_10_194 : Cond.methodLink RX10 194 yX3_nonzeroCount ∈ ztbl := zmem_3 77 (by decide +kernel) rfl
theorem zl_10_197 : Cond.methodLink RX10 197 yX3_has ∈ ztbl := zmem_3 85 (by decide +kernel) rfl
theorem zl_10_202 : Cond.methodLink RX10 202 yX10_isValue ∈ ztbl := zmem_3 93 (by decide +kernel) rfl
theorem zl_10_205 : Cond.methodLink RX10 205 yX3_valueOf ∈ ztbl := zmem_3 97 (by decide +kernel) rfl
theorem zl_10_208 : Cond.methodLink RX10 208 yX9_isZeroFor ∈ ztbl := zmem_3 105 (by decide +kernel) rfl
theorem zl_10_212 : Cond.methodLink RX10 212 yX2_isDegenerate ∈ ztbl := zmem_3 118 (by decide +kernel) rfl
theorem zl_10_216 : Cond.methodLink RX10 216 yX2_sizeOf ∈ ztbl := zmem_3 146 (by decide +kernel) rfl
theorem zl_10_220 : Cond.methodLink RX10 220 yX2_neighbourOf ∈ ztbl := zmem_3 153 (by decide +kernel) rfl
theorem zl_10_224 : Cond.methodLink RX10 224 yX2_walkFrom ∈ ztbl := zmem_3 161 (by decide +kernel) rfl
theorem zl_10_227 : Cond.methodLink RX10 227 yX2_distanceTo ∈ ztbl := zmem_3 167 (by decide +kernel) rfl
theorem zl_10_230 : Cond.methodLink RX10 230 yX2_ownNeighbours ∈ ztbl := zmem_3 179 (by decide +kernel) rfl
theorem zl_10_234 : Cond.methodLink RX10 234 yX2_degenerateValues ∈ ztbl := zmem_3 185 (by decide +kernel) rfl
theorem zl_10_237 : Cond.methodLink RX10 237 yX2_lonelyValues ∈ ztbl := zmem_3 189 (by decide +kernel) rfl
theorem zl_10_240 : Cond.methodLink RX10 240 yX2_greatestSize ∈ ztbl := zmem_3 193 (by decide +kernel) rfl
theorem zl_10_243 : Cond.methodLink RX10 243 yX10_isPlace ∈ ztbl := zmem_3 201 (by decide +kernel) rfl
theorem zl_10_246 : Cond.methodLink RX10 246 yX0_placeOf ∈ ztbl := zmem_3 204 (by decide +kernel) rfl
theorem zl_10_253 : Cond.methodLink RX10 253 yX3_copyFrom ∈ ztbl := zmem_3 209 (by decide +kernel) rfl
theorem zl_10_259 : Cond.methodLink RX10 259 yX0_keptCount ∈ ztbl := zmem_3 214 (by decide +kernel) rfl
theorem zl_10_262 : Cond.methodLink RX10 262 yX0_commonDegree ∈ ztbl := zmem_3 226 (by decide +kernel) rfl
theorem zl_10_267 : Cond.methodLink RX10 267 yX0_joinAt ∈ ztbl := zmem_3 231 (by decide +kernel) rfl
theorem zl_10_271 : Cond.methodLink RX10 271 yX0_keptProduct ∈ ztbl := zmem_4 1 (by decide +kernel) rfl
theorem zl_10_276 : Cond.methodLink RX10 276 yX8_append ∈ ztbl := zmem_4 9 (by decide +kernel) rfl
theorem zl_10_279 : Cond.methodLink RX10 279 yX5_parse ∈ ztbl := zmem_4 17 (by decide +kernel) rfl
theorem zl_10_286 : Cond.methodLink RX10 286 yX8_clear ∈ ztbl := zmem_4 124 (by decide +kernel) rfl
theorem zl_10_292 : Cond.methodLink RX10 292 yX10_carryOut ∈ ztbl := zmem_4 128 (by decide +kernel) rfl
theorem zl_10_295 : Cond.methodLink RX10 295 yX5_numberOf ∈ ztbl := zmem_4 132 (by decide +kernel) rfl
theorem zl_10_301 : Cond.methodLink RX10 301 yX10_prime ∈ ztbl := zmem_4 136 (by decide +kernel) rfl
theorem zl_10_304 : Cond.methodLink RX10 304 yX10_j ∈ ztbl := zmem_4 137 (by decide +kernel) rfl
theorem zl_10_307 : Cond.methodLink RX10 307 yX10_sum ∈ ztbl := zmem_4 138 (by decide +kernel) rfl
theorem zl_10_310 : Cond.methodLink RX10 310 yX10_times ∈ ztbl := zmem_4 139 (by decide +kernel) rfl
theorem zl_10_313 : Cond.methodLink RX10 313 yX10_stretch ∈ ztbl := zmem_4 140 (by decide +kernel) rfl
theorem zl_10_316 : Cond.methodLink RX10 316 yX10_over ∈ ztbl := zmem_4 141 (by decide +kernel) rfl
theorem zl_10_319 : Cond.methodLink RX10 319 yX10_power ∈ ztbl := zmem_4 142 (by decide +kernel) rfl
theorem zl_10_322 : Cond.methodLink RX10 322 yX10_find ∈ ztbl := zmem_4 143 (by decide +kernel) rfl
theorem zl_10_326 : Cond.methodLink RX10 326 yX10_keep ∈ ztbl := zmem_4 144 (by decide +kernel) rfl
theorem zl_10_329 : Cond.methodLink RX10 329 yX4_parse ∈ ztbl := zmem_4 150 (by decide +kernel) rfl
theorem zl_10_335 : Cond.methodLink RX10 335 yX4_putDown ∈ ztbl := zmem_4 172 (by decide +kernel) rfl
theorem zl_10_344 : Cond.methodLink RX10 344 Lib.Math.min.name ∈ ztbl := zmem_4 208 (by decide +kernel) rfl
theorem zl_10_349 : Cond.methodLink RX10 349 arraycopyName ∈ ztbl := zmem_4 209 (by decide +kernel) rfl
theorem zl_10_355 : Cond.methodLink RX10 355 yX0_copyFrom ∈ ztbl := zmem_4 218 (by decide +kernel) rfl
theorem zl_10_362 : Cond.methodLink RX10 362 yX0_seriesCount ∈ ztbl := zmem_4 228 (by decide +kernel) rfl
theorem zl_0_3 : Cond.methodLink RX0 3 objectInit ∈ ztbl := zmem_1 33 (by decide +kernel) rfl
theorem zl_0_43 : Cond.methodLink RX0 43 yX3_copyFrom ∈ ztbl := zmem_4 222 (by decide +kernel) rfl
theorem zl_0_47 : Cond.methodLink RX0 47 yX6_copyFrom ∈ ztbl := zmem_4 223 (by decide +kernel) rfl
theorem zl_0_50 : Cond.methodLink RX0 50 yX6_isMissing ∈ ztbl := zmem_4 232 (by decide +kernel) rfl
theorem zl_0_54 : Cond.methodLink RX0 54 yX3_isMissing ∈ ztbl := zmem_3 208 (by decide +kernel) rfl
theorem zl_1_3 : Cond.methodLink RX1 3 objectInit ∈ ztbl := zmem_1 172 (by decide +kernel) rfl
theorem zl_1_46 : Cond.methodLink RX1 46 yX1_listTerms ∈ ztbl := zmem_3 9 (by decide +kernel) rfl
theorem zl_1_49 : Cond.methodLink RX1 49 yX1_clearMatrix ∈ ztbl := zmem_3 13 (by decide +kernel) rfl
theorem zl_1_55 : Cond.methodLink RX1 55 yX1_addProduct ∈ ztbl := zmem_3 18 (by decide +kernel) rfl
theorem zl_1_59 : Cond.methodLink RX1 59 yX1_eliminate ∈ ztbl := zmem_3 26 (by decide +kernel) rfl
theorem zl_1_63 : Cond.methodLink RX1 63 yJ7_fill_53178 ∈ ztbl := zmem_3 17 (by decide +kernel) rfl
theorem zl_1_69 : Cond.methodLink RX1 69 yX9_multiplyTerm ∈ ztbl := zmem_3 22 (by decide +kernel) rfl
theorem zl_1_79 : Cond.methodLink RX1 79 yX1_pivotRow ∈ ztbl := zmem_3 30 (by decide +kernel) rfl
theorem zl_1_82 : Cond.methodLink RX1 82 Lib.Math.min.name ∈ ztbl := zmem_3 34 (by decide +kernel) rfl
theorem zl_1_87 : Cond.methodLink RX1 87 yX1_swapRows ∈ ztbl := zmem_3 35 (by decide +kernel) rfl
theorem zl_1_91 : Cond.methodLink RX1 91 yX1_scaleRow ∈ ztbl := zmem_3 39 (by decide +kernel) rfl
theorem zl_1_95 : Cond.methodLink RX1 95 yX1_clearBelow ∈ ztbl := zmem_3 44 (by decide +kernel) rfl
theorem zl_1_101 : Cond.methodLink RX1 101 yX1_solve ∈ ztbl := zmem_3 52 (by decide +kernel) rfl
theorem zl_1_104 : Cond.methodLink RX1 104 yX3_clear ∈ ztbl := zmem_3 56 (by decide +kernel) rfl
theorem zl_2_3 : Cond.methodLink RX2 3 objectInit ∈ ztbl := zmem_1 210 (by decide +kernel) rfl
theorem zl_2_27 : Cond.methodLink RX2 27 yJ7_fill_53178 ∈ ztbl := zmem_1 211 (by decide +kernel) rfl
theorem zl_2_33 : Cond.methodLink RX2 33 yX2_explore ∈ ztbl := zmem_3 122 (by decide +kernel) rfl
theorem zl_2_37 : Cond.methodLink RX2 37 Lib.Math.max.name ∈ ztbl := zmem_3 150 (by decide +kernel) rfl
theorem zl_2_53 : Cond.methodLink RX2 53 yX2_listNeighbours ∈ ztbl := zmem_3 126 (by decide +kernel) rfl
theorem zl_2_57 : Cond.methodLink RX2 57 yX2_fillLine ∈ ztbl := zmem_3 130 (by decide +kernel) rfl
theorem zl_2_60 : Cond.methodLink RX2 60 yX2_lineAt ∈ ztbl := zmem_3 138 (by decide +kernel) rfl
theorem zl_2_64 : Cond.methodLink RX2 64 yX2_divideLine ∈ ztbl := zmem_3 142 (by decide +kernel) rfl
theorem zl_2_73 : Cond.methodLink RX2 73 yX3_lineCoefficient ∈ ztbl := zmem_3 134 (by decide +kernel) rfl
theorem zl_2_76 : Cond.methodLink RX2 76 yX2_sizeOf ∈ ztbl := zmem_3 165 (by decide +kernel) rfl
theorem zl_2_80 : Cond.methodLink RX2 80 yX2_neighbourOf ∈ ztbl := zmem_3 166 (by decide +kernel) rfl
theorem zl_2_83 : Cond.methodLink RX2 83 yX2_isDegenerate ∈ ztbl := zmem_3 183 (by decide +kernel) rfl
theorem zl_2_87 : Cond.methodLink RX2 87 yX3_valueOf ∈ ztbl := zmem_3 184 (by decide +kernel) rfl
theorem zl_3_3 : Cond.methodLink RX3 3 objectInit ∈ ztbl := zmem_1 41 (by decide +kernel) rfl
theorem zl_3_19 : Cond.methodLink RX3 19 yJ7_fill_53178 ∈ ztbl := zmem_3 60 (by decide +kernel) rfl
theorem zl_3_25 : Cond.methodLink RX3 25 arraycopyName ∈ ztbl := zmem_3 213 (by decide +kernel) rfl
theorem zl_4_3 : Cond.methodLink RX4 3 objectInit ∈ ztbl := zmem_2 37 (by decide +kernel) rfl
theorem zl_4_22 : Cond.methodLink RX4 22 yX8_rewind ∈ ztbl := zmem_4 154 (by decide +kernel) rfl
theorem zl_4_27 : Cond.methodLink RX4 27 yX3_clear ∈ ztbl := zmem_4 155 (by decide +kernel) rfl
theorem zl_4_31 : Cond.methodLink RX4 31 yX4_parseTerm ∈ ztbl := zmem_4 156 (by decide +kernel) rfl
theorem zl_4_35 : Cond.methodLink RX4 35 yX8_accept ∈ ztbl := zmem_4 161 (by decide +kernel) rfl
theorem zl_4_39 : Cond.methodLink RX4 39 yX8_isAtEnd ∈ ztbl := zmem_4 167 (by decide +kernel) rfl
theorem zl_4_43 : Cond.methodLink RX4 43 yX8_acceptNumber ∈ ztbl := zmem_4 160 (by decide +kernel) rfl
theorem zl_4_50 : Cond.methodLink RX4 50 yX8_acceptExponent ∈ ztbl := zmem_4 162 (by decide +kernel) rfl
theorem zl_4_59 : Cond.methodLink RX4 59 Lib.Math.max.name ∈ ztbl := zmem_4 166 (by decide +kernel) rfl
theorem zl_4_68 : Cond.methodLink RX4 68 yX4_putTerm ∈ ztbl := zmem_4 176 (by decide +kernel) rfl
theorem zl_4_72 : Cond.methodLink RX4 72 yX4_putByte ∈ ztbl := zmem_4 180 (by decide +kernel) rfl
theorem zl_4_75 : Cond.methodLink RX4 75 yX4_putNumber ∈ ztbl := zmem_4 184 (by decide +kernel) rfl
theorem zl_5_3 : Cond.methodLink RX5 3 objectInit ∈ ztbl := zmem_2 19 (by decide +kernel) rfl
theorem zl_5_18 : Cond.methodLink RX5 18 yX8_rewind ∈ ztbl := zmem_4 21 (by decide +kernel) rfl
theorem zl_5_27 : Cond.methodLink RX5 27 yX5_parseCommand ∈ ztbl := zmem_4 25 (by decide +kernel) rfl
theorem zl_5_31 : Cond.methodLink RX5 31 yX8_accept ∈ ztbl := zmem_4 103 (by decide +kernel) rfl
theorem zl_5_35 : Cond.methodLink RX5 35 yX8_isAtEnd ∈ ztbl := zmem_4 120 (by decide +kernel) rfl
theorem zl_5_39 : Cond.methodLink RX5 39 yX8_wordEnd ∈ ztbl := zmem_4 29 (by decide +kernel) rfl
theorem zl_5_43 : Cond.methodLink RX5 43 yX5_commandAt ∈ ztbl := zmem_4 33 (by decide +kernel) rfl
theorem zl_5_50 : Cond.methodLink RX5 50 yX5_numbersAfter ∈ ztbl := zmem_4 100 (by decide +kernel) rfl
theorem zl_5_54 : Cond.methodLink RX5 54 yX8_acceptSignedNumber ∈ ztbl := zmem_4 107 (by decide +kernel) rfl
theorem zl_5_60 : Cond.methodLink RX5 60 yX5_wordOf ∈ ztbl := zmem_4 36 (by decide +kernel) rfl
theorem zl_5_64 : Cond.methodLink RX5 64 yX8_hasWord ∈ ztbl := zmem_4 48 (by decide +kernel) rfl
theorem zl_6_3 : Cond.methodLink RX6 3 objectInit ∈ ztbl := zmem_1 65 (by decide +kernel) rfl
theorem zl_6_22 : Cond.methodLink RX6 22 arraycopyName ∈ ztbl := zmem_2 140 (by decide +kernel) rfl
theorem zl_6_28 : Cond.methodLink RX6 28 yX6_become ∈ ztbl := zmem_4 227 (by decide +kernel) rfl
theorem zl_7_3 : Cond.methodLink RX7 3 objectInit ∈ ztbl := zmem_1 114 (by decide +kernel) rfl
theorem zl_7_24 : Cond.methodLink RX7 24 yJ9_floorMod_7cf53 ∈ ztbl := zmem_2 157 (by decide +kernel) rfl
theorem zl_7_30 : Cond.methodLink RX7 30 yX6_become ∈ ztbl := zmem_2 136 (by decide +kernel) rfl
theorem zl_7_40 : Cond.methodLink RX7 40 Lib.Math.min.name ∈ ztbl := zmem_2 172 (by decide +kernel) rfl
theorem zl_7_43 : Cond.methodLink RX7 43 yX6_last ∈ ztbl := zmem_2 175 (by decide +kernel) rfl
theorem zl_7_47 : Cond.methodLink RX7 47 yX6_valueOf ∈ ztbl := zmem_2 179 (by decide +kernel) rfl
theorem zl_7_61 : Cond.methodLink RX7 61 yJ7_fill_53178 ∈ ztbl := zmem_2 122 (by decide +kernel) rfl
theorem zl_7_67 : Cond.methodLink RX7 67 yX7_invert ∈ ztbl := zmem_2 130 (by decide +kernel) rfl
theorem zl_7_71 : Cond.methodLink RX7 71 arraycopyName ∈ ztbl := zmem_2 215 (by decide +kernel) rfl
theorem zl_7_77 : Cond.methodLink RX7 77 yX7_fillEisenstein ∈ ztbl := zmem_2 118 (by decide +kernel) rfl
theorem zl_7_81 : Cond.methodLink RX7 81 yX7_fillEulerProduct ∈ ztbl := zmem_2 126 (by decide +kernel) rfl
theorem zl_8_3 : Cond.methodLink RX8 3 objectInit ∈ ztbl := zmem_1 235 (by decide +kernel) rfl
theorem zl_8_25 : Cond.methodLink RX8 25 yX8_isAtDigit ∈ ztbl := zmem_4 116 (by decide +kernel) rfl
theorem zl_8_29 : Cond.methodLink RX8 29 yX8_accept ∈ ztbl := zmem_4 111 (by decide +kernel) rfl
theorem zl_8_33 : Cond.methodLink RX8 33 yX8_acceptNumber ∈ ztbl := zmem_4 112 (by decide +kernel) rfl
theorem zl_8_37 : Cond.methodLink RX8 37 yJ0_length_8abf5 ∈ ztbl := zmem_4 52 (by decide +kernel) rfl
theorem zl_8_42 : Cond.methodLink RX8 42 yJ0_charAt_5068e ∈ ztbl := zmem_4 62 (by decide +kernel) rfl
theorem zl_9_3 : Cond.methodLink RX9 3 objectInit ∈ ztbl := zmem_1 133 (by decide +kernel) rfl
theorem zl_9_38 : Cond.methodLink RX9 38 Lib.Math.min.name ∈ ztbl := zmem_2 238 (by decide +kernel) rfl
theorem zl_9_57 : Cond.methodLink RX9 57 yX9_fillPowers ∈ ztbl := zmem_2 239 (by decide +kernel) rfl
theorem zl_9_61 : Cond.methodLink RX9 61 yJ7_fill_53178 ∈ ztbl := zmem_3 3 (by decide +kernel) rfl
theorem zl_9_77 : Cond.methodLink RX9 77 yX9_addTerm ∈ ztbl := zmem_3 109 (by decide +kernel) rfl
theorem zl_9_81 : Cond.methodLink RX9 81 yX9_multiplyTerm ∈ ztbl := zmem_3 113 (by decide +kernel) rfl
theorem zl_11_3 : Cond.methodLink RX11 3 objectInit ∈ ztbl := zmem_5 6 (by decide +kernel) rfl
theorem zl_11_114 : Cond.methodLink RX11 114 yX11_in ∈ ztbl := zmem_5 167 (by decide +kernel) rfl
theorem zl_11_124 : Cond.methodLink RX11 124 yX11_isPrime ∈ ztbl := zmem_5 162 (by decide +kernel) rfl
theorem zl_11_137 : Cond.methodLink RX11 137 yX11_inverse ∈ ztbl := zmem_5 194 (by decide +kernel) rfl
theorem zl_11_141 : Cond.methodLink RX11 141 yX11_isSeries ∈ ztbl := zmem_5 174 (by decide +kernel) rfl
theorem zl_11_148 : Cond.methodLink RX11 148 yX11_whole ∈ ztbl := zmem_5 179 (by decide +kernel) rfl
theorem zl_11_152 : Cond.methodLink RX11 152 yX11_multiplies ∈ ztbl := zmem_5 183 (by decide +kernel) rfl
theorem zl_11_156 : Cond.methodLink RX11 156 yX11_lays ∈ ztbl := zmem_5 187 (by decide +kernel) rfl
theorem zl_11_160 : Cond.methodLink RX11 160 yX11_divides ∈ ztbl := zmem_5 190 (by decide +kernel) rfl
theorem zl_11_163 : Cond.methodLink RX11 163 yX11_becomes ∈ ztbl := zmem_5 198 (by decide +kernel) rfl
theorem zl_11_166 : Cond.methodLink RX11 166 yX11_isThere ∈ ztbl := zmem_5 206 (by decide +kernel) rfl
theorem zl_11_169 : Cond.methodLink RX11 169 Lib.Math.min.name ∈ ztbl := zmem_5 210 (by decide +kernel) rfl
theorem zl_11_175 : Cond.methodLink RX11 175 yX11_numberOf ∈ ztbl := zmem_5 211 (by decide +kernel) rfl
theorem zl_11_178 : Cond.methodLink RX11 178 yX11_isStart ∈ ztbl := zmem_5 219 (by decide +kernel) rfl
theorem zl_11_183 : Cond.methodLink RX11 183 yX11_powers ∈ ztbl := zmem_5 237 (by decide +kernel) rfl
theorem zl_11_204 : Cond.methodLink RX11 204 yX11_lessens ∈ ztbl := zmem_6 38 (by decide +kernel) rfl
theorem zl_11_208 : Cond.methodLink RX11 208 yX11_firstOther ∈ ztbl := zmem_6 42 (by decide +kernel) rfl
theorem zl_11_212 : Cond.methodLink RX11 212 yX11_emptiesColumn ∈ ztbl := zmem_6 23 (by decide +kernel) rfl
theorem zl_11_215 : Cond.methodLink RX11 215 yX11_adds ∈ ztbl := zmem_6 27 (by decide +kernel) rfl
theorem zl_11_218 : Cond.methodLink RX11 218 yX11_place ∈ ztbl := zmem_6 31 (by decide +kernel) rfl
theorem zl_11_222 : Cond.methodLink RX11 222 yX11_comes ∈ ztbl := zmem_6 34 (by decide +kernel) rfl
theorem zl_11_231 : Cond.methodLink RX11 231 yX11_tellsPowers ∈ ztbl := zmem_6 15 (by decide +kernel) rfl
theorem zl_11_234 : Cond.methodLink RX11 234 yX11_tries ∈ ztbl := zmem_6 19 (by decide +kernel) rfl
theorem zl_11_240 : Cond.methodLink RX11 240 yX11_termAt ∈ ztbl := zmem_6 51 (by decide +kernel) rfl
theorem zl_11_243 : Cond.methodLink RX11 243 yX11_isValue ∈ ztbl := zmem_6 63 (by decide +kernel) rfl
theorem zl_11_246 : Cond.methodLink RX11 246 yX11_puts ∈ ztbl := zmem_6 67 (by decide +kernel) rfl
theorem zl_11_249 : Cond.methodLink RX11 249 yX11_worth ∈ ztbl := zmem_6 71 (by decide +kernel) rfl
theorem zl_11_255 : Cond.methodLink RX11 255 yX11_oftenOf ∈ ztbl := zmem_6 87 (by decide +kernel) rfl
theorem zl_11_258 : Cond.methodLink RX11 258 yX11_tellsNeighbours ∈ ztbl := zmem_6 83 (by decide +kernel) rfl
theorem zl_11_261 : Cond.methodLink RX11 261 yX11_tellsAway ∈ ztbl := zmem_6 95 (by decide +kernel) rfl
theorem zl_11_266 : Cond.methodLink RX11 266 yX11_keptPrime ∈ ztbl := zmem_6 115 (by decide +kernel) rfl
theorem zl_11_269 : Cond.methodLink RX11 269 yX11_isKept ∈ ztbl := zmem_6 111 (by decide +kernel) rfl
theorem zl_11_272 : Cond.methodLink RX11 272 yX11_keptMany ∈ ztbl := zmem_6 119 (by decide +kernel) rfl
theorem zl_11_277 : Cond.methodLink RX11 277 yX11_joinedDegree ∈ ztbl := zmem_6 136 (by decide +kernel) rfl
theorem zl_11_288 : Cond.methodLink RX11 288 yX11_here ∈ ztbl := zmem_6 157 (by decide +kernel) rfl
theorem zl_11_299 : Cond.methodLink RX11 299 yX11_isLetter ∈ ztbl := zmem_6 153 (by decide +kernel) rfl
theorem zl_11_302 : Cond.methodLink RX11 302 yX11_wordFrom ∈ ztbl := zmem_6 163 (by decide +kernel) rfl
theorem zl_11_305 : Cond.methodLink RX11 305 yX11_isFigure ∈ ztbl := zmem_6 167 (by decide +kernel) rfl
theorem zl_11_308 : Cond.methodLink RX11 308 yX11_prime ∈ ztbl := zmem_6 177 (by decide +kernel) rfl
theorem zl_11_311 : Cond.methodLink RX11 311 yX11_j ∈ ztbl := zmem_6 178 (by decide +kernel) rfl
theorem zl_11_314 : Cond.methodLink RX11 314 yX11_sum ∈ ztbl := zmem_6 179 (by decide +kernel) rfl
theorem zl_11_317 : Cond.methodLink RX11 317 yX11_times ∈ ztbl := zmem_6 180 (by decide +kernel) rfl
theorem zl_11_320 : Cond.methodLink RX11 320 yX11_stretch ∈ ztbl := zmem_6 181 (by decide +kernel) rfl
theorem zl_11_323 : Cond.methodLink RX11 323 yX11_over ∈ ztbl := zmem_6 182 (by decide +kernel) rfl
theorem zl_11_326 : Cond.methodLink RX11 326 yX11_power ∈ ztbl := zmem_6 183 (by decide +kernel) rfl
theorem zl_11_329 : Cond.methodLink RX11 329 yX11_find ∈ ztbl := zmem_6 184 (by decide +kernel) rfl
theorem zl_11_333 : Cond.methodLink RX11 333 yX11_keep ∈ ztbl := zmem_6 185 (by decide +kernel) rfl
theorem zl_11_336 : Cond.methodLink RX11 336 yX11_readsDeed ∈ ztbl := zmem_6 149 (by decide +kernel) rfl
theorem zl_11_339 : Cond.methodLink RX11 339 yX11_does ∈ ztbl := zmem_6 173 (by decide +kernel) rfl
theorem zl_11_346 : Cond.methodLink RX11 346 yX11_readsPower ∈ ztbl := zmem_6 194 (by decide +kernel) rfl
theorem zl_11_352 : Cond.methodLink RX11 352 Lib.Math.max.name ∈ ztbl := zmem_6 200 (by decide +kernel) rfl
theorem zl_11_355 : Cond.methodLink RX11 355 yX11_readsTerm ∈ ztbl := zmem_6 190 (by decide +kernel) rfl
theorem zl_11_361 : Cond.methodLink RX11 361 yX11_writes ∈ ztbl := zmem_6 205 (by decide +kernel) rfl
theorem zl_11_364 : Cond.methodLink RX11 364 yX11_writesNumber ∈ ztbl := zmem_6 209 (by decide +kernel) rfl
theorem zl_11_367 : Cond.methodLink RX11 367 yX11_writesPower ∈ ztbl := zmem_6 213 (by decide +kernel) rfl
theorem zl_11_371 : Cond.methodLink RX11 371 yX11_isList ∈ ztbl := zmem_6 225 (by decide +kernel) rfl
theorem zl_11_384 : Cond.methodLink RX11 384 yX11_copies ∈ ztbl := zmem_7 12 (by decide +kernel) rfl
theorem zl_11_388 : Cond.methodLink RX11 388 yX11_seriesMany ∈ ztbl := zmem_7 15 (by decide +kernel) rfl
theorem zn_10_23 : (RX10, 23, yX7_init, RX10) ∈ zNest := List.mem_of_getElem? (i := 2) rfl
theorem zn_10_30 : (RX10, 30, yX9_init, RX10) ∈ zNest := List.mem_of_getElem? (i := 3) rfl
theorem zn_10_37 : (RX10, 37, yX1_init, RX10) ∈ zNest := List.mem_of_getElem? (i := 4) rfl
theorem zn_10_51 : (RX10, 51, yX8_init, RX10) ∈ zNest := List.mem_of_getElem? (i := 5) rfl
theorem zn_10_58 : (RX10, 58, yX5_init, RX10) ∈ zNest := List.mem_of_getElem? (i := 6) rfl
theorem zn_10_65 : (RX10, 65, yX4_init, RX10) ∈ zNest := List.mem_of_getElem? (i := 7) rfl
theorem zn_0_23 : (RX0, 23, yX3_init, RX10) ∈ zNest := List.mem_of_getElem? (i := 0) rfl
theorem zn_0_36 : (RX0, 36, yX6_init, RX10) ∈ zNest := List.mem_of_getElem? (i := 1) rfl
theorem zn_0_58 : (RX0, 58, yX10_inverse, RX10) ∈ zNest := List.mem_of_getElem? (i := 13) rfl
theorem zn_1_98 : (RX1, 98, yX10_inverse, RX10) ∈ zNest := List.mem_of_getElem? (i := 12) rfl
theorem zn_4_11 : (RX4, 11, yX3_init, RX10) ∈ zNest := List.mem_of_getElem? (i := 8) rfl
theorem zn_7_57 : (RX7, 57, yX10_multiply, RX10) ∈ zNest := List.mem_of_getElem? (i := 9) rfl
theorem zn_7_84 : (RX7, 84, yX10_inverse, RX10) ∈ zNest := List.mem_of_getElem? (i := 10) rfl
theorem zn_9_67 : (RX9, 67, yX10_multiply, RX10) ∈ zNest := List.mem_of_getElem? (i := 11) rfl
theorem zk_10_265 : Cond.constantLong RX10 265 (zL (-9223372036854775808)) ∈ ztbl := zmem_3 230 (by decide +kernel) rfl
theorem zk_0_62 : Cond.constantLong RX0 62 (zL (2)) ∈ ztbl := zmem_3 236 (by decide +kernel) rfl
theorem zk_11_112 : Cond.constantLong RX11 112 (zL (5)) ∈ ztbl := zmem_5 165 (by decide +kernel) rfl
theorem zk_11_118 : Cond.constantLong RX11 118 (zL (-99)) ∈ ztbl := zmem_5 222 (by decide +kernel) rfl
theorem zk_11_120 : Cond.constantLong RX11 120 (zL (99)) ∈ ztbl := zmem_5 223 (by decide +kernel) rfl
theorem zk_11_122 : Cond.constantLong RX11 122 (zL (199)) ∈ ztbl := zmem_5 166 (by decide +kernel) rfl
theorem zk_11_144 : Cond.constantLong RX11 144 (zL (80)) ∈ ztbl := zmem_5 177 (by decide +kernel) rfl
theorem zk_11_146 : Cond.constantLong RX11 146 (zL (240)) ∈ ztbl := zmem_5 178 (by decide +kernel) rfl
theorem zk_11_181 : Cond.constantLong RX11 181 (zL (9)) ∈ ztbl := zmem_5 228 (by decide +kernel) rfl
theorem zk_11_187 : Cond.constantLong RX11 187 (zL (2)) ∈ ztbl := zmem_6 5 (by decide +kernel) rfl
theorem zk_11_229 : Cond.constantLong RX11 229 (zL (8)) ∈ ztbl := zmem_6 14 (by decide +kernel) rfl
theorem zk_11_238 : Cond.constantLong RX11 238 (zL (3)) ∈ ztbl := zmem_6 50 (by decide +kernel) rfl
theorem zk_11_264 : Cond.constantLong RX11 264 (zL (7)) ∈ ztbl := zmem_6 114 (by decide +kernel) rfl
theorem zk_11_275 : Cond.constantLong RX11 275 (zL (-9223372036854775808)) ∈ ztbl := zmem_6 131 (by decide +kernel) rfl
theorem zk_11_280 : Cond.constantLong RX11 280 (zL (127)) ∈ ztbl := zmem_6 144 (by decide +kernel) rfl
theorem zk_11_291 : Cond.constantLong RX11 291 (zL (48)) ∈ ztbl := zmem_6 171 (by decide +kernel) rfl
theorem zk_11_293 : Cond.constantLong RX11 293 (zL (57)) ∈ ztbl := zmem_6 172 (by decide +kernel) rfl
theorem zk_11_295 : Cond.constantLong RX11 295 (zL (97)) ∈ ztbl := zmem_6 161 (by decide +kernel) rfl
theorem zk_11_297 : Cond.constantLong RX11 297 (zL (122)) ∈ ztbl := zmem_6 162 (by decide +kernel) rfl
theorem zk_11_342 : Cond.constantLong RX11 342 (zL (49)) ∈ ztbl := zmem_6 198 (by decide +kernel) rfl
theorem zk_11_344 : Cond.constantLong RX11 344 (zL (56)) ∈ ztbl := zmem_6 199 (by decide +kernel) rfl
theorem zb_minS : Cond.static Lib.Math.min.name ∈ ztbl := zmem_2 173 (by decide +kernel) rfl
theorem zb_minC : Cond.code Lib.Math.min.name Lib.Math.min.code 2 (some .int) ∈ ztbl := zmem_2 174 (by decide +kernel) rfl
theorem zb_maxS : Cond.static Lib.Math.max.name ∈ ztbl := zmem_3 151 (by decide +kernel) rfl
theorem zb_maxC : Cond.code Lib.Math.max.name Lib.Math.max.code 2 (some .int) ∈ ztbl := zmem_3 152 (by decide +kernel) rfl
theorem zb_mathI : Cond.initialized "java/lang/Math" ∈ ztbl := zmem_1 15 (by decide +kernel) rfl
theorem zb_cpN : Cond.native arraycopyName ∈ ztbl := zmem_2 142 (by decide +kernel) rfl
theorem zb_cpS : Cond.static arraycopyName ∈ ztbl := zmem_2 141 (by decide +kernel) rfl
theorem zb_cpI : Cond.initialized "java/lang/System" ∈ ztbl := zmem_1 14 (by decide +kernel) rfl
theorem zb_objI : Cond.instanceMethod objectInit ∈ ztbl := zmem_1 26 (by decide +kernel) rfl
theorem zb_objC : Cond.code objectInit ⟨#[0xb1]⟩ 1 none ∈ ztbl := zmem_1 27 (by decide +kernel) rfl
theorem zb_arrI : Cond.arrayClass .int ∈ ztbl := zmem_1 59 (by decide +kernel) rfl
end
section
/-! THE JDK's own methods: Arrays.fill, String.length, String.charAt -/
theorem zS_cast {i j k n : Nat} (h : zS i k n) (e : i = j) : zS j k n := e ▸ h
theorem zuI_zuA {w : zWS} {a j : Nat} {f h : Nat → Int} {v : Int} (e : ∀ b, h b = if b = j then v else f b) : zuI (zuA w a f) a j v = zuA w a h := by
  refine congrArg (fun f => (w.1, w.2.1, f)) (funext fun x => funext fun b => ?_)
  show (if x = a ∧ b = j then v else if x = a then f b else w.2.2 x b) = if x = a then h b else w.2.2 x b
  by_cases hx : x = a
  · rw [if_pos hx, if_pos hx, e b]
    by_cases hb : b = j
    · rw [if_pos ⟨hx, hb⟩, if_pos hb]
    · rw [if_neg (fun q => hb q.2), if_neg hb]
  · rw [if_neg (fun q => hx q.1), if_neg hx, if_neg hx]
theorem zuA_zero {w : zWS} {a : Nat} {f : Nat → Int} (e : ∀ b, f b = w.2.2 a b) : zuA w a f = w := by
  obtain ⟨w1, w2, w3⟩ := w
  refine congrArg (fun f => (w1, w2, f)) (funext fun x => funext fun b => ?_)
  show (if x = a then f b else w3 x b) = w3 x b
  by_cases hx : x = a
  · rw [if_pos hx, e b, hx]
  · rw [if_neg hx]
theorem ok_fill {g : zG} {w : zWS} {a n : Nat} {v : Int} {Φ : Option Value → zWS → Prop} (hs : w.1[a]? = some (12, n)) (hn : n < 2147483648) (h : Φ none (zuA w a (fun b => if b < n then v else w.2.2 a b))) : zOK g zm_J7_fill_53178 [.ref a, .int (zJ v)] w Φ := by
  refine zok_of (by decide +kernel) rfl ?_
  show zWP g zm_J7_fill_53178 (zmo g zm_J7_fill_53178 Φ) 0 [(0, .ref a), (1, .int (zJ v))] [] 0 0 w
  refine zw_iconst (pc := 0) (n := 0) (by decide +kernel) ?_
  refine zw_istore_n (pc := 1) (n := 2) (i := 2) (lv' := [(0, .ref a), (1, .int (zJ v)), (2, .int (zJ 0))]) (by decide +kernel) rfl (Nat.le_of_ble_eq_true rfl) rfl ?_
  refine zw_aload_n (pc := 2) (n := 0) (i := 0) 0 (by decide +kernel) rfl rfl ?_
  refine zw_alen (pc := 3) (n := n) (by decide +kernel) hs rfl ?_
  refine zw_istore_n (pc := 4) (n := 3) (i := 3) (lv' := [(0, .ref a), (1, .int (zJ v)), (2, .int (zJ 0)), (3, .int (zJ (n : Int)))]) (by decide +kernel) rfl (Nat.le_of_ble_eq_true rfl) rfl ?_
  have key : ∀ m i : Nat, i + m = n → zWP g zm_J7_fill_53178 (zmo g zm_J7_fill_53178 Φ) 5 [(0, .ref a), (1, .int (zJ v)), (2, .int (zJ (i : Int))), (3, .int (zJ (n : Int)))] [] 0 0 (zuA w a (fun b => if b < i then v else w.2.2 a b)) := by
    intro m
    induction m with
    | zero =>
      intro i hi
      refine zw_iload_n (pc := 5) (n := 2) (i := 2) 2 (by decide +kernel) rfl rfl ?_
      refine zw_iload_n (pc := 6) (n := 3) (i := 3) 3 (by decide +kernel) rfl rfl ?_
      refine zw_icmp_ge (pc := 7) (off := 13) (tgt := 20) (by decide +kernel) (by decide) (by omega) (by omega) (fun hc => ?_) (fun hc => absurd hc (by omega))
      rw [show i = n by omega]
      exact zw_vret (pc := 20) (by decide +kernel) rfl (Nat.le_refl _) (Nat.le_refl _) h
    | succ m ih =>
      intro i hi
      refine zw_iload_n (pc := 5) (n := 2) (i := 2) 2 (by decide +kernel) rfl rfl ?_
      refine zw_iload_n (pc := 6) (n := 3) (i := 3) 3 (by decide +kernel) rfl rfl ?_
      refine zw_icmp_ge (pc := 7) (off := 13) (tgt := 20) (by decide +kernel) (by decide) (by omega) (by omega) (fun hc => absurd hc (by omega)) (fun hc => ?_)
      refine zw_aload_n (pc := 10) (n := 0) (i := 0) 0 (by decide +kernel) rfl rfl ?_
      refine zw_iload_n (pc := 11) (n := 2) (i := 2) 2 (by decide +kernel) rfl rfl ?_
      refine zw_iload_n (pc := 12) (n := 1) (i := 1) 1 (by decide +kernel) rfl rfl ?_
      refine zw_iastore (pc := 13) (n := n) (by decide +kernel) (show _ = _ from hs) (by omega) (by omega) hn ?_
      rw [zuI_zuA (h := fun b => if b < i + 1 then v else w.2.2 a b) (fun b => by
        rw [Int.toNat_natCast]
        by_cases h1 : b = i
        · rw [if_pos h1, if_pos (by omega)]
        · rw [if_neg h1]
          by_cases h2 : b < i
          · rw [if_pos h2, if_pos (by omega)]
          · rw [if_neg h2, if_neg (by omega)])]
      refine zw_iinc (pc := 14) (i := 2) (n := 1) (v := ((i + 1 : Nat) : Int)) (lv' := [(0, .ref a), (1, .int (zJ v)), (2, .int (zJ ((i + 1 : Nat) : Int))), (3, .int (zJ (n : Int)))]) 2 (by decide +kernel) rfl (by omega) (Nat.le_of_ble_eq_true rfl) rfl ?_
      refine zw_goto (pc := 17) (off := (-12)) (tgt := 5) (by decide +kernel) (by decide) ?_
      exact ih (i + 1) (by omega)
  have k0 := key n 0 (by omega)
  rw [zuA_zero (fun b => by rw [if_neg (by omega)])] at k0
  exact k0
theorem sg_J7_fill {g : zG} {μ : zMu} {a n : Nat} {v : Int} {φ : zMu → Prop} (hs : zS a 12 n) (h : φ (zua μ a (fun b => if b < n then v else μ a b))) : zOv g zm_J7_fill_53178 [.ref a, .int (zJ v)] μ φ :=
  ok_fill hs (zS_n hs) ⟨_, rfl, rfl, h⟩
-- the String constants: cell 90001 + k the text, cell 90101 + k its bytes
theorem zad_x (g : zG) (k : Nat) : zad g (90000 + k) = zgx g k := by rw [zad, if_neg (by omega), show 90000 + k - 90000 = k by omega]
section ZST
variable {g : zG} {M : zM} {mo : zMo} {pc nc ns : Nat} {lv : List (Nat × Value)} {st : List Value} {μ : zMu}
theorem zx_callT {M' : zM} {idx n b : Nat} {As : List Value} {Φ : Option Value → zWS → Prop} (hOK : zOK g M' (.ref b :: As) (zw μ) Φ) (hcal : zCal M' n) (hin : Cond.instanceMethod M'.1 ∈ ztbl) (hse : Cond.selects M'.1.cls M'.1 M'.1 ∈ ztbl) (hli : Cond.methodLink M.1.cls idx M'.1 ∈ ztbl) (hd : decode M.2.1 pc = .ok (.invokevirtual idx, 3)) (hrm : zRm M M') (hn : As.length = n)
    (hb : ∃ k, k < 9 ∧ b = 90001 + k) (hcls : M'.1.cls = "java/lang/String") (hsum : Nat.ble (st.map fun v => v.category).sum 8 = true) (hc : M'.2.2.2.2.cells = 0 ∧ M'.2.2.2.2.slots = 0) (hnn : nc ≤ M.2.2.2.2.cells ∧ ns ≤ M.2.2.2.2.slots)
    (kk : ∀ r w', Φ r w' → zWP g M mo (pc + 3) lv (r.toList ++ st) nc ns w') : zWP g M mo pc lv (As.reverse ++ .ref b :: st) nc ns (zw μ) := by
  intro p e s m args below meth c H locs ls C hl hW hS
  have hts := C.2.2.2.2.1
  obtain ⟨k, hk, rfl⟩ := hb
  have hrecv := vk_recv C.2.2.2.2.2.2.2.2.1.2.2.2.1 hk hS
  rw [← hcls] at hrecv
  have hall : ∀ x ∈ wsV M.1.cls idx M'.1.cls M'.1 (zws M'), x ∈ ztbl := fun x hx => by
    rcases List.mem_append.mp hx with h | h
    · simp only [List.mem_cons, List.not_mem_nil, or_false] at h
      rcases h with rfl | rfl | rfl | rfl
      · exact hli
      · exact hin
      · exact hse
      · exact hcal.1
    · exact zws_in hcal x h
  rw [z_rev, List.map_cons]
  have ha : zad g (90001 + k) = zgx g (k + 1) := by rw [show 90001 + k = 90000 + (k + 1) by omega, zad_x]
  have hrecv2 : ∃ cellB : Cell, H[zad g (90001 + k)]? = some cellB ∧ cellB.vm.isStatics = false ∧ s.vm.findClass M'.1.cls = some cellB.cls := by rw [ha]; exact hrecv
  refine zw_run (mc := 0) (ms := 0) (st := st) (va_runV (mc := 0) (ms := 0) (As := As.map (ztv g)) (rest := st.map (ztv g)) (b := zad g (90001 + k)) ⟨C.1, C.2.1, C.2.2.1, C.2.2.2.2.2.1, hts⟩ (by have h := hOK; unfold zOK at h; rw [hc.1, hc.2] at h; exact h) (cwV n hts (z_goodIn hall) rfl hc.1 hc.2 ⟨rfl, hcal.2.2⟩ hrm) ⟨z_blind, hrecv2, (z_pre C hW hS (.ref (90001 + k) :: As)).2⟩ rfl (by rw [List.length_map]; exact hn) hl.1 rfl (lv_room (by rw [z_sum]; exact Nat.le_of_ble_eq_true hsum)) hd ⟨hnn.1, hnn.2⟩) C hl hS (fun r w' h => kk r w' h)
theorem zx_compact {idx : Nat} (hd : decode M.2.1 pc = .ok (.getstatic idx, 3)) (hli : Cond.fieldLink M.1.cls idx "java/lang/String" "COMPACT_STRINGS" "Z" ∈ ztbl) (kk : zWP g M mo (pc + 3) lv (.int (zJ 1) :: st) nc ns (zw μ)) : zWP g M mo pc lv st nc ns (zw μ) := by
  intro p e s m args below meth c H locs ls C hl hW hS
  exact va_gets C.1 C.2.1 C.2.2.2.2.2.2.2.2.1.2.2.2.2.1 hS C.2.2.2.2.2.1 (C.2.2.2.2.1 _ hli) (fun x h => h) hd (kk p e s m args below meth c H locs ls C hl hW hS)
theorem zx_formatter {idx : Nat} (hd : decode M.2.1 pc = .ok (.getstatic idx, 3)) (hli : Cond.fieldLink M.1.cls idx "jdk/internal/util/Preconditions" "SIOOBE_FORMATTER" "Ljava/util/function/BiFunction;" ∈ ztbl) (k1 : zWP g M mo (pc + 3) lv (.null :: st) nc ns (zw μ)) (k2 : zWP g M mo (pc + 3) lv (.ref 90201 :: st) nc ns (zw μ)) : zWP g M mo pc lv st nc ns (zw μ) := by
  intro p e s m args below meth c H locs ls C hl hW hS
  rcases C.2.2.2.2.2.2.2.2.1.2.2.2.2.2 with hz | hz
  · exact va_gets C.1 C.2.1 hz hS C.2.2.2.2.2.1 (C.2.2.2.2.1 _ hli) (fun x h => h) hd (k1 p e s m args below meth c H locs ls C hl hW hS)
  · have k2' := k2 p e s m args below meth c H locs ls C hl hW hS
    have ha : zad g 90201 = zgx g 201 := zad_x g 201
    refine va_gets C.1 C.2.1 hz hS C.2.2.2.2.2.1 (C.2.2.2.2.1 _ hli) (fun x h => h) hd ?_
    rw [← ha]
    exact k2'
theorem zx_coder {idx k : Nat} (hk : k < 9) (hd : decode M.2.1 pc = .ok (.getfield idx, 3)) (hli : Cond.fieldLink M.1.cls idx "java/lang/String" "coder" "B" ∈ ztbl) (kk : zWP g M mo (pc + 3) lv (.int (zJ 0) :: st) nc ns (zw μ)) : zWP g M mo pc lv (.ref (90001 + k) :: st) nc ns (zw μ) := by
  intro p e s m args below meth c H locs ls C hl hW hS
  have ha : zad g (90001 + k) = zgx g (k + 1) := by rw [show 90001 + k = 90000 + (k + 1) by omega, zad_x]
  show W _ _ _ _ _ _ _ _ _ _ _ _ _ _ _ (F0 m pc ls (.ref (zad g (90001 + k)) :: _))
  rw [ha]
  exact vk_getf C.1 C.2.1 (C.2.2.2.2.2.2.2.2.1.2.2.2.1.1 k hk).2.1 hS C.2.2.2.2.2.1 (C.2.2.2.2.1 _ hli) (fun x h => h) hd (kk p e s m args below meth c H locs ls C hl hW hS)
theorem zx_value {idx k : Nat} (hk : k < 9) (hd : decode M.2.1 pc = .ok (.getfield idx, 3)) (hli : Cond.fieldLink M.1.cls idx "java/lang/String" "value" "[B" ∈ ztbl) (kk : zWP g M mo (pc + 3) lv (.ref (90101 + k) :: st) nc ns (zw μ)) : zWP g M mo pc lv (.ref (90001 + k) :: st) nc ns (zw μ) := by
  intro p e s m args below meth c H locs ls C hl hW hS
  have ha : zad g (90001 + k) = zgx g (k + 1) := by rw [show 90001 + k = 90000 + (k + 1) by omega, zad_x]
  have hb : zad g (90101 + k) = zgx g (k + 101) := by rw [show 90101 + k = 90000 + (k + 101) by omega, zad_x]
  have k2 : W _ _ _ _ _ _ _ _ _ _ _ _ _ _ _ (F0 m (pc + 3) ls (.ref (zad g (90101 + k)) :: _)) := kk p e s m args below meth c H locs ls C hl hW hS
  rw [hb] at k2
  show W _ _ _ _ _ _ _ _ _ _ _ _ _ _ _ (F0 m pc ls (.ref (zad g (90001 + k)) :: _))
  rw [ha]
  exact vk_getf C.1 C.2.1 (C.2.2.2.2.2.2.2.2.1.2.2.2.1.1 k hk).2.2.1 hS C.2.2.2.2.2.1 (C.2.2.2.2.1 _ hli) (fun x h => h) hd k2
theorem zx_blen {k : Nat} (hk : k < 9) (hd : decode M.2.1 pc = .ok (.arraylength, 1)) (kk : zWP g M mo (pc + 1) lv (.int (zJ ((zTl.getD k 0 : Nat) : Int)) :: st) nc ns (zw μ)) : zWP g M mo pc lv (.ref (90101 + k) :: st) nc ns (zw μ) := by
  intro p e s m args below meth c H locs ls C hl hW hS
  have hb : zad g (90101 + k) = zgx g (k + 101) := by rw [show 90101 + k = 90000 + (k + 101) by omega, zad_x]
  show W _ _ _ _ _ _ _ _ _ _ _ _ _ _ _ (F0 m pc ls (.ref (zad g (90101 + k)) :: _))
  rw [hb]
  exact va_tlen C.1 C.2.1 (C.2.2.2.2.2.2.2.2.1.2.2.2.1.1 k hk).2.2.2 hS (v := zJ ((zTl.getD k 0 : Nat) : Int)) rfl hd (kk p e s m args below meth c H locs ls C hl hW hS)
def zTc (k x : Nat) : Int := ((zTb.getD k []).getD x 0).toInt
theorem zx_bald {k : Nat} {x : Int} (hk : k < 9) (h0 : 0 ≤ x) (hx : x < (zTl.getD k 0 : Nat)) (hd : decode M.2.1 pc = .ok (.baload, 1)) (kk : zWP g M mo (pc + 1) lv (.int (zJ (zTc k x.toNat)) :: st) nc ns (zw μ)) : zWP g M mo pc lv (.int (zJ x) :: .ref (90101 + k) :: st) nc ns (zw μ) := by
  intro p e s m args below meth c H locs ls C hl hW hS
  have hb : zad g (90101 + k) = zgx g (k + 101) := by rw [show 90101 + k = 90000 + (k + 101) by omega, zad_x]
  have hl9 : ∀ k, k < 9 → zTl.getD k 0 < 100 := by decide
  obtain ⟨hin, ht⟩ := zin h0 hx (by have := hl9 k hk; omega)
  show W _ _ _ _ _ _ _ _ _ _ _ _ _ _ _ (F0 m pc ls (.int (zJ x) :: .ref (zad g (90101 + k)) :: _))
  rw [hb]
  exact va_tb C.1 C.2.1 (C.2.2.2.2.2.2.2.2.1.2.2.2.1.1 k hk).2.2.2 hS hin (v := .int (zJ (zTc k x.toNat))) (by rw [ht, zTc, zJ_of]) hd (kk p e s m args below meth c H locs ls C hl hW hS)
theorem zw_bret {Φ : Option Value → zWS → Prop} {w : zWS} {ty : FieldType} {x : Int} (hd : decode M.2.1 pc = .ok (.ireturn, 1)) (hr : M.2.2.2.1 = some ty) (hnr : narrow ty (.int (zJ x)) = .int (zJ x)) (hn : nc ≤ M.2.2.2.2.cells) (hs : ns ≤ M.2.2.2.2.slots) (h : Φ (some (.int (zJ x))) w) : zWP g M (zmo g M Φ) pc lv [.int (zJ x)] nc ns w := by
  intro p e s m args below meth c H locs ls C hl hW hS
  refine W.widen hn hs ?_
  exact W.zret C.1 C.2.1 (C.2.2.2.1.trans hr) hnr (fun t ht hv => ⟨⟨some (.int (zJ x)), w, rfl, h, by rw [ht]; exact hW⟩, hS.F ht⟩) hS.2.2 hd C.2.2.2.2.2.2.1
theorem zw_i2c {w : zWS} {x y : Int} (hd : decode M.2.1 pc = .ok (.i2c, 1)) (hv : ((zJ x).toUInt32 % 65536).toInt32 = zJ y) (k : zWP g M mo (pc + 1) lv (.int (zJ y) :: st) nc ns w) : zWP g M mo pc lv (.int (zJ x) :: st) nc ns w := by
  intro p e s m args below meth c H locs ls C hl hW hS
  exact lv_i2c C.1 C.2.1 hd hv (k p e s m args below meth c H locs ls C hl hW hS)
theorem zw_aload_n0 {n : Fin 4} (j : Nat) {i : Nat} {w : zWS} (hd : decode M.2.1 pc = .ok (.aload_n n, 1)) (hi : (n : Nat) = i) (hj : lv[j]? = some (i, .null)) (k : zWP g M mo (pc + 1) lv (.null :: st) nc ns w) : zWP g M mo pc lv st nc ns w := by
  intro p e s m args below meth c H locs ls C hl hW hS
  exact lv_aload_nN C.1 C.2.1 hd hi (zlv_at hl j hj) (k p e s m args below meth c H locs ls C hl hW hS)
end ZST
theorem zl_J0_335 : Cond.methodLink "java/lang/String" 335 yJ0_coder_7d493 ∈ ztbl := zmem 776 (by decide +kernel) rfl
theorem zl_J0_492 : Cond.methodLink "java/lang/String" 492 yJ0_isLatin1_aae02 ∈ ztbl := zmem 786 (by decide +kernel) rfl
theorem zl_J0_495 : Cond.methodLink "java/lang/String" 495 yJ1_charAt_3b067 ∈ ztbl := zmem 790 (by decide +kernel) rfl
theorem zl_J1_9 : Cond.methodLink "java/lang/StringLatin1" 9 yJ0_checkIndex_df160 ∈ ztbl := zmem 793 (by decide +kernel) rfl
theorem zl_J0_1059 : Cond.methodLink "java/lang/String" 1059 yJ3_checkIndex_8e157 ∈ ztbl := zmem 798 (by decide +kernel) rfl
theorem zl_J0_f38 : Cond.fieldLink "java/lang/String" 38 "java/lang/String" "COMPACT_STRINGS" "Z" ∈ ztbl := zmem 780 (by decide +kernel) rfl
theorem zl_J0_f1053 : Cond.fieldLink "java/lang/String" 1053 "jdk/internal/util/Preconditions" "SIOOBE_FORMATTER" "Ljava/util/function/BiFunction;" ∈ ztbl := zmem 796 (by decide +kernel) rfl
theorem zl_J0_f9 : Cond.fieldLink "java/lang/String" 9 "java/lang/String" "value" "[B" ∈ ztbl := zmem 1467 (by decide +kernel) rfl
theorem zl_J0_f15 : Cond.fieldLink "java/lang/String" 15 "java/lang/String" "coder" "B" ∈ ztbl := zmem 1468 (by decide +kernel) rfl
theorem sg_J0_coder {g : zG} {μ : zMu} {k : Nat} {φ : Int → zMu → Prop} (hk : k < 9) (h : φ 0 μ) : zOi g zm_J0_coder_7d493 [.ref (90001 + k)] μ φ := by
  refine zok_of (by decide +kernel) rfl ?_
  show zWP g zm_J0_coder_7d493 (zmo g zm_J0_coder_7d493 (zΦi φ)) 0 [(0, .ref (90001 + k))] [] 0 0 (zw μ)
  refine zx_compact (pc := 0) (idx := 38) (by decide +kernel) zl_J0_f38 ?_
  refine zw_if_eq (pc := 3) (off := 10) (tgt := 13) (by decide +kernel) (by decide) (by decide) (fun hc => absurd hc (by decide)) (fun hc => ?_)
  refine zw_aload_n (pc := 6) (n := 0) (i := 0) 0 (by decide +kernel) rfl rfl ?_
  refine zx_coder (pc := 7) (idx := 15) hk (by decide +kernel) zl_J0_f15 ?_
  refine zw_goto (pc := 10) (off := 4) (tgt := 14) (by decide +kernel) (by decide) ?_
  exact zw_bret (pc := 14) (ty := .byte) (by decide +kernel) rfl (by decide +kernel) (Nat.le_refl _) (Nat.le_refl _) ⟨_, _, rfl, rfl, h⟩
theorem sg_J0_isLatin1 {g : zG} {μ : zMu} {k : Nat} {φ : Int → zMu → Prop} (hk : k < 9) (h : φ 1 μ) : zOi g zm_J0_isLatin1_aae02 [.ref (90001 + k)] μ φ := by
  refine zok_of (by decide +kernel) rfl ?_
  show zWP g zm_J0_isLatin1_aae02 (zmo g zm_J0_isLatin1_aae02 (zΦi φ)) 0 [(0, .ref (90001 + k))] [] 0 0 (zw μ)
  refine zx_compact (pc := 0) (idx := 38) (by decide +kernel) zl_J0_f38 ?_
  refine zw_if_eq (pc := 3) (off := 14) (tgt := 17) (by decide +kernel) (by decide) (by decide) (fun hc => absurd hc (by decide)) (fun hc => ?_)
  refine zw_aload_n (pc := 6) (n := 0) (i := 0) 0 (by decide +kernel) rfl rfl ?_
  refine zx_coder (pc := 7) (idx := 15) hk (by decide +kernel) zl_J0_f15 ?_
  refine zw_if_ne (pc := 10) (off := 7) (tgt := 17) (by decide +kernel) (by decide) (by decide) (fun hc => absurd rfl hc) (fun hc => ?_)
  refine zw_iconst (pc := 13) (n := 1) (by decide +kernel) ?_
  refine zw_goto (pc := 14) (off := 4) (tgt := 18) (by decide +kernel) (by decide) ?_
  exact zw_zret (pc := 18) (by decide +kernel) rfl (Nat.le_refl _) (Nat.le_refl _) (Or.inr rfl) ⟨_, _, rfl, rfl, h⟩
theorem zshr0 : ∀ k, k < 9 → zshr ((zTl.getD k 0 : Nat) : Int) 0 = ((zTl.getD k 0 : Nat) : Int) := by decide +kernel
theorem sg_J0_length {g : zG} {μ : zMu} {k : Nat} {φ : Int → zMu → Prop} (hk : k < 9) (h : φ ((zTl.getD k 0 : Nat) : Int) μ) : zOi g zm_J0_length_8abf5 [.ref (90001 + k)] μ φ := by
  refine zok_of (by decide +kernel) rfl ?_
  show zWP g zm_J0_length_8abf5 (zmo g zm_J0_length_8abf5 (zΦi φ)) 0 [(0, .ref (90001 + k))] [] 0 0 (zw μ)
  refine zw_aload_n (pc := 0) (n := 0) (i := 0) 0 (by decide +kernel) rfl rfl ?_
  refine zx_value (pc := 1) (idx := 9) hk (by decide +kernel) zl_J0_f9 ?_
  refine zx_blen (pc := 4) hk (by decide +kernel) ?_
  refine zw_aload_n (pc := 5) (n := 0) (i := 0) 0 (by decide +kernel) rfl rfl ?_
  refine zx_callT (pc := 6) (As := []) (sg_J0_coder (φ := fun x μ' => x = 0 ∧ μ' = μ) hk ⟨rfl, rfl⟩) zi_J0_coder_7d493 zii_J0_coder_7d493 zie_J0_coder_7d493 zl_J0_335 (by decide +kernel) ⟨Nat.le_of_ble_eq_true rfl, Nat.le_of_ble_eq_true rfl⟩ rfl ⟨k, hk, rfl⟩ rfl rfl ⟨rfl, rfl⟩ ⟨Nat.zero_le _, Nat.zero_le _⟩ (zki (fun x μ' hx => ?_))
  obtain ⟨rfl, rfl⟩ := hx
  refine zw_ishr (pc := 9) (by decide +kernel) ?_
  rw [zshr0 k hk]
  exact zw_iret (pc := 10) (by decide +kernel) rfl (Nat.le_refl _) (Nat.le_refl _) ⟨_, _, rfl, rfl, h⟩
theorem sg_J3_checkIndex {g : zG} {μ : zMu} {x n : Int} {V : Value} {φ : Int → zMu → Prop} (hV : V = .null ∨ V = .ref 90201) (h0 : 0 ≤ x) (hx : x < n) (hn : zR n) (h : φ x μ) : zOi g zm_J3_checkIndex_8e157 [.int (zJ x), .int (zJ n), V] μ φ := by
  rcases hV with rfl | rfl
  · refine zok_of (by decide +kernel) rfl ?_
    show zWP g zm_J3_checkIndex_8e157 (zmo g zm_J3_checkIndex_8e157 (zΦi φ)) 0 [(0, .int (zJ x)), (1, .int (zJ n)), (2, .null)] [] 0 0 (zw μ)
    refine zw_iload_n (pc := 0) (n := 0) (i := 0) 0 (by decide +kernel) rfl rfl ?_
    refine zw_if_lt (pc := 1) (off := 8) (tgt := 9) (by decide +kernel) (by decide) (by omega) (fun hc => absurd hc (by omega)) (fun hc => ?_)
    refine zw_iload_n (pc := 4) (n := 0) (i := 0) 0 (by decide +kernel) rfl rfl ?_
    refine zw_iload_n (pc := 5) (n := 1) (i := 1) 1 (by decide +kernel) rfl rfl ?_
    refine zw_icmp_lt (pc := 6) (off := 10) (tgt := 16) (by decide +kernel) (by decide) (by omega) (by omega) (fun hc => ?_) (fun hc => absurd hc (by omega))
    refine zw_iload_n (pc := 16) (n := 0) (i := 0) 0 (by decide +kernel) rfl rfl ?_
    exact zw_iret (pc := 17) (by decide +kernel) rfl (Nat.le_refl _) (Nat.le_refl _) ⟨_, _, rfl, rfl, h⟩
  · refine zok_of (by decide +kernel) rfl ?_
    show zWP g zm_J3_checkIndex_8e157 (zmo g zm_J3_checkIndex_8e157 (zΦi φ)) 0 [(0, .int (zJ x)), (1, .int (zJ n)), (2, .ref 90201)] [] 0 0 (zw μ)
    refine zw_iload_n (pc := 0) (n := 0) (i := 0) 0 (by decide +kernel) rfl rfl ?_
    refine zw_if_lt (pc := 1) (off := 8) (tgt := 9) (by decide +kernel) (by decide) (by omega) (fun hc => absurd hc (by omega)) (fun hc => ?_)
    refine zw_iload_n (pc := 4) (n := 0) (i := 0) 0 (by decide +kernel) rfl rfl ?_
    refine zw_iload_n (pc := 5) (n := 1) (i := 1) 1 (by decide +kernel) rfl rfl ?_
    refine zw_icmp_lt (pc := 6) (off := 10) (tgt := 16) (by decide +kernel) (by decide) (by omega) (by omega) (fun hc => ?_) (fun hc => absurd hc (by omega))
    refine zw_iload_n (pc := 16) (n := 0) (i := 0) 0 (by decide +kernel) rfl rfl ?_
    exact zw_iret (pc := 17) (by decide +kernel) rfl (Nat.le_refl _) (Nat.le_refl _) ⟨_, _, rfl, rfl, h⟩
theorem sg_J0_checkIndex {g : zG} {μ : zMu} {x n : Int} {φ : zMu → Prop} (h0 : 0 ≤ x) (hx : x < n) (hn : zR n) (h : φ μ) : zOv g zm_J0_checkIndex_df160 [.int (zJ x), .int (zJ n)] μ φ := by
  refine zok_of (by decide +kernel) rfl ?_
  show zWP g zm_J0_checkIndex_df160 (zmo g zm_J0_checkIndex_df160 (zΦv φ)) 0 [(0, .int (zJ x)), (1, .int (zJ n))] [] 0 0 (zw μ)
  refine zw_iload_n (pc := 0) (n := 0) (i := 0) 0 (by decide +kernel) rfl rfl ?_
  refine zw_iload_n (pc := 1) (n := 1) (i := 1) 1 (by decide +kernel) rfl rfl ?_
  refine zx_formatter (pc := 2) (idx := 1053) (by decide +kernel) zl_J0_f1053 ?_ ?_
  · refine zx_callS (pc := 5) (As := [.int (zJ x), .int (zJ n), .null]) (sg_J3_checkIndex (φ := fun y μ' => μ' = μ) (Or.inl rfl) h0 hx hn rfl) zi_J3_checkIndex_8e157 zis_J3_checkIndex_8e157 zl_J0_1059 (by decide +kernel) ⟨Nat.le_of_ble_eq_true rfl, Nat.le_of_ble_eq_true rfl⟩ rfl rfl ⟨rfl, rfl⟩ ⟨Nat.zero_le _, Nat.zero_le _⟩ (zki (fun y μ' hy => ?_))
    subst hy
    refine zw_pop (pc := 8) (by decide +kernel) rfl ?_
    exact zw_vret (pc := 9) (by decide +kernel) rfl (Nat.le_refl _) (Nat.le_refl _) ⟨_, rfl, rfl, h⟩
  · refine zx_callS (pc := 5) (As := [.int (zJ x), .int (zJ n), .ref 90201]) (sg_J3_checkIndex (φ := fun y μ' => μ' = μ) (Or.inr rfl) h0 hx hn rfl) zi_J3_checkIndex_8e157 zis_J3_checkIndex_8e157 zl_J0_1059 (by decide +kernel) ⟨Nat.le_of_ble_eq_true rfl, Nat.le_of_ble_eq_true rfl⟩ rfl rfl ⟨rfl, rfl⟩ ⟨Nat.zero_le _, Nat.zero_le _⟩ (zki (fun y μ' hy => ?_))
    subst hy
    refine zw_pop (pc := 8) (by decide +kernel) rfl ?_
    exact zw_vret (pc := 9) (by decide +kernel) rfl (Nat.le_refl _) (Nat.le_refl _) ⟨_, rfl, rfl, h⟩
theorem zTc_b : ∀ k, k < 9 → ∀ x, x < zTl.getD k 0 → zand (zTc k x) 255 = zTc k x ∧ ((zJ (zTc k x)).toUInt32 % 65536).toInt32 = zJ (zTc k x) ∧ narrow .char (.int (zJ (zTc k x))) = .int (zJ (zTc k x)) := by decide +kernel
theorem sg_J1_charAt {g : zG} {μ : zMu} {k : Nat} {x : Int} {φ : Int → zMu → Prop} (hk : k < 9) (h0 : 0 ≤ x) (hx : x < (zTl.getD k 0 : Nat)) (h : φ (zTc k x.toNat) μ) : zOi g zm_J1_charAt_3b067 [.ref (90101 + k), .int (zJ x)] μ φ := by
  have hl9 : ∀ k, k < 9 → zTl.getD k 0 < 100 := by decide
  have hz := hl9 k hk
  obtain ⟨b1, b2, b3⟩ := zTc_b k hk x.toNat (by omega)
  refine zok_of (by decide +kernel) rfl ?_
  show zWP g zm_J1_charAt_3b067 (zmo g zm_J1_charAt_3b067 (zΦi φ)) 0 [(0, .ref (90101 + k)), (1, .int (zJ x))] [] 0 0 (zw μ)
  refine zw_iload_n (pc := 0) (n := 1) (i := 1) 1 (by decide +kernel) rfl rfl ?_
  refine zw_aload_n (pc := 1) (n := 0) (i := 0) 0 (by decide +kernel) rfl rfl ?_
  refine zx_blen (pc := 2) hk (by decide +kernel) ?_
  refine zx_callS (pc := 3) (As := [.int (zJ x), .int (zJ ((zTl.getD k 0 : Nat) : Int))]) (sg_J0_checkIndex (φ := fun μ' => μ' = μ) h0 hx (by omega) rfl) zi_J0_checkIndex_df160 zis_J0_checkIndex_df160 zl_J1_9 (by decide +kernel) ⟨Nat.le_of_ble_eq_true rfl, Nat.le_of_ble_eq_true rfl⟩ rfl rfl ⟨rfl, rfl⟩ ⟨Nat.zero_le _, Nat.zero_le _⟩ (zkv (fun μ' hy => ?_))
  subst hy
  refine zw_aload_n (pc := 6) (n := 0) (i := 0) 0 (by decide +kernel) rfl rfl ?_
  refine zw_iload_n (pc := 7) (n := 1) (i := 1) 1 (by decide +kernel) rfl rfl ?_
  refine zx_bald (pc := 8) hk h0 hx (by decide +kernel) ?_
  refine zw_sipush (pc := 9) (n := 255) (by decide +kernel) (by decide +kernel) ?_
  refine zw_iand (pc := 12) (by decide +kernel) ?_
  rw [b1]
  refine zw_i2c (pc := 13) (by decide +kernel) b2 ?_
  exact zw_bret (pc := 14) (ty := .char) (by decide +kernel) rfl b3 (Nat.le_refl _) (Nat.le_refl _) ⟨_, _, rfl, rfl, h⟩
theorem sg_J0_charAt {g : zG} {μ : zMu} {k : Nat} {x : Int} {φ : Int → zMu → Prop} (hk : k < 9) (h0 : 0 ≤ x) (hx : x < (zTl.getD k 0 : Nat)) (h : φ (zTc k x.toNat) μ) : zOi g zm_J0_charAt_5068e [.ref (90001 + k), .int (zJ x)] μ φ := by
  have hl9 : ∀ k, k < 9 → zTl.getD k 0 < 100 := by decide
  have hz := hl9 k hk
  obtain ⟨b1, b2, b3⟩ := zTc_b k hk x.toNat (by omega)
  refine zok_of (by decide +kernel) rfl ?_
  show zWP g zm_J0_charAt_5068e (zmo g zm_J0_charAt_5068e (zΦi φ)) 0 [(0, .ref (90001 + k)), (1, .int (zJ x))] [] 0 0 (zw μ)
  refine zw_aload_n (pc := 0) (n := 0) (i := 0) 0 (by decide +kernel) rfl rfl ?_
  refine zx_callT (pc := 1) (As := []) (sg_J0_isLatin1 (φ := fun x μ' => x = 1 ∧ μ' = μ) hk ⟨rfl, rfl⟩) zi_J0_isLatin1_aae02 zii_J0_isLatin1_aae02 zie_J0_isLatin1_aae02 zl_J0_492 (by decide +kernel) ⟨Nat.le_of_ble_eq_true rfl, Nat.le_of_ble_eq_true rfl⟩ rfl ⟨k, hk, rfl⟩ rfl rfl ⟨rfl, rfl⟩ ⟨Nat.zero_le _, Nat.zero_le _⟩ (zki (fun x μ' hx => ?_))
  obtain ⟨rfl, rfl⟩ := hx
  refine zw_if_eq (pc := 4) (off := 12) (tgt := 16) (by decide +kernel) (by decide) (by decide) (fun hc => absurd hc (by decide)) (fun hc => ?_)
  refine zw_aload_n (pc := 7) (n := 0) (i := 0) 0 (by decide +kernel) rfl rfl ?_
  refine zx_value (pc := 8) (idx := 9) hk (by decide +kernel) zl_J0_f9 ?_
  refine zw_iload_n (pc := 11) (n := 1) (i := 1) 1 (by decide +kernel) rfl rfl ?_
  refine zx_callS (pc := 12) (As := [.ref (90101 + k), .int (zJ _)]) (sg_J1_charAt (φ := fun y μ' => y = zTc k (Int.toNat _) ∧ μ' = _) hk h0 hx ⟨rfl, rfl⟩) zi_J1_charAt_3b067 zis_J1_charAt_3b067 zl_J0_495 (by decide +kernel) ⟨Nat.le_of_ble_eq_true rfl, Nat.le_of_ble_eq_true rfl⟩ rfl rfl ⟨rfl, rfl⟩ ⟨Nat.zero_le _, Nat.zero_le _⟩ (zki (fun y μ' hy => ?_))
  obtain ⟨rfl, rfl⟩ := hy
  exact zw_bret (pc := 15) (ty := .char) (by decide +kernel) rfl b3 (Nat.le_refl _) (Nat.le_refl _) ⟨_, _, rfl, rfl, h⟩
end
