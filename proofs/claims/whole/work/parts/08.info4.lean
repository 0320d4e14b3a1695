theorem zi_X10_whole : zCal zm_X10_whole 0 := ⟨zmem_1 1 (by decide +kernel) rfl, zmem_4 0 (by decide +kernel) rfl, by decide +kernel, by decide +kernel, by decide +kernel⟩
theorem zii_X10_whole : Cond.instanceMethod yX10_whole ∈ ztbl := zmem_3 238 (by decide +kernel) rfl
theorem zie_X10_whole : Cond.selects zm_X10_whole.1.cls yX10_whole yX10_whole ∈ ztbl := zmem_3 239 (by decide +kernel) rfl
abbrev zm_X0_keptProduct : zM := (yX0_keptProduct, cX0_keptProduct, 4, (some .long), { frames := 1, cells := 0, slots := 0, locals := 20 })
theorem zi_X0_keptProduct : zCal zm_X0_keptProduct 0 := ⟨zmem_1 2 (by decide +kernel) rfl, zmem_4 4 (by decide +kernel) rfl, by decide +kernel, by decide +kernel, by decide +kernel⟩
theorem zii_X0_keptProduct : Cond.instanceMethod yX0_keptProduct ∈ ztbl := zmem_4 2 (by decide +kernel) rfl
theorem zie_X0_keptProduct : Cond.selects zm_X0_keptProduct.1.cls yX0_keptProduct yX0_keptProduct ∈ ztbl := zmem_4 3 (by decide +kernel) rfl
abbrev zm_X10_feed : zM := (yX10_feed, cX10_feed, 2, (some .int), { frames := 1, cells := 0, slots := 0, locals := 21 })
theorem zi_X10_feed : zCal zm_X10_feed 1 := ⟨zmem_1 1 (by decide +kernel) rfl, zmem_4 8 (by decide +kernel) rfl, by decide +kernel, by decide +kernel, by decide +kernel⟩
theorem zii_X10_feed : Cond.instanceMethod yX10_feed ∈ ztbl := zmem_4 6 (by decide +kernel) rfl
theorem zie_X10_feed : Cond.selects zm_X10_feed.1.cls yX10_feed yX10_feed ∈ ztbl := zmem_4 7 (by decide +kernel) rfl
abbrev zm_X8_append : zM := (yX8_append, cX8_append, 2, none, { frames := 0, cells := 0, slots := 0, locals := 0 })
theorem zi_X8_append : zCal zm_X8_append 1 := ⟨zmem_1 10 (by decide +kernel) rfl, zmem_4 12 (by decide +kernel) rfl, by decide +kernel, by decide +kernel, by decide +kernel⟩
theorem zii_X8_append : Cond.instanceMethod yX8_append ∈ ztbl := zmem_4 10 (by decide +kernel) rfl
theorem zie_X8_append : Cond.selects zm_X8_append.1.cls yX8_append yX8_append ∈ ztbl := zmem_4 11 (by decide +kernel) rfl
abbrev zm_X10_deeds : zM := (yX10_deeds, cX10_deeds, 5, (some .int), { frames := 8, cells := 0, slots := 0, locals := 177 })
theorem zi_X10_deeds : zCal zm_X10_deeds 0 := ⟨zmem_1 1 (by decide +kernel) rfl, zmem_4 16 (by decide +kernel) rfl, by decide +kernel, by decide +kernel, by decide +kernel⟩
theorem zii_X10_deeds : Cond.instanceMethod yX10_deeds ∈ ztbl := zmem_4 14 (by decide +kernel) rfl
theorem zie_X10_deeds : Cond.selects zm_X10_deeds.1.cls yX10_deeds yX10_deeds ∈ ztbl := zmem_4 15 (by decide +kernel) rfl
abbrev zm_X5_parse : zM := (yX5_parse, cX5_parse, 3, (some .boolean), { frames := 7, cells := 0, slots := 0, locals := 155 })
theorem zi_X5_parse : zCal zm_X5_parse 1 := ⟨zmem_1 11 (by decide +kernel) rfl, zmem_4 20 (by decide +kernel) rfl, by decide +kernel, by decide +kernel, by decide +kernel⟩
theorem zii_X5_parse : Cond.instanceMethod yX5_parse ∈ ztbl := zmem_4 18 (by decide +kernel) rfl
theorem zie_X5_parse : Cond.selects zm_X5_parse.1.cls yX5_parse yX5_parse ∈ ztbl := zmem_4 19 (by decide +kernel) rfl
abbrev zm_X8_rewind : zM := (yX8_rewind, cX8_rewind, 1, none, { frames := 0, cells := 0, slots := 0, locals := 0 })
theorem zi_X8_rewind : zCal zm_X8_rewind 0 := ⟨zmem_1 10 (by decide +kernel) rfl, zmem_4 24 (by decide +kernel) rfl, by decide +kernel, by decide +kernel, by decide +kernel⟩
theorem zii_X8_rewind : Cond.instanceMethod yX8_rewind ∈ ztbl := zmem_4 22 (by decide +kernel) rfl
theorem zie_X8_rewind : Cond.selects zm_X8_rewind.1.cls yX8_rewind yX8_rewind ∈ ztbl := zmem_4 23 (by decide +kernel) rfl
abbrev zm_X5_parseCommand : zM := (yX5_parseCommand, cX5_parseCommand, 6, (some .boolean), { frames := 6, cells := 0, slots := 0, locals := 130 })
theorem zi_X5_parseCommand : zCal zm_X5_parseCommand 1 := ⟨zmem_1 11 (by decide +kernel) rfl, zmem_4 28 (by decide +kernel) rfl, by decide +kernel, by decide +kernel, by decide +kernel⟩
theorem zii_X5_parseCommand : Cond.instanceMethod yX5_parseCommand ∈ ztbl := zmem_4 27 (by decide +kernel) rfl
theorem zie_X5_parseCommand : Cond.selects zm_X5_parseCommand.1.cls yX5_parseCommand yX5_parseCommand ∈ ztbl := zmemp 19 (by decide +kernel) rfl
abbrev zm_X8_wordEnd : zM := (yX8_wordEnd, cX8_wordEnd, 2, (some .int), { frames := 0, cells := 0, slots := 0, locals := 0 })
theorem zi_X8_wordEnd : zCal zm_X8_wordEnd 0 := ⟨zmem_1 10 (by decide +kernel) rfl, zmem_4 32 (by decide +kernel) rfl, by decide +kernel, by decide +kernel, by decide +kernel⟩
theorem zii_X8_wordEnd : Cond.instanceMethod yX8_wordEnd ∈ ztbl := zmem_4 30 (by decide +kernel) rfl
theorem zie_X8_wordEnd : Cond.selects zm_X8_wordEnd.1.cls yX8_wordEnd yX8_wordEnd ∈ ztbl := zmem_4 31 (by decide +kernel) rfl
abbrev zm_X5_commandAt : zM := (yX5_commandAt, cX5_commandAt, 3, (some .int), { frames := 5, cells := 0, slots := 0, locals := 108 })
theorem zi_X5_commandAt : zCal zm_X5_commandAt 2 := ⟨zmem_1 11 (by decide +kernel) rfl, zmem_4 35 (by decide +kernel) rfl, by decide +kernel, by decide +kernel, by decide +kernel⟩
theorem zis_X5_commandAt : Cond.static yX5_commandAt ∈ ztbl := zmem_4 34 (by decide +kernel) rfl
abbrev zm_X5_wordOf : zM := (yX5_wordOf, cX5_wordOf, 1, (some (.object "java/lang/String")), { frames := 0, cells := 0, slots := 0, locals := 0 })
theorem zi_X5_wordOf : zCal zm_X5_wordOf 1 := ⟨zmem_1 11 (by decide +kernel) rfl, zmem_4 38 (by decide +kernel) rfl, by decide +kernel, by decide +kernel, by decide +kernel⟩
theorem zis_X5_wordOf : Cond.static yX5_wordOf ∈ ztbl := zmem_4 37 (by decide +kernel) rfl
abbrev zm_X8_hasWord : zM := (yX8_hasWord, cX8_hasWord, 4, (some .boolean), { frames := 4, cells := 0, slots := 0, locals := 85 })
theorem zi_X8_hasWord : zCal zm_X8_hasWord 2 := ⟨zmem_1 10 (by decide +kernel) rfl, zmem_4 51 (by decide +kernel) rfl, by decide +kernel, by decide +kernel, by decide +kernel⟩
theorem zii_X8_hasWord : Cond.instanceMethod yX8_hasWord ∈ ztbl := zmem_4 49 (by decide +kernel) rfl
theorem zie_X8_hasWord : Cond.selects zm_X8_hasWord.1.cls yX8_hasWord yX8_hasWord ∈ ztbl := zmem_4 50 (by decide +kernel) rfl
abbrev zm_J0_length_8abf5 : zM := (yJ0_length_8abf5, cJ0_length_8abf5, 1, (some .int), { frames := 1, cells := 0, slots := 0, locals := 20 })
theorem zi_J0_length_8abf5 : zCal zm_J0_length_8abf5 0 := ⟨zmem_1 16 (by decide +kernel) rfl, zmem_4 55 (by decide +kernel) rfl, by decide +kernel, by decide +kernel, by decide +kernel⟩
theorem zii_J0_length_8abf5 : Cond.instanceMethod yJ0_length_8abf5 ∈ ztbl := zmem_4 53 (by decide +kernel) rfl
theorem zie_J0_length_8abf5 : Cond.selects zm_J0_length_8abf5.1.cls yJ0_length_8abf5 yJ0_length_8abf5 ∈ ztbl := zmem_4 54 (by decide +kernel) rfl
abbrev zm_J0_coder_7d493 : zM := (yJ0_coder_7d493, cJ0_coder_7d493, 1, (some .byte), { frames := 0, cells := 0, slots := 0, locals := 0 })
theorem zi_J0_coder_7d493 : zCal zm_J0_coder_7d493 0 := ⟨zmem_1 16 (by decide +kernel) rfl, zmem_4 59 (by decide +kernel) rfl, by decide +kernel, by decide +kernel, by decide +kernel⟩
theorem zii_J0_coder_7d493 : Cond.instanceMethod yJ0_coder_7d493 ∈ ztbl := zmem_4 57 (by decide +kernel) rfl
theorem zie_J0_coder_7d493 : Cond.selects zm_J0_coder_7d493.1.cls yJ0_coder_7d493 yJ0_coder_7d493 ∈ ztbl := zmem_4 58 (by decide +kernel) rfl
abbrev zm_J0_charAt_5068e : zM := (yJ0_charAt_5068e, cJ0_charAt_5068e, 2, (some .char), { frames := 3, cells := 0, slots := 0, locals := 64 })
theorem zi_J0_charAt_5068e : zCal zm_J0_charAt_5068e 1 := ⟨zmem_1 16 (by decide +kernel) rfl, zmem_4 65 (by decide +kernel) rfl, by decide +kernel, by decide +kernel, by decide +kernel⟩
theorem zii_J0_charAt_5068e : Cond.instanceMethod yJ0_charAt_5068e ∈ ztbl := zmem_4 63 (by decide +kernel) rfl
theorem zie_J0_charAt_5068e : Cond.selects zm_J0_charAt_5068e.1.cls yJ0_charAt_5068e yJ0_charAt_5068e ∈ ztbl := zmem_4 64 (by decide +kernel) rfl
abbrev zm_J0_isLatin1_aae02 : zM := (yJ0_isLatin1_aae02, cJ0_isLatin1_aae02, 1, (some .boolean), { frames := 0, cells := 0, slots := 0, locals := 0 })
theorem zi_J0_isLatin1_aae02 : zCal zm_J0_isLatin1_aae02 0 := ⟨zmem_1 16 (by decide +kernel) rfl, zmem_4 69 (by decide +kernel) rfl, by decide +kernel, by decide +kernel, by decide +kernel⟩
theorem zii_J0_isLatin1_aae02 : Cond.instanceMethod yJ0_isLatin1_aae02 ∈ ztbl := zmem_4 67 (by decide +kernel) rfl
theorem zie_J0_isLatin1_aae02 : Cond.selects zm_J0_isLatin1_aae02.1.cls yJ0_isLatin1_aae02 yJ0_isLatin1_aae02 ∈ ztbl := zmem_4 68 (by decide +kernel) rfl
abbrev zm_J1_charAt_3b067 : zM := (yJ1_charAt_3b067, cJ1_charAt_3b067, 2, (some .char), { frames := 2, cells := 0, slots := 0, locals := 43 })
theorem zi_J1_charAt_3b067 : zCal zm_J1_charAt_3b067 2 := ⟨zmem_1 17 (by decide +kernel) rfl, zmem_4 72 (by decide +kernel) rfl, by decide +kernel, by decide +kernel, by decide +kernel⟩
theorem zis_J1_charAt_3b067 : Cond.static yJ1_charAt_3b067 ∈ ztbl := zmem_4 71 (by decide +kernel) rfl
abbrev zm_J0_checkIndex_df160 : zM := (yJ0_checkIndex_df160, cJ0_checkIndex_df160, 2, none, { frames := 1, cells := 0, slots := 0, locals := 22 })
theorem zi_J0_checkIndex_df160 : zCal zm_J0_checkIndex_df160 2 := ⟨zmem_1 16 (by decide +kernel) rfl, zmem_4 75 (by decide +kernel) rfl, by decide +kernel, by decide +kernel, by decide +kernel⟩
theorem zis_J0_checkIndex_df160 : Cond.static yJ0_checkIndex_df160 ∈ ztbl := zmem_4 74 (by decide +kernel) rfl
abbrev zm_J3_checkIndex_8e157 : zM := (yJ3_checkIndex_8e157, cJ3_checkIndex_8e157, 3, (some .int), { frames := 0, cells := 0, slots := 0, locals := 0 })
theorem zi_J3_checkIndex_8e157 : zCal zm_J3_checkIndex_8e157 3 := ⟨zmem_1 18 (by decide +kernel) rfl, zmem_4 80 (by decide +kernel) rfl, by decide +kernel, by decide +kernel, by decide +kernel⟩
theorem zis_J3_checkIndex_8e157 : Cond.static yJ3_checkIndex_8e157 ∈ ztbl := zmem_4 79 (by decide +kernel) rfl
abbrev zm_X5_numbersAfter : zM := (yX5_numbersAfter, cX5_numbersAfter, 1, (some .int), { frames := 0, cells := 0, slots := 0, locals := 0 })
theorem zi_X5_numbersAfter : zCal zm_X5_numbersAfter 1 := ⟨zmem_1 11 (by decide +kernel) rfl, zmem_4 102 (by decide +kernel) rfl, by decide +kernel, by decide +kernel, by decide +kernel⟩
theorem zis_X5_numbersAfter : Cond.static yX5_numbersAfter ∈ ztbl := zmem_4 101 (by decide +kernel) rfl
abbrev zm_X8_accept : zM := (yX8_accept, cX8_accept, 2, (some .boolean), { frames := 0, cells := 0, slots := 0, locals := 0 })
theorem zi_X8_accept : zCal zm_X8_accept 1 := ⟨zmem_1 10 (by decide +kernel) rfl, zmem_4 106 (by decide +kernel) rfl, by decide +kernel, by decide +kernel, by decide +kernel⟩
theorem zii_X8_accept : Cond.instanceMethod yX8_accept ∈ ztbl := zmem_4 104 (by decide +kernel) rfl
theorem zie_X8_accept : Cond.selects zm_X8_accept.1.cls yX8_accept yX8_accept ∈ ztbl := zmem_4 105 (by decide +kernel) rfl
abbrev zm_X8_acceptSignedNumber : zM := (yX8_acceptSignedNumber, cX8_acceptSignedNumber, 3, (some .boolean), { frames := 2, cells := 0, slots := 0, locals := 43 })
theorem zi_X8_acceptSignedNumber : zCal zm_X8_acceptSignedNumber 0 := ⟨zmem_1 10 (by decide +kernel) rfl, zmem_4 110 (by decide +kernel) rfl, by decide +kernel, by decide +kernel, by decide +kernel⟩
theorem zii_X8_acceptSignedNumber : Cond.instanceMethod yX8_acceptSignedNumber ∈ ztbl := zmem_4 108 (by decide +kernel) rfl
theorem zie_X8_acceptSignedNumber : Cond.selects zm_X8_acceptSignedNumber.1.cls yX8_acceptSignedNumber yX8_acceptSignedNumber ∈ ztbl := zmem_4 109 (by decide +kernel) rfl
abbrev zm_X8_acceptNumber : zM := (yX8_acceptNumber, cX8_acceptNumber, 2, (some .boolean), { frames := 1, cells := 0, slots := 0, locals := 22 })
theorem zi_X8_acceptNumber : zCal zm_X8_acceptNumber 0 := ⟨zmem_1 10 (by decide +kernel) rfl, zmem_4 115 (by decide +kernel) rfl, by decide +kernel, by decide +kernel, by decide +kernel⟩
theorem zii_X8_acceptNumber : Cond.instanceMethod yX8_acceptNumber ∈ ztbl := zmem_4 113 (by decide +kernel) rfl
theorem zie_X8_acceptNumber : Cond.selects zm_X8_acceptNumber.1.cls yX8_acceptNumber yX8_acceptNumber ∈ ztbl := zmem_4 114 (by decide +kernel) rfl
abbrev zm_X8_isAtDigit : zM := (yX8_isAtDigit, cX8_isAtDigit, 3, (some .boolean), { frames := 0, cells := 0, slots := 0, locals := 0 })
theorem zi_X8_isAtDigit : zCal zm_X8_isAtDigit 2 := ⟨zmem_1 10 (by decide +kernel) rfl, zmem_4 119 (by decide +kernel) rfl, by decide +kernel, by decide +kernel, by decide +kernel⟩
theorem zii_X8_isAtDigit : Cond.instanceMethod yX8_isAtDigit ∈ ztbl := zmem_4 117 (by decide +kernel) rfl
theorem zie_X8_isAtDigit : Cond.selects zm_X8_isAtDigit.1.cls yX8_isAtDigit yX8_isAtDigit ∈ ztbl := zmem_4 118 (by decide +kernel) rfl
abbrev zm_X8_isAtEnd : zM := (yX8_isAtEnd, cX8_isAtEnd, 1, (some .boolean), { frames := 0, cells := 0, slots := 0, locals := 0 })
theorem zi_X8_isAtEnd : zCal zm_X8_isAtEnd 0 := ⟨zmem_1 10 (by decide +kernel) rfl, zmem_4 123 (by decide +kernel) rfl, by decide +kernel, by decide +kernel, by decide +kernel⟩
theorem zii_X8_isAtEnd : Cond.instanceMethod yX8_isAtEnd ∈ ztbl := zmem_4 121 (by decide +kernel) rfl
theorem zie_X8_isAtEnd : Cond.selects zm_X8_isAtEnd.1.cls yX8_isAtEnd yX8_isAtEnd ∈ ztbl := zmem_4 122 (by decide +kernel) rfl
abbrev zm_X8_clear : zM := (yX8_clear, cX8_clear, 1, none, { frames := 0, cells := 0, slots := 0, locals := 0 })
theorem zi_X8_clear : zCal zm_X8_clear 0 := ⟨zmem_1 10 (by decide +kernel) rfl, zmem_4 127 (by decide +kernel) rfl, by decide +kernel, by decide +kernel, by decide +kernel⟩
theorem zii_X8_clear : Cond.instanceMethod yX8_clear ∈ ztbl := zmem_4 125 (by decide +kernel) rfl
theorem zie_X8_clear : Cond.selects zm_X8_clear.1.cls yX8_clear yX8_clear ∈ ztbl := zmem_4 126 (by decide +kernel) rfl
abbrev zm_X10_carryOut : zM := (yX10_carryOut, cX10_carryOut, 5, (some .int), { frames := 6, cells := 0, slots := 0, locals := 148 })
theorem zi_X10_carryOut : zCal zm_X10_carryOut 1 := ⟨zmem_1 1 (by decide +kernel) rfl, zmem_4 131 (by decide +kernel) rfl, by decide +kernel, by decide +kernel, by decide +kernel⟩
theorem zii_X10_carryOut : Cond.instanceMethod yX10_carryOut ∈ ztbl := zmem_4 130 (by decide +kernel) rfl
theorem zie_X10_carryOut : Cond.selects zm_X10_carryOut.1.cls yX10_carryOut yX10_carryOut ∈ ztbl := zmemp 20 (by decide +kernel) rfl
abbrev zm_X5_numberOf : zM := (yX5_numberOf, cX5_numberOf, 3, (some .int), { frames := 0, cells := 0, slots := 0, locals := 0 })
theorem zi_X5_numberOf : zCal zm_X5_numberOf 2 := ⟨zmem_1 11 (by decide +kernel) rfl, zmem_4 135 (by decide +kernel) rfl, by decide +kernel, by decide +kernel, by decide +kernel⟩
theorem zii_X5_numberOf : Cond.instanceMethod yX5_numberOf ∈ ztbl := zmem_4 133 (by decide +kernel) rfl
theorem zie_X5_numberOf : Cond.selects zm_X5_numberOf.1.cls yX5_numberOf yX5_numberOf ∈ ztbl := zmem_4 134 (by decide +kernel) rfl
abbrev zm_X10_read : zM := (yX10_read, cX10_read, 3, (some .int), { frames := 4, cells := 0, slots := 0, locals := 93 })
theorem zi_X10_read : zCal zm_X10_read 0 := ⟨zmem_1 1 (by decide +kernel) rfl, zmem_4 149 (by decide +kernel) rfl, by decide +kernel, by decide +kernel, by decide +kernel⟩
theorem zii_X10_read : Cond.instanceMethod yX10_read ∈ ztbl := zmem_4 147 (by decide +kernel) rfl
theorem zie_X10_read : Cond.selects zm_X10_read.1.cls yX10_read yX10_read ∈ ztbl := zmem_4 148 (by decide +kernel) rfl
abbrev zm_X4_parse : zM := (yX4_parse, cX4_parse, 5, (some .boolean), { frames := 3, cells := 0, slots := 0, locals := 69 })
theorem zi_X4_parse : zCal zm_X4_parse 2 := ⟨zmem_1 12 (by decide +kernel) rfl, zmem_4 153 (by decide +kernel) rfl, by decide +kernel, by decide +kernel, by decide +kernel⟩
theorem zii_X4_parse : Cond.instanceMethod yX4_parse ∈ ztbl := zmem_4 151 (by decide +kernel) rfl
theorem zie_X4_parse : Cond.selects zm_X4_parse.1.cls yX4_parse yX4_parse ∈ ztbl := zmem_4 152 (by decide +kernel) rfl
abbrev zm_X4_parseTerm : zM := (yX4_parseTerm, cX4_parseTerm, 7, (some .boolean), { frames := 2, cells := 0, slots := 0, locals := 43 })
theorem zi_X4_parseTerm : zCal zm_X4_parseTerm 2 := ⟨zmem_1 12 (by decide +kernel) rfl, zmem_4 159 (by decide +kernel) rfl, by decide +kernel, by decide +kernel, by decide +kernel⟩
theorem zii_X4_parseTerm : Cond.instanceMethod yX4_parseTerm ∈ ztbl := zmem_4 158 (by decide +kernel) rfl
theorem zie_X4_parseTerm : Cond.selects zm_X4_parseTerm.1.cls yX4_parseTerm yX4_parseTerm ∈ ztbl := zmemp 21 (by decide +kernel) rfl
abbrev zm_X8_acceptExponent : zM := (yX8_acceptExponent, cX8_acceptExponent, 1, (some .boolean), { frames := 1, cells := 0, slots := 0, locals := 22 })
theorem zi_X8_acceptExponent : zCal zm_X8_acceptExponent 0 := ⟨zmem_1 10 (by decide +kernel) rfl, zmem_4 165 (by decide +kernel) rfl, by decide +kernel, by decide +kernel, by decide +kernel⟩
theorem zii_X8_acceptExponent : Cond.instanceMethod yX8_acceptExponent ∈ ztbl := zmem_4 163 (by decide +kernel) rfl
theorem zie_X8_acceptExponent : Cond.selects zm_X8_acceptExponent.1.cls yX8_acceptExponent yX8_acceptExponent ∈ ztbl := zmem_4 164 (by decide +kernel) rfl
abbrev zm_X10_write : zM := (yX10_write, cX10_write, 1, (some .int), { frames := 4, cells := 0, slots := 0, locals := 89 })
theorem zi_X10_write : zCal zm_X10_write 0 := ⟨zmem_1 1 (by decide +kernel) rfl, zmem_4 171 (by decide +kernel) rfl, by decide +kernel, by decide +kernel, by decide +kernel⟩
theorem zii_X10_write : Cond.instanceMethod yX10_write ∈ ztbl := zmem_4 169 (by decide +kernel) rfl
theorem zie_X10_write : Cond.selects zm_X10_write.1.cls yX10_write yX10_write ∈ ztbl := zmem_4 170 (by decide +kernel) rfl
abbrev zm_X4_putDown : zM := (yX4_putDown, cX4_putDown, 5, none, { frames := 3, cells := 0, slots := 0, locals := 65 })
theorem zi_X4_putDown : zCal zm_X4_putDown 1 := ⟨zmem_1 12 (by decide +kernel) rfl, zmem_4 175 (by decide +kernel) rfl, by decide +kernel, by decide +kernel, by decide +kernel⟩
theorem zii_X4_putDown : Cond.instanceMethod yX4_putDown ∈ ztbl := zmem_4 173 (by decide +kernel) rfl
theorem zie_X4_putDown : Cond.selects zm_X4_putDown.1.cls yX4_putDown yX4_putDown ∈ ztbl := zmem_4 174 (by decide +kernel) rfl
abbrev zm_X4_putTerm : zM := (yX4_putTerm, cX4_putTerm, 4, none, { frames := 2, cells := 0, slots := 0, locals := 42 })
theorem zi_X4_putTerm : zCal zm_X4_putTerm 3 := ⟨zmem_1 12 (by decide +kernel) rfl, zmem_4 179 (by decide +kernel) rfl, by decide +kernel, by decide +kernel, by decide +kernel⟩
theorem zii_X4_putTerm : Cond.instanceMethod yX4_putTerm ∈ ztbl := zmem_4 178 (by decide +kernel) rfl
theorem zie_X4_putTerm : Cond.selects zm_X4_putTerm.1.cls yX4_putTerm yX4_putTerm ∈ ztbl := zmemp 22 (by decide +kernel) rfl
abbrev zm_X4_putByte : zM := (yX4_putByte, cX4_putByte, 2, none, { frames := 0, cells := 0, slots := 0, locals := 0 })
theorem zi_X4_putByte : zCal zm_X4_putByte 1 := ⟨zmem_1 12 (by decide +kernel) rfl, zmem_4 183 (by decide +kernel) rfl, by decide +kernel, by decide +kernel, by decide +kernel⟩
theorem zii_X4_putByte : Cond.instanceMethod yX4_putByte ∈ ztbl := zmem_4 182 (by decide +kernel) rfl
theorem zie_X4_putByte : Cond.selects zm_X4_putByte.1.cls yX4_putByte yX4_putByte ∈ ztbl := zmemp 23 (by decide +kernel) rfl
abbrev zm_X4_putNumber : zM := (yX4_putNumber, cX4_putNumber, 2, none, { frames := 1, cells := 0, slots := 0, locals := 21 })
theorem zi_X4_putNumber : zCal zm_X4_putNumber 1 := ⟨zmem_1 12 (by decide +kernel) rfl, zmem_4 187 (by decide +kernel) rfl, by decide +kernel, by decide +kernel, by decide +kernel⟩
theorem zii_X4_putNumber : Cond.instanceMethod yX4_putNumber ∈ ztbl := zmem_4 186 (by decide +kernel) rfl
theorem zie_X4_putNumber : Cond.selects zm_X4_putNumber.1.cls yX4_putNumber yX4_putNumber ∈ ztbl := zmemp 24 (by decide +kernel) rfl
abbrev zm_X10_paper : zM := (yX10_paper, cX10_paper, 2, (some .int), { frames := 0, cells := 0, slots := 0, locals := 0 })
theorem zi_X10_paper : zCal zm_X10_paper 1 := ⟨zmem_1 1 (by decide +kernel) rfl, zmem_4 191 (by decide +kernel) rfl, by decide +kernel, by decide +kernel, by decide +kernel⟩
theorem zii_X10_paper : Cond.instanceMethod yX10_paper ∈ ztbl := zmem_4 189 (by decide +kernel) rfl
theorem zie_X10_paper : Cond.selects zm_X10_paper.1.cls yX10_paper yX10_paper ∈ ztbl := zmem_4 190 (by decide +kernel) rfl
abbrev zm_X10_list : zM := (yX10_list, cX10_list, 3, (some .int), { frames := 1, cells := 0, slots := 0, locals := 23 })
theorem zi_X10_list : zCal zm_X10_list 2 := ⟨zmem_1 1 (by decide +kernel) rfl, zmem_4 195 (by decide +kernel) rfl, by decide +kernel, by decide +kernel, by decide +kernel⟩
theorem zii_X10_list : Cond.instanceMethod yX10_list ∈ ztbl := zmem_4 193 (by decide +kernel) rfl
theorem zie_X10_list : Cond.selects zm_X10_list.1.cls yX10_list yX10_list ∈ ztbl := zmem_4 194 (by decide +kernel) rfl
abbrev zm_X10_put : zM := (yX10_put, cX10_put, 4, (some .int), { frames := 1, cells := 0, slots := 0, locals := 20 })
theorem zi_X10_put : zCal zm_X10_put 3 := ⟨zmem_1 1 (by decide +kernel) rfl, zmem_4 199 (by decide +kernel) rfl, by decide +kernel, by decide +kernel, by decide +kernel⟩
theorem zii_X10_put : Cond.instanceMethod yX10_put ∈ ztbl := zmem_4 197 (by decide +kernel) rfl
theorem zie_X10_put : Cond.selects zm_X10_put.1.cls yX10_put yX10_put ∈ ztbl := zmem_4 198 (by decide +kernel) rfl
abbrev zm_X10_get : zM := (yX10_get, cX10_get, 3, (some .long), { frames := 1, cells := 0, slots := 0, locals := 20 })
theorem zi_X10_get : zCal zm_X10_get 2 := ⟨zmem_1 1 (by decide +kernel) rfl, zmem_4 203 (by decide +kernel) rfl, by decide +kernel, by decide +kernel, by decide +kernel⟩
theorem zii_X10_get : Cond.instanceMethod yX10_get ∈ ztbl := zmem_4 201 (by decide +kernel) rfl
theorem zie_X10_get : Cond.selects zm_X10_get.1.cls yX10_get yX10_get ∈ ztbl := zmem_4 202 (by decide +kernel) rfl
abbrev zm_X10_lay : zM := (yX10_lay, cX10_lay, 4, (some .int), { frames := 1, cells := 0, slots := 0, locals := 26 })
theorem zi_X10_lay : zCal zm_X10_lay 2 := ⟨zmem_1 1 (by decide +kernel) rfl, zmem_4 207 (by decide +kernel) rfl, by decide +kernel, by decide +kernel, by decide +kernel⟩
theorem zii_X10_lay : Cond.instanceMethod yX10_lay ∈ ztbl := zmem_4 205 (by decide +kernel) rfl
theorem zie_X10_lay : Cond.selects zm_X10_lay.1.cls yX10_lay yX10_lay ∈ ztbl := zmem_4 206 (by decide +kernel) rfl
abbrev zm_X10_judge : zM := (yX10_judge, cX10_judge, 5, (some .int), { frames := 1, cells := 0, slots := 0, locals := 20 })
theorem zi_X10_judge : zCal zm_X10_judge 2 := ⟨zmem_1 1 (by decide +kernel) rfl, zmem_4 213 (by decide +kernel) rfl, by decide +kernel, by decide +kernel, by decide +kernel⟩
theorem zii_X10_judge : Cond.instanceMethod yX10_judge ∈ ztbl := zmem_4 211 (by decide +kernel) rfl
theorem zie_X10_judge : Cond.selects zm_X10_judge.1.cls yX10_judge yX10_judge ∈ ztbl := zmem_4 212 (by decide +kernel) rfl
abbrev zm_X10_image : zM := (yX10_image, cX10_image, 1, (some .int), { frames := 4, cells := 0, slots := 0, locals := 92 })
theorem zi_X10_image : zCal zm_X10_image 0 := ⟨zmem_1 1 (by decide +kernel) rfl, zmem_4 217 (by decide +kernel) rfl, by decide +kernel, by decide +kernel, by decide +kernel⟩
theorem zii_X10_image : Cond.instanceMethod yX10_image ∈ ztbl := zmem_4 215 (by decide +kernel) rfl
theorem zie_X10_image : Cond.selects zm_X10_image.1.cls yX10_image yX10_image ∈ ztbl := zmem_4 216 (by decide +kernel) rfl
abbrev zm_X0_copyFrom : zM := (yX0_copyFrom, cX0_copyFrom, 3, none, { frames := 3, cells := 0, slots := 0, locals := 70 })
theorem zi_X0_copyFrom : zCal zm_X0_copyFrom 1 := ⟨zmem_1 2 (by decide +kernel) rfl, zmem_4 221 (by decide +kernel) rfl, by decide +kernel, by decide +kernel, by decide +kernel⟩
theorem zii_X0_copyFrom : Cond.instanceMethod yX0_copyFrom ∈ ztbl := zmem_4 219 (by decide +kernel) rfl
theorem zie_X0_copyFrom : Cond.selects zm_X0_copyFrom.1.cls yX0_copyFrom yX0_copyFrom ∈ ztbl := zmem_4 220 (by decide +kernel) rfl
abbrev zm_X6_copyFrom : zM := (yX6_copyFrom, cX6_copyFrom, 2, none, { frames := 2, cells := 0, slots := 0, locals := 49 })
theorem zi_X6_copyFrom : zCal zm_X6_copyFrom 1 := ⟨zmem_1 4 (by decide +kernel) rfl, zmem_4 226 (by decide +kernel) rfl, by decide +kernel, by decide +kernel, by decide +kernel⟩
theorem zii_X6_copyFrom : Cond.instanceMethod yX6_copyFrom ∈ ztbl := zmem_4 224 (by decide +kernel) rfl
theorem zie_X6_copyFrom : Cond.selects zm_X6_copyFrom.1.cls yX6_copyFrom yX6_copyFrom ∈ ztbl := zmem_4 225 (by decide +kernel) rfl
abbrev zm_X0_seriesCount : zM := (yX0_seriesCount, cX0_seriesCount, 3, (some .int), { frames := 1, cells := 0, slots := 0, locals := 20 })
theorem zi_X0_seriesCount : zCal zm_X0_seriesCount 0 := ⟨zmem_1 2 (by decide +kernel) rfl, zmem_4 231 (by decide +kernel) rfl, by decide +kernel, by decide +kernel, by decide +kernel⟩
theorem zii_X0_seriesCount : Cond.instanceMethod yX0_seriesCount ∈ ztbl := zmem_4 229 (by decide +kernel) rfl
theorem zie_X0_seriesCount : Cond.selects zm_X0_seriesCount.1.cls yX0_seriesCount yX0_seriesCount ∈ ztbl := zmem_4 230 (by decide +kernel) rfl
abbrev zm_X10_back : zM := (yX10_back, cX10_back, 1, (some .int), { frames := 4, cells := 0, slots := 0, locals := 92 })
theorem zi_X10_back : zCal zm_X10_back 0 := ⟨zmem_1 1 (by decide +kernel) rfl, zmem_4 236 (by decide +kernel) rfl, by decide +kernel, by decide +kernel, by decide +kernel⟩
theorem zii_X10_back : Cond.instanceMethod yX10_back ∈ ztbl := zmem_4 234 (by decide +kernel) rfl
theorem zie_X10_back : Cond.selects zm_X10_back.1.cls yX10_back yX10_back ∈ ztbl := zmem_4 235 (by decide +kernel) rfl
abbrev zm_X10_count : zM := (yX10_count, cX10_count, 2, (some .int), { frames := 2, cells := 0, slots := 0, locals := 42 })
theorem zi_X10_count : zCal zm_X10_count 1 := ⟨zmem_1 1 (by decide +kernel) rfl, zmem_5 0 (by decide +kernel) rfl, by decide +kernel, by decide +kernel, by decide +kernel⟩
theorem zii_X10_count : Cond.instanceMethod yX10_count ∈ ztbl := zmem_4 238 (by decide +kernel) rfl
theorem zie_X10_count : Cond.selects zm_X10_count.1.cls yX10_count yX10_count ∈ ztbl := zmem_4 239 (by decide +kernel) rfl
