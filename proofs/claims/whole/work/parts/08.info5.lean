theorem zi_X11_sum : zCal zm_X11_sum 3 := ⟨zmem_1 13 (by decide +kernel) rfl, zmem_5 205 (by decide +kernel) rfl, by decide +kernel, by decide +kernel, by decide +kernel⟩
theorem zii_X11_sum : Cond.instanceMethod yX11_sum ∈ ztbl := zmem_5 203 (by decide +kernel) rfl
theorem zie_X11_sum : Cond.selects zm_X11_sum.1.cls yX11_sum yX11_sum ∈ ztbl := zmem_5 204 (by decide +kernel) rfl
abbrev zm_X11_isThere : zM := (yX11_isThere, cX11_isThere, 2, (some .boolean), { frames := 0, cells := 0, slots := 0, locals := 0 })
theorem zi_X11_isThere : zCal zm_X11_isThere 1 := ⟨zmem_1 13 (by decide +kernel) rfl, zmem_5 209 (by decide +kernel) rfl, by decide +kernel, by decide +kernel, by decide +kernel⟩
theorem zii_X11_isThere : Cond.instanceMethod yX11_isThere ∈ ztbl := zmem_5 208 (by decide +kernel) rfl
theorem zie_X11_isThere : Cond.selects zm_X11_isThere.1.cls yX11_isThere yX11_isThere ∈ ztbl := zmemp 30 (by decide +kernel) rfl
abbrev zm_X11_numberOf : zM := (yX11_numberOf, cX11_numberOf, 3, (some .int), { frames := 1, cells := 0, slots := 0, locals := 25 })
theorem zi_X11_numberOf : zCal zm_X11_numberOf 2 := ⟨zmem_1 13 (by decide +kernel) rfl, zmem_5 214 (by decide +kernel) rfl, by decide +kernel, by decide +kernel, by decide +kernel⟩
theorem zii_X11_numberOf : Cond.instanceMethod yX11_numberOf ∈ ztbl := zmem_5 213 (by decide +kernel) rfl
theorem zie_X11_numberOf : Cond.selects zm_X11_numberOf.1.cls yX11_numberOf yX11_numberOf ∈ ztbl := zmemp 31 (by decide +kernel) rfl
abbrev zm_X11_times : zM := (yX11_times, cX11_times, 4, (some .int), { frames := 2, cells := 0, slots := 0, locals := 45 })
theorem zi_X11_times : zCal zm_X11_times 3 := ⟨zmem_1 13 (by decide +kernel) rfl, zmem_5 218 (by decide +kernel) rfl, by decide +kernel, by decide +kernel, by decide +kernel⟩
theorem zii_X11_times : Cond.instanceMethod yX11_times ∈ ztbl := zmem_5 216 (by decide +kernel) rfl
theorem zie_X11_times : Cond.selects zm_X11_times.1.cls yX11_times yX11_times ∈ ztbl := zmem_5 217 (by decide +kernel) rfl
abbrev zm_X11_isStart : zM := (yX11_isStart, cX11_isStart, 1, (some .boolean), { frames := 1, cells := 0, slots := 0, locals := 25 })
theorem zi_X11_isStart : zCal zm_X11_isStart 1 := ⟨zmem_1 13 (by decide +kernel) rfl, zmem_5 221 (by decide +kernel) rfl, by decide +kernel, by decide +kernel, by decide +kernel⟩
theorem zis_X11_isStart : Cond.static yX11_isStart ∈ ztbl := zmem_5 220 (by decide +kernel) rfl
abbrev zm_X11_stretch : zM := (yX11_stretch, cX11_stretch, 5, (some .int), { frames := 2, cells := 0, slots := 0, locals := 45 })
theorem zi_X11_stretch : zCal zm_X11_stretch 3 := ⟨zmem_1 13 (by decide +kernel) rfl, zmem_5 227 (by decide +kernel) rfl, by decide +kernel, by decide +kernel, by decide +kernel⟩
theorem zii_X11_stretch : Cond.instanceMethod yX11_stretch ∈ ztbl := zmem_5 225 (by decide +kernel) rfl
theorem zie_X11_stretch : Cond.selects zm_X11_stretch.1.cls yX11_stretch yX11_stretch ∈ ztbl := zmem_5 226 (by decide +kernel) rfl
abbrev zm_X11_over : zM := (yX11_over, cX11_over, 4, (some .int), { frames := 2, cells := 0, slots := 0, locals := 49 })
theorem zi_X11_over : zCal zm_X11_over 2 := ⟨zmem_1 13 (by decide +kernel) rfl, zmem_5 232 (by decide +kernel) rfl, by decide +kernel, by decide +kernel, by decide +kernel⟩
theorem zii_X11_over : Cond.instanceMethod yX11_over ∈ ztbl := zmem_5 230 (by decide +kernel) rfl
theorem zie_X11_over : Cond.selects zm_X11_over.1.cls yX11_over yX11_over ∈ ztbl := zmem_5 231 (by decide +kernel) rfl
abbrev zm_X11_power : zM := (yX11_power, cX11_power, 4, (some .int), { frames := 2, cells := 0, slots := 0, locals := 50 })
theorem zi_X11_power : zCal zm_X11_power 3 := ⟨zmem_1 13 (by decide +kernel) rfl, zmem_5 236 (by decide +kernel) rfl, by decide +kernel, by decide +kernel, by decide +kernel⟩
theorem zii_X11_power : Cond.instanceMethod yX11_power ∈ ztbl := zmem_5 234 (by decide +kernel) rfl
theorem zie_X11_power : Cond.selects zm_X11_power.1.cls yX11_power yX11_power ∈ ztbl := zmem_5 235 (by decide +kernel) rfl
abbrev zm_X11_powers : zM := (yX11_powers, cX11_powers, 5, none, { frames := 1, cells := 0, slots := 0, locals := 26 })
theorem zi_X11_powers : zCal zm_X11_powers 3 := ⟨zmem_1 13 (by decide +kernel) rfl, zmem_6 0 (by decide +kernel) rfl, by decide +kernel, by decide +kernel, by decide +kernel⟩
theorem zii_X11_powers : Cond.instanceMethod yX11_powers ∈ ztbl := zmem_5 239 (by decide +kernel) rfl
theorem zie_X11_powers : Cond.selects zm_X11_powers.1.cls yX11_powers yX11_powers ∈ ztbl := zmemp 32 (by decide +kernel) rfl
abbrev zm_X11_of : zM := (yX11_of, cX11_of, 4, (some .int), { frames := 2, cells := 0, slots := 0, locals := 45 })
theorem zi_X11_of : zCal zm_X11_of 2 := ⟨zmem_1 13 (by decide +kernel) rfl, zmem_6 4 (by decide +kernel) rfl, by decide +kernel, by decide +kernel, by decide +kernel⟩
theorem zii_X11_of : Cond.instanceMethod yX11_of ∈ ztbl := zmem_6 2 (by decide +kernel) rfl
theorem zie_X11_of : Cond.selects zm_X11_of.1.cls yX11_of yX11_of ∈ ztbl := zmem_6 3 (by decide +kernel) rfl
abbrev zm_X11_coefficient : zM := (yX11_coefficient, cX11_coefficient, 3, (some .int), { frames := 2, cells := 0, slots := 0, locals := 47 })
theorem zi_X11_coefficient : zCal zm_X11_coefficient 2 := ⟨zmem_1 13 (by decide +kernel) rfl, zmem_6 9 (by decide +kernel) rfl, by decide +kernel, by decide +kernel, by decide +kernel⟩
theorem zii_X11_coefficient : Cond.instanceMethod yX11_coefficient ∈ ztbl := zmem_6 7 (by decide +kernel) rfl
theorem zie_X11_coefficient : Cond.selects zm_X11_coefficient.1.cls yX11_coefficient yX11_coefficient ∈ ztbl := zmem_6 8 (by decide +kernel) rfl
abbrev zm_X11_find : zM := (yX11_find, cX11_find, 7, (some .int), { frames := 3, cells := 0, slots := 0, locals := 75 })
theorem zi_X11_find : zCal zm_X11_find 4 := ⟨zmem_1 13 (by decide +kernel) rfl, zmem_6 13 (by decide +kernel) rfl, by decide +kernel, by decide +kernel, by decide +kernel⟩
theorem zii_X11_find : Cond.instanceMethod yX11_find ∈ ztbl := zmem_6 11 (by decide +kernel) rfl
theorem zie_X11_find : Cond.selects zm_X11_find.1.cls yX11_find yX11_find ∈ ztbl := zmem_6 12 (by decide +kernel) rfl
abbrev zm_X11_tellsPowers : zM := (yX11_tellsPowers, cX11_tellsPowers, 6, none, { frames := 2, cells := 0, slots := 0, locals := 50 })
theorem zi_X11_tellsPowers : zCal zm_X11_tellsPowers 3 := ⟨zmem_1 13 (by decide +kernel) rfl, zmem_6 18 (by decide +kernel) rfl, by decide +kernel, by decide +kernel, by decide +kernel⟩
theorem zii_X11_tellsPowers : Cond.instanceMethod yX11_tellsPowers ∈ ztbl := zmem_6 17 (by decide +kernel) rfl
theorem zie_X11_tellsPowers : Cond.selects zm_X11_tellsPowers.1.cls yX11_tellsPowers yX11_tellsPowers ∈ ztbl := zmemp 33 (by decide +kernel) rfl
abbrev zm_X11_tries : zM := (yX11_tries, cX11_tries, 6, none, { frames := 2, cells := 0, slots := 0, locals := 46 })
theorem zi_X11_tries : zCal zm_X11_tries 4 := ⟨zmem_1 13 (by decide +kernel) rfl, zmem_6 22 (by decide +kernel) rfl, by decide +kernel, by decide +kernel, by decide +kernel⟩
theorem zii_X11_tries : Cond.instanceMethod yX11_tries ∈ ztbl := zmem_6 21 (by decide +kernel) rfl
theorem zie_X11_tries : Cond.selects zm_X11_tries.1.cls yX11_tries yX11_tries ∈ ztbl := zmemp 34 (by decide +kernel) rfl
abbrev zm_X11_emptiesColumn : zM := (yX11_emptiesColumn, cX11_emptiesColumn, 2, none, { frames := 0, cells := 0, slots := 0, locals := 0 })
theorem zi_X11_emptiesColumn : zCal zm_X11_emptiesColumn 0 := ⟨zmem_1 13 (by decide +kernel) rfl, zmem_6 26 (by decide +kernel) rfl, by decide +kernel, by decide +kernel, by decide +kernel⟩
theorem zii_X11_emptiesColumn : Cond.instanceMethod yX11_emptiesColumn ∈ ztbl := zmem_6 25 (by decide +kernel) rfl
theorem zie_X11_emptiesColumn : Cond.selects zm_X11_emptiesColumn.1.cls yX11_emptiesColumn yX11_emptiesColumn ∈ ztbl := zmemp 35 (by decide +kernel) rfl
abbrev zm_X11_adds : zM := (yX11_adds, cX11_adds, 8, none, { frames := 0, cells := 0, slots := 0, locals := 0 })
theorem zi_X11_adds : zCal zm_X11_adds 3 := ⟨zmem_1 13 (by decide +kernel) rfl, zmem_6 30 (by decide +kernel) rfl, by decide +kernel, by decide +kernel, by decide +kernel⟩
theorem zii_X11_adds : Cond.instanceMethod yX11_adds ∈ ztbl := zmem_6 29 (by decide +kernel) rfl
theorem zie_X11_adds : Cond.selects zm_X11_adds.1.cls yX11_adds yX11_adds ∈ ztbl := zmemp 36 (by decide +kernel) rfl
abbrev zm_X11_place : zM := (yX11_place, cX11_place, 3, (some .int), { frames := 0, cells := 0, slots := 0, locals := 0 })
theorem zi_X11_place : zCal zm_X11_place 3 := ⟨zmem_1 13 (by decide +kernel) rfl, zmem_6 33 (by decide +kernel) rfl, by decide +kernel, by decide +kernel, by decide +kernel⟩
theorem zis_X11_place : Cond.static yX11_place ∈ ztbl := zmem_6 32 (by decide +kernel) rfl
abbrev zm_X11_comes : zM := (yX11_comes, cX11_comes, 4, (some .boolean), { frames := 1, cells := 0, slots := 0, locals := 23 })
theorem zi_X11_comes : zCal zm_X11_comes 0 := ⟨zmem_1 13 (by decide +kernel) rfl, zmem_6 37 (by decide +kernel) rfl, by decide +kernel, by decide +kernel, by decide +kernel⟩
theorem zii_X11_comes : Cond.instanceMethod yX11_comes ∈ ztbl := zmem_6 36 (by decide +kernel) rfl
theorem zie_X11_comes : Cond.selects zm_X11_comes.1.cls yX11_comes yX11_comes ∈ ztbl := zmemp 37 (by decide +kernel) rfl
abbrev zm_X11_lessens : zM := (yX11_lessens, cX11_lessens, 4, none, { frames := 0, cells := 0, slots := 0, locals := 0 })
theorem zi_X11_lessens : zCal zm_X11_lessens 1 := ⟨zmem_1 13 (by decide +kernel) rfl, zmem_6 41 (by decide +kernel) rfl, by decide +kernel, by decide +kernel, by decide +kernel⟩
theorem zii_X11_lessens : Cond.instanceMethod yX11_lessens ∈ ztbl := zmem_6 40 (by decide +kernel) rfl
theorem zie_X11_lessens : Cond.selects zm_X11_lessens.1.cls yX11_lessens yX11_lessens ∈ ztbl := zmemp 38 (by decide +kernel) rfl
abbrev zm_X11_firstOther : zM := (yX11_firstOther, cX11_firstOther, 2, (some .int), { frames := 0, cells := 0, slots := 0, locals := 0 })
theorem zi_X11_firstOther : zCal zm_X11_firstOther 0 := ⟨zmem_1 13 (by decide +kernel) rfl, zmem_6 45 (by decide +kernel) rfl, by decide +kernel, by decide +kernel, by decide +kernel⟩
theorem zii_X11_firstOther : Cond.instanceMethod yX11_firstOther ∈ ztbl := zmem_6 44 (by decide +kernel) rfl
theorem zie_X11_firstOther : Cond.selects zm_X11_firstOther.1.cls yX11_firstOther yX11_firstOther ∈ ztbl := zmemp 39 (by decide +kernel) rfl
abbrev zm_X11_equation : zM := (yX11_equation, cX11_equation, 7, (some .int), { frames := 2, cells := 0, slots := 0, locals := 44 })
theorem zi_X11_equation : zCal zm_X11_equation 1 := ⟨zmem_1 13 (by decide +kernel) rfl, zmem_6 49 (by decide +kernel) rfl, by decide +kernel, by decide +kernel, by decide +kernel⟩
theorem zii_X11_equation : Cond.instanceMethod yX11_equation ∈ ztbl := zmem_6 47 (by decide +kernel) rfl
theorem zie_X11_equation : Cond.selects zm_X11_equation.1.cls yX11_equation yX11_equation ∈ ztbl := zmem_6 48 (by decide +kernel) rfl
abbrev zm_X11_termAt : zM := (yX11_termAt, cX11_termAt, 3, (some .int), { frames := 1, cells := 0, slots := 0, locals := 22 })
theorem zi_X11_termAt : zCal zm_X11_termAt 2 := ⟨zmem_1 13 (by decide +kernel) rfl, zmem_6 54 (by decide +kernel) rfl, by decide +kernel, by decide +kernel, by decide +kernel⟩
theorem zii_X11_termAt : Cond.instanceMethod yX11_termAt ∈ ztbl := zmem_6 53 (by decide +kernel) rfl
theorem zie_X11_termAt : Cond.selects zm_X11_termAt.1.cls yX11_termAt yX11_termAt ∈ ztbl := zmemp 40 (by decide +kernel) rfl
abbrev zm_X11_term : zM := (yX11_term, cX11_term, 3, (some .int), { frames := 2, cells := 0, slots := 0, locals := 44 })
theorem zi_X11_term : zCal zm_X11_term 2 := ⟨zmem_1 13 (by decide +kernel) rfl, zmem_6 58 (by decide +kernel) rfl, by decide +kernel, by decide +kernel, by decide +kernel⟩
theorem zii_X11_term : Cond.instanceMethod yX11_term ∈ ztbl := zmem_6 56 (by decide +kernel) rfl
theorem zie_X11_term : Cond.selects zm_X11_term.1.cls yX11_term yX11_term ∈ ztbl := zmem_6 57 (by decide +kernel) rfl
abbrev zm_X11_at : zM := (yX11_at, cX11_at, 4, (some .int), { frames := 3, cells := 0, slots := 0, locals := 69 })
theorem zi_X11_at : zCal zm_X11_at 2 := ⟨zmem_1 13 (by decide +kernel) rfl, zmem_6 62 (by decide +kernel) rfl, by decide +kernel, by decide +kernel, by decide +kernel⟩
theorem zii_X11_at : Cond.instanceMethod yX11_at ∈ ztbl := zmem_6 60 (by decide +kernel) rfl
theorem zie_X11_at : Cond.selects zm_X11_at.1.cls yX11_at yX11_at ∈ ztbl := zmem_6 61 (by decide +kernel) rfl
abbrev zm_X11_isValue : zM := (yX11_isValue, cX11_isValue, 2, (some .boolean), { frames := 1, cells := 0, slots := 0, locals := 25 })
theorem zi_X11_isValue : zCal zm_X11_isValue 1 := ⟨zmem_1 13 (by decide +kernel) rfl, zmem_6 66 (by decide +kernel) rfl, by decide +kernel, by decide +kernel, by decide +kernel⟩
theorem zii_X11_isValue : Cond.instanceMethod yX11_isValue ∈ ztbl := zmem_6 65 (by decide +kernel) rfl
theorem zie_X11_isValue : Cond.selects zm_X11_isValue.1.cls yX11_isValue yX11_isValue ∈ ztbl := zmemp 41 (by decide +kernel) rfl
abbrev zm_X11_puts : zM := (yX11_puts, cX11_puts, 6, (some .boolean), { frames := 2, cells := 0, slots := 0, locals := 44 })
theorem zi_X11_puts : zCal zm_X11_puts 1 := ⟨zmem_1 13 (by decide +kernel) rfl, zmem_6 70 (by decide +kernel) rfl, by decide +kernel, by decide +kernel, by decide +kernel⟩
theorem zii_X11_puts : Cond.instanceMethod yX11_puts ∈ ztbl := zmem_6 69 (by decide +kernel) rfl
theorem zie_X11_puts : Cond.selects zm_X11_puts.1.cls yX11_puts yX11_puts ∈ ztbl := zmemp 42 (by decide +kernel) rfl
abbrev zm_X11_worth : zM := (yX11_worth, cX11_worth, 4, (some .int), { frames := 0, cells := 0, slots := 0, locals := 0 })
theorem zi_X11_worth : zCal zm_X11_worth 1 := ⟨zmem_1 13 (by decide +kernel) rfl, zmem_6 74 (by decide +kernel) rfl, by decide +kernel, by decide +kernel, by decide +kernel⟩
theorem zii_X11_worth : Cond.instanceMethod yX11_worth ∈ ztbl := zmem_6 73 (by decide +kernel) rfl
theorem zie_X11_worth : Cond.selects zm_X11_worth.1.cls yX11_worth yX11_worth ∈ ztbl := zmemp 43 (by decide +kernel) rfl
abbrev zm_X11_vanishes : zM := (yX11_vanishes, cX11_vanishes, 5, (some .int), { frames := 3, cells := 0, slots := 0, locals := 75 })
theorem zi_X11_vanishes : zCal zm_X11_vanishes 2 := ⟨zmem_1 13 (by decide +kernel) rfl, zmem_6 78 (by decide +kernel) rfl, by decide +kernel, by decide +kernel, by decide +kernel⟩
theorem zii_X11_vanishes : Cond.instanceMethod yX11_vanishes ∈ ztbl := zmem_6 76 (by decide +kernel) rfl
theorem zie_X11_vanishes : Cond.selects zm_X11_vanishes.1.cls yX11_vanishes yX11_vanishes ∈ ztbl := zmem_6 77 (by decide +kernel) rfl
abbrev zm_X11_neighbour : zM := (yX11_neighbour, cX11_neighbour, 3, (some .int), { frames := 4, cells := 0, slots := 0, locals := 93 })
theorem zi_X11_neighbour : zCal zm_X11_neighbour 2 := ⟨zmem_1 13 (by decide +kernel) rfl, zmem_6 82 (by decide +kernel) rfl, by decide +kernel, by decide +kernel, by decide +kernel⟩
theorem zii_X11_neighbour : Cond.instanceMethod yX11_neighbour ∈ ztbl := zmem_6 80 (by decide +kernel) rfl
theorem zie_X11_neighbour : Cond.selects zm_X11_neighbour.1.cls yX11_neighbour yX11_neighbour ∈ ztbl := zmem_6 81 (by decide +kernel) rfl
abbrev zm_X11_tellsNeighbours : zM := (yX11_tellsNeighbours, cX11_tellsNeighbours, 5, (some .boolean), { frames := 3, cells := 0, slots := 0, locals := 69 })
theorem zi_X11_tellsNeighbours : zCal zm_X11_tellsNeighbours 1 := ⟨zmem_1 13 (by decide +kernel) rfl, zmem_6 86 (by decide +kernel) rfl, by decide +kernel, by decide +kernel, by decide +kernel⟩
theorem zii_X11_tellsNeighbours : Cond.instanceMethod yX11_tellsNeighbours ∈ ztbl := zmem_6 85 (by decide +kernel) rfl
theorem zie_X11_tellsNeighbours : Cond.selects zm_X11_tellsNeighbours.1.cls yX11_tellsNeighbours yX11_tellsNeighbours ∈ ztbl := zmemp 44 (by decide +kernel) rfl
abbrev zm_X11_oftenOf : zM := (yX11_oftenOf, cX11_oftenOf, 6, (some .int), { frames := 1, cells := 0, slots := 0, locals := 23 })
theorem zi_X11_oftenOf : zCal zm_X11_oftenOf 1 := ⟨zmem_1 13 (by decide +kernel) rfl, zmem_6 90 (by decide +kernel) rfl, by decide +kernel, by decide +kernel, by decide +kernel⟩
theorem zii_X11_oftenOf : Cond.instanceMethod yX11_oftenOf ∈ ztbl := zmem_6 89 (by decide +kernel) rfl
theorem zie_X11_oftenOf : Cond.selects zm_X11_oftenOf.1.cls yX11_oftenOf yX11_oftenOf ∈ ztbl := zmemp 45 (by decide +kernel) rfl
abbrev zm_X11_far : zM := (yX11_far, cX11_far, 3, (some .int), { frames := 5, cells := 0, slots := 0, locals := 118 })
theorem zi_X11_far : zCal zm_X11_far 2 := ⟨zmem_1 13 (by decide +kernel) rfl, zmem_6 94 (by decide +kernel) rfl, by decide +kernel, by decide +kernel, by decide +kernel⟩
theorem zii_X11_far : Cond.instanceMethod yX11_far ∈ ztbl := zmem_6 92 (by decide +kernel) rfl
theorem zie_X11_far : Cond.selects zm_X11_far.1.cls yX11_far yX11_far ∈ ztbl := zmem_6 93 (by decide +kernel) rfl
abbrev zm_X11_tellsAway : zM := (yX11_tellsAway, cX11_tellsAway, 6, none, { frames := 4, cells := 0, slots := 0, locals := 93 })
theorem zi_X11_tellsAway : zCal zm_X11_tellsAway 1 := ⟨zmem_1 13 (by decide +kernel) rfl, zmem_6 98 (by decide +kernel) rfl, by decide +kernel, by decide +kernel, by decide +kernel⟩
theorem zii_X11_tellsAway : Cond.instanceMethod yX11_tellsAway ∈ ztbl := zmem_6 97 (by decide +kernel) rfl
theorem zie_X11_tellsAway : Cond.selects zm_X11_tellsAway.1.cls yX11_tellsAway yX11_tellsAway ∈ ztbl := zmemp 46 (by decide +kernel) rfl
abbrev zm_X11_reach : zM := (yX11_reach, cX11_reach, 4, (some .int), { frames := 5, cells := 0, slots := 0, locals := 118 })
theorem zi_X11_reach : zCal zm_X11_reach 1 := ⟨zmem_1 13 (by decide +kernel) rfl, zmem_6 102 (by decide +kernel) rfl, by decide +kernel, by decide +kernel, by decide +kernel⟩
theorem zii_X11_reach : Cond.instanceMethod yX11_reach ∈ ztbl := zmem_6 100 (by decide +kernel) rfl
theorem zie_X11_reach : Cond.selects zm_X11_reach.1.cls yX11_reach yX11_reach ∈ ztbl := zmem_6 101 (by decide +kernel) rfl
abbrev zm_X11_values : zM := (yX11_values, cX11_values, 10, (some .int), { frames := 4, cells := 0, slots := 0, locals := 93 })
theorem zi_X11_values : zCal zm_X11_values 1 := ⟨zmem_1 13 (by decide +kernel) rfl, zmem_6 106 (by decide +kernel) rfl, by decide +kernel, by decide +kernel, by decide +kernel⟩
theorem zii_X11_values : Cond.instanceMethod yX11_values ∈ ztbl := zmem_6 104 (by decide +kernel) rfl
theorem zie_X11_values : Cond.selects zm_X11_values.1.cls yX11_values yX11_values ∈ ztbl := zmem_6 105 (by decide +kernel) rfl
abbrev zm_X11_keep : zM := (yX11_keep, cX11_keep, 4, (some .int), { frames := 2, cells := 0, slots := 0, locals := 45 })
theorem zi_X11_keep : zCal zm_X11_keep 1 := ⟨zmem_1 13 (by decide +kernel) rfl, zmem_6 110 (by decide +kernel) rfl, by decide +kernel, by decide +kernel, by decide +kernel⟩
theorem zii_X11_keep : Cond.instanceMethod yX11_keep ∈ ztbl := zmem_6 108 (by decide +kernel) rfl
theorem zie_X11_keep : Cond.selects zm_X11_keep.1.cls yX11_keep yX11_keep ∈ ztbl := zmem_6 109 (by decide +kernel) rfl
abbrev zm_X11_isKept : zM := (yX11_isKept, cX11_isKept, 1, (some .boolean), { frames := 1, cells := 0, slots := 0, locals := 25 })
theorem zi_X11_isKept : zCal zm_X11_isKept 1 := ⟨zmem_1 13 (by decide +kernel) rfl, zmem_6 113 (by decide +kernel) rfl, by decide +kernel, by decide +kernel, by decide +kernel⟩
theorem zis_X11_isKept : Cond.static yX11_isKept ∈ ztbl := zmem_6 112 (by decide +kernel) rfl
abbrev zm_X11_keptPrime : zM := (yX11_keptPrime, cX11_keptPrime, 2, (some .int), { frames := 0, cells := 0, slots := 0, locals := 0 })
theorem zi_X11_keptPrime : zCal zm_X11_keptPrime 1 := ⟨zmem_1 13 (by decide +kernel) rfl, zmem_6 118 (by decide +kernel) rfl, by decide +kernel, by decide +kernel, by decide +kernel⟩
theorem zii_X11_keptPrime : Cond.instanceMethod yX11_keptPrime ∈ ztbl := zmem_6 117 (by decide +kernel) rfl
theorem zie_X11_keptPrime : Cond.selects zm_X11_keptPrime.1.cls yX11_keptPrime yX11_keptPrime ∈ ztbl := zmemp 47 (by decide +kernel) rfl
abbrev zm_X11_keptMany : zM := (yX11_keptMany, cX11_keptMany, 3, (some .int), { frames := 1, cells := 0, slots := 0, locals := 21 })
theorem zi_X11_keptMany : zCal zm_X11_keptMany 0 := ⟨zmem_1 13 (by decide +kernel) rfl, zmem_6 122 (by decide +kernel) rfl, by decide +kernel, by decide +kernel, by decide +kernel⟩
theorem zii_X11_keptMany : Cond.instanceMethod yX11_keptMany ∈ ztbl := zmem_6 121 (by decide +kernel) rfl
theorem zie_X11_keptMany : Cond.selects zm_X11_keptMany.1.cls yX11_keptMany yX11_keptMany ∈ ztbl := zmemp 48 (by decide +kernel) rfl
abbrev zm_X11_drop : zM := (yX11_drop, cX11_drop, 3, (some .int), { frames := 2, cells := 0, slots := 0, locals := 45 })
theorem zi_X11_drop : zCal zm_X11_drop 1 := ⟨zmem_1 13 (by decide +kernel) rfl, zmem_6 126 (by decide +kernel) rfl, by decide +kernel, by decide +kernel, by decide +kernel⟩
theorem zii_X11_drop : Cond.instanceMethod yX11_drop ∈ ztbl := zmem_6 124 (by decide +kernel) rfl
theorem zie_X11_drop : Cond.selects zm_X11_drop.1.cls yX11_drop yX11_drop ∈ ztbl := zmem_6 125 (by decide +kernel) rfl
abbrev zm_X11_whole_ : zM := (yX11_whole_, cX11_whole_, 4, (some .long), { frames := 2, cells := 0, slots := 0, locals := 43 })
theorem zi_X11_whole_ : zCal zm_X11_whole_ 0 := ⟨zmem_1 13 (by decide +kernel) rfl, zmem_6 130 (by decide +kernel) rfl, by decide +kernel, by decide +kernel, by decide +kernel⟩
theorem zii_X11_whole_ : Cond.instanceMethod yX11_whole_ ∈ ztbl := zmem_6 128 (by decide +kernel) rfl
theorem zie_X11_whole_ : Cond.selects zm_X11_whole_.1.cls yX11_whole_ yX11_whole_ ∈ ztbl := zmem_6 129 (by decide +kernel) rfl
abbrev zm_X11_joined : zM := (yX11_joined, cX11_joined, 12, (some .long), { frames := 2, cells := 0, slots := 0, locals := 44 })
theorem zi_X11_joined : zCal zm_X11_joined 2 := ⟨zmem_1 13 (by decide +kernel) rfl, zmem_6 135 (by decide +kernel) rfl, by decide +kernel, by decide +kernel, by decide +kernel⟩
theorem zii_X11_joined : Cond.instanceMethod yX11_joined ∈ ztbl := zmem_6 133 (by decide +kernel) rfl
theorem zie_X11_joined : Cond.selects zm_X11_joined.1.cls yX11_joined yX11_joined ∈ ztbl := zmem_6 134 (by decide +kernel) rfl
abbrev zm_X11_joinedDegree : zM := (yX11_joinedDegree, cX11_joinedDegree, 4, (some .int), { frames := 1, cells := 0, slots := 0, locals := 21 })
theorem zi_X11_joinedDegree : zCal zm_X11_joinedDegree 0 := ⟨zmem_1 13 (by decide +kernel) rfl, zmem_6 139 (by decide +kernel) rfl, by decide +kernel, by decide +kernel, by decide +kernel⟩
theorem zii_X11_joinedDegree : Cond.instanceMethod yX11_joinedDegree ∈ ztbl := zmem_6 138 (by decide +kernel) rfl
theorem zie_X11_joinedDegree : Cond.selects zm_X11_joinedDegree.1.cls yX11_joinedDegree yX11_joinedDegree ∈ ztbl := zmemp 49 (by decide +kernel) rfl
abbrev zm_X11_feed : zM := (yX11_feed, cX11_feed, 2, (some .int), { frames := 1, cells := 0, slots := 0, locals := 25 })
theorem zi_X11_feed : zCal zm_X11_feed 1 := ⟨zmem_1 13 (by decide +kernel) rfl, zmem_6 143 (by decide +kernel) rfl, by decide +kernel, by decide +kernel, by decide +kernel⟩
theorem zii_X11_feed : Cond.instanceMethod yX11_feed ∈ ztbl := zmem_6 141 (by decide +kernel) rfl
theorem zie_X11_feed : Cond.selects zm_X11_feed.1.cls yX11_feed yX11_feed ∈ ztbl := zmem_6 142 (by decide +kernel) rfl
abbrev zm_X11_deeds : zM := (yX11_deeds, cX11_deeds, 5, (some .int), { frames := 5, cells := 0, slots := 0, locals := 125 })
theorem zi_X11_deeds : zCal zm_X11_deeds 0 := ⟨zmem_1 13 (by decide +kernel) rfl, zmem_6 148 (by decide +kernel) rfl, by decide +kernel, by decide +kernel, by decide +kernel⟩
theorem zii_X11_deeds : Cond.instanceMethod yX11_deeds ∈ ztbl := zmem_6 146 (by decide +kernel) rfl
theorem zie_X11_deeds : Cond.selects zm_X11_deeds.1.cls yX11_deeds yX11_deeds ∈ ztbl := zmem_6 147 (by decide +kernel) rfl
abbrev zm_X11_readsDeed : zM := (yX11_readsDeed, cX11_readsDeed, 8, (some .boolean), { frames := 2, cells := 0, slots := 0, locals := 45 })
theorem zi_X11_readsDeed : zCal zm_X11_readsDeed 1 := ⟨zmem_1 13 (by decide +kernel) rfl, zmem_6 152 (by decide +kernel) rfl, by decide +kernel, by decide +kernel, by decide +kernel⟩
theorem zii_X11_readsDeed : Cond.instanceMethod yX11_readsDeed ∈ ztbl := zmem_6 151 (by decide +kernel) rfl
theorem zie_X11_readsDeed : Cond.selects zm_X11_readsDeed.1.cls yX11_readsDeed yX11_readsDeed ∈ ztbl := zmemp 50 (by decide +kernel) rfl
abbrev zm_X11_isLetter : zM := (yX11_isLetter, cX11_isLetter, 1, (some .boolean), { frames := 1, cells := 0, slots := 0, locals := 25 })
theorem zi_X11_isLetter : zCal zm_X11_isLetter 0 := ⟨zmem_1 13 (by decide +kernel) rfl, zmem_6 156 (by decide +kernel) rfl, by decide +kernel, by decide +kernel, by decide +kernel⟩
theorem zii_X11_isLetter : Cond.instanceMethod yX11_isLetter ∈ ztbl := zmem_6 155 (by decide +kernel) rfl
theorem zie_X11_isLetter : Cond.selects zm_X11_isLetter.1.cls yX11_isLetter yX11_isLetter ∈ ztbl := zmemp 51 (by decide +kernel) rfl
abbrev zm_X11_here : zM := (yX11_here, cX11_here, 1, (some .int), { frames := 0, cells := 0, slots := 0, locals := 0 })
theorem zi_X11_here : zCal zm_X11_here 0 := ⟨zmem_1 13 (by decide +kernel) rfl, zmem_6 160 (by decide +kernel) rfl, by decide +kernel, by decide +kernel, by decide +kernel⟩
theorem zii_X11_here : Cond.instanceMethod yX11_here ∈ ztbl := zmem_6 159 (by decide +kernel) rfl
theorem zie_X11_here : Cond.selects zm_X11_here.1.cls yX11_here yX11_here ∈ ztbl := zmemp 52 (by decide +kernel) rfl
abbrev zm_X11_wordFrom : zM := (yX11_wordFrom, cX11_wordFrom, 6, (some .int), { frames := 0, cells := 0, slots := 0, locals := 0 })
theorem zi_X11_wordFrom : zCal zm_X11_wordFrom 1 := ⟨zmem_1 13 (by decide +kernel) rfl, zmem_6 166 (by decide +kernel) rfl, by decide +kernel, by decide +kernel, by decide +kernel⟩
theorem zii_X11_wordFrom : Cond.instanceMethod yX11_wordFrom ∈ ztbl := zmem_6 165 (by decide +kernel) rfl
theorem zie_X11_wordFrom : Cond.selects zm_X11_wordFrom.1.cls yX11_wordFrom yX11_wordFrom ∈ ztbl := zmemp 53 (by decide +kernel) rfl
abbrev zm_X11_isFigure : zM := (yX11_isFigure, cX11_isFigure, 1, (some .boolean), { frames := 1, cells := 0, slots := 0, locals := 25 })
theorem zi_X11_isFigure : zCal zm_X11_isFigure 0 := ⟨zmem_1 13 (by decide +kernel) rfl, zmem_6 170 (by decide +kernel) rfl, by decide +kernel, by decide +kernel, by decide +kernel⟩
theorem zii_X11_isFigure : Cond.instanceMethod yX11_isFigure ∈ ztbl := zmem_6 169 (by decide +kernel) rfl
theorem zie_X11_isFigure : Cond.selects zm_X11_isFigure.1.cls yX11_isFigure yX11_isFigure ∈ ztbl := zmemp 54 (by decide +kernel) rfl
abbrev zm_X11_does : zM := (yX11_does, cX11_does, 5, (some .int), { frames := 4, cells := 0, slots := 0, locals := 101 })
theorem zi_X11_does : zCal zm_X11_does 1 := ⟨zmem_1 13 (by decide +kernel) rfl, zmem_6 176 (by decide +kernel) rfl, by decide +kernel, by decide +kernel, by decide +kernel⟩
theorem zii_X11_does : Cond.instanceMethod yX11_does ∈ ztbl := zmem_6 175 (by decide +kernel) rfl
theorem zie_X11_does : Cond.selects zm_X11_does.1.cls yX11_does yX11_does ∈ ztbl := zmemp 55 (by decide +kernel) rfl
abbrev zm_X11_read : zM := (yX11_read, cX11_read, 4, (some .int), { frames := 3, cells := 0, slots := 0, locals := 69 })
theorem zi_X11_read : zCal zm_X11_read 0 := ⟨zmem_1 13 (by decide +kernel) rfl, zmem_6 189 (by decide +kernel) rfl, by decide +kernel, by decide +kernel, by decide +kernel⟩
theorem zii_X11_read : Cond.instanceMethod yX11_read ∈ ztbl := zmem_6 187 (by decide +kernel) rfl
theorem zie_X11_read : Cond.selects zm_X11_read.1.cls yX11_read yX11_read ∈ ztbl := zmem_6 188 (by decide +kernel) rfl
abbrev zm_X11_readsTerm : zM := (yX11_readsTerm, cX11_readsTerm, 4, (some .boolean), { frames := 2, cells := 0, slots := 0, locals := 46 })
theorem zi_X11_readsTerm : zCal zm_X11_readsTerm 0 := ⟨zmem_1 13 (by decide +kernel) rfl, zmem_6 193 (by decide +kernel) rfl, by decide +kernel, by decide +kernel, by decide +kernel⟩
theorem zii_X11_readsTerm : Cond.instanceMethod yX11_readsTerm ∈ ztbl := zmem_6 192 (by decide +kernel) rfl
theorem zie_X11_readsTerm : Cond.selects zm_X11_readsTerm.1.cls yX11_readsTerm yX11_readsTerm ∈ ztbl := zmemp 56 (by decide +kernel) rfl
abbrev zm_X11_readsPower : zM := (yX11_readsPower, cX11_readsPower, 2, (some .int), { frames := 1, cells := 0, slots := 0, locals := 25 })
theorem zi_X11_readsPower : zCal zm_X11_readsPower 1 := ⟨zmem_1 13 (by decide +kernel) rfl, zmem_6 197 (by decide +kernel) rfl, by decide +kernel, by decide +kernel, by decide +kernel⟩
theorem zii_X11_readsPower : Cond.instanceMethod yX11_readsPower ∈ ztbl := zmem_6 196 (by decide +kernel) rfl
theorem zie_X11_readsPower : Cond.selects zm_X11_readsPower.1.cls yX11_readsPower yX11_readsPower ∈ ztbl := zmemp 57 (by decide +kernel) rfl
abbrev zm_X11_write : zM := (yX11_write, cX11_write, 3, (some .int), { frames := 2, cells := 0, slots := 0, locals := 44 })
theorem zi_X11_write : zCal zm_X11_write 0 := ⟨zmem_1 13 (by decide +kernel) rfl, zmem_6 204 (by decide +kernel) rfl, by decide +kernel, by decide +kernel, by decide +kernel⟩
theorem zii_X11_write : Cond.instanceMethod yX11_write ∈ ztbl := zmem_6 202 (by decide +kernel) rfl
theorem zie_X11_write : Cond.selects zm_X11_write.1.cls yX11_write yX11_write ∈ ztbl := zmem_6 203 (by decide +kernel) rfl
abbrev zm_X11_writes : zM := (yX11_writes, cX11_writes, 2, none, { frames := 0, cells := 0, slots := 0, locals := 0 })
theorem zi_X11_writes : zCal zm_X11_writes 1 := ⟨zmem_1 13 (by decide +kernel) rfl, zmem_6 208 (by decide +kernel) rfl, by decide +kernel, by decide +kernel, by decide +kernel⟩
theorem zii_X11_writes : Cond.instanceMethod yX11_writes ∈ ztbl := zmem_6 207 (by decide +kernel) rfl
theorem zie_X11_writes : Cond.selects zm_X11_writes.1.cls yX11_writes yX11_writes ∈ ztbl := zmemp 58 (by decide +kernel) rfl
abbrev zm_X11_writesNumber : zM := (yX11_writesNumber, cX11_writesNumber, 2, none, { frames := 1, cells := 0, slots := 0, locals := 21 })
theorem zi_X11_writesNumber : zCal zm_X11_writesNumber 1 := ⟨zmem_1 13 (by decide +kernel) rfl, zmem_6 212 (by decide +kernel) rfl, by decide +kernel, by decide +kernel, by decide +kernel⟩
theorem zii_X11_writesNumber : Cond.instanceMethod yX11_writesNumber ∈ ztbl := zmem_6 211 (by decide +kernel) rfl
theorem zie_X11_writesNumber : Cond.selects zm_X11_writesNumber.1.cls yX11_writesNumber yX11_writesNumber ∈ ztbl := zmemp 59 (by decide +kernel) rfl
abbrev zm_X11_writesPower : zM := (yX11_writesPower, cX11_writesPower, 3, none, { frames := 1, cells := 0, slots := 0, locals := 21 })
theorem zi_X11_writesPower : zCal zm_X11_writesPower 2 := ⟨zmem_1 13 (by decide +kernel) rfl, zmem_6 216 (by decide +kernel) rfl, by decide +kernel, by decide +kernel, by decide +kernel⟩
theorem zii_X11_writesPower : Cond.instanceMethod yX11_writesPower ∈ ztbl := zmem_6 215 (by decide +kernel) rfl
theorem zie_X11_writesPower : Cond.selects zm_X11_writesPower.1.cls yX11_writesPower yX11_writesPower ∈ ztbl := zmemp 60 (by decide +kernel) rfl
abbrev zm_X11_paper : zM := (yX11_paper, cX11_paper, 2, (some .int), { frames := 1, cells := 0, slots := 0, locals := 25 })
theorem zi_X11_paper : zCal zm_X11_paper 1 := ⟨zmem_1 13 (by decide +kernel) rfl, zmem_6 220 (by decide +kernel) rfl, by decide +kernel, by decide +kernel, by decide +kernel⟩
theorem zii_X11_paper : Cond.instanceMethod yX11_paper ∈ ztbl := zmem_6 218 (by decide +kernel) rfl
theorem zie_X11_paper : Cond.selects zm_X11_paper.1.cls yX11_paper yX11_paper ∈ ztbl := zmem_6 219 (by decide +kernel) rfl
abbrev zm_X11_tell : zM := (yX11_tell, cX11_tell, 5, (some .int), { frames := 2, cells := 0, slots := 0, locals := 45 })
theorem zi_X11_tell : zCal zm_X11_tell 3 := ⟨zmem_1 13 (by decide +kernel) rfl, zmem_6 224 (by decide +kernel) rfl, by decide +kernel, by decide +kernel, by decide +kernel⟩
