theorem zii_X11_init : Cond.instanceMethod yX11_init ∈ ztbl := zmem_5 4 (by decide +kernel) rfl
abbrev zm_X11_prime : zM := (yX11_prime, cX11_prime, 4, (some .int), { frames := 2, cells := 0, slots := 0, locals := 47 })
theorem zi_X11_prime : zCal zm_X11_prime 1 := ⟨zmem_1 13 (by decide +kernel) rfl, zmem_5 161 (by decide +kernel) rfl, by decide +kernel, by decide +kernel, by decide +kernel⟩
theorem zii_X11_prime : Cond.instanceMethod yX11_prime ∈ ztbl := zmem_5 159 (by decide +kernel) rfl
theorem zie_X11_prime : Cond.selects zm_X11_prime.1.cls yX11_prime yX11_prime ∈ ztbl := zmem_5 160 (by decide +kernel) rfl
abbrev zm_X11_isPrime : zM := (yX11_isPrime, cX11_isPrime, 3, (some .boolean), { frames := 1, cells := 0, slots := 0, locals := 25 })
theorem zi_X11_isPrime : zCal zm_X11_isPrime 1 := ⟨zmem_1 13 (by decide +kernel) rfl, zmem_5 164 (by decide +kernel) rfl, by decide +kernel, by decide +kernel, by decide +kernel⟩
theorem zis_X11_isPrime : Cond.static yX11_isPrime ∈ ztbl := zmem_5 163 (by decide +kernel) rfl
abbrev zm_X11_in : zM := (yX11_in, cX11_in, 6, (some .boolean), { frames := 0, cells := 0, slots := 0, locals := 0 })
theorem zi_X11_in : zCal zm_X11_in 3 := ⟨zmem_1 13 (by decide +kernel) rfl, zmem_5 169 (by decide +kernel) rfl, by decide +kernel, by decide +kernel, by decide +kernel⟩
theorem zis_X11_in : Cond.static yX11_in ∈ ztbl := zmem_5 168 (by decide +kernel) rfl
abbrev zm_X11_j : zM := (yX11_j, cX11_j, 7, (some .int), { frames := 2, cells := 0, slots := 0, locals := 49 })
theorem zi_X11_j : zCal zm_X11_j 2 := ⟨zmem_1 13 (by decide +kernel) rfl, zmem_5 173 (by decide +kernel) rfl, by decide +kernel, by decide +kernel, by decide +kernel⟩
theorem zii_X11_j : Cond.instanceMethod yX11_j ∈ ztbl := zmem_5 171 (by decide +kernel) rfl
theorem zie_X11_j : Cond.selects zm_X11_j.1.cls yX11_j yX11_j ∈ ztbl := zmem_5 172 (by decide +kernel) rfl
abbrev zm_X11_isSeries : zM := (yX11_isSeries, cX11_isSeries, 1, (some .boolean), { frames := 1, cells := 0, slots := 0, locals := 25 })
theorem zi_X11_isSeries : zCal zm_X11_isSeries 1 := ⟨zmem_1 13 (by decide +kernel) rfl, zmem_5 176 (by decide +kernel) rfl, by decide +kernel, by decide +kernel, by decide +kernel⟩
theorem zis_X11_isSeries : Cond.static yX11_isSeries ∈ ztbl := zmem_5 175 (by decide +kernel) rfl
abbrev zm_X11_whole : zM := (yX11_whole, cX11_whole, 3, (some .int), { frames := 0, cells := 0, slots := 0, locals := 0 })
theorem zi_X11_whole : zCal zm_X11_whole 1 := ⟨zmem_1 13 (by decide +kernel) rfl, zmem_5 182 (by decide +kernel) rfl, by decide +kernel, by decide +kernel, by decide +kernel⟩
theorem zii_X11_whole : Cond.instanceMethod yX11_whole ∈ ztbl := zmem_5 181 (by decide +kernel) rfl
theorem zie_X11_whole : Cond.selects zm_X11_whole.1.cls yX11_whole yX11_whole ∈ ztbl := zmemp 25 (by decide +kernel) rfl
abbrev zm_X11_multiplies : zM := (yX11_multiplies, cX11_multiplies, 7, none, { frames := 0, cells := 0, slots := 0, locals := 0 })
theorem zi_X11_multiplies : zCal zm_X11_multiplies 3 := ⟨zmem_1 13 (by decide +kernel) rfl, zmem_5 186 (by decide +kernel) rfl, by decide +kernel, by decide +kernel, by decide +kernel⟩
theorem zii_X11_multiplies : Cond.instanceMethod yX11_multiplies ∈ ztbl := zmem_5 185 (by decide +kernel) rfl
theorem zie_X11_multiplies : Cond.selects zm_X11_multiplies.1.cls yX11_multiplies yX11_multiplies ∈ ztbl := zmemp 26 (by decide +kernel) rfl
abbrev zm_X11_lays : zM := (yX11_lays, cX11_lays, 4, none, { frames := 0, cells := 0, slots := 0, locals := 0 })
theorem zi_X11_lays : zCal zm_X11_lays 3 := ⟨zmem_1 13 (by decide +kernel) rfl, zmem_5 189 (by decide +kernel) rfl, by decide +kernel, by decide +kernel, by decide +kernel⟩
theorem zis_X11_lays : Cond.static yX11_lays ∈ ztbl := zmem_5 188 (by decide +kernel) rfl
abbrev zm_X11_divides : zM := (yX11_divides, cX11_divides, 8, none, { frames := 1, cells := 0, slots := 0, locals := 22 })
theorem zi_X11_divides : zCal zm_X11_divides 3 := ⟨zmem_1 13 (by decide +kernel) rfl, zmem_5 193 (by decide +kernel) rfl, by decide +kernel, by decide +kernel, by decide +kernel⟩
theorem zii_X11_divides : Cond.instanceMethod yX11_divides ∈ ztbl := zmem_5 192 (by decide +kernel) rfl
theorem zie_X11_divides : Cond.selects zm_X11_divides.1.cls yX11_divides yX11_divides ∈ ztbl := zmemp 27 (by decide +kernel) rfl
abbrev zm_X11_inverse : zM := (yX11_inverse, cX11_inverse, 3, (some .int), { frames := 0, cells := 0, slots := 0, locals := 0 })
theorem zi_X11_inverse : zCal zm_X11_inverse 1 := ⟨zmem_1 13 (by decide +kernel) rfl, zmem_5 197 (by decide +kernel) rfl, by decide +kernel, by decide +kernel, by decide +kernel⟩
theorem zii_X11_inverse : Cond.instanceMethod yX11_inverse ∈ ztbl := zmem_5 196 (by decide +kernel) rfl
theorem zie_X11_inverse : Cond.selects zm_X11_inverse.1.cls yX11_inverse yX11_inverse ∈ ztbl := zmemp 28 (by decide +kernel) rfl
abbrev zm_X11_becomes : zM := (yX11_becomes, cX11_becomes, 3, (some .int), { frames := 0, cells := 0, slots := 0, locals := 0 })
theorem zi_X11_becomes : zCal zm_X11_becomes 1 := ⟨zmem_1 13 (by decide +kernel) rfl, zmem_5 201 (by decide +kernel) rfl, by decide +kernel, by decide +kernel, by decide +kernel⟩
theorem zii_X11_becomes : Cond.instanceMethod yX11_becomes ∈ ztbl := zmem_5 200 (by decide +kernel) rfl
theorem zie_X11_becomes : Cond.selects zm_X11_becomes.1.cls yX11_becomes yX11_becomes ∈ ztbl := zmemp 29 (by decide +kernel) rfl
abbrev zm_X11_sum : zM := (yX11_sum, cX11_sum, 7, (some .int), { frames := 2, cells := 0, slots := 0, locals := 47 })
