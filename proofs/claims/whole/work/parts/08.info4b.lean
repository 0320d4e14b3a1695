abbrev zm_X11_init : zM := (yX11_init, cX11_init, 1, none, { frames := 1, cells := 32, slots := 19363, locals := 20 })
theorem zi_X11_init : zCal zm_X11_init 0 := ⟨zmem_1 13 rfl rfl, zmem_5 5 rfl rfl, by decide +kernel, by decide +kernel, by decide +kernel⟩
