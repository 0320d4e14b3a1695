/-! THE LAW: its cases, by program (wip/whole/lawgen.py) -/
theorem lc_0 {g : zG} {L i nc ns : Nat} {xs : Nat → Int32} {A μ : zMu} (hL : L ≤ 2560) (hi : i + 5 ≤ L) (hn : nc ≤ zm_law.2.2.2.2.cells ∧ ns ≤ zm_law.2.2.2.2.slots) (hw : zWF A) (hR : zRC A μ) (hM : zRM A μ)
    (K : ∀ A' μ', zWF A' → zRC A' μ' → zRM A' μ' → zWP g zm_law (zmoL g L xs) 1253 [(0, .ref 90000), (1, .ref 0), (2, .ref 203), (3, .int (zJ (i : Int)))] [] nc ns (zw μ')) : zWP g zm_law (zmoL g L xs) 192 [(0, .ref 90000), (1, .ref 0), (2, .ref 203), (3, .int (zJ (i : Int)))] [] nc ns (zw μ) := by
  have hop := zo_prime (g := g) (A := A) (v1 := (xs ((i : Int) + 1).toNat).toInt) hw (zR_I _)
  refine zw_aload_n (pc := 192) (n := 1) (i := 1) 1 (by decide +kernel) rfl rfl ?_
  refine zw_aload_n (pc := 193) (n := 0) (i := 0) 0 (by decide +kernel) rfl rfl ?_
  refine zw_iload_n (pc := 194) (n := 3) (i := 3) 3 (by decide +kernel) rfl rfl ?_
  refine zw_iconst (pc := 195) (n := 1) (by decide +kernel) ?_
  refine zw_iadd (pc := 196) (by decide +kernel) ?_
  refine zw_sld (pc := 197) (by decide +kernel) (by omega) (by omega) hL ?_
  refine zx_callV (pc := 198) (As := [.int (zJ (xs ((i : Int) + 1).toNat).toInt)]) (hop.2.1 μ hR hM) zi_X10_prime zii_X10_prime zie_X10_prime zl_L_13 (by decide +kernel) ⟨Nat.le_of_ble_eq_true rfl, Nat.le_of_ble_eq_true rfl⟩ rfl zc_0 (by decide) rfl rfl ⟨rfl, rfl⟩ hn (zki (fun x μ1 h1 => ?_))
  obtain ⟨rfl, hR1, hM1⟩ := h1
  refine zw_aload_n (pc := 201) (n := 2) (i := 2) 2 (by decide +kernel) rfl rfl ?_
  refine zw_aload_n (pc := 202) (n := 0) (i := 0) 0 (by decide +kernel) rfl rfl ?_
  refine zw_iload_n (pc := 203) (n := 3) (i := 3) 3 (by decide +kernel) rfl rfl ?_
  refine zw_iconst (pc := 204) (n := 1) (by decide +kernel) ?_
  refine zw_iadd (pc := 205) (by decide +kernel) ?_
  refine zw_sld (pc := 206) (by decide +kernel) (by omega) (by omega) hL ?_
  refine zx_callV (pc := 207) (As := [.int (zJ (xs ((i : Int) + 1).toNat).toInt)]) (hop.2.2 μ1 hR1 hM1) zi_X11_prime zii_X11_prime zie_X11_prime zl_L_17 (by decide +kernel) ⟨Nat.le_of_ble_eq_true rfl, Nat.le_of_ble_eq_true rfl⟩ rfl zc_203 (by decide) rfl rfl ⟨rfl, rfl⟩ hn (zki (fun x μ2 h2 => ?_))
  obtain ⟨rfl, hR2, hM2⟩ := h2
  exact zw_icmp_same (pc := 210) (off := 1043) (tgt := 1253) (by decide +kernel) (by decide) (K _ μ2 hop.1 hR2 hM2)
theorem lc_1 {g : zG} {L i nc ns : Nat} {xs : Nat → Int32} {A μ : zMu} (hL : L ≤ 2560) (hi : i + 5 ≤ L) (hn : nc ≤ zm_law.2.2.2.2.cells ∧ ns ≤ zm_law.2.2.2.2.slots) (hw : zWF A) (hR : zRC A μ) (hM : zRM A μ)
    (K : ∀ A' μ', zWF A' → zRC A' μ' → zRM A' μ' → zWP g zm_law (zmoL g L xs) 1253 [(0, .ref 90000), (1, .ref 0), (2, .ref 203), (3, .int (zJ (i : Int)))] [] nc ns (zw μ')) : zWP g zm_law (zmoL g L xs) 215 [(0, .ref 90000), (1, .ref 0), (2, .ref 203), (3, .int (zJ (i : Int)))] [] nc ns (zw μ) := by
  have hop := zo_j (g := g) (A := A) (v1 := (xs ((i : Int) + 1).toNat).toInt) (v2 := (xs ((i : Int) + 2).toNat).toInt) hw (zR_I _) (zR_I _)
  refine zw_aload_n (pc := 215) (n := 1) (i := 1) 1 (by decide +kernel) rfl rfl ?_
  refine zw_aload_n (pc := 216) (n := 0) (i := 0) 0 (by decide +kernel) rfl rfl ?_
  refine zw_iload_n (pc := 217) (n := 3) (i := 3) 3 (by decide +kernel) rfl rfl ?_
  refine zw_iconst (pc := 218) (n := 1) (by decide +kernel) ?_
  refine zw_iadd (pc := 219) (by decide +kernel) ?_
  refine zw_sld (pc := 220) (by decide +kernel) (by omega) (by omega) hL ?_
  refine zw_aload_n (pc := 221) (n := 0) (i := 0) 0 (by decide +kernel) rfl rfl ?_
  refine zw_iload_n (pc := 222) (n := 3) (i := 3) 3 (by decide +kernel) rfl rfl ?_
  refine zw_iconst (pc := 223) (n := 2) (by decide +kernel) ?_
  refine zw_iadd (pc := 224) (by decide +kernel) ?_
  refine zw_sld (pc := 225) (by decide +kernel) (by omega) (by omega) hL ?_
  refine zx_callV (pc := 226) (As := [.int (zJ (xs ((i : Int) + 1).toNat).toInt), .int (zJ (xs ((i : Int) + 2).toNat).toInt)]) (hop.2.1 μ hR hM) zi_X10_j zii_X10_j zie_X10_j zl_L_18 (by decide +kernel) ⟨Nat.le_of_ble_eq_true rfl, Nat.le_of_ble_eq_true rfl⟩ rfl zc_0 (by decide) rfl rfl ⟨rfl, rfl⟩ hn (zki (fun x μ1 h1 => ?_))
  obtain ⟨rfl, hR1, hM1⟩ := h1
  refine zw_aload_n (pc := 229) (n := 2) (i := 2) 2 (by decide +kernel) rfl rfl ?_
  refine zw_aload_n (pc := 230) (n := 0) (i := 0) 0 (by decide +kernel) rfl rfl ?_
  refine zw_iload_n (pc := 231) (n := 3) (i := 3) 3 (by decide +kernel) rfl rfl ?_
  refine zw_iconst (pc := 232) (n := 1) (by decide +kernel) ?_
  refine zw_iadd (pc := 233) (by decide +kernel) ?_
  refine zw_sld (pc := 234) (by decide +kernel) (by omega) (by omega) hL ?_
  refine zw_aload_n (pc := 235) (n := 0) (i := 0) 0 (by decide +kernel) rfl rfl ?_
  refine zw_iload_n (pc := 236) (n := 3) (i := 3) 3 (by decide +kernel) rfl rfl ?_
  refine zw_iconst (pc := 237) (n := 2) (by decide +kernel) ?_
  refine zw_iadd (pc := 238) (by decide +kernel) ?_
  refine zw_sld (pc := 239) (by decide +kernel) (by omega) (by omega) hL ?_
  refine zx_callV (pc := 240) (As := [.int (zJ (xs ((i : Int) + 1).toNat).toInt), .int (zJ (xs ((i : Int) + 2).toNat).toInt)]) (hop.2.2 μ1 hR1 hM1) zi_X11_j zii_X11_j zie_X11_j zl_L_22 (by decide +kernel) ⟨Nat.le_of_ble_eq_true rfl, Nat.le_of_ble_eq_true rfl⟩ rfl zc_203 (by decide) rfl rfl ⟨rfl, rfl⟩ hn (zki (fun x μ2 h2 => ?_))
  obtain ⟨rfl, hR2, hM2⟩ := h2
  exact zw_icmp_same (pc := 243) (off := 1010) (tgt := 1253) (by decide +kernel) (by decide) (K _ μ2 hop.1 hR2 hM2)
theorem lc_2 {g : zG} {L i nc ns : Nat} {xs : Nat → Int32} {A μ : zMu} (hL : L ≤ 2560) (hi : i + 5 ≤ L) (hn : nc ≤ zm_law.2.2.2.2.cells ∧ ns ≤ zm_law.2.2.2.2.slots) (hw : zWF A) (hR : zRC A μ) (hM : zRM A μ)
    (K : ∀ A' μ', zWF A' → zRC A' μ' → zRM A' μ' → zWP g zm_law (zmoL g L xs) 1253 [(0, .ref 90000), (1, .ref 0), (2, .ref 203), (3, .int (zJ (i : Int)))] [] nc ns (zw μ')) : zWP g zm_law (zmoL g L xs) 248 [(0, .ref 90000), (1, .ref 0), (2, .ref 203), (3, .int (zJ (i : Int)))] [] nc ns (zw μ) := by
  have hop := zo_tell (g := g) (A := A) (v1 := (xs ((i : Int) + 1).toNat).toInt) (v2 := (xs ((i : Int) + 2).toNat).toInt) (v3 := (xs ((i : Int) + 3).toNat).toInt) hw (zR_I _) (zR_I _) (zR_I _)
  refine zw_aload_n (pc := 248) (n := 1) (i := 1) 1 (by decide +kernel) rfl rfl ?_
  refine zw_aload_n (pc := 249) (n := 0) (i := 0) 0 (by decide +kernel) rfl rfl ?_
  refine zw_iload_n (pc := 250) (n := 3) (i := 3) 3 (by decide +kernel) rfl rfl ?_
  refine zw_iconst (pc := 251) (n := 1) (by decide +kernel) ?_
  refine zw_iadd (pc := 252) (by decide +kernel) ?_
  refine zw_sld (pc := 253) (by decide +kernel) (by omega) (by omega) hL ?_
  refine zw_aload_n (pc := 254) (n := 0) (i := 0) 0 (by decide +kernel) rfl rfl ?_
  refine zw_iload_n (pc := 255) (n := 3) (i := 3) 3 (by decide +kernel) rfl rfl ?_
  refine zw_iconst (pc := 256) (n := 2) (by decide +kernel) ?_
  refine zw_iadd (pc := 257) (by decide +kernel) ?_
  refine zw_sld (pc := 258) (by decide +kernel) (by omega) (by omega) hL ?_
  refine zw_aload_n (pc := 259) (n := 0) (i := 0) 0 (by decide +kernel) rfl rfl ?_
  refine zw_iload_n (pc := 260) (n := 3) (i := 3) 3 (by decide +kernel) rfl rfl ?_
  refine zw_iconst (pc := 261) (n := 3) (by decide +kernel) ?_
  refine zw_iadd (pc := 262) (by decide +kernel) ?_
  refine zw_sld (pc := 263) (by decide +kernel) (by omega) (by omega) hL ?_
  refine zx_callV (pc := 264) (As := [.int (zJ (xs ((i : Int) + 1).toNat).toInt), .int (zJ (xs ((i : Int) + 2).toNat).toInt), .int (zJ (xs ((i : Int) + 3).toNat).toInt)]) (hop.2.1 μ hR hM) zi_X10_tell zii_X10_tell zie_X10_tell zl_L_23 (by decide +kernel) ⟨Nat.le_of_ble_eq_true rfl, Nat.le_of_ble_eq_true rfl⟩ rfl zc_0 (by decide) rfl rfl ⟨rfl, rfl⟩ hn (zki (fun x μ1 h1 => ?_))
  obtain ⟨rfl, hR1, hM1⟩ := h1
  refine zw_aload_n (pc := 267) (n := 2) (i := 2) 2 (by decide +kernel) rfl rfl ?_
  refine zw_aload_n (pc := 268) (n := 0) (i := 0) 0 (by decide +kernel) rfl rfl ?_
  refine zw_iload_n (pc := 269) (n := 3) (i := 3) 3 (by decide +kernel) rfl rfl ?_
  refine zw_iconst (pc := 270) (n := 1) (by decide +kernel) ?_
  refine zw_iadd (pc := 271) (by decide +kernel) ?_
  refine zw_sld (pc := 272) (by decide +kernel) (by omega) (by omega) hL ?_
  refine zw_aload_n (pc := 273) (n := 0) (i := 0) 0 (by decide +kernel) rfl rfl ?_
  refine zw_iload_n (pc := 274) (n := 3) (i := 3) 3 (by decide +kernel) rfl rfl ?_
  refine zw_iconst (pc := 275) (n := 2) (by decide +kernel) ?_
  refine zw_iadd (pc := 276) (by decide +kernel) ?_
  refine zw_sld (pc := 277) (by decide +kernel) (by omega) (by omega) hL ?_
  refine zw_aload_n (pc := 278) (n := 0) (i := 0) 0 (by decide +kernel) rfl rfl ?_
  refine zw_iload_n (pc := 279) (n := 3) (i := 3) 3 (by decide +kernel) rfl rfl ?_
  refine zw_iconst (pc := 280) (n := 3) (by decide +kernel) ?_
  refine zw_iadd (pc := 281) (by decide +kernel) ?_
  refine zw_sld (pc := 282) (by decide +kernel) (by omega) (by omega) hL ?_
  refine zx_callV (pc := 283) (As := [.int (zJ (xs ((i : Int) + 1).toNat).toInt), .int (zJ (xs ((i : Int) + 2).toNat).toInt), .int (zJ (xs ((i : Int) + 3).toNat).toInt)]) (hop.2.2 μ1 hR1 hM1) zi_X11_tell zii_X11_tell zie_X11_tell zl_L_27 (by decide +kernel) ⟨Nat.le_of_ble_eq_true rfl, Nat.le_of_ble_eq_true rfl⟩ rfl zc_203 (by decide) rfl rfl ⟨rfl, rfl⟩ hn (zki (fun x μ2 h2 => ?_))
  obtain ⟨rfl, hR2, hM2⟩ := h2
  exact zw_icmp_same (pc := 286) (off := 967) (tgt := 1253) (by decide +kernel) (by decide) (K _ μ2 hop.1 hR2 hM2)
theorem lc_3 {g : zG} {L i nc ns : Nat} {xs : Nat → Int32} {A μ : zMu} (hL : L ≤ 2560) (hi : i + 5 ≤ L) (hn : nc ≤ zm_law.2.2.2.2.cells ∧ ns ≤ zm_law.2.2.2.2.slots) (hw : zWF A) (hR : zRC A μ) (hM : zRM A μ)
    (K : ∀ A' μ', zWF A' → zRC A' μ' → zRM A' μ' → zWP g zm_law (zmoL g L xs) 1253 [(0, .ref 90000), (1, .ref 0), (2, .ref 203), (3, .int (zJ (i : Int)))] [] nc ns (zw μ')) : zWP g zm_law (zmoL g L xs) 291 [(0, .ref 90000), (1, .ref 0), (2, .ref 203), (3, .int (zJ (i : Int)))] [] nc ns (zw μ) := by
  have hop := zo_sum (g := g) (A := A) (v1 := (xs ((i : Int) + 1).toNat).toInt) (v2 := (xs ((i : Int) + 2).toNat).toInt) (v3 := (xs ((i : Int) + 3).toNat).toInt) hw (zR_I _) (zR_I _) (zR_I _)
  refine zw_aload_n (pc := 291) (n := 1) (i := 1) 1 (by decide +kernel) rfl rfl ?_
  refine zw_aload_n (pc := 292) (n := 0) (i := 0) 0 (by decide +kernel) rfl rfl ?_
  refine zw_iload_n (pc := 293) (n := 3) (i := 3) 3 (by decide +kernel) rfl rfl ?_
  refine zw_iconst (pc := 294) (n := 1) (by decide +kernel) ?_
  refine zw_iadd (pc := 295) (by decide +kernel) ?_
  refine zw_sld (pc := 296) (by decide +kernel) (by omega) (by omega) hL ?_
  refine zw_aload_n (pc := 297) (n := 0) (i := 0) 0 (by decide +kernel) rfl rfl ?_
  refine zw_iload_n (pc := 298) (n := 3) (i := 3) 3 (by decide +kernel) rfl rfl ?_
  refine zw_iconst (pc := 299) (n := 2) (by decide +kernel) ?_
  refine zw_iadd (pc := 300) (by decide +kernel) ?_
  refine zw_sld (pc := 301) (by decide +kernel) (by omega) (by omega) hL ?_
  refine zw_aload_n (pc := 302) (n := 0) (i := 0) 0 (by decide +kernel) rfl rfl ?_
  refine zw_iload_n (pc := 303) (n := 3) (i := 3) 3 (by decide +kernel) rfl rfl ?_
  refine zw_iconst (pc := 304) (n := 3) (by decide +kernel) ?_
  refine zw_iadd (pc := 305) (by decide +kernel) ?_
  refine zw_sld (pc := 306) (by decide +kernel) (by omega) (by omega) hL ?_
  refine zx_callV (pc := 307) (As := [.int (zJ (xs ((i : Int) + 1).toNat).toInt), .int (zJ (xs ((i : Int) + 2).toNat).toInt), .int (zJ (xs ((i : Int) + 3).toNat).toInt)]) (hop.2.1 μ hR hM) zi_X10_sum zii_X10_sum zie_X10_sum zl_L_28 (by decide +kernel) ⟨Nat.le_of_ble_eq_true rfl, Nat.le_of_ble_eq_true rfl⟩ rfl zc_0 (by decide) rfl rfl ⟨rfl, rfl⟩ hn (zki (fun x μ1 h1 => ?_))
  obtain ⟨rfl, hR1, hM1⟩ := h1
  refine zw_aload_n (pc := 310) (n := 2) (i := 2) 2 (by decide +kernel) rfl rfl ?_
  refine zw_aload_n (pc := 311) (n := 0) (i := 0) 0 (by decide +kernel) rfl rfl ?_
  refine zw_iload_n (pc := 312) (n := 3) (i := 3) 3 (by decide +kernel) rfl rfl ?_
  refine zw_iconst (pc := 313) (n := 1) (by decide +kernel) ?_
  refine zw_iadd (pc := 314) (by decide +kernel) ?_
  refine zw_sld (pc := 315) (by decide +kernel) (by omega) (by omega) hL ?_
  refine zw_aload_n (pc := 316) (n := 0) (i := 0) 0 (by decide +kernel) rfl rfl ?_
  refine zw_iload_n (pc := 317) (n := 3) (i := 3) 3 (by decide +kernel) rfl rfl ?_
  refine zw_iconst (pc := 318) (n := 2) (by decide +kernel) ?_
  refine zw_iadd (pc := 319) (by decide +kernel) ?_
  refine zw_sld (pc := 320) (by decide +kernel) (by omega) (by omega) hL ?_
  refine zw_aload_n (pc := 321) (n := 0) (i := 0) 0 (by decide +kernel) rfl rfl ?_
  refine zw_iload_n (pc := 322) (n := 3) (i := 3) 3 (by decide +kernel) rfl rfl ?_
  refine zw_iconst (pc := 323) (n := 3) (by decide +kernel) ?_
  refine zw_iadd (pc := 324) (by decide +kernel) ?_
  refine zw_sld (pc := 325) (by decide +kernel) (by omega) (by omega) hL ?_
  refine zx_callV (pc := 326) (As := [.int (zJ (xs ((i : Int) + 1).toNat).toInt), .int (zJ (xs ((i : Int) + 2).toNat).toInt), .int (zJ (xs ((i : Int) + 3).toNat).toInt)]) (hop.2.2 μ1 hR1 hM1) zi_X11_sum zii_X11_sum zie_X11_sum zl_L_31 (by decide +kernel) ⟨Nat.le_of_ble_eq_true rfl, Nat.le_of_ble_eq_true rfl⟩ rfl zc_203 (by decide) rfl rfl ⟨rfl, rfl⟩ hn (zki (fun x μ2 h2 => ?_))
  obtain ⟨rfl, hR2, hM2⟩ := h2
  exact zw_icmp_same (pc := 329) (off := 924) (tgt := 1253) (by decide +kernel) (by decide) (K _ μ2 hop.1 hR2 hM2)
theorem lc_4 {g : zG} {L i nc ns : Nat} {xs : Nat → Int32} {A μ : zMu} (hL : L ≤ 2560) (hi : i + 5 ≤ L) (hn : nc ≤ zm_law.2.2.2.2.cells ∧ ns ≤ zm_law.2.2.2.2.slots) (hw : zWF A) (hR : zRC A μ) (hM : zRM A μ)
    (K : ∀ A' μ', zWF A' → zRC A' μ' → zRM A' μ' → zWP g zm_law (zmoL g L xs) 1253 [(0, .ref 90000), (1, .ref 0), (2, .ref 203), (3, .int (zJ (i : Int)))] [] nc ns (zw μ')) : zWP g zm_law (zmoL g L xs) 334 [(0, .ref 90000), (1, .ref 0), (2, .ref 203), (3, .int (zJ (i : Int)))] [] nc ns (zw μ) := by
  have hop := zo_times (g := g) (A := A) (v1 := (xs ((i : Int) + 1).toNat).toInt) (v2 := (xs ((i : Int) + 2).toNat).toInt) (v3 := (xs ((i : Int) + 3).toNat).toInt) hw (zR_I _) (zR_I _) (zR_I _)
  refine zw_aload_n (pc := 334) (n := 1) (i := 1) 1 (by decide +kernel) rfl rfl ?_
  refine zw_aload_n (pc := 335) (n := 0) (i := 0) 0 (by decide +kernel) rfl rfl ?_
  refine zw_iload_n (pc := 336) (n := 3) (i := 3) 3 (by decide +kernel) rfl rfl ?_
  refine zw_iconst (pc := 337) (n := 1) (by decide +kernel) ?_
  refine zw_iadd (pc := 338) (by decide +kernel) ?_
  refine zw_sld (pc := 339) (by decide +kernel) (by omega) (by omega) hL ?_
  refine zw_aload_n (pc := 340) (n := 0) (i := 0) 0 (by decide +kernel) rfl rfl ?_
  refine zw_iload_n (pc := 341) (n := 3) (i := 3) 3 (by decide +kernel) rfl rfl ?_
  refine zw_iconst (pc := 342) (n := 2) (by decide +kernel) ?_
  refine zw_iadd (pc := 343) (by decide +kernel) ?_
  refine zw_sld (pc := 344) (by decide +kernel) (by omega) (by omega) hL ?_
  refine zw_aload_n (pc := 345) (n := 0) (i := 0) 0 (by decide +kernel) rfl rfl ?_
  refine zw_iload_n (pc := 346) (n := 3) (i := 3) 3 (by decide +kernel) rfl rfl ?_
  refine zw_iconst (pc := 347) (n := 3) (by decide +kernel) ?_
  refine zw_iadd (pc := 348) (by decide +kernel) ?_
  refine zw_sld (pc := 349) (by decide +kernel) (by omega) (by omega) hL ?_
  refine zx_callV (pc := 350) (As := [.int (zJ (xs ((i : Int) + 1).toNat).toInt), .int (zJ (xs ((i : Int) + 2).toNat).toInt), .int (zJ (xs ((i : Int) + 3).toNat).toInt)]) (hop.2.1 μ hR hM) zi_X10_times zii_X10_times zie_X10_times zl_L_32 (by decide +kernel) ⟨Nat.le_of_ble_eq_true rfl, Nat.le_of_ble_eq_true rfl⟩ rfl zc_0 (by decide) rfl rfl ⟨rfl, rfl⟩ hn (zki (fun x μ1 h1 => ?_))
  obtain ⟨rfl, hR1, hM1⟩ := h1
  refine zw_aload_n (pc := 353) (n := 2) (i := 2) 2 (by decide +kernel) rfl rfl ?_
  refine zw_aload_n (pc := 354) (n := 0) (i := 0) 0 (by decide +kernel) rfl rfl ?_
  refine zw_iload_n (pc := 355) (n := 3) (i := 3) 3 (by decide +kernel) rfl rfl ?_
  refine zw_iconst (pc := 356) (n := 1) (by decide +kernel) ?_
  refine zw_iadd (pc := 357) (by decide +kernel) ?_
  refine zw_sld (pc := 358) (by decide +kernel) (by omega) (by omega) hL ?_
  refine zw_aload_n (pc := 359) (n := 0) (i := 0) 0 (by decide +kernel) rfl rfl ?_
  refine zw_iload_n (pc := 360) (n := 3) (i := 3) 3 (by decide +kernel) rfl rfl ?_
  refine zw_iconst (pc := 361) (n := 2) (by decide +kernel) ?_
  refine zw_iadd (pc := 362) (by decide +kernel) ?_
  refine zw_sld (pc := 363) (by decide +kernel) (by omega) (by omega) hL ?_
  refine zw_aload_n (pc := 364) (n := 0) (i := 0) 0 (by decide +kernel) rfl rfl ?_
  refine zw_iload_n (pc := 365) (n := 3) (i := 3) 3 (by decide +kernel) rfl rfl ?_
  refine zw_iconst (pc := 366) (n := 3) (by decide +kernel) ?_
  refine zw_iadd (pc := 367) (by decide +kernel) ?_
  refine zw_sld (pc := 368) (by decide +kernel) (by omega) (by omega) hL ?_
  refine zx_callV (pc := 369) (As := [.int (zJ (xs ((i : Int) + 1).toNat).toInt), .int (zJ (xs ((i : Int) + 2).toNat).toInt), .int (zJ (xs ((i : Int) + 3).toNat).toInt)]) (hop.2.2 μ1 hR1 hM1) zi_X11_times zii_X11_times zie_X11_times zl_L_35 (by decide +kernel) ⟨Nat.le_of_ble_eq_true rfl, Nat.le_of_ble_eq_true rfl⟩ rfl zc_203 (by decide) rfl rfl ⟨rfl, rfl⟩ hn (zki (fun x μ2 h2 => ?_))
  obtain ⟨rfl, hR2, hM2⟩ := h2
  exact zw_icmp_same (pc := 372) (off := 881) (tgt := 1253) (by decide +kernel) (by decide) (K _ μ2 hop.1 hR2 hM2)
theorem lc_5 {g : zG} {L i nc ns : Nat} {xs : Nat → Int32} {A μ : zMu} (hL : L ≤ 2560) (hi : i + 5 ≤ L) (hn : nc ≤ zm_law.2.2.2.2.cells ∧ ns ≤ zm_law.2.2.2.2.slots) (hw : zWF A) (hR : zRC A μ) (hM : zRM A μ)
    (K : ∀ A' μ', zWF A' → zRC A' μ' → zRM A' μ' → zWP g zm_law (zmoL g L xs) 1253 [(0, .ref 90000), (1, .ref 0), (2, .ref 203), (3, .int (zJ (i : Int)))] [] nc ns (zw μ')) : zWP g zm_law (zmoL g L xs) 377 [(0, .ref 90000), (1, .ref 0), (2, .ref 203), (3, .int (zJ (i : Int)))] [] nc ns (zw μ) := by
  have hop := zo_stretch (g := g) (A := A) (v1 := (xs ((i : Int) + 1).toNat).toInt) (v2 := (xs ((i : Int) + 2).toNat).toInt) (v3 := (xs ((i : Int) + 3).toNat).toInt) hw (zR_I _) (zR_I _) (zR_I _)
  refine zw_aload_n (pc := 377) (n := 1) (i := 1) 1 (by decide +kernel) rfl rfl ?_
  refine zw_aload_n (pc := 378) (n := 0) (i := 0) 0 (by decide +kernel) rfl rfl ?_
  refine zw_iload_n (pc := 379) (n := 3) (i := 3) 3 (by decide +kernel) rfl rfl ?_
  refine zw_iconst (pc := 380) (n := 1) (by decide +kernel) ?_
  refine zw_iadd (pc := 381) (by decide +kernel) ?_
  refine zw_sld (pc := 382) (by decide +kernel) (by omega) (by omega) hL ?_
  refine zw_aload_n (pc := 383) (n := 0) (i := 0) 0 (by decide +kernel) rfl rfl ?_
  refine zw_iload_n (pc := 384) (n := 3) (i := 3) 3 (by decide +kernel) rfl rfl ?_
  refine zw_iconst (pc := 385) (n := 2) (by decide +kernel) ?_
  refine zw_iadd (pc := 386) (by decide +kernel) ?_
  refine zw_sld (pc := 387) (by decide +kernel) (by omega) (by omega) hL ?_
  refine zw_aload_n (pc := 388) (n := 0) (i := 0) 0 (by decide +kernel) rfl rfl ?_
  refine zw_iload_n (pc := 389) (n := 3) (i := 3) 3 (by decide +kernel) rfl rfl ?_
  refine zw_iconst (pc := 390) (n := 3) (by decide +kernel) ?_
  refine zw_iadd (pc := 391) (by decide +kernel) ?_
  refine zw_sld (pc := 392) (by decide +kernel) (by omega) (by omega) hL ?_
  refine zx_callV (pc := 393) (As := [.int (zJ (xs ((i : Int) + 1).toNat).toInt), .int (zJ (xs ((i : Int) + 2).toNat).toInt), .int (zJ (xs ((i : Int) + 3).toNat).toInt)]) (hop.2.1 μ hR hM) zi_X10_stretch zii_X10_stretch zie_X10_stretch zl_L_36 (by decide +kernel) ⟨Nat.le_of_ble_eq_true rfl, Nat.le_of_ble_eq_true rfl⟩ rfl zc_0 (by decide) rfl rfl ⟨rfl, rfl⟩ hn (zki (fun x μ1 h1 => ?_))
  obtain ⟨rfl, hR1, hM1⟩ := h1
  refine zw_aload_n (pc := 396) (n := 2) (i := 2) 2 (by decide +kernel) rfl rfl ?_
  refine zw_aload_n (pc := 397) (n := 0) (i := 0) 0 (by decide +kernel) rfl rfl ?_
  refine zw_iload_n (pc := 398) (n := 3) (i := 3) 3 (by decide +kernel) rfl rfl ?_
  refine zw_iconst (pc := 399) (n := 1) (by decide +kernel) ?_
  refine zw_iadd (pc := 400) (by decide +kernel) ?_
  refine zw_sld (pc := 401) (by decide +kernel) (by omega) (by omega) hL ?_
  refine zw_aload_n (pc := 402) (n := 0) (i := 0) 0 (by decide +kernel) rfl rfl ?_
  refine zw_iload_n (pc := 403) (n := 3) (i := 3) 3 (by decide +kernel) rfl rfl ?_
  refine zw_iconst (pc := 404) (n := 2) (by decide +kernel) ?_
  refine zw_iadd (pc := 405) (by decide +kernel) ?_
  refine zw_sld (pc := 406) (by decide +kernel) (by omega) (by omega) hL ?_
  refine zw_aload_n (pc := 407) (n := 0) (i := 0) 0 (by decide +kernel) rfl rfl ?_
  refine zw_iload_n (pc := 408) (n := 3) (i := 3) 3 (by decide +kernel) rfl rfl ?_
  refine zw_iconst (pc := 409) (n := 3) (by decide +kernel) ?_
  refine zw_iadd (pc := 410) (by decide +kernel) ?_
  refine zw_sld (pc := 411) (by decide +kernel) (by omega) (by omega) hL ?_
  refine zx_callV (pc := 412) (As := [.int (zJ (xs ((i : Int) + 1).toNat).toInt), .int (zJ (xs ((i : Int) + 2).toNat).toInt), .int (zJ (xs ((i : Int) + 3).toNat).toInt)]) (hop.2.2 μ1 hR1 hM1) zi_X11_stretch zii_X11_stretch zie_X11_stretch zl_L_39 (by decide +kernel) ⟨Nat.le_of_ble_eq_true rfl, Nat.le_of_ble_eq_true rfl⟩ rfl zc_203 (by decide) rfl rfl ⟨rfl, rfl⟩ hn (zki (fun x μ2 h2 => ?_))
  obtain ⟨rfl, hR2, hM2⟩ := h2
  exact zw_icmp_same (pc := 415) (off := 838) (tgt := 1253) (by decide +kernel) (by decide) (K _ μ2 hop.1 hR2 hM2)
theorem lc_6 {g : zG} {L i nc ns : Nat} {xs : Nat → Int32} {A μ : zMu} (hL : L ≤ 2560) (hi : i + 5 ≤ L) (hn : nc ≤ zm_law.2.2.2.2.cells ∧ ns ≤ zm_law.2.2.2.2.slots) (hw : zWF A) (hR : zRC A μ) (hM : zRM A μ)
    (K : ∀ A' μ', zWF A' → zRC A' μ' → zRM A' μ' → zWP g zm_law (zmoL g L xs) 1253 [(0, .ref 90000), (1, .ref 0), (2, .ref 203), (3, .int (zJ (i : Int)))] [] nc ns (zw μ')) : zWP g zm_law (zmoL g L xs) 420 [(0, .ref 90000), (1, .ref 0), (2, .ref 203), (3, .int (zJ (i : Int)))] [] nc ns (zw μ) := by
  have hop := zo_over (g := g) (A := A) (v1 := (xs ((i : Int) + 1).toNat).toInt) (v2 := (xs ((i : Int) + 2).toNat).toInt) hw (zR_I _) (zR_I _)
  refine zw_aload_n (pc := 420) (n := 1) (i := 1) 1 (by decide +kernel) rfl rfl ?_
  refine zw_aload_n (pc := 421) (n := 0) (i := 0) 0 (by decide +kernel) rfl rfl ?_
  refine zw_iload_n (pc := 422) (n := 3) (i := 3) 3 (by decide +kernel) rfl rfl ?_
  refine zw_iconst (pc := 423) (n := 1) (by decide +kernel) ?_
  refine zw_iadd (pc := 424) (by decide +kernel) ?_
  refine zw_sld (pc := 425) (by decide +kernel) (by omega) (by omega) hL ?_
  refine zw_aload_n (pc := 426) (n := 0) (i := 0) 0 (by decide +kernel) rfl rfl ?_
  refine zw_iload_n (pc := 427) (n := 3) (i := 3) 3 (by decide +kernel) rfl rfl ?_
  refine zw_iconst (pc := 428) (n := 2) (by decide +kernel) ?_
  refine zw_iadd (pc := 429) (by decide +kernel) ?_
  refine zw_sld (pc := 430) (by decide +kernel) (by omega) (by omega) hL ?_
  refine zx_callV (pc := 431) (As := [.int (zJ (xs ((i : Int) + 1).toNat).toInt), .int (zJ (xs ((i : Int) + 2).toNat).toInt)]) (hop.2.1 μ hR hM) zi_X10_over zii_X10_over zie_X10_over zl_L_40 (by decide +kernel) ⟨Nat.le_of_ble_eq_true rfl, Nat.le_of_ble_eq_true rfl⟩ rfl zc_0 (by decide) rfl rfl ⟨rfl, rfl⟩ hn (zki (fun x μ1 h1 => ?_))
  obtain ⟨rfl, hR1, hM1⟩ := h1
  refine zw_aload_n (pc := 434) (n := 2) (i := 2) 2 (by decide +kernel) rfl rfl ?_
  refine zw_aload_n (pc := 435) (n := 0) (i := 0) 0 (by decide +kernel) rfl rfl ?_
  refine zw_iload_n (pc := 436) (n := 3) (i := 3) 3 (by decide +kernel) rfl rfl ?_
  refine zw_iconst (pc := 437) (n := 1) (by decide +kernel) ?_
  refine zw_iadd (pc := 438) (by decide +kernel) ?_
  refine zw_sld (pc := 439) (by decide +kernel) (by omega) (by omega) hL ?_
  refine zw_aload_n (pc := 440) (n := 0) (i := 0) 0 (by decide +kernel) rfl rfl ?_
  refine zw_iload_n (pc := 441) (n := 3) (i := 3) 3 (by decide +kernel) rfl rfl ?_
  refine zw_iconst (pc := 442) (n := 2) (by decide +kernel) ?_
  refine zw_iadd (pc := 443) (by decide +kernel) ?_
  refine zw_sld (pc := 444) (by decide +kernel) (by omega) (by omega) hL ?_
  refine zx_callV (pc := 445) (As := [.int (zJ (xs ((i : Int) + 1).toNat).toInt), .int (zJ (xs ((i : Int) + 2).toNat).toInt)]) (hop.2.2 μ1 hR1 hM1) zi_X11_over zii_X11_over zie_X11_over zl_L_43 (by decide +kernel) ⟨Nat.le_of_ble_eq_true rfl, Nat.le_of_ble_eq_true rfl⟩ rfl zc_203 (by decide) rfl rfl ⟨rfl, rfl⟩ hn (zki (fun x μ2 h2 => ?_))
  obtain ⟨rfl, hR2, hM2⟩ := h2
  exact zw_icmp_same (pc := 448) (off := 805) (tgt := 1253) (by decide +kernel) (by decide) (K _ μ2 hop.1 hR2 hM2)
theorem lc_7 {g : zG} {L i nc ns : Nat} {xs : Nat → Int32} {A μ : zMu} (hL : L ≤ 2560) (hi : i + 5 ≤ L) (hn : nc ≤ zm_law.2.2.2.2.cells ∧ ns ≤ zm_law.2.2.2.2.slots) (hw : zWF A) (hR : zRC A μ) (hM : zRM A μ)
    (K : ∀ A' μ', zWF A' → zRC A' μ' → zRM A' μ' → zWP g zm_law (zmoL g L xs) 1253 [(0, .ref 90000), (1, .ref 0), (2, .ref 203), (3, .int (zJ (i : Int)))] [] nc ns (zw μ')) : zWP g zm_law (zmoL g L xs) 453 [(0, .ref 90000), (1, .ref 0), (2, .ref 203), (3, .int (zJ (i : Int)))] [] nc ns (zw μ) := by
  have hop := zo_power (g := g) (A := A) (v1 := (xs ((i : Int) + 1).toNat).toInt) (v2 := (xs ((i : Int) + 2).toNat).toInt) (v3 := (xs ((i : Int) + 3).toNat).toInt) hw (zR_I _) (zR_I _) (zR_I _)
  refine zw_aload_n (pc := 453) (n := 1) (i := 1) 1 (by decide +kernel) rfl rfl ?_
  refine zw_aload_n (pc := 454) (n := 0) (i := 0) 0 (by decide +kernel) rfl rfl ?_
  refine zw_iload_n (pc := 455) (n := 3) (i := 3) 3 (by decide +kernel) rfl rfl ?_
  refine zw_iconst (pc := 456) (n := 1) (by decide +kernel) ?_
  refine zw_iadd (pc := 457) (by decide +kernel) ?_
  refine zw_sld (pc := 458) (by decide +kernel) (by omega) (by omega) hL ?_
  refine zw_aload_n (pc := 459) (n := 0) (i := 0) 0 (by decide +kernel) rfl rfl ?_
  refine zw_iload_n (pc := 460) (n := 3) (i := 3) 3 (by decide +kernel) rfl rfl ?_
  refine zw_iconst (pc := 461) (n := 2) (by decide +kernel) ?_
  refine zw_iadd (pc := 462) (by decide +kernel) ?_
  refine zw_sld (pc := 463) (by decide +kernel) (by omega) (by omega) hL ?_
  refine zw_aload_n (pc := 464) (n := 0) (i := 0) 0 (by decide +kernel) rfl rfl ?_
  refine zw_iload_n (pc := 465) (n := 3) (i := 3) 3 (by decide +kernel) rfl rfl ?_
  refine zw_iconst (pc := 466) (n := 3) (by decide +kernel) ?_
  refine zw_iadd (pc := 467) (by decide +kernel) ?_
  refine zw_sld (pc := 468) (by decide +kernel) (by omega) (by omega) hL ?_
  refine zx_callV (pc := 469) (As := [.int (zJ (xs ((i : Int) + 1).toNat).toInt), .int (zJ (xs ((i : Int) + 2).toNat).toInt), .int (zJ (xs ((i : Int) + 3).toNat).toInt)]) (hop.2.1 μ hR hM) zi_X10_power zii_X10_power zie_X10_power zl_L_44 (by decide +kernel) ⟨Nat.le_of_ble_eq_true rfl, Nat.le_of_ble_eq_true rfl⟩ rfl zc_0 (by decide) rfl rfl ⟨rfl, rfl⟩ hn (zki (fun x μ1 h1 => ?_))
  obtain ⟨rfl, hR1, hM1⟩ := h1
  refine zw_aload_n (pc := 472) (n := 2) (i := 2) 2 (by decide +kernel) rfl rfl ?_
  refine zw_aload_n (pc := 473) (n := 0) (i := 0) 0 (by decide +kernel) rfl rfl ?_
  refine zw_iload_n (pc := 474) (n := 3) (i := 3) 3 (by decide +kernel) rfl rfl ?_
  refine zw_iconst (pc := 475) (n := 1) (by decide +kernel) ?_
  refine zw_iadd (pc := 476) (by decide +kernel) ?_
  refine zw_sld (pc := 477) (by decide +kernel) (by omega) (by omega) hL ?_
  refine zw_aload_n (pc := 478) (n := 0) (i := 0) 0 (by decide +kernel) rfl rfl ?_
  refine zw_iload_n (pc := 479) (n := 3) (i := 3) 3 (by decide +kernel) rfl rfl ?_
  refine zw_iconst (pc := 480) (n := 2) (by decide +kernel) ?_
  refine zw_iadd (pc := 481) (by decide +kernel) ?_
  refine zw_sld (pc := 482) (by decide +kernel) (by omega) (by omega) hL ?_
  refine zw_aload_n (pc := 483) (n := 0) (i := 0) 0 (by decide +kernel) rfl rfl ?_
  refine zw_iload_n (pc := 484) (n := 3) (i := 3) 3 (by decide +kernel) rfl rfl ?_
  refine zw_iconst (pc := 485) (n := 3) (by decide +kernel) ?_
  refine zw_iadd (pc := 486) (by decide +kernel) ?_
  refine zw_sld (pc := 487) (by decide +kernel) (by omega) (by omega) hL ?_
  refine zx_callV (pc := 488) (As := [.int (zJ (xs ((i : Int) + 1).toNat).toInt), .int (zJ (xs ((i : Int) + 2).toNat).toInt), .int (zJ (xs ((i : Int) + 3).toNat).toInt)]) (hop.2.2 μ1 hR1 hM1) zi_X11_power zii_X11_power zie_X11_power zl_L_47 (by decide +kernel) ⟨Nat.le_of_ble_eq_true rfl, Nat.le_of_ble_eq_true rfl⟩ rfl zc_203 (by decide) rfl rfl ⟨rfl, rfl⟩ hn (zki (fun x μ2 h2 => ?_))
  obtain ⟨rfl, hR2, hM2⟩ := h2
  exact zw_icmp_same (pc := 491) (off := 762) (tgt := 1253) (by decide +kernel) (by decide) (K _ μ2 hop.1 hR2 hM2)
theorem lc_8 {g : zG} {L i nc ns : Nat} {xs : Nat → Int32} {A μ : zMu} (hL : L ≤ 2560) (hi : i + 5 ≤ L) (hn : nc ≤ zm_law.2.2.2.2.cells ∧ ns ≤ zm_law.2.2.2.2.slots) (hw : zWF A) (hR : zRC A μ) (hM : zRM A μ)
    (K : ∀ A' μ', zWF A' → zRC A' μ' → zRM A' μ' → zWP g zm_law (zmoL g L xs) 1253 [(0, .ref 90000), (1, .ref 0), (2, .ref 203), (3, .int (zJ (i : Int)))] [] nc ns (zw μ')) : zWP g zm_law (zmoL g L xs) 496 [(0, .ref 90000), (1, .ref 0), (2, .ref 203), (3, .int (zJ (i : Int)))] [] nc ns (zw μ) := by
  have hop := zo_of (g := g) (A := A) (v1 := (xs ((i : Int) + 1).toNat).toInt) (v2 := (xs ((i : Int) + 2).toNat).toInt) hw (zR_I _) (zR_I _)
  refine zw_aload_n (pc := 496) (n := 1) (i := 1) 1 (by decide +kernel) rfl rfl ?_
  refine zw_aload_n (pc := 497) (n := 0) (i := 0) 0 (by decide +kernel) rfl rfl ?_
  refine zw_iload_n (pc := 498) (n := 3) (i := 3) 3 (by decide +kernel) rfl rfl ?_
  refine zw_iconst (pc := 499) (n := 1) (by decide +kernel) ?_
  refine zw_iadd (pc := 500) (by decide +kernel) ?_
  refine zw_sld (pc := 501) (by decide +kernel) (by omega) (by omega) hL ?_
  refine zw_aload_n (pc := 502) (n := 0) (i := 0) 0 (by decide +kernel) rfl rfl ?_
  refine zw_iload_n (pc := 503) (n := 3) (i := 3) 3 (by decide +kernel) rfl rfl ?_
  refine zw_iconst (pc := 504) (n := 2) (by decide +kernel) ?_
  refine zw_iadd (pc := 505) (by decide +kernel) ?_
  refine zw_sld (pc := 506) (by decide +kernel) (by omega) (by omega) hL ?_
  refine zx_callV (pc := 507) (As := [.int (zJ (xs ((i : Int) + 1).toNat).toInt), .int (zJ (xs ((i : Int) + 2).toNat).toInt)]) (hop.2.1 μ hR hM) zi_X10_of zii_X10_of zie_X10_of zl_L_48 (by decide +kernel) ⟨Nat.le_of_ble_eq_true rfl, Nat.le_of_ble_eq_true rfl⟩ rfl zc_0 (by decide) rfl rfl ⟨rfl, rfl⟩ hn (zki (fun x μ1 h1 => ?_))
  obtain ⟨rfl, hR1, hM1⟩ := h1
  refine zw_aload_n (pc := 510) (n := 2) (i := 2) 2 (by decide +kernel) rfl rfl ?_
  refine zw_aload_n (pc := 511) (n := 0) (i := 0) 0 (by decide +kernel) rfl rfl ?_
  refine zw_iload_n (pc := 512) (n := 3) (i := 3) 3 (by decide +kernel) rfl rfl ?_
  refine zw_iconst (pc := 513) (n := 1) (by decide +kernel) ?_
  refine zw_iadd (pc := 514) (by decide +kernel) ?_
  refine zw_sld (pc := 515) (by decide +kernel) (by omega) (by omega) hL ?_
  refine zw_aload_n (pc := 516) (n := 0) (i := 0) 0 (by decide +kernel) rfl rfl ?_
  refine zw_iload_n (pc := 517) (n := 3) (i := 3) 3 (by decide +kernel) rfl rfl ?_
  refine zw_iconst (pc := 518) (n := 2) (by decide +kernel) ?_
  refine zw_iadd (pc := 519) (by decide +kernel) ?_
  refine zw_sld (pc := 520) (by decide +kernel) (by omega) (by omega) hL ?_
  refine zx_callV (pc := 521) (As := [.int (zJ (xs ((i : Int) + 1).toNat).toInt), .int (zJ (xs ((i : Int) + 2).toNat).toInt)]) (hop.2.2 μ1 hR1 hM1) zi_X11_of zii_X11_of zie_X11_of zl_L_51 (by decide +kernel) ⟨Nat.le_of_ble_eq_true rfl, Nat.le_of_ble_eq_true rfl⟩ rfl zc_203 (by decide) rfl rfl ⟨rfl, rfl⟩ hn (zki (fun x μ2 h2 => ?_))
  obtain ⟨rfl, hR2, hM2⟩ := h2
  exact zw_icmp_same (pc := 524) (off := 729) (tgt := 1253) (by decide +kernel) (by decide) (K _ μ2 hop.1 hR2 hM2)
theorem lc_9 {g : zG} {L i nc ns : Nat} {xs : Nat → Int32} {A μ : zMu} (hL : L ≤ 2560) (hi : i + 5 ≤ L) (hn : nc ≤ zm_law.2.2.2.2.cells ∧ ns ≤ zm_law.2.2.2.2.slots) (hw : zWF A) (hR : zRC A μ) (hM : zRM A μ)
    (K : ∀ A' μ', zWF A' → zRC A' μ' → zRM A' μ' → zWP g zm_law (zmoL g L xs) 1253 [(0, .ref 90000), (1, .ref 0), (2, .ref 203), (3, .int (zJ (i : Int)))] [] nc ns (zw μ')) : zWP g zm_law (zmoL g L xs) 529 [(0, .ref 90000), (1, .ref 0), (2, .ref 203), (3, .int (zJ (i : Int)))] [] nc ns (zw μ) := by
  have hop := zo_coefficient (g := g) (A := A) (v1 := (xs ((i : Int) + 1).toNat).toInt) (v2 := (xs ((i : Int) + 2).toNat).toInt) hw (zR_I _) (zR_I _)
  refine zw_aload_n (pc := 529) (n := 1) (i := 1) 1 (by decide +kernel) rfl rfl ?_
  refine zw_aload_n (pc := 530) (n := 0) (i := 0) 0 (by decide +kernel) rfl rfl ?_
  refine zw_iload_n (pc := 531) (n := 3) (i := 3) 3 (by decide +kernel) rfl rfl ?_
  refine zw_iconst (pc := 532) (n := 1) (by decide +kernel) ?_
  refine zw_iadd (pc := 533) (by decide +kernel) ?_
  refine zw_sld (pc := 534) (by decide +kernel) (by omega) (by omega) hL ?_
  refine zw_aload_n (pc := 535) (n := 0) (i := 0) 0 (by decide +kernel) rfl rfl ?_
  refine zw_iload_n (pc := 536) (n := 3) (i := 3) 3 (by decide +kernel) rfl rfl ?_
  refine zw_iconst (pc := 537) (n := 2) (by decide +kernel) ?_
  refine zw_iadd (pc := 538) (by decide +kernel) ?_
  refine zw_sld (pc := 539) (by decide +kernel) (by omega) (by omega) hL ?_
  refine zx_callV (pc := 540) (As := [.int (zJ (xs ((i : Int) + 1).toNat).toInt), .int (zJ (xs ((i : Int) + 2).toNat).toInt)]) (hop.2.1 μ hR hM) zi_X10_coefficient zii_X10_coefficient zie_X10_coefficient zl_L_52 (by decide +kernel) ⟨Nat.le_of_ble_eq_true rfl, Nat.le_of_ble_eq_true rfl⟩ rfl zc_0 (by decide) rfl rfl ⟨rfl, rfl⟩ hn (zki (fun x μ1 h1 => ?_))
  obtain ⟨rfl, hR1, hM1⟩ := h1
  refine zw_aload_n (pc := 543) (n := 2) (i := 2) 2 (by decide +kernel) rfl rfl ?_
  refine zw_aload_n (pc := 544) (n := 0) (i := 0) 0 (by decide +kernel) rfl rfl ?_
  refine zw_iload_n (pc := 545) (n := 3) (i := 3) 3 (by decide +kernel) rfl rfl ?_
  refine zw_iconst (pc := 546) (n := 1) (by decide +kernel) ?_
  refine zw_iadd (pc := 547) (by decide +kernel) ?_
  refine zw_sld (pc := 548) (by decide +kernel) (by omega) (by omega) hL ?_
  refine zw_aload_n (pc := 549) (n := 0) (i := 0) 0 (by decide +kernel) rfl rfl ?_
  refine zw_iload_n (pc := 550) (n := 3) (i := 3) 3 (by decide +kernel) rfl rfl ?_
  refine zw_iconst (pc := 551) (n := 2) (by decide +kernel) ?_
  refine zw_iadd (pc := 552) (by decide +kernel) ?_
  refine zw_sld (pc := 553) (by decide +kernel) (by omega) (by omega) hL ?_
  refine zx_callV (pc := 554) (As := [.int (zJ (xs ((i : Int) + 1).toNat).toInt), .int (zJ (xs ((i : Int) + 2).toNat).toInt)]) (hop.2.2 μ1 hR1 hM1) zi_X11_coefficient zii_X11_coefficient zie_X11_coefficient zl_L_55 (by decide +kernel) ⟨Nat.le_of_ble_eq_true rfl, Nat.le_of_ble_eq_true rfl⟩ rfl zc_203 (by decide) rfl rfl ⟨rfl, rfl⟩ hn (zki (fun x μ2 h2 => ?_))
  obtain ⟨rfl, hR2, hM2⟩ := h2
  exact zw_icmp_same (pc := 557) (off := 696) (tgt := 1253) (by decide +kernel) (by decide) (K _ μ2 hop.1 hR2 hM2)
theorem lc_10 {g : zG} {L i nc ns : Nat} {xs : Nat → Int32} {A μ : zMu} (hL : L ≤ 2560) (hi : i + 5 ≤ L) (hn : nc ≤ zm_law.2.2.2.2.cells ∧ ns ≤ zm_law.2.2.2.2.slots) (hw : zWF A) (hR : zRC A μ) (hM : zRM A μ)
    (K : ∀ A' μ', zWF A' → zRC A' μ' → zRM A' μ' → zWP g zm_law (zmoL g L xs) 1253 [(0, .ref 90000), (1, .ref 0), (2, .ref 203), (3, .int (zJ (i : Int)))] [] nc ns (zw μ')) : zWP g zm_law (zmoL g L xs) 562 [(0, .ref 90000), (1, .ref 0), (2, .ref 203), (3, .int (zJ (i : Int)))] [] nc ns (zw μ) := by
  have hop := zo_find (g := g) (A := A) (v1 := (xs ((i : Int) + 1).toNat).toInt) (v2 := (xs ((i : Int) + 2).toNat).toInt) (v3 := (xs ((i : Int) + 3).toNat).toInt) (v4 := (xs ((i : Int) + 4).toNat).toInt) hw (zR_I _) (zR_I _) (zR_I _) (zR_I _)
  refine zw_aload_n (pc := 562) (n := 1) (i := 1) 1 (by decide +kernel) rfl rfl ?_
  refine zw_aload_n (pc := 563) (n := 0) (i := 0) 0 (by decide +kernel) rfl rfl ?_
  refine zw_iload_n (pc := 564) (n := 3) (i := 3) 3 (by decide +kernel) rfl rfl ?_
  refine zw_iconst (pc := 565) (n := 1) (by decide +kernel) ?_
  refine zw_iadd (pc := 566) (by decide +kernel) ?_
  refine zw_sld (pc := 567) (by decide +kernel) (by omega) (by omega) hL ?_
  refine zw_aload_n (pc := 568) (n := 0) (i := 0) 0 (by decide +kernel) rfl rfl ?_
  refine zw_iload_n (pc := 569) (n := 3) (i := 3) 3 (by decide +kernel) rfl rfl ?_
  refine zw_iconst (pc := 570) (n := 2) (by decide +kernel) ?_
  refine zw_iadd (pc := 571) (by decide +kernel) ?_
  refine zw_sld (pc := 572) (by decide +kernel) (by omega) (by omega) hL ?_
  refine zw_aload_n (pc := 573) (n := 0) (i := 0) 0 (by decide +kernel) rfl rfl ?_
  refine zw_iload_n (pc := 574) (n := 3) (i := 3) 3 (by decide +kernel) rfl rfl ?_
  refine zw_iconst (pc := 575) (n := 3) (by decide +kernel) ?_
  refine zw_iadd (pc := 576) (by decide +kernel) ?_
  refine zw_sld (pc := 577) (by decide +kernel) (by omega) (by omega) hL ?_
  refine zw_aload_n (pc := 578) (n := 0) (i := 0) 0 (by decide +kernel) rfl rfl ?_
  refine zw_iload_n (pc := 579) (n := 3) (i := 3) 3 (by decide +kernel) rfl rfl ?_
  refine zw_iconst (pc := 580) (n := 4) (by decide +kernel) ?_
  refine zw_iadd (pc := 581) (by decide +kernel) ?_
  refine zw_sld (pc := 582) (by decide +kernel) (by omega) (by omega) hL ?_
  refine zx_callV (pc := 583) (As := [.int (zJ (xs ((i : Int) + 1).toNat).toInt), .int (zJ (xs ((i : Int) + 2).toNat).toInt), .int (zJ (xs ((i : Int) + 3).toNat).toInt), .int (zJ (xs ((i : Int) + 4).toNat).toInt)]) (hop.2.1 μ hR hM) zi_X10_find zii_X10_find zie_X10_find zl_L_56 (by decide +kernel) ⟨Nat.le_of_ble_eq_true rfl, Nat.le_of_ble_eq_true rfl⟩ rfl zc_0 (by decide) rfl rfl ⟨rfl, rfl⟩ hn (zki (fun x μ1 h1 => ?_))
  obtain ⟨rfl, hR1, hM1⟩ := h1
  refine zw_aload_n (pc := 586) (n := 2) (i := 2) 2 (by decide +kernel) rfl rfl ?_
  refine zw_aload_n (pc := 587) (n := 0) (i := 0) 0 (by decide +kernel) rfl rfl ?_
  refine zw_iload_n (pc := 588) (n := 3) (i := 3) 3 (by decide +kernel) rfl rfl ?_
  refine zw_iconst (pc := 589) (n := 1) (by decide +kernel) ?_
  refine zw_iadd (pc := 590) (by decide +kernel) ?_
  refine zw_sld (pc := 591) (by decide +kernel) (by omega) (by omega) hL ?_
  refine zw_aload_n (pc := 592) (n := 0) (i := 0) 0 (by decide +kernel) rfl rfl ?_
  refine zw_iload_n (pc := 593) (n := 3) (i := 3) 3 (by decide +kernel) rfl rfl ?_
  refine zw_iconst (pc := 594) (n := 2) (by decide +kernel) ?_
  refine zw_iadd (pc := 595) (by decide +kernel) ?_
  refine zw_sld (pc := 596) (by decide +kernel) (by omega) (by omega) hL ?_
  refine zw_aload_n (pc := 597) (n := 0) (i := 0) 0 (by decide +kernel) rfl rfl ?_
  refine zw_iload_n (pc := 598) (n := 3) (i := 3) 3 (by decide +kernel) rfl rfl ?_
  refine zw_iconst (pc := 599) (n := 3) (by decide +kernel) ?_
  refine zw_iadd (pc := 600) (by decide +kernel) ?_
  refine zw_sld (pc := 601) (by decide +kernel) (by omega) (by omega) hL ?_
  refine zw_aload_n (pc := 602) (n := 0) (i := 0) 0 (by decide +kernel) rfl rfl ?_
  refine zw_iload_n (pc := 603) (n := 3) (i := 3) 3 (by decide +kernel) rfl rfl ?_
  refine zw_iconst (pc := 604) (n := 4) (by decide +kernel) ?_
  refine zw_iadd (pc := 605) (by decide +kernel) ?_
  refine zw_sld (pc := 606) (by decide +kernel) (by omega) (by omega) hL ?_
  refine zx_callV (pc := 607) (As := [.int (zJ (xs ((i : Int) + 1).toNat).toInt), .int (zJ (xs ((i : Int) + 2).toNat).toInt), .int (zJ (xs ((i : Int) + 3).toNat).toInt), .int (zJ (xs ((i : Int) + 4).toNat).toInt)]) (hop.2.2 μ1 hR1 hM1) zi_X11_find zii_X11_find zie_X11_find zl_L_60 (by decide +kernel) ⟨Nat.le_of_ble_eq_true rfl, Nat.le_of_ble_eq_true rfl⟩ rfl zc_203 (by decide) rfl rfl ⟨rfl, rfl⟩ hn (zki (fun x μ2 h2 => ?_))
  obtain ⟨rfl, hR2, hM2⟩ := h2
  exact zw_icmp_same (pc := 610) (off := 643) (tgt := 1253) (by decide +kernel) (by decide) (K _ μ2 hop.1 hR2 hM2)
theorem lc_11 {g : zG} {L i nc ns : Nat} {xs : Nat → Int32} {A μ : zMu} (hL : L ≤ 2560) (hi : i + 5 ≤ L) (hn : nc ≤ zm_law.2.2.2.2.cells ∧ ns ≤ zm_law.2.2.2.2.slots) (hw : zWF A) (hR : zRC A μ) (hM : zRM A μ)
    (K : ∀ A' μ', zWF A' → zRC A' μ' → zRM A' μ' → zWP g zm_law (zmoL g L xs) 1253 [(0, .ref 90000), (1, .ref 0), (2, .ref 203), (3, .int (zJ (i : Int)))] [] nc ns (zw μ')) : zWP g zm_law (zmoL g L xs) 615 [(0, .ref 90000), (1, .ref 0), (2, .ref 203), (3, .int (zJ (i : Int)))] [] nc ns (zw μ) := by
  have hop := zo_equation (g := g) (A := A) (v1 := (xs ((i : Int) + 1).toNat).toInt) hw (zR_I _)
  refine zw_aload_n (pc := 615) (n := 1) (i := 1) 1 (by decide +kernel) rfl rfl ?_
  refine zw_aload_n (pc := 616) (n := 0) (i := 0) 0 (by decide +kernel) rfl rfl ?_
  refine zw_iload_n (pc := 617) (n := 3) (i := 3) 3 (by decide +kernel) rfl rfl ?_
  refine zw_iconst (pc := 618) (n := 1) (by decide +kernel) ?_
  refine zw_iadd (pc := 619) (by decide +kernel) ?_
  refine zw_sld (pc := 620) (by decide +kernel) (by omega) (by omega) hL ?_
  refine zx_callV (pc := 621) (As := [.int (zJ (xs ((i : Int) + 1).toNat).toInt)]) (hop.2.1 μ hR hM) zi_X10_equation zii_X10_equation zie_X10_equation zl_L_61 (by decide +kernel) ⟨Nat.le_of_ble_eq_true rfl, Nat.le_of_ble_eq_true rfl⟩ rfl zc_0 (by decide) rfl rfl ⟨rfl, rfl⟩ hn (zki (fun x μ1 h1 => ?_))
  obtain ⟨rfl, hR1, hM1⟩ := h1
  refine zw_aload_n (pc := 624) (n := 2) (i := 2) 2 (by decide +kernel) rfl rfl ?_
  refine zw_aload_n (pc := 625) (n := 0) (i := 0) 0 (by decide +kernel) rfl rfl ?_
  refine zw_iload_n (pc := 626) (n := 3) (i := 3) 3 (by decide +kernel) rfl rfl ?_
  refine zw_iconst (pc := 627) (n := 1) (by decide +kernel) ?_
  refine zw_iadd (pc := 628) (by decide +kernel) ?_
  refine zw_sld (pc := 629) (by decide +kernel) (by omega) (by omega) hL ?_
  refine zx_callV (pc := 630) (As := [.int (zJ (xs ((i : Int) + 1).toNat).toInt)]) (hop.2.2 μ1 hR1 hM1) zi_X11_equation zii_X11_equation zie_X11_equation zl_L_64 (by decide +kernel) ⟨Nat.le_of_ble_eq_true rfl, Nat.le_of_ble_eq_true rfl⟩ rfl zc_203 (by decide) rfl rfl ⟨rfl, rfl⟩ hn (zki (fun x μ2 h2 => ?_))
  obtain ⟨rfl, hR2, hM2⟩ := h2
  exact zw_icmp_same (pc := 633) (off := 620) (tgt := 1253) (by decide +kernel) (by decide) (K _ μ2 hop.1 hR2 hM2)
theorem lc_12 {g : zG} {L i nc ns : Nat} {xs : Nat → Int32} {A μ : zMu} (hL : L ≤ 2560) (hi : i + 5 ≤ L) (hn : nc ≤ zm_law.2.2.2.2.cells ∧ ns ≤ zm_law.2.2.2.2.slots) (hw : zWF A) (hR : zRC A μ) (hM : zRM A μ)
    (K : ∀ A' μ', zWF A' → zRC A' μ' → zRM A' μ' → zWP g zm_law (zmoL g L xs) 1253 [(0, .ref 90000), (1, .ref 0), (2, .ref 203), (3, .int (zJ (i : Int)))] [] nc ns (zw μ')) : zWP g zm_law (zmoL g L xs) 638 [(0, .ref 90000), (1, .ref 0), (2, .ref 203), (3, .int (zJ (i : Int)))] [] nc ns (zw μ) := by
  have hop := zo_term (g := g) (A := A) (v1 := (xs ((i : Int) + 1).toNat).toInt) (v2 := (xs ((i : Int) + 2).toNat).toInt) hw (zR_I _) (zR_I _)
  refine zw_aload_n (pc := 638) (n := 1) (i := 1) 1 (by decide +kernel) rfl rfl ?_
  refine zw_aload_n (pc := 639) (n := 0) (i := 0) 0 (by decide +kernel) rfl rfl ?_
  refine zw_iload_n (pc := 640) (n := 3) (i := 3) 3 (by decide +kernel) rfl rfl ?_
  refine zw_iconst (pc := 641) (n := 1) (by decide +kernel) ?_
  refine zw_iadd (pc := 642) (by decide +kernel) ?_
  refine zw_sld (pc := 643) (by decide +kernel) (by omega) (by omega) hL ?_
  refine zw_aload_n (pc := 644) (n := 0) (i := 0) 0 (by decide +kernel) rfl rfl ?_
  refine zw_iload_n (pc := 645) (n := 3) (i := 3) 3 (by decide +kernel) rfl rfl ?_
  refine zw_iconst (pc := 646) (n := 2) (by decide +kernel) ?_
  refine zw_iadd (pc := 647) (by decide +kernel) ?_
  refine zw_sld (pc := 648) (by decide +kernel) (by omega) (by omega) hL ?_
  refine zx_callV (pc := 649) (As := [.int (zJ (xs ((i : Int) + 1).toNat).toInt), .int (zJ (xs ((i : Int) + 2).toNat).toInt)]) (hop.2.1 μ hR hM) zi_X10_term zii_X10_term zie_X10_term zl_L_65 (by decide +kernel) ⟨Nat.le_of_ble_eq_true rfl, Nat.le_of_ble_eq_true rfl⟩ rfl zc_0 (by decide) rfl rfl ⟨rfl, rfl⟩ hn (zki (fun x μ1 h1 => ?_))
  obtain ⟨rfl, hR1, hM1⟩ := h1
  refine zw_aload_n (pc := 652) (n := 2) (i := 2) 2 (by decide +kernel) rfl rfl ?_
  refine zw_aload_n (pc := 653) (n := 0) (i := 0) 0 (by decide +kernel) rfl rfl ?_
  refine zw_iload_n (pc := 654) (n := 3) (i := 3) 3 (by decide +kernel) rfl rfl ?_
  refine zw_iconst (pc := 655) (n := 1) (by decide +kernel) ?_
  refine zw_iadd (pc := 656) (by decide +kernel) ?_
  refine zw_sld (pc := 657) (by decide +kernel) (by omega) (by omega) hL ?_
  refine zw_aload_n (pc := 658) (n := 0) (i := 0) 0 (by decide +kernel) rfl rfl ?_
  refine zw_iload_n (pc := 659) (n := 3) (i := 3) 3 (by decide +kernel) rfl rfl ?_
  refine zw_iconst (pc := 660) (n := 2) (by decide +kernel) ?_
  refine zw_iadd (pc := 661) (by decide +kernel) ?_
  refine zw_sld (pc := 662) (by decide +kernel) (by omega) (by omega) hL ?_
  refine zx_callV (pc := 663) (As := [.int (zJ (xs ((i : Int) + 1).toNat).toInt), .int (zJ (xs ((i : Int) + 2).toNat).toInt)]) (hop.2.2 μ1 hR1 hM1) zi_X11_term zii_X11_term zie_X11_term zl_L_68 (by decide +kernel) ⟨Nat.le_of_ble_eq_true rfl, Nat.le_of_ble_eq_true rfl⟩ rfl zc_203 (by decide) rfl rfl ⟨rfl, rfl⟩ hn (zki (fun x μ2 h2 => ?_))
  obtain ⟨rfl, hR2, hM2⟩ := h2
  exact zw_icmp_same (pc := 666) (off := 587) (tgt := 1253) (by decide +kernel) (by decide) (K _ μ2 hop.1 hR2 hM2)
theorem lc_13 {g : zG} {L i nc ns : Nat} {xs : Nat → Int32} {A μ : zMu} (hL : L ≤ 2560) (hi : i + 5 ≤ L) (hn : nc ≤ zm_law.2.2.2.2.cells ∧ ns ≤ zm_law.2.2.2.2.slots) (hw : zWF A) (hR : zRC A μ) (hM : zRM A μ)
    (K : ∀ A' μ', zWF A' → zRC A' μ' → zRM A' μ' → zWP g zm_law (zmoL g L xs) 1253 [(0, .ref 90000), (1, .ref 0), (2, .ref 203), (3, .int (zJ (i : Int)))] [] nc ns (zw μ')) : zWP g zm_law (zmoL g L xs) 671 [(0, .ref 90000), (1, .ref 0), (2, .ref 203), (3, .int (zJ (i : Int)))] [] nc ns (zw μ) := by
  have hop := zo_at (g := g) (A := A) (v1 := (xs ((i : Int) + 1).toNat).toInt) (v2 := (xs ((i : Int) + 2).toNat).toInt) hw (zR_I _) (zR_I _)
  refine zw_aload_n (pc := 671) (n := 1) (i := 1) 1 (by decide +kernel) rfl rfl ?_
  refine zw_aload_n (pc := 672) (n := 0) (i := 0) 0 (by decide +kernel) rfl rfl ?_
  refine zw_iload_n (pc := 673) (n := 3) (i := 3) 3 (by decide +kernel) rfl rfl ?_
  refine zw_iconst (pc := 674) (n := 1) (by decide +kernel) ?_
  refine zw_iadd (pc := 675) (by decide +kernel) ?_
  refine zw_sld (pc := 676) (by decide +kernel) (by omega) (by omega) hL ?_
  refine zw_aload_n (pc := 677) (n := 0) (i := 0) 0 (by decide +kernel) rfl rfl ?_
  refine zw_iload_n (pc := 678) (n := 3) (i := 3) 3 (by decide +kernel) rfl rfl ?_
  refine zw_iconst (pc := 679) (n := 2) (by decide +kernel) ?_
  refine zw_iadd (pc := 680) (by decide +kernel) ?_
  refine zw_sld (pc := 681) (by decide +kernel) (by omega) (by omega) hL ?_
  refine zx_callV (pc := 682) (As := [.int (zJ (xs ((i : Int) + 1).toNat).toInt), .int (zJ (xs ((i : Int) + 2).toNat).toInt)]) (hop.2.1 μ hR hM) zi_X10_at zii_X10_at zie_X10_at zl_L_69 (by decide +kernel) ⟨Nat.le_of_ble_eq_true rfl, Nat.le_of_ble_eq_true rfl⟩ rfl zc_0 (by decide) rfl rfl ⟨rfl, rfl⟩ hn (zki (fun x μ1 h1 => ?_))
  obtain ⟨rfl, hR1, hM1⟩ := h1
  refine zw_aload_n (pc := 685) (n := 2) (i := 2) 2 (by decide +kernel) rfl rfl ?_
  refine zw_aload_n (pc := 686) (n := 0) (i := 0) 0 (by decide +kernel) rfl rfl ?_
  refine zw_iload_n (pc := 687) (n := 3) (i := 3) 3 (by decide +kernel) rfl rfl ?_
  refine zw_iconst (pc := 688) (n := 1) (by decide +kernel) ?_
  refine zw_iadd (pc := 689) (by decide +kernel) ?_
  refine zw_sld (pc := 690) (by decide +kernel) (by omega) (by omega) hL ?_
  refine zw_aload_n (pc := 691) (n := 0) (i := 0) 0 (by decide +kernel) rfl rfl ?_
  refine zw_iload_n (pc := 692) (n := 3) (i := 3) 3 (by decide +kernel) rfl rfl ?_
  refine zw_iconst (pc := 693) (n := 2) (by decide +kernel) ?_
  refine zw_iadd (pc := 694) (by decide +kernel) ?_
  refine zw_sld (pc := 695) (by decide +kernel) (by omega) (by omega) hL ?_
  refine zx_callV (pc := 696) (As := [.int (zJ (xs ((i : Int) + 1).toNat).toInt), .int (zJ (xs ((i : Int) + 2).toNat).toInt)]) (hop.2.2 μ1 hR1 hM1) zi_X11_at zii_X11_at zie_X11_at zl_L_72 (by decide +kernel) ⟨Nat.le_of_ble_eq_true rfl, Nat.le_of_ble_eq_true rfl⟩ rfl zc_203 (by decide) rfl rfl ⟨rfl, rfl⟩ hn (zki (fun x μ2 h2 => ?_))
  obtain ⟨rfl, hR2, hM2⟩ := h2
  exact zw_icmp_same (pc := 699) (off := 554) (tgt := 1253) (by decide +kernel) (by decide) (K _ μ2 hop.1 hR2 hM2)
theorem lc_14 {g : zG} {L i nc ns : Nat} {xs : Nat → Int32} {A μ : zMu} (hL : L ≤ 2560) (hi : i + 5 ≤ L) (hn : nc ≤ zm_law.2.2.2.2.cells ∧ ns ≤ zm_law.2.2.2.2.slots) (hw : zWF A) (hR : zRC A μ) (hM : zRM A μ)
    (K : ∀ A' μ', zWF A' → zRC A' μ' → zRM A' μ' → zWP g zm_law (zmoL g L xs) 1253 [(0, .ref 90000), (1, .ref 0), (2, .ref 203), (3, .int (zJ (i : Int)))] [] nc ns (zw μ')) : zWP g zm_law (zmoL g L xs) 704 [(0, .ref 90000), (1, .ref 0), (2, .ref 203), (3, .int (zJ (i : Int)))] [] nc ns (zw μ) := by
  have hop := zo_vanishes (g := g) (A := A) (v1 := (xs ((i : Int) + 1).toNat).toInt) (v2 := (xs ((i : Int) + 2).toNat).toInt) hw (zR_I _) (zR_I _)
  refine zw_aload_n (pc := 704) (n := 1) (i := 1) 1 (by decide +kernel) rfl rfl ?_
  refine zw_aload_n (pc := 705) (n := 0) (i := 0) 0 (by decide +kernel) rfl rfl ?_
  refine zw_iload_n (pc := 706) (n := 3) (i := 3) 3 (by decide +kernel) rfl rfl ?_
  refine zw_iconst (pc := 707) (n := 1) (by decide +kernel) ?_
  refine zw_iadd (pc := 708) (by decide +kernel) ?_
  refine zw_sld (pc := 709) (by decide +kernel) (by omega) (by omega) hL ?_
  refine zw_aload_n (pc := 710) (n := 0) (i := 0) 0 (by decide +kernel) rfl rfl ?_
  refine zw_iload_n (pc := 711) (n := 3) (i := 3) 3 (by decide +kernel) rfl rfl ?_
  refine zw_iconst (pc := 712) (n := 2) (by decide +kernel) ?_
  refine zw_iadd (pc := 713) (by decide +kernel) ?_
  refine zw_sld (pc := 714) (by decide +kernel) (by omega) (by omega) hL ?_
  refine zx_callV (pc := 715) (As := [.int (zJ (xs ((i : Int) + 1).toNat).toInt), .int (zJ (xs ((i : Int) + 2).toNat).toInt)]) (hop.2.1 μ hR hM) zi_X10_vanishes zii_X10_vanishes zie_X10_vanishes zl_L_73 (by decide +kernel) ⟨Nat.le_of_ble_eq_true rfl, Nat.le_of_ble_eq_true rfl⟩ rfl zc_0 (by decide) rfl rfl ⟨rfl, rfl⟩ hn (zki (fun x μ1 h1 => ?_))
  obtain ⟨rfl, hR1, hM1⟩ := h1
  refine zw_aload_n (pc := 718) (n := 2) (i := 2) 2 (by decide +kernel) rfl rfl ?_
  refine zw_aload_n (pc := 719) (n := 0) (i := 0) 0 (by decide +kernel) rfl rfl ?_
  refine zw_iload_n (pc := 720) (n := 3) (i := 3) 3 (by decide +kernel) rfl rfl ?_
  refine zw_iconst (pc := 721) (n := 1) (by decide +kernel) ?_
  refine zw_iadd (pc := 722) (by decide +kernel) ?_
  refine zw_sld (pc := 723) (by decide +kernel) (by omega) (by omega) hL ?_
  refine zw_aload_n (pc := 724) (n := 0) (i := 0) 0 (by decide +kernel) rfl rfl ?_
  refine zw_iload_n (pc := 725) (n := 3) (i := 3) 3 (by decide +kernel) rfl rfl ?_
  refine zw_iconst (pc := 726) (n := 2) (by decide +kernel) ?_
  refine zw_iadd (pc := 727) (by decide +kernel) ?_
  refine zw_sld (pc := 728) (by decide +kernel) (by omega) (by omega) hL ?_
  refine zx_callV (pc := 729) (As := [.int (zJ (xs ((i : Int) + 1).toNat).toInt), .int (zJ (xs ((i : Int) + 2).toNat).toInt)]) (hop.2.2 μ1 hR1 hM1) zi_X11_vanishes zii_X11_vanishes zie_X11_vanishes zl_L_76 (by decide +kernel) ⟨Nat.le_of_ble_eq_true rfl, Nat.le_of_ble_eq_true rfl⟩ rfl zc_203 (by decide) rfl rfl ⟨rfl, rfl⟩ hn (zki (fun x μ2 h2 => ?_))
  obtain ⟨rfl, hR2, hM2⟩ := h2
  exact zw_icmp_same (pc := 732) (off := 521) (tgt := 1253) (by decide +kernel) (by decide) (K _ μ2 hop.1 hR2 hM2)
theorem lc_15 {g : zG} {L i nc ns : Nat} {xs : Nat → Int32} {A μ : zMu} (hL : L ≤ 2560) (hi : i + 5 ≤ L) (hn : nc ≤ zm_law.2.2.2.2.cells ∧ ns ≤ zm_law.2.2.2.2.slots) (hw : zWF A) (hR : zRC A μ) (hM : zRM A μ)
    (K : ∀ A' μ', zWF A' → zRC A' μ' → zRM A' μ' → zWP g zm_law (zmoL g L xs) 1253 [(0, .ref 90000), (1, .ref 0), (2, .ref 203), (3, .int (zJ (i : Int)))] [] nc ns (zw μ')) : zWP g zm_law (zmoL g L xs) 737 [(0, .ref 90000), (1, .ref 0), (2, .ref 203), (3, .int (zJ (i : Int)))] [] nc ns (zw μ) := by
  have hop := zo_neighbour (g := g) (A := A) (v1 := (xs ((i : Int) + 1).toNat).toInt) (v2 := (xs ((i : Int) + 2).toNat).toInt) hw (zR_I _) (zR_I _)
  refine zw_aload_n (pc := 737) (n := 1) (i := 1) 1 (by decide +kernel) rfl rfl ?_
  refine zw_aload_n (pc := 738) (n := 0) (i := 0) 0 (by decide +kernel) rfl rfl ?_
  refine zw_iload_n (pc := 739) (n := 3) (i := 3) 3 (by decide +kernel) rfl rfl ?_
  refine zw_iconst (pc := 740) (n := 1) (by decide +kernel) ?_
  refine zw_iadd (pc := 741) (by decide +kernel) ?_
  refine zw_sld (pc := 742) (by decide +kernel) (by omega) (by omega) hL ?_
  refine zw_aload_n (pc := 743) (n := 0) (i := 0) 0 (by decide +kernel) rfl rfl ?_
  refine zw_iload_n (pc := 744) (n := 3) (i := 3) 3 (by decide +kernel) rfl rfl ?_
  refine zw_iconst (pc := 745) (n := 2) (by decide +kernel) ?_
  refine zw_iadd (pc := 746) (by decide +kernel) ?_
  refine zw_sld (pc := 747) (by decide +kernel) (by omega) (by omega) hL ?_
  refine zx_callV (pc := 748) (As := [.int (zJ (xs ((i : Int) + 1).toNat).toInt), .int (zJ (xs ((i : Int) + 2).toNat).toInt)]) (hop.2.1 μ hR hM) zi_X10_neighbour zii_X10_neighbour zie_X10_neighbour zl_L_77 (by decide +kernel) ⟨Nat.le_of_ble_eq_true rfl, Nat.le_of_ble_eq_true rfl⟩ rfl zc_0 (by decide) rfl rfl ⟨rfl, rfl⟩ hn (zki (fun x μ1 h1 => ?_))
  obtain ⟨rfl, hR1, hM1⟩ := h1
  refine zw_aload_n (pc := 751) (n := 2) (i := 2) 2 (by decide +kernel) rfl rfl ?_
  refine zw_aload_n (pc := 752) (n := 0) (i := 0) 0 (by decide +kernel) rfl rfl ?_
  refine zw_iload_n (pc := 753) (n := 3) (i := 3) 3 (by decide +kernel) rfl rfl ?_
  refine zw_iconst (pc := 754) (n := 1) (by decide +kernel) ?_
  refine zw_iadd (pc := 755) (by decide +kernel) ?_
  refine zw_sld (pc := 756) (by decide +kernel) (by omega) (by omega) hL ?_
  refine zw_aload_n (pc := 757) (n := 0) (i := 0) 0 (by decide +kernel) rfl rfl ?_
  refine zw_iload_n (pc := 758) (n := 3) (i := 3) 3 (by decide +kernel) rfl rfl ?_
  refine zw_iconst (pc := 759) (n := 2) (by decide +kernel) ?_
  refine zw_iadd (pc := 760) (by decide +kernel) ?_
  refine zw_sld (pc := 761) (by decide +kernel) (by omega) (by omega) hL ?_
  refine zx_callV (pc := 762) (As := [.int (zJ (xs ((i : Int) + 1).toNat).toInt), .int (zJ (xs ((i : Int) + 2).toNat).toInt)]) (hop.2.2 μ1 hR1 hM1) zi_X11_neighbour zii_X11_neighbour zie_X11_neighbour zl_L_80 (by decide +kernel) ⟨Nat.le_of_ble_eq_true rfl, Nat.le_of_ble_eq_true rfl⟩ rfl zc_203 (by decide) rfl rfl ⟨rfl, rfl⟩ hn (zki (fun x μ2 h2 => ?_))
  obtain ⟨rfl, hR2, hM2⟩ := h2
  exact zw_icmp_same (pc := 765) (off := 488) (tgt := 1253) (by decide +kernel) (by decide) (K _ μ2 hop.1 hR2 hM2)
theorem lc_16 {g : zG} {L i nc ns : Nat} {xs : Nat → Int32} {A μ : zMu} (hL : L ≤ 2560) (hi : i + 5 ≤ L) (hn : nc ≤ zm_law.2.2.2.2.cells ∧ ns ≤ zm_law.2.2.2.2.slots) (hw : zWF A) (hR : zRC A μ) (hM : zRM A μ)
    (K : ∀ A' μ', zWF A' → zRC A' μ' → zRM A' μ' → zWP g zm_law (zmoL g L xs) 1253 [(0, .ref 90000), (1, .ref 0), (2, .ref 203), (3, .int (zJ (i : Int)))] [] nc ns (zw μ')) : zWP g zm_law (zmoL g L xs) 770 [(0, .ref 90000), (1, .ref 0), (2, .ref 203), (3, .int (zJ (i : Int)))] [] nc ns (zw μ) := by
  have hop := zo_far (g := g) (A := A) (v1 := (xs ((i : Int) + 1).toNat).toInt) (v2 := (xs ((i : Int) + 2).toNat).toInt) hw (zR_I _) (zR_I _)
  refine zw_aload_n (pc := 770) (n := 1) (i := 1) 1 (by decide +kernel) rfl rfl ?_
  refine zw_aload_n (pc := 771) (n := 0) (i := 0) 0 (by decide +kernel) rfl rfl ?_
  refine zw_iload_n (pc := 772) (n := 3) (i := 3) 3 (by decide +kernel) rfl rfl ?_
  refine zw_iconst (pc := 773) (n := 1) (by decide +kernel) ?_
  refine zw_iadd (pc := 774) (by decide +kernel) ?_
  refine zw_sld (pc := 775) (by decide +kernel) (by omega) (by omega) hL ?_
  refine zw_aload_n (pc := 776) (n := 0) (i := 0) 0 (by decide +kernel) rfl rfl ?_
  refine zw_iload_n (pc := 777) (n := 3) (i := 3) 3 (by decide +kernel) rfl rfl ?_
  refine zw_iconst (pc := 778) (n := 2) (by decide +kernel) ?_
  refine zw_iadd (pc := 779) (by decide +kernel) ?_
  refine zw_sld (pc := 780) (by decide +kernel) (by omega) (by omega) hL ?_
  refine zx_callV (pc := 781) (As := [.int (zJ (xs ((i : Int) + 1).toNat).toInt), .int (zJ (xs ((i : Int) + 2).toNat).toInt)]) (hop.2.1 μ hR hM) zi_X10_far zii_X10_far zie_X10_far zl_L_81 (by decide +kernel) ⟨Nat.le_of_ble_eq_true rfl, Nat.le_of_ble_eq_true rfl⟩ rfl zc_0 (by decide) rfl rfl ⟨rfl, rfl⟩ hn (zki (fun x μ1 h1 => ?_))
  obtain ⟨rfl, hR1, hM1⟩ := h1
  refine zw_aload_n (pc := 784) (n := 2) (i := 2) 2 (by decide +kernel) rfl rfl ?_
  refine zw_aload_n (pc := 785) (n := 0) (i := 0) 0 (by decide +kernel) rfl rfl ?_
  refine zw_iload_n (pc := 786) (n := 3) (i := 3) 3 (by decide +kernel) rfl rfl ?_
  refine zw_iconst (pc := 787) (n := 1) (by decide +kernel) ?_
  refine zw_iadd (pc := 788) (by decide +kernel) ?_
  refine zw_sld (pc := 789) (by decide +kernel) (by omega) (by omega) hL ?_
  refine zw_aload_n (pc := 790) (n := 0) (i := 0) 0 (by decide +kernel) rfl rfl ?_
  refine zw_iload_n (pc := 791) (n := 3) (i := 3) 3 (by decide +kernel) rfl rfl ?_
  refine zw_iconst (pc := 792) (n := 2) (by decide +kernel) ?_
  refine zw_iadd (pc := 793) (by decide +kernel) ?_
  refine zw_sld (pc := 794) (by decide +kernel) (by omega) (by omega) hL ?_
  refine zx_callV (pc := 795) (As := [.int (zJ (xs ((i : Int) + 1).toNat).toInt), .int (zJ (xs ((i : Int) + 2).toNat).toInt)]) (hop.2.2 μ1 hR1 hM1) zi_X11_far zii_X11_far zie_X11_far zl_L_84 (by decide +kernel) ⟨Nat.le_of_ble_eq_true rfl, Nat.le_of_ble_eq_true rfl⟩ rfl zc_203 (by decide) rfl rfl ⟨rfl, rfl⟩ hn (zki (fun x μ2 h2 => ?_))
  obtain ⟨rfl, hR2, hM2⟩ := h2
  exact zw_icmp_same (pc := 798) (off := 455) (tgt := 1253) (by decide +kernel) (by decide) (K _ μ2 hop.1 hR2 hM2)
theorem lc_17 {g : zG} {L i nc ns : Nat} {xs : Nat → Int32} {A μ : zMu} (hL : L ≤ 2560) (hi : i + 5 ≤ L) (hn : nc ≤ zm_law.2.2.2.2.cells ∧ ns ≤ zm_law.2.2.2.2.slots) (hw : zWF A) (hR : zRC A μ) (hM : zRM A μ)
    (K : ∀ A' μ', zWF A' → zRC A' μ' → zRM A' μ' → zWP g zm_law (zmoL g L xs) 1253 [(0, .ref 90000), (1, .ref 0), (2, .ref 203), (3, .int (zJ (i : Int)))] [] nc ns (zw μ')) : zWP g zm_law (zmoL g L xs) 803 [(0, .ref 90000), (1, .ref 0), (2, .ref 203), (3, .int (zJ (i : Int)))] [] nc ns (zw μ) := by
  have hop := zo_reach (g := g) (A := A) (v1 := (xs ((i : Int) + 1).toNat).toInt) hw (zR_I _)
  refine zw_aload_n (pc := 803) (n := 1) (i := 1) 1 (by decide +kernel) rfl rfl ?_
  refine zw_aload_n (pc := 804) (n := 0) (i := 0) 0 (by decide +kernel) rfl rfl ?_
  refine zw_iload_n (pc := 805) (n := 3) (i := 3) 3 (by decide +kernel) rfl rfl ?_
  refine zw_iconst (pc := 806) (n := 1) (by decide +kernel) ?_
  refine zw_iadd (pc := 807) (by decide +kernel) ?_
  refine zw_sld (pc := 808) (by decide +kernel) (by omega) (by omega) hL ?_
  refine zx_callV (pc := 809) (As := [.int (zJ (xs ((i : Int) + 1).toNat).toInt)]) (hop.2.1 μ hR hM) zi_X10_reach zii_X10_reach zie_X10_reach zl_L_85 (by decide +kernel) ⟨Nat.le_of_ble_eq_true rfl, Nat.le_of_ble_eq_true rfl⟩ rfl zc_0 (by decide) rfl rfl ⟨rfl, rfl⟩ hn (zki (fun x μ1 h1 => ?_))
  obtain ⟨rfl, hR1, hM1⟩ := h1
  refine zw_aload_n (pc := 812) (n := 2) (i := 2) 2 (by decide +kernel) rfl rfl ?_
  refine zw_aload_n (pc := 813) (n := 0) (i := 0) 0 (by decide +kernel) rfl rfl ?_
  refine zw_iload_n (pc := 814) (n := 3) (i := 3) 3 (by decide +kernel) rfl rfl ?_
  refine zw_iconst (pc := 815) (n := 1) (by decide +kernel) ?_
  refine zw_iadd (pc := 816) (by decide +kernel) ?_
  refine zw_sld (pc := 817) (by decide +kernel) (by omega) (by omega) hL ?_
  refine zx_callV (pc := 818) (As := [.int (zJ (xs ((i : Int) + 1).toNat).toInt)]) (hop.2.2 μ1 hR1 hM1) zi_X11_reach zii_X11_reach zie_X11_reach zl_L_88 (by decide +kernel) ⟨Nat.le_of_ble_eq_true rfl, Nat.le_of_ble_eq_true rfl⟩ rfl zc_203 (by decide) rfl rfl ⟨rfl, rfl⟩ hn (zki (fun x μ2 h2 => ?_))
  obtain ⟨rfl, hR2, hM2⟩ := h2
  exact zw_icmp_same (pc := 821) (off := 432) (tgt := 1253) (by decide +kernel) (by decide) (K _ μ2 hop.1 hR2 hM2)
theorem lc_18 {g : zG} {L i nc ns : Nat} {xs : Nat → Int32} {A μ : zMu} (hL : L ≤ 2560) (hi : i + 5 ≤ L) (hn : nc ≤ zm_law.2.2.2.2.cells ∧ ns ≤ zm_law.2.2.2.2.slots) (hw : zWF A) (hR : zRC A μ) (hM : zRM A μ)
    (K : ∀ A' μ', zWF A' → zRC A' μ' → zRM A' μ' → zWP g zm_law (zmoL g L xs) 1253 [(0, .ref 90000), (1, .ref 0), (2, .ref 203), (3, .int (zJ (i : Int)))] [] nc ns (zw μ')) : zWP g zm_law (zmoL g L xs) 826 [(0, .ref 90000), (1, .ref 0), (2, .ref 203), (3, .int (zJ (i : Int)))] [] nc ns (zw μ) := by
  have hop := zo_values (g := g) (A := A) (v1 := (xs ((i : Int) + 1).toNat).toInt) hw (zR_I _)
  refine zw_aload_n (pc := 826) (n := 1) (i := 1) 1 (by decide +kernel) rfl rfl ?_
  refine zw_aload_n (pc := 827) (n := 0) (i := 0) 0 (by decide +kernel) rfl rfl ?_
  refine zw_iload_n (pc := 828) (n := 3) (i := 3) 3 (by decide +kernel) rfl rfl ?_
  refine zw_iconst (pc := 829) (n := 1) (by decide +kernel) ?_
  refine zw_iadd (pc := 830) (by decide +kernel) ?_
  refine zw_sld (pc := 831) (by decide +kernel) (by omega) (by omega) hL ?_
  refine zx_callV (pc := 832) (As := [.int (zJ (xs ((i : Int) + 1).toNat).toInt)]) (hop.2.1 μ hR hM) zi_X10_values zii_X10_values zie_X10_values zl_L_89 (by decide +kernel) ⟨Nat.le_of_ble_eq_true rfl, Nat.le_of_ble_eq_true rfl⟩ rfl zc_0 (by decide) rfl rfl ⟨rfl, rfl⟩ hn (zki (fun x μ1 h1 => ?_))
  obtain ⟨rfl, hR1, hM1⟩ := h1
  refine zw_aload_n (pc := 835) (n := 2) (i := 2) 2 (by decide +kernel) rfl rfl ?_
  refine zw_aload_n (pc := 836) (n := 0) (i := 0) 0 (by decide +kernel) rfl rfl ?_
  refine zw_iload_n (pc := 837) (n := 3) (i := 3) 3 (by decide +kernel) rfl rfl ?_
  refine zw_iconst (pc := 838) (n := 1) (by decide +kernel) ?_
  refine zw_iadd (pc := 839) (by decide +kernel) ?_
  refine zw_sld (pc := 840) (by decide +kernel) (by omega) (by omega) hL ?_
  refine zx_callV (pc := 841) (As := [.int (zJ (xs ((i : Int) + 1).toNat).toInt)]) (hop.2.2 μ1 hR1 hM1) zi_X11_values zii_X11_values zie_X11_values zl_L_92 (by decide +kernel) ⟨Nat.le_of_ble_eq_true rfl, Nat.le_of_ble_eq_true rfl⟩ rfl zc_203 (by decide) rfl rfl ⟨rfl, rfl⟩ hn (zki (fun x μ2 h2 => ?_))
  obtain ⟨rfl, hR2, hM2⟩ := h2
  exact zw_icmp_same (pc := 844) (off := 409) (tgt := 1253) (by decide +kernel) (by decide) (K _ μ2 hop.1 hR2 hM2)
theorem lc_19 {g : zG} {L i nc ns : Nat} {xs : Nat → Int32} {A μ : zMu} (hL : L ≤ 2560) (hi : i + 5 ≤ L) (hn : nc ≤ zm_law.2.2.2.2.cells ∧ ns ≤ zm_law.2.2.2.2.slots) (hw : zWF A) (hR : zRC A μ) (hM : zRM A μ)
    (K : ∀ A' μ', zWF A' → zRC A' μ' → zRM A' μ' → zWP g zm_law (zmoL g L xs) 1253 [(0, .ref 90000), (1, .ref 0), (2, .ref 203), (3, .int (zJ (i : Int)))] [] nc ns (zw μ')) : zWP g zm_law (zmoL g L xs) 849 [(0, .ref 90000), (1, .ref 0), (2, .ref 203), (3, .int (zJ (i : Int)))] [] nc ns (zw μ) := by
  have hop := zo_keep (g := g) (A := A) (v1 := (xs ((i : Int) + 1).toNat).toInt) hw (zR_I _)
  refine zw_aload_n (pc := 849) (n := 1) (i := 1) 1 (by decide +kernel) rfl rfl ?_
  refine zw_aload_n (pc := 850) (n := 0) (i := 0) 0 (by decide +kernel) rfl rfl ?_
  refine zw_iload_n (pc := 851) (n := 3) (i := 3) 3 (by decide +kernel) rfl rfl ?_
  refine zw_iconst (pc := 852) (n := 1) (by decide +kernel) ?_
  refine zw_iadd (pc := 853) (by decide +kernel) ?_
  refine zw_sld (pc := 854) (by decide +kernel) (by omega) (by omega) hL ?_
  refine zx_callV (pc := 855) (As := [.int (zJ (xs ((i : Int) + 1).toNat).toInt)]) (hop.2.1 μ hR hM) zi_X10_keep zii_X10_keep zie_X10_keep zl_L_93 (by decide +kernel) ⟨Nat.le_of_ble_eq_true rfl, Nat.le_of_ble_eq_true rfl⟩ rfl zc_0 (by decide) rfl rfl ⟨rfl, rfl⟩ hn (zki (fun x μ1 h1 => ?_))
  obtain ⟨rfl, hR1, hM1⟩ := h1
  refine zw_aload_n (pc := 858) (n := 2) (i := 2) 2 (by decide +kernel) rfl rfl ?_
  refine zw_aload_n (pc := 859) (n := 0) (i := 0) 0 (by decide +kernel) rfl rfl ?_
  refine zw_iload_n (pc := 860) (n := 3) (i := 3) 3 (by decide +kernel) rfl rfl ?_
  refine zw_iconst (pc := 861) (n := 1) (by decide +kernel) ?_
  refine zw_iadd (pc := 862) (by decide +kernel) ?_
  refine zw_sld (pc := 863) (by decide +kernel) (by omega) (by omega) hL ?_
  refine zx_callV (pc := 864) (As := [.int (zJ (xs ((i : Int) + 1).toNat).toInt)]) (hop.2.2 μ1 hR1 hM1) zi_X11_keep zii_X11_keep zie_X11_keep zl_L_96 (by decide +kernel) ⟨Nat.le_of_ble_eq_true rfl, Nat.le_of_ble_eq_true rfl⟩ rfl zc_203 (by decide) rfl rfl ⟨rfl, rfl⟩ hn (zki (fun x μ2 h2 => ?_))
  obtain ⟨rfl, hR2, hM2⟩ := h2
  exact zw_icmp_same (pc := 867) (off := 386) (tgt := 1253) (by decide +kernel) (by decide) (K _ μ2 hop.1 hR2 hM2)
theorem lc_20 {g : zG} {L i nc ns : Nat} {xs : Nat → Int32} {A μ : zMu} (hL : L ≤ 2560) (hi : i + 5 ≤ L) (hn : nc ≤ zm_law.2.2.2.2.cells ∧ ns ≤ zm_law.2.2.2.2.slots) (hw : zWF A) (hR : zRC A μ) (hM : zRM A μ)
    (K : ∀ A' μ', zWF A' → zRC A' μ' → zRM A' μ' → zWP g zm_law (zmoL g L xs) 1253 [(0, .ref 90000), (1, .ref 0), (2, .ref 203), (3, .int (zJ (i : Int)))] [] nc ns (zw μ')) : zWP g zm_law (zmoL g L xs) 872 [(0, .ref 90000), (1, .ref 0), (2, .ref 203), (3, .int (zJ (i : Int)))] [] nc ns (zw μ) := by
  have hop := zo_drop (g := g) (A := A) (v1 := (xs ((i : Int) + 1).toNat).toInt) hw (zR_I _)
  refine zw_aload_n (pc := 872) (n := 1) (i := 1) 1 (by decide +kernel) rfl rfl ?_
  refine zw_aload_n (pc := 873) (n := 0) (i := 0) 0 (by decide +kernel) rfl rfl ?_
  refine zw_iload_n (pc := 874) (n := 3) (i := 3) 3 (by decide +kernel) rfl rfl ?_
  refine zw_iconst (pc := 875) (n := 1) (by decide +kernel) ?_
  refine zw_iadd (pc := 876) (by decide +kernel) ?_
  refine zw_sld (pc := 877) (by decide +kernel) (by omega) (by omega) hL ?_
  refine zx_callV (pc := 878) (As := [.int (zJ (xs ((i : Int) + 1).toNat).toInt)]) (hop.2.1 μ hR hM) zi_X10_drop zii_X10_drop zie_X10_drop zl_L_97 (by decide +kernel) ⟨Nat.le_of_ble_eq_true rfl, Nat.le_of_ble_eq_true rfl⟩ rfl zc_0 (by decide) rfl rfl ⟨rfl, rfl⟩ hn (zki (fun x μ1 h1 => ?_))
  obtain ⟨rfl, hR1, hM1⟩ := h1
  refine zw_aload_n (pc := 881) (n := 2) (i := 2) 2 (by decide +kernel) rfl rfl ?_
  refine zw_aload_n (pc := 882) (n := 0) (i := 0) 0 (by decide +kernel) rfl rfl ?_
  refine zw_iload_n (pc := 883) (n := 3) (i := 3) 3 (by decide +kernel) rfl rfl ?_
  refine zw_iconst (pc := 884) (n := 1) (by decide +kernel) ?_
  refine zw_iadd (pc := 885) (by decide +kernel) ?_
  refine zw_sld (pc := 886) (by decide +kernel) (by omega) (by omega) hL ?_
  refine zx_callV (pc := 887) (As := [.int (zJ (xs ((i : Int) + 1).toNat).toInt)]) (hop.2.2 μ1 hR1 hM1) zi_X11_drop zii_X11_drop zie_X11_drop zl_L_100 (by decide +kernel) ⟨Nat.le_of_ble_eq_true rfl, Nat.le_of_ble_eq_true rfl⟩ rfl zc_203 (by decide) rfl rfl ⟨rfl, rfl⟩ hn (zki (fun x μ2 h2 => ?_))
  obtain ⟨rfl, hR2, hM2⟩ := h2
  exact zw_icmp_same (pc := 890) (off := 363) (tgt := 1253) (by decide +kernel) (by decide) (K _ μ2 hop.1 hR2 hM2)
theorem lc_21 {g : zG} {L i nc ns : Nat} {xs : Nat → Int32} {A μ : zMu} (hL : L ≤ 2560) (hi : i + 5 ≤ L) (hn : nc ≤ zm_law.2.2.2.2.cells ∧ ns ≤ zm_law.2.2.2.2.slots) (hw : zWF A) (hR : zRC A μ) (hM : zRM A μ)
    (K : ∀ A' μ', zWF A' → zRC A' μ' → zRM A' μ' → zWP g zm_law (zmoL g L xs) 1253 [(0, .ref 90000), (1, .ref 0), (2, .ref 203), (3, .int (zJ (i : Int)))] [] nc ns (zw μ')) : zWP g zm_law (zmoL g L xs) 895 [(0, .ref 90000), (1, .ref 0), (2, .ref 203), (3, .int (zJ (i : Int)))] [] nc ns (zw μ) := by
  have hop := zo_joined (g := g) (A := A) (v1 := (xs ((i : Int) + 1).toNat).toInt) (v2 := (xs ((i : Int) + 2).toNat).toInt) hw (zR_I _) (zR_I _)
  refine zw_aload_n (pc := 895) (n := 1) (i := 1) 1 (by decide +kernel) rfl rfl ?_
  refine zw_aload_n (pc := 896) (n := 0) (i := 0) 0 (by decide +kernel) rfl rfl ?_
  refine zw_iload_n (pc := 897) (n := 3) (i := 3) 3 (by decide +kernel) rfl rfl ?_
  refine zw_iconst (pc := 898) (n := 1) (by decide +kernel) ?_
  refine zw_iadd (pc := 899) (by decide +kernel) ?_
  refine zw_sld (pc := 900) (by decide +kernel) (by omega) (by omega) hL ?_
  refine zw_aload_n (pc := 901) (n := 0) (i := 0) 0 (by decide +kernel) rfl rfl ?_
  refine zw_iload_n (pc := 902) (n := 3) (i := 3) 3 (by decide +kernel) rfl rfl ?_
  refine zw_iconst (pc := 903) (n := 2) (by decide +kernel) ?_
  refine zw_iadd (pc := 904) (by decide +kernel) ?_
  refine zw_sld (pc := 905) (by decide +kernel) (by omega) (by omega) hL ?_
  refine zx_callV (pc := 906) (As := [.int (zJ (xs ((i : Int) + 1).toNat).toInt), .int (zJ (xs ((i : Int) + 2).toNat).toInt)]) (hop.2.1 μ hR hM) zi_X10_joined zii_X10_joined zie_X10_joined zl_L_101 (by decide +kernel) ⟨Nat.le_of_ble_eq_true rfl, Nat.le_of_ble_eq_true rfl⟩ rfl zc_0 (by decide) rfl rfl ⟨rfl, rfl⟩ hn (zkl (fun x μ1 h1 => ?_))
  obtain ⟨rfl, hR1, hM1⟩ := h1
  refine zw_aload_n (pc := 909) (n := 2) (i := 2) 2 (by decide +kernel) rfl rfl ?_
  refine zw_aload_n (pc := 910) (n := 0) (i := 0) 0 (by decide +kernel) rfl rfl ?_
  refine zw_iload_n (pc := 911) (n := 3) (i := 3) 3 (by decide +kernel) rfl rfl ?_
  refine zw_iconst (pc := 912) (n := 1) (by decide +kernel) ?_
  refine zw_iadd (pc := 913) (by decide +kernel) ?_
  refine zw_sld (pc := 914) (by decide +kernel) (by omega) (by omega) hL ?_
  refine zw_aload_n (pc := 915) (n := 0) (i := 0) 0 (by decide +kernel) rfl rfl ?_
  refine zw_iload_n (pc := 916) (n := 3) (i := 3) 3 (by decide +kernel) rfl rfl ?_
  refine zw_iconst (pc := 917) (n := 2) (by decide +kernel) ?_
  refine zw_iadd (pc := 918) (by decide +kernel) ?_
  refine zw_sld (pc := 919) (by decide +kernel) (by omega) (by omega) hL ?_
  refine zx_callV (pc := 920) (As := [.int (zJ (xs ((i : Int) + 1).toNat).toInt), .int (zJ (xs ((i : Int) + 2).toNat).toInt)]) (hop.2.2 μ1 hR1 hM1) zi_X11_joined zii_X11_joined zie_X11_joined zl_L_105 (by decide +kernel) ⟨Nat.le_of_ble_eq_true rfl, Nat.le_of_ble_eq_true rfl⟩ rfl zc_203 (by decide) rfl rfl ⟨rfl, rfl⟩ hn (zkl (fun x μ2 h2 => ?_))
  obtain ⟨rfl, hR2, hM2⟩ := h2
  refine zw_lcmp_same (pc := 923) (by decide +kernel) ?_
  exact zw_if_eq (pc := 924) (off := 329) (tgt := 1253) (by decide +kernel) (by decide) zR0 (fun _ => K _ μ2 hop.1 hR2 hM2) (fun h => absurd rfl h)
theorem lc_22 {g : zG} {L i nc ns : Nat} {xs : Nat → Int32} {A μ : zMu} (hL : L ≤ 2560) (hi : i + 5 ≤ L) (hn : nc ≤ zm_law.2.2.2.2.cells ∧ ns ≤ zm_law.2.2.2.2.slots) (hw : zWF A) (hR : zRC A μ) (hM : zRM A μ)
    (K : ∀ A' μ', zWF A' → zRC A' μ' → zRM A' μ' → zWP g zm_law (zmoL g L xs) 1253 [(0, .ref 90000), (1, .ref 0), (2, .ref 203), (3, .int (zJ (i : Int)))] [] nc ns (zw μ')) : zWP g zm_law (zmoL g L xs) 929 [(0, .ref 90000), (1, .ref 0), (2, .ref 203), (3, .int (zJ (i : Int)))] [] nc ns (zw μ) := by
  have hop := zo_whole (g := g) (A := A) hw
  refine zw_aload_n (pc := 929) (n := 1) (i := 1) 1 (by decide +kernel) rfl rfl ?_
  refine zx_callV (pc := 930) (As := []) (hop.2.1 μ hR hM) zi_X10_whole zii_X10_whole zie_X10_whole zl_L_106 (by decide +kernel) ⟨Nat.le_of_ble_eq_true rfl, Nat.le_of_ble_eq_true rfl⟩ rfl zc_0 (by decide) rfl rfl ⟨rfl, rfl⟩ hn (zkl (fun x μ1 h1 => ?_))
  obtain ⟨rfl, hR1, hM1⟩ := h1
  refine zw_aload_n (pc := 933) (n := 2) (i := 2) 2 (by decide +kernel) rfl rfl ?_
  refine zx_callV (pc := 934) (As := []) (hop.2.2 μ1 hR1 hM1) zi_X11_whole_ zii_X11_whole_ zie_X11_whole_ zl_L_110 (by decide +kernel) ⟨Nat.le_of_ble_eq_true rfl, Nat.le_of_ble_eq_true rfl⟩ rfl zc_203 (by decide) rfl rfl ⟨rfl, rfl⟩ hn (zkl (fun x μ2 h2 => ?_))
  obtain ⟨rfl, hR2, hM2⟩ := h2
  refine zw_lcmp_same (pc := 937) (by decide +kernel) ?_
  exact zw_if_eq (pc := 938) (off := 315) (tgt := 1253) (by decide +kernel) (by decide) zR0 (fun _ => K _ μ2 hop.1 hR2 hM2) (fun h => absurd rfl h)
theorem lc_23 {g : zG} {L i nc ns : Nat} {xs : Nat → Int32} {A μ : zMu} (hL : L ≤ 2560) (hi : i + 5 ≤ L) (hn : nc ≤ zm_law.2.2.2.2.cells ∧ ns ≤ zm_law.2.2.2.2.slots) (hw : zWF A) (hR : zRC A μ) (hM : zRM A μ)
    (K : ∀ A' μ', zWF A' → zRC A' μ' → zRM A' μ' → zWP g zm_law (zmoL g L xs) 1253 [(0, .ref 90000), (1, .ref 0), (2, .ref 203), (3, .int (zJ (i : Int)))] [] nc ns (zw μ')) : zWP g zm_law (zmoL g L xs) 943 [(0, .ref 90000), (1, .ref 0), (2, .ref 203), (3, .int (zJ (i : Int)))] [] nc ns (zw μ) := by
  have hop := zo_feed (g := g) (A := A) (v1 := (xs ((i : Int) + 1).toNat).toInt) hw (zR_I _)
  refine zw_aload_n (pc := 943) (n := 1) (i := 1) 1 (by decide +kernel) rfl rfl ?_
  refine zw_aload_n (pc := 944) (n := 0) (i := 0) 0 (by decide +kernel) rfl rfl ?_
  refine zw_iload_n (pc := 945) (n := 3) (i := 3) 3 (by decide +kernel) rfl rfl ?_
  refine zw_iconst (pc := 946) (n := 1) (by decide +kernel) ?_
  refine zw_iadd (pc := 947) (by decide +kernel) ?_
  refine zw_sld (pc := 948) (by decide +kernel) (by omega) (by omega) hL ?_
  refine zx_callV (pc := 949) (As := [.int (zJ (xs ((i : Int) + 1).toNat).toInt)]) (hop.2.1 μ hR hM) zi_X10_feed zii_X10_feed zie_X10_feed zl_L_111 (by decide +kernel) ⟨Nat.le_of_ble_eq_true rfl, Nat.le_of_ble_eq_true rfl⟩ rfl zc_0 (by decide) rfl rfl ⟨rfl, rfl⟩ hn (zki (fun x μ1 h1 => ?_))
  obtain ⟨rfl, hR1, hM1⟩ := h1
  refine zw_aload_n (pc := 952) (n := 2) (i := 2) 2 (by decide +kernel) rfl rfl ?_
  refine zw_aload_n (pc := 953) (n := 0) (i := 0) 0 (by decide +kernel) rfl rfl ?_
  refine zw_iload_n (pc := 954) (n := 3) (i := 3) 3 (by decide +kernel) rfl rfl ?_
  refine zw_iconst (pc := 955) (n := 1) (by decide +kernel) ?_
  refine zw_iadd (pc := 956) (by decide +kernel) ?_
  refine zw_sld (pc := 957) (by decide +kernel) (by omega) (by omega) hL ?_
  refine zx_callV (pc := 958) (As := [.int (zJ (xs ((i : Int) + 1).toNat).toInt)]) (hop.2.2 μ1 hR1 hM1) zi_X11_feed zii_X11_feed zie_X11_feed zl_L_114 (by decide +kernel) ⟨Nat.le_of_ble_eq_true rfl, Nat.le_of_ble_eq_true rfl⟩ rfl zc_203 (by decide) rfl rfl ⟨rfl, rfl⟩ hn (zki (fun x μ2 h2 => ?_))
  obtain ⟨rfl, hR2, hM2⟩ := h2
  exact zw_icmp_same (pc := 961) (off := 292) (tgt := 1253) (by decide +kernel) (by decide) (K _ μ2 hop.1 hR2 hM2)
theorem lc_24 {g : zG} {L i nc ns : Nat} {xs : Nat → Int32} {A μ : zMu} (hL : L ≤ 2560) (hi : i + 5 ≤ L) (hn : nc ≤ zm_law.2.2.2.2.cells ∧ ns ≤ zm_law.2.2.2.2.slots) (hw : zWF A) (hR : zRC A μ) (hM : zRM A μ)
    (K : ∀ A' μ', zWF A' → zRC A' μ' → zRM A' μ' → zWP g zm_law (zmoL g L xs) 1253 [(0, .ref 90000), (1, .ref 0), (2, .ref 203), (3, .int (zJ (i : Int)))] [] nc ns (zw μ')) : zWP g zm_law (zmoL g L xs) 966 [(0, .ref 90000), (1, .ref 0), (2, .ref 203), (3, .int (zJ (i : Int)))] [] nc ns (zw μ) := by
  have hop := zo_deeds (g := g) (A := A) hw
  refine zw_aload_n (pc := 966) (n := 1) (i := 1) 1 (by decide +kernel) rfl rfl ?_
  refine zx_callV (pc := 967) (As := []) (hop.2.1 μ hR hM) zi_X10_deeds zii_X10_deeds zie_X10_deeds zl_L_115 (by decide +kernel) ⟨Nat.le_of_ble_eq_true rfl, Nat.le_of_ble_eq_true rfl⟩ rfl zc_0 (by decide) rfl rfl ⟨rfl, rfl⟩ hn (zki (fun x μ1 h1 => ?_))
  obtain ⟨rfl, hR1, hM1⟩ := h1
  refine zw_aload_n (pc := 970) (n := 2) (i := 2) 2 (by decide +kernel) rfl rfl ?_
  refine zx_callV (pc := 971) (As := []) (hop.2.2 μ1 hR1 hM1) zi_X11_deeds zii_X11_deeds zie_X11_deeds zl_L_119 (by decide +kernel) ⟨Nat.le_of_ble_eq_true rfl, Nat.le_of_ble_eq_true rfl⟩ rfl zc_203 (by decide) rfl rfl ⟨rfl, rfl⟩ hn (zki (fun x μ2 h2 => ?_))
  obtain ⟨rfl, hR2, hM2⟩ := h2
  exact zw_icmp_same (pc := 974) (off := 279) (tgt := 1253) (by decide +kernel) (by decide) (K _ μ2 hop.1 hR2 hM2)
theorem lc_25 {g : zG} {L i nc ns : Nat} {xs : Nat → Int32} {A μ : zMu} (hL : L ≤ 2560) (hi : i + 5 ≤ L) (hn : nc ≤ zm_law.2.2.2.2.cells ∧ ns ≤ zm_law.2.2.2.2.slots) (hw : zWF A) (hR : zRC A μ) (hM : zRM A μ)
    (K : ∀ A' μ', zWF A' → zRC A' μ' → zRM A' μ' → zWP g zm_law (zmoL g L xs) 1253 [(0, .ref 90000), (1, .ref 0), (2, .ref 203), (3, .int (zJ (i : Int)))] [] nc ns (zw μ')) : zWP g zm_law (zmoL g L xs) 979 [(0, .ref 90000), (1, .ref 0), (2, .ref 203), (3, .int (zJ (i : Int)))] [] nc ns (zw μ) := by
  have hop := zo_read (g := g) (A := A) hw
  refine zw_aload_n (pc := 979) (n := 1) (i := 1) 1 (by decide +kernel) rfl rfl ?_
  refine zx_callV (pc := 980) (As := []) (hop.2.1 μ hR hM) zi_X10_read zii_X10_read zie_X10_read zl_L_120 (by decide +kernel) ⟨Nat.le_of_ble_eq_true rfl, Nat.le_of_ble_eq_true rfl⟩ rfl zc_0 (by decide) rfl rfl ⟨rfl, rfl⟩ hn (zki (fun x μ1 h1 => ?_))
  obtain ⟨rfl, hR1, hM1⟩ := h1
  refine zw_aload_n (pc := 983) (n := 2) (i := 2) 2 (by decide +kernel) rfl rfl ?_
  refine zx_callV (pc := 984) (As := []) (hop.2.2 μ1 hR1 hM1) zi_X11_read zii_X11_read zie_X11_read zl_L_123 (by decide +kernel) ⟨Nat.le_of_ble_eq_true rfl, Nat.le_of_ble_eq_true rfl⟩ rfl zc_203 (by decide) rfl rfl ⟨rfl, rfl⟩ hn (zki (fun x μ2 h2 => ?_))
  obtain ⟨rfl, hR2, hM2⟩ := h2
  exact zw_icmp_same (pc := 987) (off := 266) (tgt := 1253) (by decide +kernel) (by decide) (K _ μ2 hop.1 hR2 hM2)
theorem lc_26 {g : zG} {L i nc ns : Nat} {xs : Nat → Int32} {A μ : zMu} (hL : L ≤ 2560) (hi : i + 5 ≤ L) (hn : nc ≤ zm_law.2.2.2.2.cells ∧ ns ≤ zm_law.2.2.2.2.slots) (hw : zWF A) (hR : zRC A μ) (hM : zRM A μ)
    (K : ∀ A' μ', zWF A' → zRC A' μ' → zRM A' μ' → zWP g zm_law (zmoL g L xs) 1253 [(0, .ref 90000), (1, .ref 0), (2, .ref 203), (3, .int (zJ (i : Int)))] [] nc ns (zw μ')) : zWP g zm_law (zmoL g L xs) 992 [(0, .ref 90000), (1, .ref 0), (2, .ref 203), (3, .int (zJ (i : Int)))] [] nc ns (zw μ) := by
  have hop := zo_write (g := g) (A := A) hw
  refine zw_aload_n (pc := 992) (n := 1) (i := 1) 1 (by decide +kernel) rfl rfl ?_
  refine zx_callV (pc := 993) (As := []) (hop.2.1 μ hR hM) zi_X10_write zii_X10_write zie_X10_write zl_L_124 (by decide +kernel) ⟨Nat.le_of_ble_eq_true rfl, Nat.le_of_ble_eq_true rfl⟩ rfl zc_0 (by decide) rfl rfl ⟨rfl, rfl⟩ hn (zki (fun x μ1 h1 => ?_))
  obtain ⟨rfl, hR1, hM1⟩ := h1
  refine zw_aload_n (pc := 996) (n := 2) (i := 2) 2 (by decide +kernel) rfl rfl ?_
  refine zx_callV (pc := 997) (As := []) (hop.2.2 μ1 hR1 hM1) zi_X11_write zii_X11_write zie_X11_write zl_L_127 (by decide +kernel) ⟨Nat.le_of_ble_eq_true rfl, Nat.le_of_ble_eq_true rfl⟩ rfl zc_203 (by decide) rfl rfl ⟨rfl, rfl⟩ hn (zki (fun x μ2 h2 => ?_))
  obtain ⟨rfl, hR2, hM2⟩ := h2
  exact zw_icmp_same (pc := 1000) (off := 253) (tgt := 1253) (by decide +kernel) (by decide) (K _ μ2 hop.1 hR2 hM2)
theorem lc_27 {g : zG} {L i nc ns : Nat} {xs : Nat → Int32} {A μ : zMu} (hL : L ≤ 2560) (hi : i + 5 ≤ L) (hn : nc ≤ zm_law.2.2.2.2.cells ∧ ns ≤ zm_law.2.2.2.2.slots) (hw : zWF A) (hR : zRC A μ) (hM : zRM A μ)
    (K : ∀ A' μ', zWF A' → zRC A' μ' → zRM A' μ' → zWP g zm_law (zmoL g L xs) 1253 [(0, .ref 90000), (1, .ref 0), (2, .ref 203), (3, .int (zJ (i : Int)))] [] nc ns (zw μ')) : zWP g zm_law (zmoL g L xs) 1005 [(0, .ref 90000), (1, .ref 0), (2, .ref 203), (3, .int (zJ (i : Int)))] [] nc ns (zw μ) := by
  have hop := zo_paper (g := g) (A := A) (v1 := (xs ((i : Int) + 1).toNat).toInt) hw (zR_I _)
  refine zw_aload_n (pc := 1005) (n := 1) (i := 1) 1 (by decide +kernel) rfl rfl ?_
  refine zw_aload_n (pc := 1006) (n := 0) (i := 0) 0 (by decide +kernel) rfl rfl ?_
  refine zw_iload_n (pc := 1007) (n := 3) (i := 3) 3 (by decide +kernel) rfl rfl ?_
  refine zw_iconst (pc := 1008) (n := 1) (by decide +kernel) ?_
  refine zw_iadd (pc := 1009) (by decide +kernel) ?_
  refine zw_sld (pc := 1010) (by decide +kernel) (by omega) (by omega) hL ?_
  refine zx_callV (pc := 1011) (As := [.int (zJ (xs ((i : Int) + 1).toNat).toInt)]) (hop.2.1 μ hR hM) zi_X10_paper zii_X10_paper zie_X10_paper zl_L_128 (by decide +kernel) ⟨Nat.le_of_ble_eq_true rfl, Nat.le_of_ble_eq_true rfl⟩ rfl zc_0 (by decide) rfl rfl ⟨rfl, rfl⟩ hn (zki (fun x μ1 h1 => ?_))
  obtain ⟨rfl, hR1, hM1⟩ := h1
  refine zw_aload_n (pc := 1014) (n := 2) (i := 2) 2 (by decide +kernel) rfl rfl ?_
  refine zw_aload_n (pc := 1015) (n := 0) (i := 0) 0 (by decide +kernel) rfl rfl ?_
  refine zw_iload_n (pc := 1016) (n := 3) (i := 3) 3 (by decide +kernel) rfl rfl ?_
  refine zw_iconst (pc := 1017) (n := 1) (by decide +kernel) ?_
  refine zw_iadd (pc := 1018) (by decide +kernel) ?_
  refine zw_sld (pc := 1019) (by decide +kernel) (by omega) (by omega) hL ?_
  refine zx_callV (pc := 1020) (As := [.int (zJ (xs ((i : Int) + 1).toNat).toInt)]) (hop.2.2 μ1 hR1 hM1) zi_X11_paper zii_X11_paper zie_X11_paper zl_L_131 (by decide +kernel) ⟨Nat.le_of_ble_eq_true rfl, Nat.le_of_ble_eq_true rfl⟩ rfl zc_203 (by decide) rfl rfl ⟨rfl, rfl⟩ hn (zki (fun x μ2 h2 => ?_))
  obtain ⟨rfl, hR2, hM2⟩ := h2
  exact zw_icmp_same (pc := 1023) (off := 230) (tgt := 1253) (by decide +kernel) (by decide) (K _ μ2 hop.1 hR2 hM2)
theorem lc_28 {g : zG} {L i nc ns : Nat} {xs : Nat → Int32} {A μ : zMu} (hL : L ≤ 2560) (hi : i + 5 ≤ L) (hn : nc ≤ zm_law.2.2.2.2.cells ∧ ns ≤ zm_law.2.2.2.2.slots) (hw : zWF A) (hR : zRC A μ) (hM : zRM A μ)
    (K : ∀ A' μ', zWF A' → zRC A' μ' → zRM A' μ' → zWP g zm_law (zmoL g L xs) 1253 [(0, .ref 90000), (1, .ref 0), (2, .ref 203), (3, .int (zJ (i : Int)))] [] nc ns (zw μ')) : zWP g zm_law (zmoL g L xs) 1028 [(0, .ref 90000), (1, .ref 0), (2, .ref 203), (3, .int (zJ (i : Int)))] [] nc ns (zw μ) := by
  have hop := zo_list (g := g) (A := A) (v1 := (xs ((i : Int) + 1).toNat).toInt) (v2 := (xs ((i : Int) + 2).toNat).toInt) hw (zR_I _) (zR_I _)
  refine zw_aload_n (pc := 1028) (n := 1) (i := 1) 1 (by decide +kernel) rfl rfl ?_
  refine zw_aload_n (pc := 1029) (n := 0) (i := 0) 0 (by decide +kernel) rfl rfl ?_
  refine zw_iload_n (pc := 1030) (n := 3) (i := 3) 3 (by decide +kernel) rfl rfl ?_
  refine zw_iconst (pc := 1031) (n := 1) (by decide +kernel) ?_
  refine zw_iadd (pc := 1032) (by decide +kernel) ?_
  refine zw_sld (pc := 1033) (by decide +kernel) (by omega) (by omega) hL ?_
  refine zw_aload_n (pc := 1034) (n := 0) (i := 0) 0 (by decide +kernel) rfl rfl ?_
  refine zw_iload_n (pc := 1035) (n := 3) (i := 3) 3 (by decide +kernel) rfl rfl ?_
  refine zw_iconst (pc := 1036) (n := 2) (by decide +kernel) ?_
  refine zw_iadd (pc := 1037) (by decide +kernel) ?_
  refine zw_sld (pc := 1038) (by decide +kernel) (by omega) (by omega) hL ?_
  refine zx_callV (pc := 1039) (As := [.int (zJ (xs ((i : Int) + 1).toNat).toInt), .int (zJ (xs ((i : Int) + 2).toNat).toInt)]) (hop.2.1 μ hR hM) zi_X10_list zii_X10_list zie_X10_list zl_L_132 (by decide +kernel) ⟨Nat.le_of_ble_eq_true rfl, Nat.le_of_ble_eq_true rfl⟩ rfl zc_0 (by decide) rfl rfl ⟨rfl, rfl⟩ hn (zki (fun x μ1 h1 => ?_))
  obtain ⟨rfl, hR1, hM1⟩ := h1
  refine zw_aload_n (pc := 1042) (n := 2) (i := 2) 2 (by decide +kernel) rfl rfl ?_
  refine zw_aload_n (pc := 1043) (n := 0) (i := 0) 0 (by decide +kernel) rfl rfl ?_
  refine zw_iload_n (pc := 1044) (n := 3) (i := 3) 3 (by decide +kernel) rfl rfl ?_
  refine zw_iconst (pc := 1045) (n := 1) (by decide +kernel) ?_
  refine zw_iadd (pc := 1046) (by decide +kernel) ?_
  refine zw_sld (pc := 1047) (by decide +kernel) (by omega) (by omega) hL ?_
  refine zw_aload_n (pc := 1048) (n := 0) (i := 0) 0 (by decide +kernel) rfl rfl ?_
  refine zw_iload_n (pc := 1049) (n := 3) (i := 3) 3 (by decide +kernel) rfl rfl ?_
  refine zw_iconst (pc := 1050) (n := 2) (by decide +kernel) ?_
  refine zw_iadd (pc := 1051) (by decide +kernel) ?_
  refine zw_sld (pc := 1052) (by decide +kernel) (by omega) (by omega) hL ?_
  refine zx_callV (pc := 1053) (As := [.int (zJ (xs ((i : Int) + 1).toNat).toInt), .int (zJ (xs ((i : Int) + 2).toNat).toInt)]) (hop.2.2 μ1 hR1 hM1) zi_X11_list zii_X11_list zie_X11_list zl_L_135 (by decide +kernel) ⟨Nat.le_of_ble_eq_true rfl, Nat.le_of_ble_eq_true rfl⟩ rfl zc_203 (by decide) rfl rfl ⟨rfl, rfl⟩ hn (zki (fun x μ2 h2 => ?_))
  obtain ⟨rfl, hR2, hM2⟩ := h2
  exact zw_icmp_same (pc := 1056) (off := 197) (tgt := 1253) (by decide +kernel) (by decide) (K _ μ2 hop.1 hR2 hM2)
theorem lc_29 {g : zG} {L i nc ns : Nat} {xs : Nat → Int32} {A μ : zMu} (hL : L ≤ 2560) (hi : i + 5 ≤ L) (hn : nc ≤ zm_law.2.2.2.2.cells ∧ ns ≤ zm_law.2.2.2.2.slots) (hw : zWF A) (hR : zRC A μ) (hM : zRM A μ)
    (K : ∀ A' μ', zWF A' → zRC A' μ' → zRM A' μ' → zWP g zm_law (zmoL g L xs) 1253 [(0, .ref 90000), (1, .ref 0), (2, .ref 203), (3, .int (zJ (i : Int)))] [] nc ns (zw μ')) : zWP g zm_law (zmoL g L xs) 1061 [(0, .ref 90000), (1, .ref 0), (2, .ref 203), (3, .int (zJ (i : Int)))] [] nc ns (zw μ) := by
  have hop := zo_put (g := g) (A := A) (v1 := (xs ((i : Int) + 1).toNat).toInt) (v2 := (xs ((i : Int) + 2).toNat).toInt) (v3 := (xs ((i : Int) + 3).toNat).toInt) hw (zR_I _) (zR_I _) (zR_I _)
  refine zw_aload_n (pc := 1061) (n := 1) (i := 1) 1 (by decide +kernel) rfl rfl ?_
  refine zw_aload_n (pc := 1062) (n := 0) (i := 0) 0 (by decide +kernel) rfl rfl ?_
  refine zw_iload_n (pc := 1063) (n := 3) (i := 3) 3 (by decide +kernel) rfl rfl ?_
  refine zw_iconst (pc := 1064) (n := 1) (by decide +kernel) ?_
  refine zw_iadd (pc := 1065) (by decide +kernel) ?_
  refine zw_sld (pc := 1066) (by decide +kernel) (by omega) (by omega) hL ?_
  refine zw_aload_n (pc := 1067) (n := 0) (i := 0) 0 (by decide +kernel) rfl rfl ?_
  refine zw_iload_n (pc := 1068) (n := 3) (i := 3) 3 (by decide +kernel) rfl rfl ?_
  refine zw_iconst (pc := 1069) (n := 2) (by decide +kernel) ?_
  refine zw_iadd (pc := 1070) (by decide +kernel) ?_
  refine zw_sld (pc := 1071) (by decide +kernel) (by omega) (by omega) hL ?_
  refine zw_aload_n (pc := 1072) (n := 0) (i := 0) 0 (by decide +kernel) rfl rfl ?_
  refine zw_iload_n (pc := 1073) (n := 3) (i := 3) 3 (by decide +kernel) rfl rfl ?_
  refine zw_iconst (pc := 1074) (n := 3) (by decide +kernel) ?_
  refine zw_iadd (pc := 1075) (by decide +kernel) ?_
  refine zw_sld (pc := 1076) (by decide +kernel) (by omega) (by omega) hL ?_
  refine zx_callV (pc := 1077) (As := [.int (zJ (xs ((i : Int) + 1).toNat).toInt), .int (zJ (xs ((i : Int) + 2).toNat).toInt), .int (zJ (xs ((i : Int) + 3).toNat).toInt)]) (hop.2.1 μ hR hM) zi_X10_put zii_X10_put zie_X10_put zl_L_136 (by decide +kernel) ⟨Nat.le_of_ble_eq_true rfl, Nat.le_of_ble_eq_true rfl⟩ rfl zc_0 (by decide) rfl rfl ⟨rfl, rfl⟩ hn (zki (fun x μ1 h1 => ?_))
  obtain ⟨rfl, hR1, hM1⟩ := h1
  refine zw_aload_n (pc := 1080) (n := 2) (i := 2) 2 (by decide +kernel) rfl rfl ?_
  refine zw_aload_n (pc := 1081) (n := 0) (i := 0) 0 (by decide +kernel) rfl rfl ?_
  refine zw_iload_n (pc := 1082) (n := 3) (i := 3) 3 (by decide +kernel) rfl rfl ?_
  refine zw_iconst (pc := 1083) (n := 1) (by decide +kernel) ?_
  refine zw_iadd (pc := 1084) (by decide +kernel) ?_
  refine zw_sld (pc := 1085) (by decide +kernel) (by omega) (by omega) hL ?_
  refine zw_aload_n (pc := 1086) (n := 0) (i := 0) 0 (by decide +kernel) rfl rfl ?_
  refine zw_iload_n (pc := 1087) (n := 3) (i := 3) 3 (by decide +kernel) rfl rfl ?_
  refine zw_iconst (pc := 1088) (n := 2) (by decide +kernel) ?_
  refine zw_iadd (pc := 1089) (by decide +kernel) ?_
  refine zw_sld (pc := 1090) (by decide +kernel) (by omega) (by omega) hL ?_
  refine zw_aload_n (pc := 1091) (n := 0) (i := 0) 0 (by decide +kernel) rfl rfl ?_
  refine zw_iload_n (pc := 1092) (n := 3) (i := 3) 3 (by decide +kernel) rfl rfl ?_
  refine zw_iconst (pc := 1093) (n := 3) (by decide +kernel) ?_
  refine zw_iadd (pc := 1094) (by decide +kernel) ?_
  refine zw_sld (pc := 1095) (by decide +kernel) (by omega) (by omega) hL ?_
  refine zx_callV (pc := 1096) (As := [.int (zJ (xs ((i : Int) + 1).toNat).toInt), .int (zJ (xs ((i : Int) + 2).toNat).toInt), .int (zJ (xs ((i : Int) + 3).toNat).toInt)]) (hop.2.2 μ1 hR1 hM1) zi_X11_put zii_X11_put zie_X11_put zl_L_139 (by decide +kernel) ⟨Nat.le_of_ble_eq_true rfl, Nat.le_of_ble_eq_true rfl⟩ rfl zc_203 (by decide) rfl rfl ⟨rfl, rfl⟩ hn (zki (fun x μ2 h2 => ?_))
  obtain ⟨rfl, hR2, hM2⟩ := h2
  exact zw_icmp_same (pc := 1099) (off := 154) (tgt := 1253) (by decide +kernel) (by decide) (K _ μ2 hop.1 hR2 hM2)
theorem lc_30 {g : zG} {L i nc ns : Nat} {xs : Nat → Int32} {A μ : zMu} (hL : L ≤ 2560) (hi : i + 5 ≤ L) (hn : nc ≤ zm_law.2.2.2.2.cells ∧ ns ≤ zm_law.2.2.2.2.slots) (hw : zWF A) (hR : zRC A μ) (hM : zRM A μ)
    (K : ∀ A' μ', zWF A' → zRC A' μ' → zRM A' μ' → zWP g zm_law (zmoL g L xs) 1253 [(0, .ref 90000), (1, .ref 0), (2, .ref 203), (3, .int (zJ (i : Int)))] [] nc ns (zw μ')) : zWP g zm_law (zmoL g L xs) 1104 [(0, .ref 90000), (1, .ref 0), (2, .ref 203), (3, .int (zJ (i : Int)))] [] nc ns (zw μ) := by
  have hop := zo_get (g := g) (A := A) (v1 := (xs ((i : Int) + 1).toNat).toInt) (v2 := (xs ((i : Int) + 2).toNat).toInt) hw (zR_I _) (zR_I _)
  refine zw_aload_n (pc := 1104) (n := 1) (i := 1) 1 (by decide +kernel) rfl rfl ?_
  refine zw_aload_n (pc := 1105) (n := 0) (i := 0) 0 (by decide +kernel) rfl rfl ?_
  refine zw_iload_n (pc := 1106) (n := 3) (i := 3) 3 (by decide +kernel) rfl rfl ?_
  refine zw_iconst (pc := 1107) (n := 1) (by decide +kernel) ?_
  refine zw_iadd (pc := 1108) (by decide +kernel) ?_
  refine zw_sld (pc := 1109) (by decide +kernel) (by omega) (by omega) hL ?_
  refine zw_aload_n (pc := 1110) (n := 0) (i := 0) 0 (by decide +kernel) rfl rfl ?_
  refine zw_iload_n (pc := 1111) (n := 3) (i := 3) 3 (by decide +kernel) rfl rfl ?_
  refine zw_iconst (pc := 1112) (n := 2) (by decide +kernel) ?_
  refine zw_iadd (pc := 1113) (by decide +kernel) ?_
  refine zw_sld (pc := 1114) (by decide +kernel) (by omega) (by omega) hL ?_
  refine zx_callV (pc := 1115) (As := [.int (zJ (xs ((i : Int) + 1).toNat).toInt), .int (zJ (xs ((i : Int) + 2).toNat).toInt)]) (hop.2.1 μ hR hM) zi_X10_get zii_X10_get zie_X10_get zl_L_140 (by decide +kernel) ⟨Nat.le_of_ble_eq_true rfl, Nat.le_of_ble_eq_true rfl⟩ rfl zc_0 (by decide) rfl rfl ⟨rfl, rfl⟩ hn (zkl (fun x μ1 h1 => ?_))
  obtain ⟨rfl, hR1, hM1⟩ := h1
  refine zw_aload_n (pc := 1118) (n := 2) (i := 2) 2 (by decide +kernel) rfl rfl ?_
  refine zw_aload_n (pc := 1119) (n := 0) (i := 0) 0 (by decide +kernel) rfl rfl ?_
  refine zw_iload_n (pc := 1120) (n := 3) (i := 3) 3 (by decide +kernel) rfl rfl ?_
  refine zw_iconst (pc := 1121) (n := 1) (by decide +kernel) ?_
  refine zw_iadd (pc := 1122) (by decide +kernel) ?_
  refine zw_sld (pc := 1123) (by decide +kernel) (by omega) (by omega) hL ?_
  refine zw_aload_n (pc := 1124) (n := 0) (i := 0) 0 (by decide +kernel) rfl rfl ?_
  refine zw_iload_n (pc := 1125) (n := 3) (i := 3) 3 (by decide +kernel) rfl rfl ?_
  refine zw_iconst (pc := 1126) (n := 2) (by decide +kernel) ?_
  refine zw_iadd (pc := 1127) (by decide +kernel) ?_
  refine zw_sld (pc := 1128) (by decide +kernel) (by omega) (by omega) hL ?_
  refine zx_callV (pc := 1129) (As := [.int (zJ (xs ((i : Int) + 1).toNat).toInt), .int (zJ (xs ((i : Int) + 2).toNat).toInt)]) (hop.2.2 μ1 hR1 hM1) zi_X11_get zii_X11_get zie_X11_get zl_L_143 (by decide +kernel) ⟨Nat.le_of_ble_eq_true rfl, Nat.le_of_ble_eq_true rfl⟩ rfl zc_203 (by decide) rfl rfl ⟨rfl, rfl⟩ hn (zkl (fun x μ2 h2 => ?_))
  obtain ⟨rfl, hR2, hM2⟩ := h2
  refine zw_lcmp_same (pc := 1132) (by decide +kernel) ?_
  exact zw_if_eq (pc := 1133) (off := 120) (tgt := 1253) (by decide +kernel) (by decide) zR0 (fun _ => K _ μ2 hop.1 hR2 hM2) (fun h => absurd rfl h)
theorem lc_31 {g : zG} {L i nc ns : Nat} {xs : Nat → Int32} {A μ : zMu} (hL : L ≤ 2560) (hi : i + 5 ≤ L) (hn : nc ≤ zm_law.2.2.2.2.cells ∧ ns ≤ zm_law.2.2.2.2.slots) (hw : zWF A) (hR : zRC A μ) (hM : zRM A μ)
    (K : ∀ A' μ', zWF A' → zRC A' μ' → zRM A' μ' → zWP g zm_law (zmoL g L xs) 1253 [(0, .ref 90000), (1, .ref 0), (2, .ref 203), (3, .int (zJ (i : Int)))] [] nc ns (zw μ')) : zWP g zm_law (zmoL g L xs) 1138 [(0, .ref 90000), (1, .ref 0), (2, .ref 203), (3, .int (zJ (i : Int)))] [] nc ns (zw μ) := by
  have hop := zo_lay (g := g) (A := A) (v1 := (xs ((i : Int) + 1).toNat).toInt) (v2 := (xs ((i : Int) + 2).toNat).toInt) hw (zR_I _) (zR_I _)
  refine zw_aload_n (pc := 1138) (n := 1) (i := 1) 1 (by decide +kernel) rfl rfl ?_
  refine zw_aload_n (pc := 1139) (n := 0) (i := 0) 0 (by decide +kernel) rfl rfl ?_
  refine zw_iload_n (pc := 1140) (n := 3) (i := 3) 3 (by decide +kernel) rfl rfl ?_
  refine zw_iconst (pc := 1141) (n := 1) (by decide +kernel) ?_
  refine zw_iadd (pc := 1142) (by decide +kernel) ?_
  refine zw_sld (pc := 1143) (by decide +kernel) (by omega) (by omega) hL ?_
  refine zw_aload_n (pc := 1144) (n := 0) (i := 0) 0 (by decide +kernel) rfl rfl ?_
  refine zw_iload_n (pc := 1145) (n := 3) (i := 3) 3 (by decide +kernel) rfl rfl ?_
  refine zw_iconst (pc := 1146) (n := 2) (by decide +kernel) ?_
  refine zw_iadd (pc := 1147) (by decide +kernel) ?_
  refine zw_sld (pc := 1148) (by decide +kernel) (by omega) (by omega) hL ?_
  refine zx_callV (pc := 1149) (As := [.int (zJ (xs ((i : Int) + 1).toNat).toInt), .int (zJ (xs ((i : Int) + 2).toNat).toInt)]) (hop.2.1 μ hR hM) zi_X10_lay zii_X10_lay zie_X10_lay zl_L_144 (by decide +kernel) ⟨Nat.le_of_ble_eq_true rfl, Nat.le_of_ble_eq_true rfl⟩ rfl zc_0 (by decide) rfl rfl ⟨rfl, rfl⟩ hn (zki (fun x μ1 h1 => ?_))
  obtain ⟨rfl, hR1, hM1⟩ := h1
  refine zw_aload_n (pc := 1152) (n := 2) (i := 2) 2 (by decide +kernel) rfl rfl ?_
  refine zw_aload_n (pc := 1153) (n := 0) (i := 0) 0 (by decide +kernel) rfl rfl ?_
  refine zw_iload_n (pc := 1154) (n := 3) (i := 3) 3 (by decide +kernel) rfl rfl ?_
  refine zw_iconst (pc := 1155) (n := 1) (by decide +kernel) ?_
  refine zw_iadd (pc := 1156) (by decide +kernel) ?_
  refine zw_sld (pc := 1157) (by decide +kernel) (by omega) (by omega) hL ?_
  refine zw_aload_n (pc := 1158) (n := 0) (i := 0) 0 (by decide +kernel) rfl rfl ?_
  refine zw_iload_n (pc := 1159) (n := 3) (i := 3) 3 (by decide +kernel) rfl rfl ?_
  refine zw_iconst (pc := 1160) (n := 2) (by decide +kernel) ?_
  refine zw_iadd (pc := 1161) (by decide +kernel) ?_
  refine zw_sld (pc := 1162) (by decide +kernel) (by omega) (by omega) hL ?_
  refine zx_callV (pc := 1163) (As := [.int (zJ (xs ((i : Int) + 1).toNat).toInt), .int (zJ (xs ((i : Int) + 2).toNat).toInt)]) (hop.2.2 μ1 hR1 hM1) zi_X11_lay zii_X11_lay zie_X11_lay zl_L_147 (by decide +kernel) ⟨Nat.le_of_ble_eq_true rfl, Nat.le_of_ble_eq_true rfl⟩ rfl zc_203 (by decide) rfl rfl ⟨rfl, rfl⟩ hn (zki (fun x μ2 h2 => ?_))
  obtain ⟨rfl, hR2, hM2⟩ := h2
  exact zw_icmp_same (pc := 1166) (off := 87) (tgt := 1253) (by decide +kernel) (by decide) (K _ μ2 hop.1 hR2 hM2)
theorem lc_32 {g : zG} {L i nc ns : Nat} {xs : Nat → Int32} {A μ : zMu} (hL : L ≤ 2560) (hi : i + 5 ≤ L) (hn : nc ≤ zm_law.2.2.2.2.cells ∧ ns ≤ zm_law.2.2.2.2.slots) (hw : zWF A) (hR : zRC A μ) (hM : zRM A μ)
    (K : ∀ A' μ', zWF A' → zRC A' μ' → zRM A' μ' → zWP g zm_law (zmoL g L xs) 1253 [(0, .ref 90000), (1, .ref 0), (2, .ref 203), (3, .int (zJ (i : Int)))] [] nc ns (zw μ')) : zWP g zm_law (zmoL g L xs) 1171 [(0, .ref 90000), (1, .ref 0), (2, .ref 203), (3, .int (zJ (i : Int)))] [] nc ns (zw μ) := by
  have hop := zo_judge (g := g) (A := A) (v1 := (xs ((i : Int) + 1).toNat).toInt) (v2 := (xs ((i : Int) + 2).toNat).toInt) hw (zR_I _) (zR_I _)
  refine zw_aload_n (pc := 1171) (n := 1) (i := 1) 1 (by decide +kernel) rfl rfl ?_
  refine zw_aload_n (pc := 1172) (n := 0) (i := 0) 0 (by decide +kernel) rfl rfl ?_
  refine zw_iload_n (pc := 1173) (n := 3) (i := 3) 3 (by decide +kernel) rfl rfl ?_
  refine zw_iconst (pc := 1174) (n := 1) (by decide +kernel) ?_
  refine zw_iadd (pc := 1175) (by decide +kernel) ?_
  refine zw_sld (pc := 1176) (by decide +kernel) (by omega) (by omega) hL ?_
  refine zw_aload_n (pc := 1177) (n := 0) (i := 0) 0 (by decide +kernel) rfl rfl ?_
  refine zw_iload_n (pc := 1178) (n := 3) (i := 3) 3 (by decide +kernel) rfl rfl ?_
  refine zw_iconst (pc := 1179) (n := 2) (by decide +kernel) ?_
  refine zw_iadd (pc := 1180) (by decide +kernel) ?_
  refine zw_sld (pc := 1181) (by decide +kernel) (by omega) (by omega) hL ?_
  refine zx_callV (pc := 1182) (As := [.int (zJ (xs ((i : Int) + 1).toNat).toInt), .int (zJ (xs ((i : Int) + 2).toNat).toInt)]) (hop.2.1 μ hR hM) zi_X10_judge zii_X10_judge zie_X10_judge zl_L_148 (by decide +kernel) ⟨Nat.le_of_ble_eq_true rfl, Nat.le_of_ble_eq_true rfl⟩ rfl zc_0 (by decide) rfl rfl ⟨rfl, rfl⟩ hn (zki (fun x μ1 h1 => ?_))
  obtain ⟨rfl, hR1, hM1⟩ := h1
  refine zw_aload_n (pc := 1185) (n := 2) (i := 2) 2 (by decide +kernel) rfl rfl ?_
  refine zw_aload_n (pc := 1186) (n := 0) (i := 0) 0 (by decide +kernel) rfl rfl ?_
  refine zw_iload_n (pc := 1187) (n := 3) (i := 3) 3 (by decide +kernel) rfl rfl ?_
  refine zw_iconst (pc := 1188) (n := 1) (by decide +kernel) ?_
  refine zw_iadd (pc := 1189) (by decide +kernel) ?_
  refine zw_sld (pc := 1190) (by decide +kernel) (by omega) (by omega) hL ?_
  refine zw_aload_n (pc := 1191) (n := 0) (i := 0) 0 (by decide +kernel) rfl rfl ?_
  refine zw_iload_n (pc := 1192) (n := 3) (i := 3) 3 (by decide +kernel) rfl rfl ?_
  refine zw_iconst (pc := 1193) (n := 2) (by decide +kernel) ?_
  refine zw_iadd (pc := 1194) (by decide +kernel) ?_
  refine zw_sld (pc := 1195) (by decide +kernel) (by omega) (by omega) hL ?_
  refine zx_callV (pc := 1196) (As := [.int (zJ (xs ((i : Int) + 1).toNat).toInt), .int (zJ (xs ((i : Int) + 2).toNat).toInt)]) (hop.2.2 μ1 hR1 hM1) zi_X11_judge zii_X11_judge zie_X11_judge zl_L_151 (by decide +kernel) ⟨Nat.le_of_ble_eq_true rfl, Nat.le_of_ble_eq_true rfl⟩ rfl zc_203 (by decide) rfl rfl ⟨rfl, rfl⟩ hn (zki (fun x μ2 h2 => ?_))
  obtain ⟨rfl, hR2, hM2⟩ := h2
  exact zw_icmp_same (pc := 1199) (off := 54) (tgt := 1253) (by decide +kernel) (by decide) (K _ μ2 hop.1 hR2 hM2)
theorem lc_33 {g : zG} {L i nc ns : Nat} {xs : Nat → Int32} {A μ : zMu} (hL : L ≤ 2560) (hi : i + 5 ≤ L) (hn : nc ≤ zm_law.2.2.2.2.cells ∧ ns ≤ zm_law.2.2.2.2.slots) (hw : zWF A) (hR : zRC A μ) (hM : zRM A μ)
    (K : ∀ A' μ', zWF A' → zRC A' μ' → zRM A' μ' → zWP g zm_law (zmoL g L xs) 1253 [(0, .ref 90000), (1, .ref 0), (2, .ref 203), (3, .int (zJ (i : Int)))] [] nc ns (zw μ')) : zWP g zm_law (zmoL g L xs) 1204 [(0, .ref 90000), (1, .ref 0), (2, .ref 203), (3, .int (zJ (i : Int)))] [] nc ns (zw μ) := by
  have hop := zo_image (g := g) (A := A) hw
  refine zw_aload_n (pc := 1204) (n := 1) (i := 1) 1 (by decide +kernel) rfl rfl ?_
  refine zx_callV (pc := 1205) (As := []) (hop.2.1 μ hR hM) zi_X10_image zii_X10_image zie_X10_image zl_L_152 (by decide +kernel) ⟨Nat.le_of_ble_eq_true rfl, Nat.le_of_ble_eq_true rfl⟩ rfl zc_0 (by decide) rfl rfl ⟨rfl, rfl⟩ hn (zki (fun x μ1 h1 => ?_))
  obtain ⟨rfl, hR1, hM1⟩ := h1
  refine zw_aload_n (pc := 1208) (n := 2) (i := 2) 2 (by decide +kernel) rfl rfl ?_
  refine zx_callV (pc := 1209) (As := []) (hop.2.2 μ1 hR1 hM1) zi_X11_image zii_X11_image zie_X11_image zl_L_155 (by decide +kernel) ⟨Nat.le_of_ble_eq_true rfl, Nat.le_of_ble_eq_true rfl⟩ rfl zc_203 (by decide) rfl rfl ⟨rfl, rfl⟩ hn (zki (fun x μ2 h2 => ?_))
  obtain ⟨rfl, hR2, hM2⟩ := h2
  exact zw_icmp_same (pc := 1212) (off := 41) (tgt := 1253) (by decide +kernel) (by decide) (K _ μ2 hop.1 hR2 hM2)
theorem lc_34 {g : zG} {L i nc ns : Nat} {xs : Nat → Int32} {A μ : zMu} (hL : L ≤ 2560) (hi : i + 5 ≤ L) (hn : nc ≤ zm_law.2.2.2.2.cells ∧ ns ≤ zm_law.2.2.2.2.slots) (hw : zWF A) (hR : zRC A μ) (hM : zRM A μ)
    (K : ∀ A' μ', zWF A' → zRC A' μ' → zRM A' μ' → zWP g zm_law (zmoL g L xs) 1253 [(0, .ref 90000), (1, .ref 0), (2, .ref 203), (3, .int (zJ (i : Int)))] [] nc ns (zw μ')) : zWP g zm_law (zmoL g L xs) 1217 [(0, .ref 90000), (1, .ref 0), (2, .ref 203), (3, .int (zJ (i : Int)))] [] nc ns (zw μ) := by
  have hop := zo_back (g := g) (A := A) hw
  refine zw_aload_n (pc := 1217) (n := 1) (i := 1) 1 (by decide +kernel) rfl rfl ?_
  refine zx_callV (pc := 1218) (As := []) (hop.2.1 μ hR hM) zi_X10_back zii_X10_back zie_X10_back zl_L_156 (by decide +kernel) ⟨Nat.le_of_ble_eq_true rfl, Nat.le_of_ble_eq_true rfl⟩ rfl zc_0 (by decide) rfl rfl ⟨rfl, rfl⟩ hn (zki (fun x μ1 h1 => ?_))
  obtain ⟨rfl, hR1, hM1⟩ := h1
  refine zw_aload_n (pc := 1221) (n := 2) (i := 2) 2 (by decide +kernel) rfl rfl ?_
  refine zx_callV (pc := 1222) (As := []) (hop.2.2 μ1 hR1 hM1) zi_X11_back zii_X11_back zie_X11_back zl_L_159 (by decide +kernel) ⟨Nat.le_of_ble_eq_true rfl, Nat.le_of_ble_eq_true rfl⟩ rfl zc_203 (by decide) rfl rfl ⟨rfl, rfl⟩ hn (zki (fun x μ2 h2 => ?_))
  obtain ⟨rfl, hR2, hM2⟩ := h2
  exact zw_icmp_same (pc := 1225) (off := 28) (tgt := 1253) (by decide +kernel) (by decide) (K _ μ2 hop.1 hR2 hM2)
theorem lc_35 {g : zG} {L i nc ns : Nat} {xs : Nat → Int32} {A μ : zMu} (hL : L ≤ 2560) (hi : i + 5 ≤ L) (hn : nc ≤ zm_law.2.2.2.2.cells ∧ ns ≤ zm_law.2.2.2.2.slots) (hw : zWF A) (hR : zRC A μ) (hM : zRM A μ)
    (K : ∀ A' μ', zWF A' → zRC A' μ' → zRM A' μ' → zWP g zm_law (zmoL g L xs) 1253 [(0, .ref 90000), (1, .ref 0), (2, .ref 203), (3, .int (zJ (i : Int)))] [] nc ns (zw μ')) : zWP g zm_law (zmoL g L xs) 1230 [(0, .ref 90000), (1, .ref 0), (2, .ref 203), (3, .int (zJ (i : Int)))] [] nc ns (zw μ) := by
  have hop := zo_count (g := g) (A := A) (v1 := (xs ((i : Int) + 1).toNat).toInt) hw (zR_I _)
  refine zw_aload_n (pc := 1230) (n := 1) (i := 1) 1 (by decide +kernel) rfl rfl ?_
  refine zw_aload_n (pc := 1231) (n := 0) (i := 0) 0 (by decide +kernel) rfl rfl ?_
  refine zw_iload_n (pc := 1232) (n := 3) (i := 3) 3 (by decide +kernel) rfl rfl ?_
  refine zw_iconst (pc := 1233) (n := 1) (by decide +kernel) ?_
  refine zw_iadd (pc := 1234) (by decide +kernel) ?_
  refine zw_sld (pc := 1235) (by decide +kernel) (by omega) (by omega) hL ?_
  refine zx_callV (pc := 1236) (As := [.int (zJ (xs ((i : Int) + 1).toNat).toInt)]) (hop.2.1 μ hR hM) zi_X10_count zii_X10_count zie_X10_count zl_L_160 (by decide +kernel) ⟨Nat.le_of_ble_eq_true rfl, Nat.le_of_ble_eq_true rfl⟩ rfl zc_0 (by decide) rfl rfl ⟨rfl, rfl⟩ hn (zki (fun x μ1 h1 => ?_))
  obtain ⟨rfl, hR1, hM1⟩ := h1
  refine zw_aload_n (pc := 1239) (n := 2) (i := 2) 2 (by decide +kernel) rfl rfl ?_
  refine zw_aload_n (pc := 1240) (n := 0) (i := 0) 0 (by decide +kernel) rfl rfl ?_
  refine zw_iload_n (pc := 1241) (n := 3) (i := 3) 3 (by decide +kernel) rfl rfl ?_
  refine zw_iconst (pc := 1242) (n := 1) (by decide +kernel) ?_
  refine zw_iadd (pc := 1243) (by decide +kernel) ?_
  refine zw_sld (pc := 1244) (by decide +kernel) (by omega) (by omega) hL ?_
  refine zx_callV (pc := 1245) (As := [.int (zJ (xs ((i : Int) + 1).toNat).toInt)]) (hop.2.2 μ1 hR1 hM1) zi_X11_count zii_X11_count zie_X11_count zl_L_163 (by decide +kernel) ⟨Nat.le_of_ble_eq_true rfl, Nat.le_of_ble_eq_true rfl⟩ rfl zc_203 (by decide) rfl rfl ⟨rfl, rfl⟩ hn (zki (fun x μ2 h2 => ?_))
  obtain ⟨rfl, hR2, hM2⟩ := h2
  exact zw_icmp_same (pc := 1248) (off := 5) (tgt := 1253) (by decide +kernel) (by decide) (K _ μ2 hop.1 hR2 hM2)
