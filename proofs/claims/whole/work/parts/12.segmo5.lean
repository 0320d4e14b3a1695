theorem sg_X11_read_36 {g : zG} {φ : Int → zMu → Prop} {v1 : Int} {μ : zMu}
    (h : (zR v1) ∧ ((v1 = 0 → (zR (μ 203 32)) ∧ (zR (μ 203 31)) ∧ ((¬ (μ 203 32) = (μ 203 31) → (zR (zand v1 0)) ∧ ((¬ (zand v1 0) = 0 → at_X11_read_113 g φ 0 (zup (zup μ 203 31 0) 203 4 ((zup μ 203 31 0) 203 37))) ∧ ((zand v1 0) = 0 → φ ((-100) - ((zup μ 203 31 0) 203 32)) (zup μ 203 31 0)))) ∧ ((μ 203 32) = (μ 203 31) → (zR (zand v1 1)) ∧ ((¬ (zand v1 1) = 0 → at_X11_read_113 g φ 0 (zup (zup μ 203 31 0) 203 4 ((zup μ 203 31 0) 203 37))) ∧ ((zand v1 1) = 0 → φ ((-100) - ((zup μ 203 31 0) 203 32)) (zup μ 203 31 0)))))) ∧ (¬ v1 = 0 → zOi g zm_X11_here [.ref 203] μ (fun x7 μ6 => (zR x7) ∧ ((¬ x7 = 43 → (zR (μ6 203 32)) ∧ (zR (μ6 203 31)) ∧ ((¬ (μ6 203 32) = (μ6 203 31) → (zR (zand v1 0)) ∧ ((¬ (zand v1 0) = 0 → at_X11_read_113 g φ 0 (zup (zup μ6 203 31 0) 203 4 ((zup μ6 203 31 0) 203 37))) ∧ ((zand v1 0) = 0 → φ ((-100) - ((zup μ6 203 31 0) 203 32)) (zup μ6 203 31 0)))) ∧ ((μ6 203 32) = (μ6 203 31) → (zR (zand v1 1)) ∧ ((¬ (zand v1 1) = 0 → at_X11_read_113 g φ 0 (zup (zup μ6 203 31 0) 203 4 ((zup μ6 203 31 0) 203 37))) ∧ ((zand v1 1) = 0 → φ ((-100) - ((zup μ6 203 31 0) 203 32)) (zup μ6 203 31 0)))))) ∧ (x7 = 43 → zOi g zm_X11_readsTerm [.ref 203] (zup μ6 203 32 ((μ6 203 32) + 1)) (fun x14 μ13 => at_X11_read_36 g φ x14 μ13))))))) : at_X11_read_36 g φ v1 μ := by
  obtain ⟨o1, h⟩ := h
  refine zw_iload_n (pc := 36) (n := 1) (i := 1) 1 (by decide +kernel) rfl rfl ?_
  refine zw_if_eq (pc := 37) (off := 30) (tgt := 67) (by decide +kernel) (by decide) o1 (fun hc => ?_) (fun hc => ?_)
  · replace h := h.1 hc
    obtain ⟨o2, o3, h⟩ := h
    refine zw_iload_n (pc := 67) (n := 1) (i := 1) 1 (by decide +kernel) rfl rfl ?_
    refine zw_aload_n (pc := 68) (n := 0) (i := 0) 0 (by decide +kernel) rfl rfl ?_
    refine zx_getI (pc := 69) zf_11_285 (by decide +kernel) rfl zc_203 ?_
    refine zw_aload_n (pc := 72) (n := 0) (i := 0) 0 (by decide +kernel) rfl rfl ?_
    refine zx_getI (pc := 73) zf_11_282 (by decide +kernel) rfl zc_203 ?_
    refine zw_icmp_ne (pc := 76) (off := 7) (tgt := 83) (by decide +kernel) (by decide) o2 o3 (fun hc => ?_) (fun hc => ?_)
    · replace h := h.1 hc
      obtain ⟨o4, h⟩ := h
      refine zw_iconst (pc := 83) (n := 0) (by decide +kernel) ?_
      refine zw_iand (pc := 84) (by decide +kernel) ?_
      refine zw_istore_n (pc := 85) (n := 1) (i := 1) (lv' := [(0, .ref 203), (1, .int (zJ (zand v1 0)))]) (by decide +kernel) rfl (Nat.le_of_ble_eq_true rfl) rfl ?_
      refine zw_aload_n (pc := 86) (n := 0) (i := 0) 0 (by decide +kernel) rfl rfl ?_
      refine zw_iconst (pc := 87) (n := 0) (by decide +kernel) ?_
      refine zx_putI (pc := 88) zf_11_282 (by decide +kernel) rfl zc_203 ?_
      refine zw_iload_n (pc := 91) (n := 1) (i := 1) 1 (by decide +kernel) rfl rfl ?_
      refine zw_if_ne (pc := 92) (off := 11) (tgt := 103) (by decide +kernel) (by decide) o4 (fun hc => ?_) (fun hc => ?_)
      · replace h := h.1 hc
        refine zw_aload_n (pc := 103) (n := 0) (i := 0) 0 (by decide +kernel) rfl rfl ?_
        refine zw_aload_n (pc := 104) (n := 0) (i := 0) 0 (by decide +kernel) rfl rfl ?_
        refine zx_getI (pc := 105) zf_11_349 (by decide +kernel) rfl zc_203 ?_
        refine zx_putI (pc := 108) zf_11_128 (by decide +kernel) rfl zc_203 ?_
        refine zw_iconst (pc := 111) (n := 0) (by decide +kernel) ?_
        refine zw_istore_n (pc := 112) (n := 2) (i := 2) (lv' := [(0, .ref 203), (1, .int (zJ (zand v1 0))), (2, .int (zJ 0))]) (by decide +kernel) rfl (Nat.le_of_ble_eq_true rfl) rfl ?_
        exact zw_pick (lv' := [(0, .ref 203), (2, .int (zJ 0))]) [0, 2] rfl h
      · replace h := h.2 hc
        refine zw_bipush (pc := 95) (n := (-100)) (by decide +kernel) (by decide +kernel) ?_
        refine zw_aload_n (pc := 97) (n := 0) (i := 0) 0 (by decide +kernel) rfl rfl ?_
        refine zx_getI (pc := 98) zf_11_285 (by decide +kernel) rfl zc_203 ?_
        refine zw_isub (pc := 101) (by decide +kernel) ?_
        exact zw_iret (pc := 102) (by decide +kernel) rfl (Nat.le_refl _) (Nat.le_refl _) ⟨_, _, rfl, rfl, h⟩
    · replace h := h.2 hc
      obtain ⟨o5, h⟩ := h
      refine zw_iconst (pc := 79) (n := 1) (by decide +kernel) ?_
      refine zw_goto (pc := 80) (off := 4) (tgt := 84) (by decide +kernel) (by decide) ?_
      refine zw_iand (pc := 84) (by decide +kernel) ?_
      refine zw_istore_n (pc := 85) (n := 1) (i := 1) (lv' := [(0, .ref 203), (1, .int (zJ (zand v1 1)))]) (by decide +kernel) rfl (Nat.le_of_ble_eq_true rfl) rfl ?_
      refine zw_aload_n (pc := 86) (n := 0) (i := 0) 0 (by decide +kernel) rfl rfl ?_
      refine zw_iconst (pc := 87) (n := 0) (by decide +kernel) ?_
      refine zx_putI (pc := 88) zf_11_282 (by decide +kernel) rfl zc_203 ?_
      refine zw_iload_n (pc := 91) (n := 1) (i := 1) 1 (by decide +kernel) rfl rfl ?_
      refine zw_if_ne (pc := 92) (off := 11) (tgt := 103) (by decide +kernel) (by decide) o5 (fun hc => ?_) (fun hc => ?_)
      · replace h := h.1 hc
        refine zw_aload_n (pc := 103) (n := 0) (i := 0) 0 (by decide +kernel) rfl rfl ?_
        refine zw_aload_n (pc := 104) (n := 0) (i := 0) 0 (by decide +kernel) rfl rfl ?_
        refine zx_getI (pc := 105) zf_11_349 (by decide +kernel) rfl zc_203 ?_
        refine zx_putI (pc := 108) zf_11_128 (by decide +kernel) rfl zc_203 ?_
        refine zw_iconst (pc := 111) (n := 0) (by decide +kernel) ?_
        refine zw_istore_n (pc := 112) (n := 2) (i := 2) (lv' := [(0, .ref 203), (1, .int (zJ (zand v1 1))), (2, .int (zJ 0))]) (by decide +kernel) rfl (Nat.le_of_ble_eq_true rfl) rfl ?_
        exact zw_pick (lv' := [(0, .ref 203), (2, .int (zJ 0))]) [0, 2] rfl h
      · replace h := h.2 hc
        refine zw_bipush (pc := 95) (n := (-100)) (by decide +kernel) (by decide +kernel) ?_
        refine zw_aload_n (pc := 97) (n := 0) (i := 0) 0 (by decide +kernel) rfl rfl ?_
        refine zx_getI (pc := 98) zf_11_285 (by decide +kernel) rfl zc_203 ?_
        refine zw_isub (pc := 101) (by decide +kernel) ?_
        exact zw_iret (pc := 102) (by decide +kernel) rfl (Nat.le_refl _) (Nat.le_refl _) ⟨_, _, rfl, rfl, h⟩
  · replace h := h.2 hc
    refine zw_aload_n (pc := 40) (n := 0) (i := 0) 0 (by decide +kernel) rfl rfl ?_
    refine zx_callV (pc := 41) (As := []) h zi_X11_here zii_X11_here zie_X11_here zl_11_288 (by decide +kernel) ⟨Nat.le_of_ble_eq_true rfl, Nat.le_of_ble_eq_true rfl⟩ rfl zc_203 (by decide) rfl rfl ⟨rfl, rfl⟩ ⟨Nat.zero_le _, Nat.zero_le _⟩ (zki (fun x7 μ6 h => ?_))
    obtain ⟨o8, h⟩ := h
    refine zw_bipush (pc := 44) (n := 43) (by decide +kernel) (by decide +kernel) ?_
    refine zw_icmp_ne (pc := 46) (off := 21) (tgt := 67) (by decide +kernel) (by decide) o8 ⟨by decide, by decide⟩ (fun hc => ?_) (fun hc => ?_)
    · replace h := h.1 hc
      obtain ⟨o9, o10, h⟩ := h
      refine zw_iload_n (pc := 67) (n := 1) (i := 1) 1 (by decide +kernel) rfl rfl ?_
      refine zw_aload_n (pc := 68) (n := 0) (i := 0) 0 (by decide +kernel) rfl rfl ?_
      refine zx_getI (pc := 69) zf_11_285 (by decide +kernel) rfl zc_203 ?_
      refine zw_aload_n (pc := 72) (n := 0) (i := 0) 0 (by decide +kernel) rfl rfl ?_
      refine zx_getI (pc := 73) zf_11_282 (by decide +kernel) rfl zc_203 ?_
      refine zw_icmp_ne (pc := 76) (off := 7) (tgt := 83) (by decide +kernel) (by decide) o9 o10 (fun hc => ?_) (fun hc => ?_)
      · replace h := h.1 hc
        obtain ⟨o11, h⟩ := h
        refine zw_iconst (pc := 83) (n := 0) (by decide +kernel) ?_
        refine zw_iand (pc := 84) (by decide +kernel) ?_
        refine zw_istore_n (pc := 85) (n := 1) (i := 1) (lv' := [(0, .ref 203), (1, .int (zJ (zand v1 0)))]) (by decide +kernel) rfl (Nat.le_of_ble_eq_true rfl) rfl ?_
        refine zw_aload_n (pc := 86) (n := 0) (i := 0) 0 (by decide +kernel) rfl rfl ?_
        refine zw_iconst (pc := 87) (n := 0) (by decide +kernel) ?_
        refine zx_putI (pc := 88) zf_11_282 (by decide +kernel) rfl zc_203 ?_
        refine zw_iload_n (pc := 91) (n := 1) (i := 1) 1 (by decide +kernel) rfl rfl ?_
        refine zw_if_ne (pc := 92) (off := 11) (tgt := 103) (by decide +kernel) (by decide) o11 (fun hc => ?_) (fun hc => ?_)
        · replace h := h.1 hc
          refine zw_aload_n (pc := 103) (n := 0) (i := 0) 0 (by decide +kernel) rfl rfl ?_
          refine zw_aload_n (pc := 104) (n := 0) (i := 0) 0 (by decide +kernel) rfl rfl ?_
          refine zx_getI (pc := 105) zf_11_349 (by decide +kernel) rfl zc_203 ?_
          refine zx_putI (pc := 108) zf_11_128 (by decide +kernel) rfl zc_203 ?_
          refine zw_iconst (pc := 111) (n := 0) (by decide +kernel) ?_
          refine zw_istore_n (pc := 112) (n := 2) (i := 2) (lv' := [(0, .ref 203), (1, .int (zJ (zand v1 0))), (2, .int (zJ 0))]) (by decide +kernel) rfl (Nat.le_of_ble_eq_true rfl) rfl ?_
          exact zw_pick (lv' := [(0, .ref 203), (2, .int (zJ 0))]) [0, 2] rfl h
        · replace h := h.2 hc
          refine zw_bipush (pc := 95) (n := (-100)) (by decide +kernel) (by decide +kernel) ?_
          refine zw_aload_n (pc := 97) (n := 0) (i := 0) 0 (by decide +kernel) rfl rfl ?_
          refine zx_getI (pc := 98) zf_11_285 (by decide +kernel) rfl zc_203 ?_
          refine zw_isub (pc := 101) (by decide +kernel) ?_
          exact zw_iret (pc := 102) (by decide +kernel) rfl (Nat.le_refl _) (Nat.le_refl _) ⟨_, _, rfl, rfl, h⟩
      · replace h := h.2 hc
        obtain ⟨o12, h⟩ := h
        refine zw_iconst (pc := 79) (n := 1) (by decide +kernel) ?_
        refine zw_goto (pc := 80) (off := 4) (tgt := 84) (by decide +kernel) (by decide) ?_
        refine zw_iand (pc := 84) (by decide +kernel) ?_
        refine zw_istore_n (pc := 85) (n := 1) (i := 1) (lv' := [(0, .ref 203), (1, .int (zJ (zand v1 1)))]) (by decide +kernel) rfl (Nat.le_of_ble_eq_true rfl) rfl ?_
        refine zw_aload_n (pc := 86) (n := 0) (i := 0) 0 (by decide +kernel) rfl rfl ?_
        refine zw_iconst (pc := 87) (n := 0) (by decide +kernel) ?_
        refine zx_putI (pc := 88) zf_11_282 (by decide +kernel) rfl zc_203 ?_
        refine zw_iload_n (pc := 91) (n := 1) (i := 1) 1 (by decide +kernel) rfl rfl ?_
        refine zw_if_ne (pc := 92) (off := 11) (tgt := 103) (by decide +kernel) (by decide) o12 (fun hc => ?_) (fun hc => ?_)
        · replace h := h.1 hc
          refine zw_aload_n (pc := 103) (n := 0) (i := 0) 0 (by decide +kernel) rfl rfl ?_
          refine zw_aload_n (pc := 104) (n := 0) (i := 0) 0 (by decide +kernel) rfl rfl ?_
          refine zx_getI (pc := 105) zf_11_349 (by decide +kernel) rfl zc_203 ?_
          refine zx_putI (pc := 108) zf_11_128 (by decide +kernel) rfl zc_203 ?_
          refine zw_iconst (pc := 111) (n := 0) (by decide +kernel) ?_
          refine zw_istore_n (pc := 112) (n := 2) (i := 2) (lv' := [(0, .ref 203), (1, .int (zJ (zand v1 1))), (2, .int (zJ 0))]) (by decide +kernel) rfl (Nat.le_of_ble_eq_true rfl) rfl ?_
          exact zw_pick (lv' := [(0, .ref 203), (2, .int (zJ 0))]) [0, 2] rfl h
        · replace h := h.2 hc
          refine zw_bipush (pc := 95) (n := (-100)) (by decide +kernel) (by decide +kernel) ?_
          refine zw_aload_n (pc := 97) (n := 0) (i := 0) 0 (by decide +kernel) rfl rfl ?_
          refine zx_getI (pc := 98) zf_11_285 (by decide +kernel) rfl zc_203 ?_
          refine zw_isub (pc := 101) (by decide +kernel) ?_
          exact zw_iret (pc := 102) (by decide +kernel) rfl (Nat.le_refl _) (Nat.le_refl _) ⟨_, _, rfl, rfl, h⟩
    · replace h := h.2 hc
      refine zw_aload_n (pc := 49) (n := 0) (i := 0) 0 (by decide +kernel) rfl rfl ?_
      refine zw_dup (pc := 50) (by decide +kernel) rfl ?_
      refine zx_getI (pc := 51) zf_11_285 (by decide +kernel) rfl zc_203 ?_
      refine zw_iconst (pc := 54) (n := 1) (by decide +kernel) ?_
      refine zw_iadd (pc := 55) (by decide +kernel) ?_
      refine zx_putI (pc := 56) zf_11_285 (by decide +kernel) rfl zc_203 ?_
      refine zw_aload_n (pc := 59) (n := 0) (i := 0) 0 (by decide +kernel) rfl rfl ?_
      refine zx_callV (pc := 60) (As := []) h zi_X11_readsTerm zii_X11_readsTerm zie_X11_readsTerm zl_11_355 (by decide +kernel) ⟨Nat.le_of_ble_eq_true rfl, Nat.le_of_ble_eq_true rfl⟩ rfl zc_203 (by decide) rfl rfl ⟨rfl, rfl⟩ ⟨Nat.zero_le _, Nat.zero_le _⟩ (zki (fun x14 μ13 h => ?_))
      refine zw_istore_n (pc := 63) (n := 1) (i := 1) (lv' := [(0, .ref 203), (1, .int (zJ x14))]) (by decide +kernel) rfl (Nat.le_of_ble_eq_true rfl) rfl ?_
      refine zw_goto (pc := 64) (off := (-28)) (tgt := 36) (by decide +kernel) (by decide) ?_
      exact h
theorem sg_X11_read_113 {g : zG} {φ : Int → zMu → Prop} {v2 : Int} {μ : zMu}
    (h : (zR v2) ∧ ((81 ≤ v2 → at_X11_read_134 g φ 0 μ) ∧ (v2 < 81 → (0 ≤ v2 ∧ v2 < 81) ∧ at_X11_read_113 g φ (v2 + 1) (zup μ 207 v2.toNat 0)))) : at_X11_read_113 g φ v2 μ := by
  obtain ⟨o1, h⟩ := h
  refine zw_iload_n (pc := 113) (n := 2) (i := 2) 1 (by decide +kernel) rfl rfl ?_
  refine zw_bipush (pc := 114) (n := 81) (by decide +kernel) (by decide +kernel) ?_
  refine zw_icmp_ge (pc := 116) (off := 16) (tgt := 132) (by decide +kernel) (by decide) o1 ⟨by decide, by decide⟩ (fun hc => ?_) (fun hc => ?_)
  · replace h := h.1 hc
    refine zw_iconst (pc := 132) (n := 0) (by decide +kernel) ?_
    refine zw_istore_n (pc := 133) (n := 2) (i := 2) (lv' := [(0, .ref 203), (2, .int (zJ 0))]) (by decide +kernel) rfl (Nat.le_of_ble_eq_true rfl) rfl ?_
    exact h
  · replace h := h.2 hc
    obtain ⟨o2, h⟩ := h
    refine zw_aload_n (pc := 119) (n := 0) (i := 0) 0 (by decide +kernel) rfl rfl ?_
    refine zx_getR (pc := 120) (o := 4) (r := 207) zf_11_25 (by decide +kernel) rfl zc_203 rfl (by decide) rfl ?_
    refine zw_iload_n (pc := 123) (n := 2) (i := 2) 1 (by decide +kernel) rfl rfl ?_
    refine zw_iconst (pc := 124) (n := 0) (by decide +kernel) ?_
    refine zx_iastore (pc := 125) (by decide +kernel) ⟨81, zc_207, o2.1, o2.2⟩ ?_
    refine zw_iinc (pc := 126) (i := 2) (n := 1) (lv' := [(0, .ref 203), (2, .int (zJ (v2 + 1)))]) 1 (by decide +kernel) rfl rfl (Nat.le_of_ble_eq_true rfl) rfl ?_
    refine zw_goto (pc := 129) (off := (-16)) (tgt := 113) (by decide +kernel) (by decide) ?_
    exact h
theorem sg_X11_read_134 {g : zG} {φ : Int → zMu → Prop} {v2 : Int} {μ : zMu}
    (h : (zR v2) ∧ (zR (μ 203 4)) ∧ (((μ 203 4) < v2 → φ (μ 203 4) μ) ∧ (v2 ≤ (μ 203 4) → at_X11_read_144 g φ v2 0 μ))) : at_X11_read_134 g φ v2 μ := by
  obtain ⟨o1, o2, h⟩ := h
  refine zw_iload_n (pc := 134) (n := 2) (i := 2) 1 (by decide +kernel) rfl rfl ?_
  refine zw_aload_n (pc := 135) (n := 0) (i := 0) 0 (by decide +kernel) rfl rfl ?_
  refine zx_getI (pc := 136) zf_11_128 (by decide +kernel) rfl zc_203 ?_
  refine zw_icmp_gt (pc := 139) (off := 50) (tgt := 189) (by decide +kernel) (by decide) o1 o2 (fun hc => ?_) (fun hc => ?_)
  · replace h := h.1 hc
    refine zw_aload_n (pc := 189) (n := 0) (i := 0) 0 (by decide +kernel) rfl rfl ?_
    refine zx_getI (pc := 190) zf_11_128 (by decide +kernel) rfl zc_203 ?_
    exact zw_iret (pc := 193) (by decide +kernel) rfl (Nat.le_refl _) (Nat.le_refl _) ⟨_, _, rfl, rfl, h⟩
  · replace h := h.2 hc
    refine zw_iconst (pc := 142) (n := 0) (by decide +kernel) ?_
    refine zw_istore_n (pc := 143) (n := 3) (i := 3) (lv' := [(0, .ref 203), (2, .int (zJ v2)), (3, .int (zJ 0))]) (by decide +kernel) rfl (Nat.le_of_ble_eq_true rfl) rfl ?_
    exact h
theorem sg_X11_read_144 {g : zG} {φ : Int → zMu → Prop} {v2 : Int} {v3 : Int} {μ : zMu}
    (h : (zR v3) ∧ (zR (μ 203 4)) ∧ (((μ 203 4) < v3 → at_X11_read_134 g φ (v2 + 1) μ) ∧ (v3 ≤ (μ 203 4) → zOi g zm_X11_place [.int (zJ (μ 203 4)), .int (zJ v2), .int (zJ v3)] μ (fun x4 μ3 => (0 ≤ ((9 * v2) + v3) ∧ ((9 * v2) + v3) < 81) ∧ (0 ≤ x4 ∧ x4 < 81) ∧ at_X11_read_144 g φ v2 (v3 + 1) (zup μ3 207 x4.toNat (μ3 227 (Int.toNat ((9 * v2) + v3)))))))) : at_X11_read_144 g φ v2 v3 μ := by
  obtain ⟨o1, o2, h⟩ := h
  refine zw_iload_n (pc := 144) (n := 3) (i := 3) 2 (by decide +kernel) rfl rfl ?_
  refine zw_aload_n (pc := 145) (n := 0) (i := 0) 0 (by decide +kernel) rfl rfl ?_
  refine zx_getI (pc := 146) zf_11_128 (by decide +kernel) rfl zc_203 ?_
  refine zw_icmp_gt (pc := 149) (off := 34) (tgt := 183) (by decide +kernel) (by decide) o1 o2 (fun hc => ?_) (fun hc => ?_)
  · replace h := h.1 hc
    refine zw_iinc (pc := 183) (i := 2) (n := 1) (lv' := [(0, .ref 203), (2, .int (zJ (v2 + 1))), (3, .int (zJ v3))]) 1 (by decide +kernel) rfl rfl (Nat.le_of_ble_eq_true rfl) rfl ?_
    refine zw_goto (pc := 186) (off := (-52)) (tgt := 134) (by decide +kernel) (by decide) ?_
    exact zw_pick (lv' := [(0, .ref 203), (2, .int (zJ (v2 + 1)))]) [0, 1] rfl h
  · replace h := h.2 hc
    refine zw_aload_n (pc := 152) (n := 0) (i := 0) 0 (by decide +kernel) rfl rfl ?_
    refine zx_getR (pc := 153) (o := 4) (r := 207) zf_11_25 (by decide +kernel) rfl zc_203 rfl (by decide) rfl ?_
    refine zw_aload_n (pc := 156) (n := 0) (i := 0) 0 (by decide +kernel) rfl rfl ?_
    refine zx_getI (pc := 157) zf_11_128 (by decide +kernel) rfl zc_203 ?_
    refine zw_iload_n (pc := 160) (n := 2) (i := 2) 1 (by decide +kernel) rfl rfl ?_
    refine zw_iload_n (pc := 161) (n := 3) (i := 3) 2 (by decide +kernel) rfl rfl ?_
    refine zx_callS (pc := 162) (As := [.int (zJ (μ 203 4)), .int (zJ v2), .int (zJ v3)]) h zi_X11_place zis_X11_place zl_11_218 (by decide +kernel) ⟨Nat.le_of_ble_eq_true rfl, Nat.le_of_ble_eq_true rfl⟩ rfl rfl ⟨rfl, rfl⟩ ⟨Nat.zero_le _, Nat.zero_le _⟩ (zki (fun x4 μ3 h => ?_))
    obtain ⟨o5, o6, h⟩ := h
    refine zw_aload_n (pc := 165) (n := 0) (i := 0) 0 (by decide +kernel) rfl rfl ?_
    refine zx_getR (pc := 166) (o := 24) (r := 227) zf_11_85 (by decide +kernel) rfl zc_203 rfl (by decide) rfl ?_
    refine zw_bipush (pc := 169) (n := 9) (by decide +kernel) (by decide +kernel) ?_
    refine zw_iload_n (pc := 171) (n := 2) (i := 2) 1 (by decide +kernel) rfl rfl ?_
    refine zw_imul (pc := 172) (by decide +kernel) ?_
    refine zw_iload_n (pc := 173) (n := 3) (i := 3) 2 (by decide +kernel) rfl rfl ?_
    refine zw_iadd (pc := 174) (by decide +kernel) ?_
    refine zx_iaload (pc := 175) (by decide +kernel) ⟨81, zc_227, o5.1, o5.2⟩ ?_
    refine zx_iastore (pc := 176) (by decide +kernel) ⟨81, zc_207, o6.1, o6.2⟩ ?_
    refine zw_iinc (pc := 177) (i := 3) (n := 1) (lv' := [(0, .ref 203), (2, .int (zJ v2)), (3, .int (zJ (v3 + 1)))]) 2 (by decide +kernel) rfl rfl (Nat.le_of_ble_eq_true rfl) rfl ?_
    refine zw_goto (pc := 180) (off := (-36)) (tgt := 144) (by decide +kernel) (by decide) ?_
    exact h
abbrev at_X11_readsTerm_13 (g : zG) (φ : Int → zMu → Prop) (v1 : Int) (v2 : Int) (μ : zMu) : Prop := zWP g zm_X11_readsTerm (zmo g zm_X11_readsTerm (zΦi φ)) 13 [(0, .ref 203), (1, .int (zJ v1)), (2, .int (zJ v2))] [] 0 0 (zw μ)
theorem sg_X11_readsTerm {g : zG} {φ : Int → zMu → Prop} {μ : zMu}
    (h : zOi g zm_X11_isFigure [.ref 203] μ (fun x2 μ1 => (zR x2) ∧ ((¬ x2 = 0 → at_X11_readsTerm_13 g φ 0 0 μ1) ∧ (x2 = 0 → φ 0 μ1)))) : zOi g zm_X11_readsTerm [.ref 203] μ φ := by
  refine zok_of (by decide +kernel) rfl ?_
  show zWP g zm_X11_readsTerm (zmo g zm_X11_readsTerm (zΦi φ)) 0 [(0, .ref 203)] [] 0 0 (zw μ)
  refine zw_aload_n (pc := 0) (n := 0) (i := 0) 0 (by decide +kernel) rfl rfl ?_
  refine zx_callV (pc := 1) (As := []) h zi_X11_isFigure zii_X11_isFigure zie_X11_isFigure zl_11_305 (by decide +kernel) ⟨Nat.le_of_ble_eq_true rfl, Nat.le_of_ble_eq_true rfl⟩ rfl zc_203 (by decide) rfl rfl ⟨rfl, rfl⟩ ⟨Nat.zero_le _, Nat.zero_le _⟩ (zki (fun x2 μ1 h => ?_))
  obtain ⟨o3, h⟩ := h
  refine zw_if_ne (pc := 4) (off := 5) (tgt := 9) (by decide +kernel) (by decide) o3 (fun hc => ?_) (fun hc => ?_)
  · replace h := h.1 hc
    refine zw_iconst (pc := 9) (n := 0) (by decide +kernel) ?_
    refine zw_istore_n (pc := 10) (n := 1) (i := 1) (lv' := [(0, .ref 203), (1, .int (zJ 0))]) (by decide +kernel) rfl (Nat.le_of_ble_eq_true rfl) rfl ?_
    refine zw_iconst (pc := 11) (n := 0) (by decide +kernel) ?_
    refine zw_istore_n (pc := 12) (n := 2) (i := 2) (lv' := [(0, .ref 203), (1, .int (zJ 0)), (2, .int (zJ 0))]) (by decide +kernel) rfl (Nat.le_of_ble_eq_true rfl) rfl ?_
    exact h
  · replace h := h.2 hc
    refine zw_iconst (pc := 7) (n := 0) (by decide +kernel) ?_
    exact zw_zret (pc := 8) (by decide +kernel) rfl (Nat.le_refl _) (Nat.le_refl _) (Or.inl rfl) ⟨_, _, rfl, rfl, h⟩
theorem sg_X11_readsTerm_13 {g : zG} {φ : Int → zMu → Prop} {v1 : Int} {v2 : Int} {μ : zMu}
    (h : (zR v2) ∧ ((3 ≤ v2 → zOi g zm_X11_readsPower [.ref 203, .int (zJ 120)] μ (fun x3 μ2 => (zR x3) ∧ ((0 ≤ x3 → zOi g zm_X11_readsPower [.ref 203, .int (zJ 121)] μ2 (fun x6 μ5 => (zR x6) ∧ ((0 ≤ x6 → (zR (μ5 203 37)) ∧ (zR (max x3 x6)) ∧ (0 ≤ ((9 * x3) + x6) ∧ ((9 * x3) + x6) < 81) ∧ (zR (((zup μ5 203 37 (max (μ5 203 37) (max x3 x6))) 227 (Int.toNat ((9 * x3) + x6))) + v1)) ∧ (zR ((zup μ5 203 37 (max (μ5 203 37) (max x3 x6))) 203 0)) ∧ (((zup μ5 203 37 (max (μ5 203 37) (max x3 x6))) 203 0) ≠ 0) ∧ φ 1 (zup (zup μ5 203 37 (max (μ5 203 37) (max x3 x6))) 227 (Int.toNat ((9 * x3) + x6)) ((((zup μ5 203 37 (max (μ5 203 37) (max x3 x6))) 227 (Int.toNat ((9 * x3) + x6))) + v1).tmod ((zup μ5 203 37 (max (μ5 203 37) (max x3 x6))) 203 0)))) ∧ (x6 < 0 → φ 0 μ5)))) ∧ (x3 < 0 → φ 0 μ2)))) ∧ (v2 < 3 → zOi g zm_X11_isFigure [.ref 203] μ (fun x15 μ14 => (zR x15) ∧ ((x15 = 0 → zOi g zm_X11_readsPower [.ref 203, .int (zJ 120)] μ14 (fun x18 μ17 => (zR x18) ∧ ((0 ≤ x18 → zOi g zm_X11_readsPower [.ref 203, .int (zJ 121)] μ17 (fun x21 μ20 => (zR x21) ∧ ((0 ≤ x21 → (zR (μ20 203 37)) ∧ (zR (max x18 x21)) ∧ (0 ≤ ((9 * x18) + x21) ∧ ((9 * x18) + x21) < 81) ∧ (zR (((zup μ20 203 37 (max (μ20 203 37) (max x18 x21))) 227 (Int.toNat ((9 * x18) + x21))) + v1)) ∧ (zR ((zup μ20 203 37 (max (μ20 203 37) (max x18 x21))) 203 0)) ∧ (((zup μ20 203 37 (max (μ20 203 37) (max x18 x21))) 203 0) ≠ 0) ∧ φ 1 (zup (zup μ20 203 37 (max (μ20 203 37) (max x18 x21))) 227 (Int.toNat ((9 * x18) + x21)) ((((zup μ20 203 37 (max (μ20 203 37) (max x18 x21))) 227 (Int.toNat ((9 * x18) + x21))) + v1).tmod ((zup μ20 203 37 (max (μ20 203 37) (max x18 x21))) 203 0)))) ∧ (x21 < 0 → φ 0 μ20)))) ∧ (x18 < 0 → φ 0 μ17)))) ∧ (¬ x15 = 0 → zOi g zm_X11_here [.ref 203] μ14 (fun x30 μ29 => at_X11_readsTerm_13 g φ (((10 * v1) + x30) - 48) (v2 + 1) (zup μ29 203 32 ((μ29 203 32) + 1))))))))) : at_X11_readsTerm_13 g φ v1 v2 μ := by
  obtain ⟨o1, h⟩ := h
  refine zw_iload_n (pc := 13) (n := 2) (i := 2) 2 (by decide +kernel) rfl rfl ?_
  refine zw_iconst (pc := 14) (n := 3) (by decide +kernel) ?_
  refine zw_icmp_ge (pc := 15) (off := 39) (tgt := 54) (by decide +kernel) (by decide) o1 ⟨by decide, by decide⟩ (fun hc => ?_) (fun hc => ?_)
  · replace h := h.1 hc
    refine zw_aload_n (pc := 54) (n := 0) (i := 0) 0 (by decide +kernel) rfl rfl ?_
    refine zw_bipush (pc := 55) (n := 120) (by decide +kernel) (by decide +kernel) ?_
    refine zx_callV (pc := 57) (As := [.int (zJ 120)]) h zi_X11_readsPower zii_X11_readsPower zie_X11_readsPower zl_11_346 (by decide +kernel) ⟨Nat.le_of_ble_eq_true rfl, Nat.le_of_ble_eq_true rfl⟩ rfl zc_203 (by decide) rfl rfl ⟨rfl, rfl⟩ ⟨Nat.zero_le _, Nat.zero_le _⟩ (zki (fun x3 μ2 h => ?_))
    obtain ⟨o4, h⟩ := h
    refine zw_istore_n (pc := 60) (n := 2) (i := 2) (lv' := [(0, .ref 203), (1, .int (zJ v1)), (2, .int (zJ x3))]) (by decide +kernel) rfl (Nat.le_of_ble_eq_true rfl) rfl ?_
    refine zw_iload_n (pc := 61) (n := 2) (i := 2) 2 (by decide +kernel) rfl rfl ?_
    refine zw_if_ge (pc := 62) (off := 7) (tgt := 69) (by decide +kernel) (by decide) o4 (fun hc => ?_) (fun hc => ?_)
    · replace h := h.1 hc
      refine zw_aload_n (pc := 69) (n := 0) (i := 0) 0 (by decide +kernel) rfl rfl ?_
      refine zw_bipush (pc := 70) (n := 121) (by decide +kernel) (by decide +kernel) ?_
      refine zx_callV (pc := 72) (As := [.int (zJ 121)]) h zi_X11_readsPower zii_X11_readsPower zie_X11_readsPower zl_11_346 (by decide +kernel) ⟨Nat.le_of_ble_eq_true rfl, Nat.le_of_ble_eq_true rfl⟩ rfl zc_203 (by decide) rfl rfl ⟨rfl, rfl⟩ ⟨Nat.zero_le _, Nat.zero_le _⟩ (zki (fun x6 μ5 h => ?_))
      obtain ⟨o7, h⟩ := h
      refine zw_istore_n (pc := 75) (n := 3) (i := 3) (lv' := [(0, .ref 203), (1, .int (zJ v1)), (2, .int (zJ x3)), (3, .int (zJ x6))]) (by decide +kernel) rfl (Nat.le_of_ble_eq_true rfl) rfl ?_
      refine zw_iload_n (pc := 76) (n := 3) (i := 3) 3 (by decide +kernel) rfl rfl ?_
      refine zw_if_ge (pc := 77) (off := 5) (tgt := 82) (by decide +kernel) (by decide) o7 (fun hc => ?_) (fun hc => ?_)
      · replace h := h.1 hc
        obtain ⟨o8, o9, o10, o11, o12, o13, h⟩ := h
        refine zw_aload_n (pc := 82) (n := 0) (i := 0) 0 (by decide +kernel) rfl rfl ?_
        refine zw_aload_n (pc := 83) (n := 0) (i := 0) 0 (by decide +kernel) rfl rfl ?_
        refine zx_getI (pc := 84) zf_11_349 (by decide +kernel) rfl zc_203 ?_
        refine zw_iload_n (pc := 87) (n := 2) (i := 2) 2 (by decide +kernel) rfl rfl ?_
        refine zw_iload_n (pc := 88) (n := 3) (i := 3) 3 (by decide +kernel) rfl rfl ?_
        refine zw_max (pc := 89) zl_11_352 zb_maxS zb_mathI zb_maxC (by decide +kernel) ⟨Nat.le_of_ble_eq_true rfl, Nat.le_of_ble_eq_true rfl⟩ (Nat.zero_le _) (Nat.zero_le _) rfl o4 o7 ?_
        refine zw_max (pc := 92) zl_11_352 zb_maxS zb_mathI zb_maxC (by decide +kernel) ⟨Nat.le_of_ble_eq_true rfl, Nat.le_of_ble_eq_true rfl⟩ (Nat.zero_le _) (Nat.zero_le _) rfl o8 o9 ?_
        refine zx_putI (pc := 95) zf_11_349 (by decide +kernel) rfl zc_203 ?_
        refine zw_aload_n (pc := 98) (n := 0) (i := 0) 0 (by decide +kernel) rfl rfl ?_
        refine zx_getR (pc := 99) (o := 24) (r := 227) zf_11_85 (by decide +kernel) rfl zc_203 rfl (by decide) rfl ?_
        refine zw_bipush (pc := 102) (n := 9) (by decide +kernel) (by decide +kernel) ?_
        refine zw_iload_n (pc := 104) (n := 2) (i := 2) 2 (by decide +kernel) rfl rfl ?_
        refine zw_imul (pc := 105) (by decide +kernel) ?_
        refine zw_iload_n (pc := 106) (n := 3) (i := 3) 3 (by decide +kernel) rfl rfl ?_
        refine zw_iadd (pc := 107) (by decide +kernel) ?_
        refine zw_aload_n (pc := 108) (n := 0) (i := 0) 0 (by decide +kernel) rfl rfl ?_
        refine zx_getR (pc := 109) (o := 24) (r := 227) zf_11_85 (by decide +kernel) rfl zc_203 rfl (by decide) rfl ?_
        refine zw_bipush (pc := 112) (n := 9) (by decide +kernel) (by decide +kernel) ?_
        refine zw_iload_n (pc := 114) (n := 2) (i := 2) 2 (by decide +kernel) rfl rfl ?_
        refine zw_imul (pc := 115) (by decide +kernel) ?_
        refine zw_iload_n (pc := 116) (n := 3) (i := 3) 3 (by decide +kernel) rfl rfl ?_
        refine zw_iadd (pc := 117) (by decide +kernel) ?_
        refine zx_iaload (pc := 118) (by decide +kernel) ⟨81, zc_227, o10.1, o10.2⟩ ?_
        refine zw_iload_n (pc := 119) (n := 1) (i := 1) 1 (by decide +kernel) rfl rfl ?_
        refine zw_iadd (pc := 120) (by decide +kernel) ?_
        refine zw_aload_n (pc := 121) (n := 0) (i := 0) 0 (by decide +kernel) rfl rfl ?_
        refine zx_getI (pc := 122) zf_11_9 (by decide +kernel) rfl zc_203 ?_
        refine zw_irem (pc := 125) (by decide +kernel) o11 o12 o13 ?_
        refine zx_iastore (pc := 126) (by decide +kernel) ⟨81, zc_227, o10.1, o10.2⟩ ?_
        refine zw_iconst (pc := 127) (n := 1) (by decide +kernel) ?_
        exact zw_zret (pc := 128) (by decide +kernel) rfl (Nat.le_refl _) (Nat.le_refl _) (Or.inr rfl) ⟨_, _, rfl, rfl, h⟩
      · replace h := h.2 hc
        refine zw_iconst (pc := 80) (n := 0) (by decide +kernel) ?_
        exact zw_zret (pc := 81) (by decide +kernel) rfl (Nat.le_refl _) (Nat.le_refl _) (Or.inl rfl) ⟨_, _, rfl, rfl, h⟩
    · replace h := h.2 hc
      refine zw_iconst (pc := 65) (n := (-1)) (by decide +kernel) ?_
      refine zw_goto (pc := 66) (off := 9) (tgt := 75) (by decide +kernel) (by decide) ?_
      refine zw_istore_n (pc := 75) (n := 3) (i := 3) (lv' := [(0, .ref 203), (1, .int (zJ v1)), (2, .int (zJ x3)), (3, .int (zJ (-1)))]) (by decide +kernel) rfl (Nat.le_of_ble_eq_true rfl) rfl ?_
      refine zw_iload_n (pc := 76) (n := 3) (i := 3) 3 (by decide +kernel) rfl rfl ?_
      refine zw_if_ge (pc := 77) (off := 5) (tgt := 82) (by decide +kernel) (by decide) ⟨by decide, by decide⟩ (fun hc => absurd hc (by decide)) (fun hc => ?_)
      refine zw_iconst (pc := 80) (n := 0) (by decide +kernel) ?_
      exact zw_zret (pc := 81) (by decide +kernel) rfl (Nat.le_refl _) (Nat.le_refl _) (Or.inl rfl) ⟨_, _, rfl, rfl, h⟩
  · replace h := h.2 hc
    refine zw_aload_n (pc := 18) (n := 0) (i := 0) 0 (by decide +kernel) rfl rfl ?_
    refine zx_callV (pc := 19) (As := []) h zi_X11_isFigure zii_X11_isFigure zie_X11_isFigure zl_11_305 (by decide +kernel) ⟨Nat.le_of_ble_eq_true rfl, Nat.le_of_ble_eq_true rfl⟩ rfl zc_203 (by decide) rfl rfl ⟨rfl, rfl⟩ ⟨Nat.zero_le _, Nat.zero_le _⟩ (zki (fun x15 μ14 h => ?_))
    obtain ⟨o16, h⟩ := h
    refine zw_if_eq (pc := 22) (off := 32) (tgt := 54) (by decide +kernel) (by decide) o16 (fun hc => ?_) (fun hc => ?_)
    · replace h := h.1 hc
      refine zw_aload_n (pc := 54) (n := 0) (i := 0) 0 (by decide +kernel) rfl rfl ?_
      refine zw_bipush (pc := 55) (n := 120) (by decide +kernel) (by decide +kernel) ?_
      refine zx_callV (pc := 57) (As := [.int (zJ 120)]) h zi_X11_readsPower zii_X11_readsPower zie_X11_readsPower zl_11_346 (by decide +kernel) ⟨Nat.le_of_ble_eq_true rfl, Nat.le_of_ble_eq_true rfl⟩ rfl zc_203 (by decide) rfl rfl ⟨rfl, rfl⟩ ⟨Nat.zero_le _, Nat.zero_le _⟩ (zki (fun x18 μ17 h => ?_))
      obtain ⟨o19, h⟩ := h
      refine zw_istore_n (pc := 60) (n := 2) (i := 2) (lv' := [(0, .ref 203), (1, .int (zJ v1)), (2, .int (zJ x18))]) (by decide +kernel) rfl (Nat.le_of_ble_eq_true rfl) rfl ?_
      refine zw_iload_n (pc := 61) (n := 2) (i := 2) 2 (by decide +kernel) rfl rfl ?_
      refine zw_if_ge (pc := 62) (off := 7) (tgt := 69) (by decide +kernel) (by decide) o19 (fun hc => ?_) (fun hc => ?_)
      · replace h := h.1 hc
        refine zw_aload_n (pc := 69) (n := 0) (i := 0) 0 (by decide +kernel) rfl rfl ?_
        refine zw_bipush (pc := 70) (n := 121) (by decide +kernel) (by decide +kernel) ?_
        refine zx_callV (pc := 72) (As := [.int (zJ 121)]) h zi_X11_readsPower zii_X11_readsPower zie_X11_readsPower zl_11_346 (by decide +kernel) ⟨Nat.le_of_ble_eq_true rfl, Nat.le_of_ble_eq_true rfl⟩ rfl zc_203 (by decide) rfl rfl ⟨rfl, rfl⟩ ⟨Nat.zero_le _, Nat.zero_le _⟩ (zki (fun x21 μ20 h => ?_))
        obtain ⟨o22, h⟩ := h
        refine zw_istore_n (pc := 75) (n := 3) (i := 3) (lv' := [(0, .ref 203), (1, .int (zJ v1)), (2, .int (zJ x18)), (3, .int (zJ x21))]) (by decide +kernel) rfl (Nat.le_of_ble_eq_true rfl) rfl ?_
        refine zw_iload_n (pc := 76) (n := 3) (i := 3) 3 (by decide +kernel) rfl rfl ?_
        refine zw_if_ge (pc := 77) (off := 5) (tgt := 82) (by decide +kernel) (by decide) o22 (fun hc => ?_) (fun hc => ?_)
        · replace h := h.1 hc
          obtain ⟨o23, o24, o25, o26, o27, o28, h⟩ := h
          refine zw_aload_n (pc := 82) (n := 0) (i := 0) 0 (by decide +kernel) rfl rfl ?_
          refine zw_aload_n (pc := 83) (n := 0) (i := 0) 0 (by decide +kernel) rfl rfl ?_
          refine zx_getI (pc := 84) zf_11_349 (by decide +kernel) rfl zc_203 ?_
          refine zw_iload_n (pc := 87) (n := 2) (i := 2) 2 (by decide +kernel) rfl rfl ?_
          refine zw_iload_n (pc := 88) (n := 3) (i := 3) 3 (by decide +kernel) rfl rfl ?_
          refine zw_max (pc := 89) zl_11_352 zb_maxS zb_mathI zb_maxC (by decide +kernel) ⟨Nat.le_of_ble_eq_true rfl, Nat.le_of_ble_eq_true rfl⟩ (Nat.zero_le _) (Nat.zero_le _) rfl o19 o22 ?_
          refine zw_max (pc := 92) zl_11_352 zb_maxS zb_mathI zb_maxC (by decide +kernel) ⟨Nat.le_of_ble_eq_true rfl, Nat.le_of_ble_eq_true rfl⟩ (Nat.zero_le _) (Nat.zero_le _) rfl o23 o24 ?_
          refine zx_putI (pc := 95) zf_11_349 (by decide +kernel) rfl zc_203 ?_
          refine zw_aload_n (pc := 98) (n := 0) (i := 0) 0 (by decide +kernel) rfl rfl ?_
          refine zx_getR (pc := 99) (o := 24) (r := 227) zf_11_85 (by decide +kernel) rfl zc_203 rfl (by decide) rfl ?_
          refine zw_bipush (pc := 102) (n := 9) (by decide +kernel) (by decide +kernel) ?_
          refine zw_iload_n (pc := 104) (n := 2) (i := 2) 2 (by decide +kernel) rfl rfl ?_
          refine zw_imul (pc := 105) (by decide +kernel) ?_
          refine zw_iload_n (pc := 106) (n := 3) (i := 3) 3 (by decide +kernel) rfl rfl ?_
          refine zw_iadd (pc := 107) (by decide +kernel) ?_
          refine zw_aload_n (pc := 108) (n := 0) (i := 0) 0 (by decide +kernel) rfl rfl ?_
          refine zx_getR (pc := 109) (o := 24) (r := 227) zf_11_85 (by decide +kernel) rfl zc_203 rfl (by decide) rfl ?_
          refine zw_bipush (pc := 112) (n := 9) (by decide +kernel) (by decide +kernel) ?_
          refine zw_iload_n (pc := 114) (n := 2) (i := 2) 2 (by decide +kernel) rfl rfl ?_
          refine zw_imul (pc := 115) (by decide +kernel) ?_
          refine zw_iload_n (pc := 116) (n := 3) (i := 3) 3 (by decide +kernel) rfl rfl ?_
          refine zw_iadd (pc := 117) (by decide +kernel) ?_
          refine zx_iaload (pc := 118) (by decide +kernel) ⟨81, zc_227, o25.1, o25.2⟩ ?_
          refine zw_iload_n (pc := 119) (n := 1) (i := 1) 1 (by decide +kernel) rfl rfl ?_
          refine zw_iadd (pc := 120) (by decide +kernel) ?_
          refine zw_aload_n (pc := 121) (n := 0) (i := 0) 0 (by decide +kernel) rfl rfl ?_
          refine zx_getI (pc := 122) zf_11_9 (by decide +kernel) rfl zc_203 ?_
          refine zw_irem (pc := 125) (by decide +kernel) o26 o27 o28 ?_
          refine zx_iastore (pc := 126) (by decide +kernel) ⟨81, zc_227, o25.1, o25.2⟩ ?_
          refine zw_iconst (pc := 127) (n := 1) (by decide +kernel) ?_
          exact zw_zret (pc := 128) (by decide +kernel) rfl (Nat.le_refl _) (Nat.le_refl _) (Or.inr rfl) ⟨_, _, rfl, rfl, h⟩
        · replace h := h.2 hc
          refine zw_iconst (pc := 80) (n := 0) (by decide +kernel) ?_
          exact zw_zret (pc := 81) (by decide +kernel) rfl (Nat.le_refl _) (Nat.le_refl _) (Or.inl rfl) ⟨_, _, rfl, rfl, h⟩
      · replace h := h.2 hc
        refine zw_iconst (pc := 65) (n := (-1)) (by decide +kernel) ?_
        refine zw_goto (pc := 66) (off := 9) (tgt := 75) (by decide +kernel) (by decide) ?_
        refine zw_istore_n (pc := 75) (n := 3) (i := 3) (lv' := [(0, .ref 203), (1, .int (zJ v1)), (2, .int (zJ x18)), (3, .int (zJ (-1)))]) (by decide +kernel) rfl (Nat.le_of_ble_eq_true rfl) rfl ?_
        refine zw_iload_n (pc := 76) (n := 3) (i := 3) 3 (by decide +kernel) rfl rfl ?_
        refine zw_if_ge (pc := 77) (off := 5) (tgt := 82) (by decide +kernel) (by decide) ⟨by decide, by decide⟩ (fun hc => absurd hc (by decide)) (fun hc => ?_)
        refine zw_iconst (pc := 80) (n := 0) (by decide +kernel) ?_
        exact zw_zret (pc := 81) (by decide +kernel) rfl (Nat.le_refl _) (Nat.le_refl _) (Or.inl rfl) ⟨_, _, rfl, rfl, h⟩
    · replace h := h.2 hc
      refine zw_bipush (pc := 25) (n := 10) (by decide +kernel) (by decide +kernel) ?_
      refine zw_iload_n (pc := 27) (n := 1) (i := 1) 1 (by decide +kernel) rfl rfl ?_
      refine zw_imul (pc := 28) (by decide +kernel) ?_
      refine zw_aload_n (pc := 29) (n := 0) (i := 0) 0 (by decide +kernel) rfl rfl ?_
      refine zx_callV (pc := 30) (As := []) h zi_X11_here zii_X11_here zie_X11_here zl_11_288 (by decide +kernel) ⟨Nat.le_of_ble_eq_true rfl, Nat.le_of_ble_eq_true rfl⟩ rfl zc_203 (by decide) rfl rfl ⟨rfl, rfl⟩ ⟨Nat.zero_le _, Nat.zero_le _⟩ (zki (fun x30 μ29 h => ?_))
      refine zw_iadd (pc := 33) (by decide +kernel) ?_
      refine zw_bipush (pc := 34) (n := 48) (by decide +kernel) (by decide +kernel) ?_
      refine zw_isub (pc := 36) (by decide +kernel) ?_
      refine zw_istore_n (pc := 37) (n := 1) (i := 1) (lv' := [(0, .ref 203), (1, .int (zJ (((10 * v1) + x30) - 48))), (2, .int (zJ v2))]) (by decide +kernel) rfl (Nat.le_of_ble_eq_true rfl) rfl ?_
      refine zw_aload_n (pc := 38) (n := 0) (i := 0) 0 (by decide +kernel) rfl rfl ?_
      refine zw_dup (pc := 39) (by decide +kernel) rfl ?_
      refine zx_getI (pc := 40) zf_11_285 (by decide +kernel) rfl zc_203 ?_
      refine zw_iconst (pc := 43) (n := 1) (by decide +kernel) ?_
      refine zw_iadd (pc := 44) (by decide +kernel) ?_
      refine zx_putI (pc := 45) zf_11_285 (by decide +kernel) rfl zc_203 ?_
      refine zw_iinc (pc := 48) (i := 2) (n := 1) (lv' := [(0, .ref 203), (1, .int (zJ (((10 * v1) + x30) - 48))), (2, .int (zJ (v2 + 1)))]) 2 (by decide +kernel) rfl rfl (Nat.le_of_ble_eq_true rfl) rfl ?_
      refine zw_goto (pc := 51) (off := (-38)) (tgt := 13) (by decide +kernel) (by decide) ?_
      exact h
theorem sg_X11_readsPower {g : zG} {φ : Int → zMu → Prop} {v1 : Int} {μ : zMu}
    (h : zOi g zm_X11_here [.ref 203] μ (fun x2 μ1 => (zR x2) ∧ (zR v1) ∧ ((x2 = v1 → zOi g zm_X11_here [.ref 203] (zup μ1 203 32 ((μ1 203 32) + 1)) (fun x6 μ5 => (zR x6) ∧ zOi g zm_X11_in [.long (zL x6), .long (zL 49), .long (zL 56)] μ5 (fun x9 μ8 => (zR x9) ∧ ((¬ x9 = 0 → (0 ≤ (((zup μ8 203 32 ((μ8 203 32) + 1)) 203 32) - 1) ∧ (((zup μ8 203 32 ((μ8 203 32) + 1)) 203 32) - 1) < 100) ∧ φ (((zup μ8 203 32 ((μ8 203 32) + 1)) 223 (Int.toNat (((zup μ8 203 32 ((μ8 203 32) + 1)) 203 32) - 1))) - 48) (zup μ8 203 32 ((μ8 203 32) + 1))) ∧ (x9 = 0 → φ (-1) μ8))))) ∧ (¬ x2 = v1 → φ 0 μ1)))) : zOi g zm_X11_readsPower [.ref 203, .int (zJ v1)] μ φ := by
  refine zok_of (by decide +kernel) rfl ?_
  show zWP g zm_X11_readsPower (zmo g zm_X11_readsPower (zΦi φ)) 0 [(0, .ref 203), (1, .int (zJ v1))] [] 0 0 (zw μ)
  refine zw_aload_n (pc := 0) (n := 0) (i := 0) 0 (by decide +kernel) rfl rfl ?_
  refine zx_callV (pc := 1) (As := []) h zi_X11_here zii_X11_here zie_X11_here zl_11_288 (by decide +kernel) ⟨Nat.le_of_ble_eq_true rfl, Nat.le_of_ble_eq_true rfl⟩ rfl zc_203 (by decide) rfl rfl ⟨rfl, rfl⟩ ⟨Nat.zero_le _, Nat.zero_le _⟩ (zki (fun x2 μ1 h => ?_))
  obtain ⟨o3, o4, h⟩ := h
  refine zw_iload_n (pc := 4) (n := 1) (i := 1) 1 (by decide +kernel) rfl rfl ?_
  refine zw_icmp_eq (pc := 5) (off := 5) (tgt := 10) (by decide +kernel) (by decide) o3 o4 (fun hc => ?_) (fun hc => ?_)
  · replace h := h.1 hc
    refine zw_aload_n (pc := 10) (n := 0) (i := 0) 0 (by decide +kernel) rfl rfl ?_
    refine zw_dup (pc := 11) (by decide +kernel) rfl ?_
    refine zx_getI (pc := 12) zf_11_285 (by decide +kernel) rfl zc_203 ?_
    refine zw_iconst (pc := 15) (n := 1) (by decide +kernel) ?_
    refine zw_iadd (pc := 16) (by decide +kernel) ?_
    refine zx_putI (pc := 17) zf_11_285 (by decide +kernel) rfl zc_203 ?_
    refine zw_aload_n (pc := 20) (n := 0) (i := 0) 0 (by decide +kernel) rfl rfl ?_
    refine zx_callV (pc := 21) (As := []) h zi_X11_here zii_X11_here zie_X11_here zl_11_288 (by decide +kernel) ⟨Nat.le_of_ble_eq_true rfl, Nat.le_of_ble_eq_true rfl⟩ rfl zc_203 (by decide) rfl rfl ⟨rfl, rfl⟩ ⟨Nat.zero_le _, Nat.zero_le _⟩ (zki (fun x6 μ5 h => ?_))
    obtain ⟨o7, h⟩ := h
    refine zw_i2l (pc := 24) (by decide +kernel) o7 ?_
    refine zw_ldc2 (pc := 25) (v := 49) (by decide +kernel) zk_11_342 ?_
    refine zw_ldc2 (pc := 28) (v := 56) (by decide +kernel) zk_11_344 ?_
    refine zx_callS (pc := 31) (As := [.long (zL x6), .long (zL 49), .long (zL 56)]) h zi_X11_in zis_X11_in zl_11_114 (by decide +kernel) ⟨Nat.le_of_ble_eq_true rfl, Nat.le_of_ble_eq_true rfl⟩ rfl rfl ⟨rfl, rfl⟩ ⟨Nat.zero_le _, Nat.zero_le _⟩ (zki (fun x9 μ8 h => ?_))
    obtain ⟨o10, h⟩ := h
    refine zw_if_ne (pc := 34) (off := 5) (tgt := 39) (by decide +kernel) (by decide) o10 (fun hc => ?_) (fun hc => ?_)
    · replace h := h.1 hc
      obtain ⟨o11, h⟩ := h
      refine zw_aload_n (pc := 39) (n := 0) (i := 0) 0 (by decide +kernel) rfl rfl ?_
      refine zw_dup (pc := 40) (by decide +kernel) rfl ?_
      refine zx_getI (pc := 41) zf_11_285 (by decide +kernel) rfl zc_203 ?_
      refine zw_iconst (pc := 44) (n := 1) (by decide +kernel) ?_
      refine zw_iadd (pc := 45) (by decide +kernel) ?_
      refine zx_putI (pc := 46) zf_11_285 (by decide +kernel) rfl zc_203 ?_
      refine zw_aload_n (pc := 49) (n := 0) (i := 0) 0 (by decide +kernel) rfl rfl ?_
      refine zx_getR (pc := 50) (o := 20) (r := 223) zf_11_73 (by decide +kernel) rfl zc_203 rfl (by decide) rfl ?_
      refine zw_aload_n (pc := 53) (n := 0) (i := 0) 0 (by decide +kernel) rfl rfl ?_
      refine zx_getI (pc := 54) zf_11_285 (by decide +kernel) rfl zc_203 ?_
      refine zw_iconst (pc := 57) (n := 1) (by decide +kernel) ?_
      refine zw_isub (pc := 58) (by decide +kernel) ?_
      refine zx_iaload (pc := 59) (by decide +kernel) ⟨100, zc_223, o11.1, o11.2⟩ ?_
      refine zw_bipush (pc := 60) (n := 48) (by decide +kernel) (by decide +kernel) ?_
      refine zw_isub (pc := 62) (by decide +kernel) ?_
      exact zw_iret (pc := 63) (by decide +kernel) rfl (Nat.le_refl _) (Nat.le_refl _) ⟨_, _, rfl, rfl, h⟩
    · replace h := h.2 hc
      refine zw_iconst (pc := 37) (n := (-1)) (by decide +kernel) ?_
      exact zw_iret (pc := 38) (by decide +kernel) rfl (Nat.le_refl _) (Nat.le_refl _) ⟨_, _, rfl, rfl, h⟩
  · replace h := h.2 hc
    refine zw_iconst (pc := 8) (n := 0) (by decide +kernel) ?_
    exact zw_iret (pc := 9) (by decide +kernel) rfl (Nat.le_refl _) (Nat.le_refl _) ⟨_, _, rfl, rfl, h⟩
abbrev at_X11_write_20 (g : zG) (φ : Int → zMu → Prop) (v1 : Int) (μ : zMu) : Prop := zWP g zm_X11_write (zmo g zm_X11_write (zΦi φ)) 20 [(0, .ref 203), (1, .int (zJ v1))] [] 0 0 (zw μ)
abbrev at_X11_write_29 (g : zG) (φ : Int → zMu → Prop) (v1 : Int) (v2 : Int) (μ : zMu) : Prop := zWP g zm_X11_write (zmo g zm_X11_write (zΦi φ)) 29 [(0, .ref 203), (1, .int (zJ v1)), (2, .int (zJ v2))] [] 0 0 (zw μ)
theorem sg_X11_write {g : zG} {φ : Int → zMu → Prop} {μ : zMu}
    (h : (zR (μ 203 4)) ∧ ((¬ (μ 203 4) = 0 → at_X11_write_20 g φ ((zup μ 203 39 0) 203 4) (zup μ 203 39 0)) ∧ ((μ 203 4) = 0 → φ (-11) μ))) : zOi g zm_X11_write [.ref 203] μ φ := by
  refine zok_of (by decide +kernel) rfl ?_
  show zWP g zm_X11_write (zmo g zm_X11_write (zΦi φ)) 0 [(0, .ref 203)] [] 0 0 (zw μ)
  obtain ⟨o1, h⟩ := h
  refine zw_aload_n (pc := 0) (n := 0) (i := 0) 0 (by decide +kernel) rfl rfl ?_
  refine zx_getI (pc := 1) zf_11_128 (by decide +kernel) rfl zc_203 ?_
  refine zw_if_ne (pc := 4) (off := 6) (tgt := 10) (by decide +kernel) (by decide) o1 (fun hc => ?_) (fun hc => ?_)
  · replace h := h.1 hc
    refine zw_aload_n (pc := 10) (n := 0) (i := 0) 0 (by decide +kernel) rfl rfl ?_
    refine zw_iconst (pc := 11) (n := 0) (by decide +kernel) ?_
    refine zx_putI (pc := 12) zf_11_358 (by decide +kernel) rfl zc_203 ?_
    refine zw_aload_n (pc := 15) (n := 0) (i := 0) 0 (by decide +kernel) rfl rfl ?_
    refine zx_getI (pc := 16) zf_11_128 (by decide +kernel) rfl zc_203 ?_
    refine zw_istore_n (pc := 19) (n := 1) (i := 1) (lv' := [(0, .ref 203), (1, .int (zJ ((zup μ 203 39 0) 203 4)))]) (by decide +kernel) rfl (Nat.le_of_ble_eq_true rfl) rfl ?_
    exact h
  · replace h := h.2 hc
    refine zw_bipush (pc := 7) (n := (-11)) (by decide +kernel) (by decide +kernel) ?_
    exact zw_iret (pc := 9) (by decide +kernel) rfl (Nat.le_refl _) (Nat.le_refl _) ⟨_, _, rfl, rfl, h⟩
theorem sg_X11_write_20 {g : zG} {φ : Int → zMu → Prop} {v1 : Int} {μ : zMu}
    (h : (zR v1) ∧ ((v1 < 0 → (zR (μ 203 39)) ∧ ((¬ (μ 203 39) = 0 → φ (μ 203 39) μ) ∧ ((μ 203 39) = 0 → zOv g zm_X11_writes [.ref 203, .int (zJ 48)] μ (fun μ3 => φ (μ3 203 39) μ3)))) ∧ (0 ≤ v1 → at_X11_write_29 g φ v1 (μ 203 4) μ))) : at_X11_write_20 g φ v1 μ := by
  obtain ⟨o1, h⟩ := h
  refine zw_iload_n (pc := 20) (n := 1) (i := 1) 1 (by decide +kernel) rfl rfl ?_
  refine zw_if_lt (pc := 21) (off := 70) (tgt := 91) (by decide +kernel) (by decide) o1 (fun hc => ?_) (fun hc => ?_)
  · replace h := h.1 hc
    obtain ⟨o2, h⟩ := h
    refine zw_aload_n (pc := 91) (n := 0) (i := 0) 0 (by decide +kernel) rfl rfl ?_
    refine zx_getI (pc := 92) zf_11_358 (by decide +kernel) rfl zc_203 ?_
    refine zw_if_ne (pc := 95) (off := 9) (tgt := 104) (by decide +kernel) (by decide) o2 (fun hc => ?_) (fun hc => ?_)
    · replace h := h.1 hc
      refine zw_aload_n (pc := 104) (n := 0) (i := 0) 0 (by decide +kernel) rfl rfl ?_
      refine zx_getI (pc := 105) zf_11_358 (by decide +kernel) rfl zc_203 ?_
      exact zw_iret (pc := 108) (by decide +kernel) rfl (Nat.le_refl _) (Nat.le_refl _) ⟨_, _, rfl, rfl, h⟩
    · replace h := h.2 hc
      refine zw_aload_n (pc := 98) (n := 0) (i := 0) 0 (by decide +kernel) rfl rfl ?_
      refine zw_bipush (pc := 99) (n := 48) (by decide +kernel) (by decide +kernel) ?_
      refine zx_callV (pc := 101) (As := [.int (zJ 48)]) h zi_X11_writes zii_X11_writes zie_X11_writes zl_11_361 (by decide +kernel) ⟨Nat.le_of_ble_eq_true rfl, Nat.le_of_ble_eq_true rfl⟩ rfl zc_203 (by decide) rfl rfl ⟨rfl, rfl⟩ ⟨Nat.zero_le _, Nat.zero_le _⟩ (zkv (fun μ3 h => ?_))
      refine zw_aload_n (pc := 104) (n := 0) (i := 0) 0 (by decide +kernel) rfl rfl ?_
      refine zx_getI (pc := 105) zf_11_358 (by decide +kernel) rfl zc_203 ?_
      exact zw_iret (pc := 108) (by decide +kernel) rfl (Nat.le_refl _) (Nat.le_refl _) ⟨_, _, rfl, rfl, h⟩
  · replace h := h.2 hc
    refine zw_aload_n (pc := 24) (n := 0) (i := 0) 0 (by decide +kernel) rfl rfl ?_
    refine zx_getI (pc := 25) zf_11_128 (by decide +kernel) rfl zc_203 ?_
    refine zw_istore_n (pc := 28) (n := 2) (i := 2) (lv' := [(0, .ref 203), (1, .int (zJ v1)), (2, .int (zJ (μ 203 4)))]) (by decide +kernel) rfl (Nat.le_of_ble_eq_true rfl) rfl ?_
    exact h
theorem sg_X11_write_29 {g : zG} {φ : Int → zMu → Prop} {v1 : Int} {v2 : Int} {μ : zMu}
    (h : (zR v2) ∧ ((v2 < 0 → at_X11_write_20 g φ (v1 + (-1)) μ) ∧ (0 ≤ v2 → zOi g zm_X11_termAt [.ref 203, .int (zJ v1), .int (zJ v2)] μ (fun x3 μ2 => (zR x3) ∧ ((x3 = 0 → at_X11_write_29 g φ v1 (v2 + (-1)) μ2) ∧ (¬ x3 = 0 → (zR (μ2 203 39)) ∧ (((μ2 203 39) ≤ 0 → zOi g zm_X11_termAt [.ref 203, .int (zJ v1), .int (zJ v2)] μ2 (fun x7 μ6 => zOv g zm_X11_writesNumber [.ref 203, .int (zJ x7)] μ6 (fun μ8 => zOv g zm_X11_writesPower [.ref 203, .int (zJ 120), .int (zJ v1)] μ8 (fun μ9 => zOv g zm_X11_writesPower [.ref 203, .int (zJ 121), .int (zJ v2)] μ9 (fun μ10 => at_X11_write_29 g φ v1 (v2 + (-1)) μ10))))) ∧ (0 < (μ2 203 39) → zOv g zm_X11_writes [.ref 203, .int (zJ 43)] μ2 (fun μ11 => zOi g zm_X11_termAt [.ref 203, .int (zJ v1), .int (zJ v2)] μ11 (fun x13 μ12 => zOv g zm_X11_writesNumber [.ref 203, .int (zJ x13)] μ12 (fun μ14 => zOv g zm_X11_writesPower [.ref 203, .int (zJ 120), .int (zJ v1)] μ14 (fun μ15 => zOv g zm_X11_writesPower [.ref 203, .int (zJ 121), .int (zJ v2)] μ15 (fun μ16 => at_X11_write_29 g φ v1 (v2 + (-1)) μ16))))))))))))) : at_X11_write_29 g φ v1 v2 μ := by
  obtain ⟨o1, h⟩ := h
  refine zw_iload_n (pc := 29) (n := 2) (i := 2) 2 (by decide +kernel) rfl rfl ?_
  refine zw_if_lt (pc := 30) (off := 55) (tgt := 85) (by decide +kernel) (by decide) o1 (fun hc => ?_) (fun hc => ?_)
  · replace h := h.1 hc
    refine zw_iinc (pc := 85) (i := 1) (n := (-1)) (lv' := [(0, .ref 203), (1, .int (zJ (v1 + (-1)))), (2, .int (zJ v2))]) 1 (by decide +kernel) rfl rfl (Nat.le_of_ble_eq_true rfl) rfl ?_
    refine zw_goto (pc := 88) (off := (-68)) (tgt := 20) (by decide +kernel) (by decide) ?_
    exact zw_pick (lv' := [(0, .ref 203), (1, .int (zJ (v1 + (-1))))]) [0, 1] rfl h
  · replace h := h.2 hc
    refine zw_aload_n (pc := 33) (n := 0) (i := 0) 0 (by decide +kernel) rfl rfl ?_
    refine zw_iload_n (pc := 34) (n := 1) (i := 1) 1 (by decide +kernel) rfl rfl ?_
    refine zw_iload_n (pc := 35) (n := 2) (i := 2) 2 (by decide +kernel) rfl rfl ?_
    refine zx_callV (pc := 36) (As := [.int (zJ v1), .int (zJ v2)]) h zi_X11_termAt zii_X11_termAt zie_X11_termAt zl_11_240 (by decide +kernel) ⟨Nat.le_of_ble_eq_true rfl, Nat.le_of_ble_eq_true rfl⟩ rfl zc_203 (by decide) rfl rfl ⟨rfl, rfl⟩ ⟨Nat.zero_le _, Nat.zero_le _⟩ (zki (fun x3 μ2 h => ?_))
    obtain ⟨o4, h⟩ := h
    refine zw_if_eq (pc := 39) (off := 40) (tgt := 79) (by decide +kernel) (by decide) o4 (fun hc => ?_) (fun hc => ?_)
    · replace h := h.1 hc
      refine zw_iinc (pc := 79) (i := 2) (n := (-1)) (lv' := [(0, .ref 203), (1, .int (zJ v1)), (2, .int (zJ (v2 + (-1))))]) 2 (by decide +kernel) rfl rfl (Nat.le_of_ble_eq_true rfl) rfl ?_
      refine zw_goto (pc := 82) (off := (-53)) (tgt := 29) (by decide +kernel) (by decide) ?_
      exact h
    · replace h := h.2 hc
      obtain ⟨o5, h⟩ := h
      refine zw_aload_n (pc := 42) (n := 0) (i := 0) 0 (by decide +kernel) rfl rfl ?_
      refine zx_getI (pc := 43) zf_11_358 (by decide +kernel) rfl zc_203 ?_
      refine zw_if_le (pc := 46) (off := 9) (tgt := 55) (by decide +kernel) (by decide) o5 (fun hc => ?_) (fun hc => ?_)
      · replace h := h.1 hc
        refine zw_aload_n (pc := 55) (n := 0) (i := 0) 0 (by decide +kernel) rfl rfl ?_
        refine zw_aload_n (pc := 56) (n := 0) (i := 0) 0 (by decide +kernel) rfl rfl ?_
        refine zw_iload_n (pc := 57) (n := 1) (i := 1) 1 (by decide +kernel) rfl rfl ?_
        refine zw_iload_n (pc := 58) (n := 2) (i := 2) 2 (by decide +kernel) rfl rfl ?_
        refine zx_callV (pc := 59) (As := [.int (zJ v1), .int (zJ v2)]) h zi_X11_termAt zii_X11_termAt zie_X11_termAt zl_11_240 (by decide +kernel) ⟨Nat.le_of_ble_eq_true rfl, Nat.le_of_ble_eq_true rfl⟩ rfl zc_203 (by decide) rfl rfl ⟨rfl, rfl⟩ ⟨Nat.zero_le _, Nat.zero_le _⟩ (zki (fun x7 μ6 h => ?_))
        refine zx_callV (pc := 62) (As := [.int (zJ x7)]) h zi_X11_writesNumber zii_X11_writesNumber zie_X11_writesNumber zl_11_364 (by decide +kernel) ⟨Nat.le_of_ble_eq_true rfl, Nat.le_of_ble_eq_true rfl⟩ rfl zc_203 (by decide) rfl rfl ⟨rfl, rfl⟩ ⟨Nat.zero_le _, Nat.zero_le _⟩ (zkv (fun μ8 h => ?_))
        refine zw_aload_n (pc := 65) (n := 0) (i := 0) 0 (by decide +kernel) rfl rfl ?_
        refine zw_bipush (pc := 66) (n := 120) (by decide +kernel) (by decide +kernel) ?_
        refine zw_iload_n (pc := 68) (n := 1) (i := 1) 1 (by decide +kernel) rfl rfl ?_
        refine zx_callV (pc := 69) (As := [.int (zJ 120), .int (zJ v1)]) h zi_X11_writesPower zii_X11_writesPower zie_X11_writesPower zl_11_367 (by decide +kernel) ⟨Nat.le_of_ble_eq_true rfl, Nat.le_of_ble_eq_true rfl⟩ rfl zc_203 (by decide) rfl rfl ⟨rfl, rfl⟩ ⟨Nat.zero_le _, Nat.zero_le _⟩ (zkv (fun μ9 h => ?_))
        refine zw_aload_n (pc := 72) (n := 0) (i := 0) 0 (by decide +kernel) rfl rfl ?_
        refine zw_bipush (pc := 73) (n := 121) (by decide +kernel) (by decide +kernel) ?_
        refine zw_iload_n (pc := 75) (n := 2) (i := 2) 2 (by decide +kernel) rfl rfl ?_
        refine zx_callV (pc := 76) (As := [.int (zJ 121), .int (zJ v2)]) h zi_X11_writesPower zii_X11_writesPower zie_X11_writesPower zl_11_367 (by decide +kernel) ⟨Nat.le_of_ble_eq_true rfl, Nat.le_of_ble_eq_true rfl⟩ rfl zc_203 (by decide) rfl rfl ⟨rfl, rfl⟩ ⟨Nat.zero_le _, Nat.zero_le _⟩ (zkv (fun μ10 h => ?_))
        refine zw_iinc (pc := 79) (i := 2) (n := (-1)) (lv' := [(0, .ref 203), (1, .int (zJ v1)), (2, .int (zJ (v2 + (-1))))]) 2 (by decide +kernel) rfl rfl (Nat.le_of_ble_eq_true rfl) rfl ?_
        refine zw_goto (pc := 82) (off := (-53)) (tgt := 29) (by decide +kernel) (by decide) ?_
        exact h
      · replace h := h.2 hc
        refine zw_aload_n (pc := 49) (n := 0) (i := 0) 0 (by decide +kernel) rfl rfl ?_
        refine zw_bipush (pc := 50) (n := 43) (by decide +kernel) (by decide +kernel) ?_
        refine zx_callV (pc := 52) (As := [.int (zJ 43)]) h zi_X11_writes zii_X11_writes zie_X11_writes zl_11_361 (by decide +kernel) ⟨Nat.le_of_ble_eq_true rfl, Nat.le_of_ble_eq_true rfl⟩ rfl zc_203 (by decide) rfl rfl ⟨rfl, rfl⟩ ⟨Nat.zero_le _, Nat.zero_le _⟩ (zkv (fun μ11 h => ?_))
        refine zw_aload_n (pc := 55) (n := 0) (i := 0) 0 (by decide +kernel) rfl rfl ?_
        refine zw_aload_n (pc := 56) (n := 0) (i := 0) 0 (by decide +kernel) rfl rfl ?_
        refine zw_iload_n (pc := 57) (n := 1) (i := 1) 1 (by decide +kernel) rfl rfl ?_
        refine zw_iload_n (pc := 58) (n := 2) (i := 2) 2 (by decide +kernel) rfl rfl ?_
        refine zx_callV (pc := 59) (As := [.int (zJ v1), .int (zJ v2)]) h zi_X11_termAt zii_X11_termAt zie_X11_termAt zl_11_240 (by decide +kernel) ⟨Nat.le_of_ble_eq_true rfl, Nat.le_of_ble_eq_true rfl⟩ rfl zc_203 (by decide) rfl rfl ⟨rfl, rfl⟩ ⟨Nat.zero_le _, Nat.zero_le _⟩ (zki (fun x13 μ12 h => ?_))
        refine zx_callV (pc := 62) (As := [.int (zJ x13)]) h zi_X11_writesNumber zii_X11_writesNumber zie_X11_writesNumber zl_11_364 (by decide +kernel) ⟨Nat.le_of_ble_eq_true rfl, Nat.le_of_ble_eq_true rfl⟩ rfl zc_203 (by decide) rfl rfl ⟨rfl, rfl⟩ ⟨Nat.zero_le _, Nat.zero_le _⟩ (zkv (fun μ14 h => ?_))
        refine zw_aload_n (pc := 65) (n := 0) (i := 0) 0 (by decide +kernel) rfl rfl ?_
        refine zw_bipush (pc := 66) (n := 120) (by decide +kernel) (by decide +kernel) ?_
        refine zw_iload_n (pc := 68) (n := 1) (i := 1) 1 (by decide +kernel) rfl rfl ?_
        refine zx_callV (pc := 69) (As := [.int (zJ 120), .int (zJ v1)]) h zi_X11_writesPower zii_X11_writesPower zie_X11_writesPower zl_11_367 (by decide +kernel) ⟨Nat.le_of_ble_eq_true rfl, Nat.le_of_ble_eq_true rfl⟩ rfl zc_203 (by decide) rfl rfl ⟨rfl, rfl⟩ ⟨Nat.zero_le _, Nat.zero_le _⟩ (zkv (fun μ15 h => ?_))
        refine zw_aload_n (pc := 72) (n := 0) (i := 0) 0 (by decide +kernel) rfl rfl ?_
        refine zw_bipush (pc := 73) (n := 121) (by decide +kernel) (by decide +kernel) ?_
        refine zw_iload_n (pc := 75) (n := 2) (i := 2) 2 (by decide +kernel) rfl rfl ?_
        refine zx_callV (pc := 76) (As := [.int (zJ 121), .int (zJ v2)]) h zi_X11_writesPower zii_X11_writesPower zie_X11_writesPower zl_11_367 (by decide +kernel) ⟨Nat.le_of_ble_eq_true rfl, Nat.le_of_ble_eq_true rfl⟩ rfl zc_203 (by decide) rfl rfl ⟨rfl, rfl⟩ ⟨Nat.zero_le _, Nat.zero_le _⟩ (zkv (fun μ16 h => ?_))
        refine zw_iinc (pc := 79) (i := 2) (n := (-1)) (lv' := [(0, .ref 203), (1, .int (zJ v1)), (2, .int (zJ (v2 + (-1))))]) 2 (by decide +kernel) rfl rfl (Nat.le_of_ble_eq_true rfl) rfl ?_
        refine zw_goto (pc := 82) (off := (-53)) (tgt := 29) (by decide +kernel) (by decide) ?_
        exact h
theorem sg_X11_writes {g : zG} {φ : zMu → Prop} {v1 : Int} {μ : zMu}
    (h : (0 ≤ (μ 203 39) ∧ (μ 203 39) < 729) ∧ φ (zup (zup μ 228 (Int.toNat (μ 203 39)) v1) 203 39 (((zup μ 228 (Int.toNat (μ 203 39)) v1) 203 39) + 1))) : zOv g zm_X11_writes [.ref 203, .int (zJ v1)] μ φ := by
  refine zok_of (by decide +kernel) rfl ?_
  show zWP g zm_X11_writes (zmo g zm_X11_writes (zΦv φ)) 0 [(0, .ref 203), (1, .int (zJ v1))] [] 0 0 (zw μ)
  obtain ⟨o1, h⟩ := h
  refine zw_aload_n (pc := 0) (n := 0) (i := 0) 0 (by decide +kernel) rfl rfl ?_
  refine zx_getR (pc := 1) (o := 25) (r := 228) zf_11_88 (by decide +kernel) rfl zc_203 rfl (by decide) rfl ?_
  refine zw_aload_n (pc := 4) (n := 0) (i := 0) 0 (by decide +kernel) rfl rfl ?_
  refine zx_getI (pc := 5) zf_11_358 (by decide +kernel) rfl zc_203 ?_
  refine zw_iload_n (pc := 8) (n := 1) (i := 1) 1 (by decide +kernel) rfl rfl ?_
  refine zx_iastore (pc := 9) (by decide +kernel) ⟨729, zc_228, o1.1, o1.2⟩ ?_
  refine zw_aload_n (pc := 10) (n := 0) (i := 0) 0 (by decide +kernel) rfl rfl ?_
  refine zw_dup (pc := 11) (by decide +kernel) rfl ?_
  refine zx_getI (pc := 12) zf_11_358 (by decide +kernel) rfl zc_203 ?_
  refine zw_iconst (pc := 15) (n := 1) (by decide +kernel) ?_
  refine zw_iadd (pc := 16) (by decide +kernel) ?_
  refine zx_putI (pc := 17) zf_11_358 (by decide +kernel) rfl zc_203 ?_
  exact zw_vret (pc := 20) (by decide +kernel) rfl (Nat.le_refl _) (Nat.le_refl _) ⟨_, rfl, rfl, h⟩
theorem sg_X11_writesNumber {g : zG} {φ : zMu → Prop} {v1 : Int} {μ : zMu}
    (h : (zR v1) ∧ ((v1 ≤ 99 → ((v1 ≤ 9 → zOv g zm_X11_writes [.ref 203, .int (zJ (48 + (v1.tmod 10)))] μ (fun μ2 => φ μ2)) ∧ (9 < v1 → (zR (v1.tdiv 10)) ∧ zOv g zm_X11_writes [.ref 203, .int (zJ (48 + ((v1.tdiv 10).tmod 10)))] μ (fun μ4 => zOv g zm_X11_writes [.ref 203, .int (zJ (48 + (v1.tmod 10)))] μ4 (fun μ5 => φ μ5))))) ∧ (99 < v1 → zOv g zm_X11_writes [.ref 203, .int (zJ (48 + (v1.tdiv 100)))] μ (fun μ6 => ((v1 ≤ 9 → zOv g zm_X11_writes [.ref 203, .int (zJ (48 + (v1.tmod 10)))] μ6 (fun μ7 => φ μ7)) ∧ (9 < v1 → (zR (v1.tdiv 10)) ∧ zOv g zm_X11_writes [.ref 203, .int (zJ (48 + ((v1.tdiv 10).tmod 10)))] μ6 (fun μ9 => zOv g zm_X11_writes [.ref 203, .int (zJ (48 + (v1.tmod 10)))] μ9 (fun μ10 => φ μ10)))))))) : zOv g zm_X11_writesNumber [.ref 203, .int (zJ v1)] μ φ := by
  refine zok_of (by decide +kernel) rfl ?_
  show zWP g zm_X11_writesNumber (zmo g zm_X11_writesNumber (zΦv φ)) 0 [(0, .ref 203), (1, .int (zJ v1))] [] 0 0 (zw μ)
  obtain ⟨o1, h⟩ := h
  refine zw_iload_n (pc := 0) (n := 1) (i := 1) 1 (by decide +kernel) rfl rfl ?_
  refine zw_bipush (pc := 1) (n := 99) (by decide +kernel) (by decide +kernel) ?_
  refine zw_icmp_le (pc := 3) (off := 14) (tgt := 17) (by decide +kernel) (by decide) o1 ⟨by decide, by decide⟩ (fun hc => ?_) (fun hc => ?_)
  · replace h := h.1 hc
    refine zw_iload_n (pc := 17) (n := 1) (i := 1) 1 (by decide +kernel) rfl rfl ?_
    refine zw_bipush (pc := 18) (n := 9) (by decide +kernel) (by decide +kernel) ?_
    refine zw_icmp_le (pc := 20) (off := 17) (tgt := 37) (by decide +kernel) (by decide) o1 ⟨by decide, by decide⟩ (fun hc => ?_) (fun hc => ?_)
    · replace h := h.1 hc
      refine zw_aload_n (pc := 37) (n := 0) (i := 0) 0 (by decide +kernel) rfl rfl ?_
      refine zw_bipush (pc := 38) (n := 48) (by decide +kernel) (by decide +kernel) ?_
      refine zw_iload_n (pc := 40) (n := 1) (i := 1) 1 (by decide +kernel) rfl rfl ?_
      refine zw_bipush (pc := 41) (n := 10) (by decide +kernel) (by decide +kernel) ?_
      refine zw_irem (pc := 43) (by decide +kernel) o1 ⟨by decide, by decide⟩ (by decide) ?_
      refine zw_iadd (pc := 44) (by decide +kernel) ?_
      refine zx_callV (pc := 45) (As := [.int (zJ (48 + (v1.tmod 10)))]) h zi_X11_writes zii_X11_writes zie_X11_writes zl_11_361 (by decide +kernel) ⟨Nat.le_of_ble_eq_true rfl, Nat.le_of_ble_eq_true rfl⟩ rfl zc_203 (by decide) rfl rfl ⟨rfl, rfl⟩ ⟨Nat.zero_le _, Nat.zero_le _⟩ (zkv (fun μ2 h => ?_))
      exact zw_vret (pc := 48) (by decide +kernel) rfl (Nat.le_refl _) (Nat.le_refl _) ⟨_, rfl, rfl, h⟩
    · replace h := h.2 hc
      obtain ⟨o3, h⟩ := h
      refine zw_aload_n (pc := 23) (n := 0) (i := 0) 0 (by decide +kernel) rfl rfl ?_
      refine zw_bipush (pc := 24) (n := 48) (by decide +kernel) (by decide +kernel) ?_
      refine zw_iload_n (pc := 26) (n := 1) (i := 1) 1 (by decide +kernel) rfl rfl ?_
      refine zw_bipush (pc := 27) (n := 10) (by decide +kernel) (by decide +kernel) ?_
      refine zw_idiv (pc := 29) (by decide +kernel) o1 ⟨by decide, by decide⟩ (by decide) ?_
      refine zw_bipush (pc := 30) (n := 10) (by decide +kernel) (by decide +kernel) ?_
      refine zw_irem (pc := 32) (by decide +kernel) o3 ⟨by decide, by decide⟩ (by decide) ?_
      refine zw_iadd (pc := 33) (by decide +kernel) ?_
      refine zx_callV (pc := 34) (As := [.int (zJ (48 + ((v1.tdiv 10).tmod 10)))]) h zi_X11_writes zii_X11_writes zie_X11_writes zl_11_361 (by decide +kernel) ⟨Nat.le_of_ble_eq_true rfl, Nat.le_of_ble_eq_true rfl⟩ rfl zc_203 (by decide) rfl rfl ⟨rfl, rfl⟩ ⟨Nat.zero_le _, Nat.zero_le _⟩ (zkv (fun μ4 h => ?_))
      refine zw_aload_n (pc := 37) (n := 0) (i := 0) 0 (by decide +kernel) rfl rfl ?_
      refine zw_bipush (pc := 38) (n := 48) (by decide +kernel) (by decide +kernel) ?_
      refine zw_iload_n (pc := 40) (n := 1) (i := 1) 1 (by decide +kernel) rfl rfl ?_
      refine zw_bipush (pc := 41) (n := 10) (by decide +kernel) (by decide +kernel) ?_
      refine zw_irem (pc := 43) (by decide +kernel) o1 ⟨by decide, by decide⟩ (by decide) ?_
      refine zw_iadd (pc := 44) (by decide +kernel) ?_
      refine zx_callV (pc := 45) (As := [.int (zJ (48 + (v1.tmod 10)))]) h zi_X11_writes zii_X11_writes zie_X11_writes zl_11_361 (by decide +kernel) ⟨Nat.le_of_ble_eq_true rfl, Nat.le_of_ble_eq_true rfl⟩ rfl zc_203 (by decide) rfl rfl ⟨rfl, rfl⟩ ⟨Nat.zero_le _, Nat.zero_le _⟩ (zkv (fun μ5 h => ?_))
      exact zw_vret (pc := 48) (by decide +kernel) rfl (Nat.le_refl _) (Nat.le_refl _) ⟨_, rfl, rfl, h⟩
  · replace h := h.2 hc
    refine zw_aload_n (pc := 6) (n := 0) (i := 0) 0 (by decide +kernel) rfl rfl ?_
    refine zw_bipush (pc := 7) (n := 48) (by decide +kernel) (by decide +kernel) ?_
    refine zw_iload_n (pc := 9) (n := 1) (i := 1) 1 (by decide +kernel) rfl rfl ?_
    refine zw_bipush (pc := 10) (n := 100) (by decide +kernel) (by decide +kernel) ?_
    refine zw_idiv (pc := 12) (by decide +kernel) o1 ⟨by decide, by decide⟩ (by decide) ?_
    refine zw_iadd (pc := 13) (by decide +kernel) ?_
    refine zx_callV (pc := 14) (As := [.int (zJ (48 + (v1.tdiv 100)))]) h zi_X11_writes zii_X11_writes zie_X11_writes zl_11_361 (by decide +kernel) ⟨Nat.le_of_ble_eq_true rfl, Nat.le_of_ble_eq_true rfl⟩ rfl zc_203 (by decide) rfl rfl ⟨rfl, rfl⟩ ⟨Nat.zero_le _, Nat.zero_le _⟩ (zkv (fun μ6 h => ?_))
    refine zw_iload_n (pc := 17) (n := 1) (i := 1) 1 (by decide +kernel) rfl rfl ?_
    refine zw_bipush (pc := 18) (n := 9) (by decide +kernel) (by decide +kernel) ?_
    refine zw_icmp_le (pc := 20) (off := 17) (tgt := 37) (by decide +kernel) (by decide) o1 ⟨by decide, by decide⟩ (fun hc => ?_) (fun hc => ?_)
    · replace h := h.1 hc
      refine zw_aload_n (pc := 37) (n := 0) (i := 0) 0 (by decide +kernel) rfl rfl ?_
      refine zw_bipush (pc := 38) (n := 48) (by decide +kernel) (by decide +kernel) ?_
      refine zw_iload_n (pc := 40) (n := 1) (i := 1) 1 (by decide +kernel) rfl rfl ?_
      refine zw_bipush (pc := 41) (n := 10) (by decide +kernel) (by decide +kernel) ?_
      refine zw_irem (pc := 43) (by decide +kernel) o1 ⟨by decide, by decide⟩ (by decide) ?_
      refine zw_iadd (pc := 44) (by decide +kernel) ?_
      refine zx_callV (pc := 45) (As := [.int (zJ (48 + (v1.tmod 10)))]) h zi_X11_writes zii_X11_writes zie_X11_writes zl_11_361 (by decide +kernel) ⟨Nat.le_of_ble_eq_true rfl, Nat.le_of_ble_eq_true rfl⟩ rfl zc_203 (by decide) rfl rfl ⟨rfl, rfl⟩ ⟨Nat.zero_le _, Nat.zero_le _⟩ (zkv (fun μ7 h => ?_))
      exact zw_vret (pc := 48) (by decide +kernel) rfl (Nat.le_refl _) (Nat.le_refl _) ⟨_, rfl, rfl, h⟩
    · replace h := h.2 hc
      obtain ⟨o8, h⟩ := h
      refine zw_aload_n (pc := 23) (n := 0) (i := 0) 0 (by decide +kernel) rfl rfl ?_
      refine zw_bipush (pc := 24) (n := 48) (by decide +kernel) (by decide +kernel) ?_
      refine zw_iload_n (pc := 26) (n := 1) (i := 1) 1 (by decide +kernel) rfl rfl ?_
      refine zw_bipush (pc := 27) (n := 10) (by decide +kernel) (by decide +kernel) ?_
      refine zw_idiv (pc := 29) (by decide +kernel) o1 ⟨by decide, by decide⟩ (by decide) ?_
      refine zw_bipush (pc := 30) (n := 10) (by decide +kernel) (by decide +kernel) ?_
      refine zw_irem (pc := 32) (by decide +kernel) o8 ⟨by decide, by decide⟩ (by decide) ?_
      refine zw_iadd (pc := 33) (by decide +kernel) ?_
      refine zx_callV (pc := 34) (As := [.int (zJ (48 + ((v1.tdiv 10).tmod 10)))]) h zi_X11_writes zii_X11_writes zie_X11_writes zl_11_361 (by decide +kernel) ⟨Nat.le_of_ble_eq_true rfl, Nat.le_of_ble_eq_true rfl⟩ rfl zc_203 (by decide) rfl rfl ⟨rfl, rfl⟩ ⟨Nat.zero_le _, Nat.zero_le _⟩ (zkv (fun μ9 h => ?_))
      refine zw_aload_n (pc := 37) (n := 0) (i := 0) 0 (by decide +kernel) rfl rfl ?_
      refine zw_bipush (pc := 38) (n := 48) (by decide +kernel) (by decide +kernel) ?_
      refine zw_iload_n (pc := 40) (n := 1) (i := 1) 1 (by decide +kernel) rfl rfl ?_
      refine zw_bipush (pc := 41) (n := 10) (by decide +kernel) (by decide +kernel) ?_
      refine zw_irem (pc := 43) (by decide +kernel) o1 ⟨by decide, by decide⟩ (by decide) ?_
      refine zw_iadd (pc := 44) (by decide +kernel) ?_
      refine zx_callV (pc := 45) (As := [.int (zJ (48 + (v1.tmod 10)))]) h zi_X11_writes zii_X11_writes zie_X11_writes zl_11_361 (by decide +kernel) ⟨Nat.le_of_ble_eq_true rfl, Nat.le_of_ble_eq_true rfl⟩ rfl zc_203 (by decide) rfl rfl ⟨rfl, rfl⟩ ⟨Nat.zero_le _, Nat.zero_le _⟩ (zkv (fun μ10 h => ?_))
      exact zw_vret (pc := 48) (by decide +kernel) rfl (Nat.le_refl _) (Nat.le_refl _) ⟨_, rfl, rfl, h⟩
theorem sg_X11_writesPower {g : zG} {φ : zMu → Prop} {v1 : Int} {v2 : Int} {μ : zMu}
    (h : (zR v2) ∧ ((v2 ≤ 0 → φ μ) ∧ (0 < v2 → zOv g zm_X11_writes [.ref 203, .int (zJ v1)] μ (fun μ2 => zOv g zm_X11_writes [.ref 203, .int (zJ (48 + v2))] μ2 (fun μ3 => φ μ3))))) : zOv g zm_X11_writesPower [.ref 203, .int (zJ v1), .int (zJ v2)] μ φ := by
  refine zok_of (by decide +kernel) rfl ?_
  show zWP g zm_X11_writesPower (zmo g zm_X11_writesPower (zΦv φ)) 0 [(0, .ref 203), (1, .int (zJ v1)), (2, .int (zJ v2))] [] 0 0 (zw μ)
  obtain ⟨o1, h⟩ := h
  refine zw_iload_n (pc := 0) (n := 2) (i := 2) 2 (by decide +kernel) rfl rfl ?_
  refine zw_if_le (pc := 1) (off := 16) (tgt := 17) (by decide +kernel) (by decide) o1 (fun hc => ?_) (fun hc => ?_)
  · replace h := h.1 hc
    exact zw_vret (pc := 17) (by decide +kernel) rfl (Nat.le_refl _) (Nat.le_refl _) ⟨_, rfl, rfl, h⟩
  · replace h := h.2 hc
    refine zw_aload_n (pc := 4) (n := 0) (i := 0) 0 (by decide +kernel) rfl rfl ?_
    refine zw_iload_n (pc := 5) (n := 1) (i := 1) 1 (by decide +kernel) rfl rfl ?_
    refine zx_callV (pc := 6) (As := [.int (zJ v1)]) h zi_X11_writes zii_X11_writes zie_X11_writes zl_11_361 (by decide +kernel) ⟨Nat.le_of_ble_eq_true rfl, Nat.le_of_ble_eq_true rfl⟩ rfl zc_203 (by decide) rfl rfl ⟨rfl, rfl⟩ ⟨Nat.zero_le _, Nat.zero_le _⟩ (zkv (fun μ2 h => ?_))
    refine zw_aload_n (pc := 9) (n := 0) (i := 0) 0 (by decide +kernel) rfl rfl ?_
    refine zw_bipush (pc := 10) (n := 48) (by decide +kernel) (by decide +kernel) ?_
    refine zw_iload_n (pc := 12) (n := 2) (i := 2) 2 (by decide +kernel) rfl rfl ?_
    refine zw_iadd (pc := 13) (by decide +kernel) ?_
    refine zx_callV (pc := 14) (As := [.int (zJ (48 + v2))]) h zi_X11_writes zii_X11_writes zie_X11_writes zl_11_361 (by decide +kernel) ⟨Nat.le_of_ble_eq_true rfl, Nat.le_of_ble_eq_true rfl⟩ rfl zc_203 (by decide) rfl rfl ⟨rfl, rfl⟩ ⟨Nat.zero_le _, Nat.zero_le _⟩ (zkv (fun μ3 h => ?_))
    exact zw_vret (pc := 17) (by decide +kernel) rfl (Nat.le_refl _) (Nat.le_refl _) ⟨_, rfl, rfl, h⟩
theorem sg_X11_paper {g : zG} {φ : Int → zMu → Prop} {v1 : Int} {μ : zMu}
    (h : (zR v1) ∧ (zR ((μ 203 39) - 1)) ∧ zOi g zm_X11_in [.long (zL v1), .long (zL 0), .long (zL ((μ 203 39) - 1))] μ (fun x4 μ3 => (zR x4) ∧ ((x4 = 0 → φ (-1) μ3) ∧ (¬ x4 = 0 → (0 ≤ v1 ∧ v1 < 729) ∧ φ (μ3 228 v1.toNat) μ3)))) : zOi g zm_X11_paper [.ref 203, .int (zJ v1)] μ φ := by
  refine zok_of (by decide +kernel) rfl ?_
  show zWP g zm_X11_paper (zmo g zm_X11_paper (zΦi φ)) 0 [(0, .ref 203), (1, .int (zJ v1))] [] 0 0 (zw μ)
  obtain ⟨o1, o2, h⟩ := h
  refine zw_iload_n (pc := 0) (n := 1) (i := 1) 1 (by decide +kernel) rfl rfl ?_
  refine zw_i2l (pc := 1) (by decide +kernel) o1 ?_
  refine zw_lconst (pc := 2) (n := 0) (v := 0) (by decide +kernel) rfl ?_
  refine zw_aload_n (pc := 3) (n := 0) (i := 0) 0 (by decide +kernel) rfl rfl ?_
  refine zx_getI (pc := 4) zf_11_358 (by decide +kernel) rfl zc_203 ?_
  refine zw_iconst (pc := 7) (n := 1) (by decide +kernel) ?_
  refine zw_isub (pc := 8) (by decide +kernel) ?_
  refine zw_i2l (pc := 9) (by decide +kernel) o2 ?_
  refine zx_callS (pc := 10) (As := [.long (zL v1), .long (zL 0), .long (zL ((μ 203 39) - 1))]) h zi_X11_in zis_X11_in zl_11_114 (by decide +kernel) ⟨Nat.le_of_ble_eq_true rfl, Nat.le_of_ble_eq_true rfl⟩ rfl rfl ⟨rfl, rfl⟩ ⟨Nat.zero_le _, Nat.zero_le _⟩ (zki (fun x4 μ3 h => ?_))
  obtain ⟨o5, h⟩ := h
  refine zw_if_eq (pc := 13) (off := 12) (tgt := 25) (by decide +kernel) (by decide) o5 (fun hc => ?_) (fun hc => ?_)
  · replace h := h.1 hc
    refine zw_iconst (pc := 25) (n := (-1)) (by decide +kernel) ?_
    exact zw_iret (pc := 26) (by decide +kernel) rfl (Nat.le_refl _) (Nat.le_refl _) ⟨_, _, rfl, rfl, h⟩
  · replace h := h.2 hc
    obtain ⟨o6, h⟩ := h
    refine zw_aload_n (pc := 16) (n := 0) (i := 0) 0 (by decide +kernel) rfl rfl ?_
    refine zx_getR (pc := 17) (o := 25) (r := 228) zf_11_88 (by decide +kernel) rfl zc_203 rfl (by decide) rfl ?_
    refine zw_iload_n (pc := 20) (n := 1) (i := 1) 1 (by decide +kernel) rfl rfl ?_
    refine zx_iaload (pc := 21) (by decide +kernel) ⟨729, zc_228, o6.1, o6.2⟩ ?_
    refine zw_goto (pc := 22) (off := 4) (tgt := 26) (by decide +kernel) (by decide) ?_
    exact zw_iret (pc := 26) (by decide +kernel) rfl (Nat.le_refl _) (Nat.le_refl _) ⟨_, _, rfl, rfl, h⟩
abbrev at_X11_tell_68 (g : zG) (φ : Int → zMu → Prop) (v1 : Int) (v2 : Int) (v4 : Int) (μ : zMu) : Prop := zWP g zm_X11_tell (zmo g zm_X11_tell (zΦi φ)) 68 [(0, .ref 203), (1, .int (zJ v1)), (2, .int (zJ v2)), (4, .int (zJ v4))] [] 0 0 (zw μ)
theorem sg_X11_tell {g : zG} {φ : Int → zMu → Prop} {v1 : Int} {v2 : Int} {v3 : Int} {μ : zMu}
    (h : zOi g zm_X11_isSeries [.int (zJ v1)] μ (fun x2 μ1 => (zR x2) ∧ ((x2 = 0 → φ (-1) μ1) ∧ (¬ x2 = 0 → zOi g zm_X11_isList [.int (zJ v2)] μ1 (fun x5 μ4 => (zR x5) ∧ ((¬ x5 = 0 → zOi g zm_X11_isStart [.int (zJ v3)] μ4 (fun x8 μ7 => (zR x8) ∧ ((¬ x8 = 0 → (0 ≤ v2 ∧ v2 < 4) ∧ (zR (μ7 229 v2.toNat)) ∧ ((0 ≤ (μ7 229 v2.toNat) → ((¬ (μ7 229 v2.toNat) = 0 → at_X11_tell_68 g φ v1 v2 0 (zup (zup μ7 203 7 v3) 203 8 ((zup μ7 203 7 v3) 229 v2.toNat))) ∧ ((μ7 229 v2.toNat) = 0 → φ (-3) μ7))) ∧ ((μ7 229 v2.toNat) < 0 → φ (-11) μ7))) ∧ (x8 = 0 → φ (-2) μ7)))) ∧ (x5 = 0 → φ (-1) μ4))))))) : zOi g zm_X11_tell [.ref 203, .int (zJ v1), .int (zJ v2), .int (zJ v3)] μ φ := by
  refine zok_of (by decide +kernel) rfl ?_
  show zWP g zm_X11_tell (zmo g zm_X11_tell (zΦi φ)) 0 [(0, .ref 203), (1, .int (zJ v1)), (2, .int (zJ v2)), (3, .int (zJ v3))] [] 0 0 (zw μ)
  refine zw_iload_n (pc := 0) (n := 1) (i := 1) 1 (by decide +kernel) rfl rfl ?_
  refine zx_callS (pc := 1) (As := [.int (zJ v1)]) h zi_X11_isSeries zis_X11_isSeries zl_11_141 (by decide +kernel) ⟨Nat.le_of_ble_eq_true rfl, Nat.le_of_ble_eq_true rfl⟩ rfl rfl ⟨rfl, rfl⟩ ⟨Nat.zero_le _, Nat.zero_le _⟩ (zki (fun x2 μ1 h => ?_))
  obtain ⟨o3, h⟩ := h
  refine zw_if_eq (pc := 4) (off := 10) (tgt := 14) (by decide +kernel) (by decide) o3 (fun hc => ?_) (fun hc => ?_)
  · replace h := h.1 hc
    refine zw_iconst (pc := 14) (n := (-1)) (by decide +kernel) ?_
    exact zw_iret (pc := 15) (by decide +kernel) rfl (Nat.le_refl _) (Nat.le_refl _) ⟨_, _, rfl, rfl, h⟩
  · replace h := h.2 hc
    refine zw_iload_n (pc := 7) (n := 2) (i := 2) 2 (by decide +kernel) rfl rfl ?_
    refine zx_callS (pc := 8) (As := [.int (zJ v2)]) h zi_X11_isList zis_X11_isList zl_11_371 (by decide +kernel) ⟨Nat.le_of_ble_eq_true rfl, Nat.le_of_ble_eq_true rfl⟩ rfl rfl ⟨rfl, rfl⟩ ⟨Nat.zero_le _, Nat.zero_le _⟩ (zki (fun x5 μ4 h => ?_))
    obtain ⟨o6, h⟩ := h
    refine zw_if_ne (pc := 11) (off := 5) (tgt := 16) (by decide +kernel) (by decide) o6 (fun hc => ?_) (fun hc => ?_)
    · replace h := h.1 hc
      refine zw_iload_n (pc := 16) (n := 3) (i := 3) 3 (by decide +kernel) rfl rfl ?_
      refine zx_callS (pc := 17) (As := [.int (zJ v3)]) h zi_X11_isStart zis_X11_isStart zl_11_178 (by decide +kernel) ⟨Nat.le_of_ble_eq_true rfl, Nat.le_of_ble_eq_true rfl⟩ rfl rfl ⟨rfl, rfl⟩ ⟨Nat.zero_le _, Nat.zero_le _⟩ (zki (fun x8 μ7 h => ?_))
      obtain ⟨o9, h⟩ := h
      refine zw_if_ne (pc := 20) (off := 6) (tgt := 26) (by decide +kernel) (by decide) o9 (fun hc => ?_) (fun hc => ?_)
      · replace h := h.1 hc
        obtain ⟨o10, o11, h⟩ := h
        refine zw_aload_n (pc := 26) (n := 0) (i := 0) 0 (by decide +kernel) rfl rfl ?_
        refine zx_getR (pc := 27) (o := 26) (r := 229) zf_11_91 (by decide +kernel) rfl zc_203 rfl (by decide) rfl ?_
        refine zw_iload_n (pc := 30) (n := 2) (i := 2) 2 (by decide +kernel) rfl rfl ?_
        refine zx_iaload (pc := 31) (by decide +kernel) ⟨4, zc_229, o10.1, o10.2⟩ ?_
        refine zw_if_ge (pc := 32) (off := 6) (tgt := 38) (by decide +kernel) (by decide) o11 (fun hc => ?_) (fun hc => ?_)
        · replace h := h.1 hc
          refine zw_aload_n (pc := 38) (n := 0) (i := 0) 0 (by decide +kernel) rfl rfl ?_
          refine zx_getR (pc := 39) (o := 26) (r := 229) zf_11_91 (by decide +kernel) rfl zc_203 rfl (by decide) rfl ?_
          refine zw_iload_n (pc := 42) (n := 2) (i := 2) 2 (by decide +kernel) rfl rfl ?_
          refine zx_iaload (pc := 43) (by decide +kernel) ⟨4, zc_229, o10.1, o10.2⟩ ?_
          refine zw_if_ne (pc := 44) (off := 6) (tgt := 50) (by decide +kernel) (by decide) o11 (fun hc => ?_) (fun hc => ?_)
          · replace h := h.1 hc
            refine zw_aload_n (pc := 50) (n := 0) (i := 0) 0 (by decide +kernel) rfl rfl ?_
            refine zw_iload_n (pc := 51) (n := 3) (i := 3) 3 (by decide +kernel) rfl rfl ?_
            refine zx_putI (pc := 52) zf_11_131 (by decide +kernel) rfl zc_203 ?_
            refine zw_aload_n (pc := 55) (n := 0) (i := 0) 0 (by decide +kernel) rfl rfl ?_
            refine zw_aload_n (pc := 56) (n := 0) (i := 0) 0 (by decide +kernel) rfl rfl ?_
            refine zx_getR (pc := 57) (o := 26) (r := 229) zf_11_91 (by decide +kernel) rfl zc_203 rfl (by decide) rfl ?_
            refine zw_iload_n (pc := 60) (n := 2) (i := 2) 2 (by decide +kernel) rfl rfl ?_
            refine zx_iaload (pc := 61) (by decide +kernel) ⟨4, zc_229, o10.1, o10.2⟩ ?_
            refine zx_putI (pc := 62) zf_11_134 (by decide +kernel) rfl zc_203 ?_
            refine zw_iconst (pc := 65) (n := 0) (by decide +kernel) ?_
            refine zw_istore (pc := 66) (i := 4) (lv' := [(0, .ref 203), (1, .int (zJ v1)), (2, .int (zJ v2)), (3, .int (zJ v3)), (4, .int (zJ 0))]) (by decide +kernel) (Nat.le_of_ble_eq_true rfl) rfl ?_
            exact zw_pick (lv' := [(0, .ref 203), (1, .int (zJ v1)), (2, .int (zJ v2)), (4, .int (zJ 0))]) [0, 1, 2, 4] rfl h
          · replace h := h.2 hc
            refine zw_bipush (pc := 47) (n := (-3)) (by decide +kernel) (by decide +kernel) ?_
            exact zw_iret (pc := 49) (by decide +kernel) rfl (Nat.le_refl _) (Nat.le_refl _) ⟨_, _, rfl, rfl, h⟩
        · replace h := h.2 hc
          refine zw_bipush (pc := 35) (n := (-11)) (by decide +kernel) (by decide +kernel) ?_
          exact zw_iret (pc := 37) (by decide +kernel) rfl (Nat.le_refl _) (Nat.le_refl _) ⟨_, _, rfl, rfl, h⟩
      · replace h := h.2 hc
        refine zw_bipush (pc := 23) (n := (-2)) (by decide +kernel) (by decide +kernel) ?_
        exact zw_iret (pc := 25) (by decide +kernel) rfl (Nat.le_refl _) (Nat.le_refl _) ⟨_, _, rfl, rfl, h⟩
    · replace h := h.2 hc
      refine zw_iconst (pc := 14) (n := (-1)) (by decide +kernel) ?_
      exact zw_iret (pc := 15) (by decide +kernel) rfl (Nat.le_refl _) (Nat.le_refl _) ⟨_, _, rfl, rfl, h⟩
theorem sg_X11_tell_68 {g : zG} {φ : Int → zMu → Prop} {v1 : Int} {v2 : Int} {v4 : Int} {μ : zMu}
    (h : (zR v4) ∧ (zR (μ 203 8)) ∧ (((μ 203 8) ≤ v4 → zOi g zm_X11_becomes [.ref 203, .int (zJ v1)] μ (fun x4 μ3 => φ x4 μ3)) ∧ (v4 < (μ 203 8) → (0 ≤ ((80 * v2) + v4) ∧ ((80 * v2) + v4) < 320) ∧ (zR (μ 230 (Int.toNat ((80 * v2) + v4)))) ∧ zOi g zm_X11_whole [.ref 203, .long (zL (μ 230 (Int.toNat ((80 * v2) + v4))))] μ (fun x8 μ7 => (0 ≤ v4 ∧ v4 < 80) ∧ at_X11_tell_68 g φ v1 v2 (v4 + 1) (zup μ7 209 v4.toNat x8))))) : at_X11_tell_68 g φ v1 v2 v4 μ := by
  obtain ⟨o1, o2, h⟩ := h
  refine zw_iload (pc := 68) (i := 4) 3 (by decide +kernel) rfl ?_
  refine zw_aload_n (pc := 70) (n := 0) (i := 0) 0 (by decide +kernel) rfl rfl ?_
  refine zx_getI (pc := 71) zf_11_134 (by decide +kernel) rfl zc_203 ?_
  refine zw_icmp_ge (pc := 74) (off := 33) (tgt := 107) (by decide +kernel) (by decide) o1 o2 (fun hc => ?_) (fun hc => ?_)
  · replace h := h.1 hc
    refine zw_aload_n (pc := 107) (n := 0) (i := 0) 0 (by decide +kernel) rfl rfl ?_
    refine zw_iload_n (pc := 108) (n := 1) (i := 1) 1 (by decide +kernel) rfl rfl ?_
    refine zx_callV (pc := 109) (As := [.int (zJ v1)]) h zi_X11_becomes zii_X11_becomes zie_X11_becomes zl_11_163 (by decide +kernel) ⟨Nat.le_of_ble_eq_true rfl, Nat.le_of_ble_eq_true rfl⟩ rfl zc_203 (by decide) rfl rfl ⟨rfl, rfl⟩ ⟨Nat.zero_le _, Nat.zero_le _⟩ (zki (fun x4 μ3 h => ?_))
    exact zw_iret (pc := 112) (by decide +kernel) rfl (Nat.le_refl _) (Nat.le_refl _) ⟨_, _, rfl, rfl, h⟩
  · replace h := h.2 hc
    obtain ⟨o5, o6, h⟩ := h
    refine zw_aload_n (pc := 77) (n := 0) (i := 0) 0 (by decide +kernel) rfl rfl ?_
    refine zx_getR (pc := 78) (o := 6) (r := 209) zf_11_31 (by decide +kernel) rfl zc_203 rfl (by decide) rfl ?_
    refine zw_iload (pc := 81) (i := 4) 3 (by decide +kernel) rfl ?_
    refine zw_aload_n (pc := 83) (n := 0) (i := 0) 0 (by decide +kernel) rfl rfl ?_
    refine zw_aload_n (pc := 84) (n := 0) (i := 0) 0 (by decide +kernel) rfl rfl ?_
    refine zx_getR (pc := 85) (o := 27) (r := 230) zf_11_94 (by decide +kernel) rfl zc_203 rfl (by decide) rfl ?_
    refine zw_bipush (pc := 88) (n := 80) (by decide +kernel) (by decide +kernel) ?_
    refine zw_iload_n (pc := 90) (n := 2) (i := 2) 2 (by decide +kernel) rfl rfl ?_
    refine zw_imul (pc := 91) (by decide +kernel) ?_
    refine zw_iload (pc := 92) (i := 4) 3 (by decide +kernel) rfl ?_
    refine zw_iadd (pc := 94) (by decide +kernel) ?_
    refine zx_iaload (pc := 95) (by decide +kernel) ⟨320, zc_230, o5.1, o5.2⟩ ?_
    refine zw_i2l (pc := 96) (by decide +kernel) o6 ?_
    refine zx_callV (pc := 97) (As := [.long (zL (μ 230 (Int.toNat ((80 * v2) + v4))))]) h zi_X11_whole zii_X11_whole zie_X11_whole zl_11_148 (by decide +kernel) ⟨Nat.le_of_ble_eq_true rfl, Nat.le_of_ble_eq_true rfl⟩ rfl zc_203 (by decide) rfl rfl ⟨rfl, rfl⟩ ⟨Nat.zero_le _, Nat.zero_le _⟩ (zki (fun x8 μ7 h => ?_))
    obtain ⟨o9, h⟩ := h
    refine zx_iastore (pc := 100) (by decide +kernel) ⟨80, zc_209, o9.1, o9.2⟩ ?_
    refine zw_iinc (pc := 101) (i := 4) (n := 1) (lv' := [(0, .ref 203), (1, .int (zJ v1)), (2, .int (zJ v2)), (4, .int (zJ (v4 + 1)))]) 3 (by decide +kernel) rfl rfl (Nat.le_of_ble_eq_true rfl) rfl ?_
    refine zw_goto (pc := 104) (off := (-36)) (tgt := 68) (by decide +kernel) (by decide) ?_
    exact h
theorem sg_X11_isList {g : zG} {φ : Int → zMu → Prop} {v0 : Int} {μ : zMu}
    (h : (zR v0) ∧ zOi g zm_X11_in [.long (zL v0), .long (zL 0), .long (zL 3)] μ (fun x3 μ2 => (x3 = 0 ∨ x3 = 1) ∧ φ x3 μ2)) : zOi g zm_X11_isList [.int (zJ v0)] μ φ := by
  refine zok_of (by decide +kernel) rfl ?_
  show zWP g zm_X11_isList (zmo g zm_X11_isList (zΦi φ)) 0 [(0, .int (zJ v0))] [] 0 0 (zw μ)
  obtain ⟨o1, h⟩ := h
  refine zw_iload_n (pc := 0) (n := 0) (i := 0) 0 (by decide +kernel) rfl rfl ?_
  refine zw_i2l (pc := 1) (by decide +kernel) o1 ?_
  refine zw_lconst (pc := 2) (n := 0) (v := 0) (by decide +kernel) rfl ?_
  refine zw_ldc2 (pc := 3) (v := 3) (by decide +kernel) zk_11_238 ?_
  refine zx_callS (pc := 6) (As := [.long (zL v0), .long (zL 0), .long (zL 3)]) h zi_X11_in zis_X11_in zl_11_114 (by decide +kernel) ⟨Nat.le_of_ble_eq_true rfl, Nat.le_of_ble_eq_true rfl⟩ rfl rfl ⟨rfl, rfl⟩ ⟨Nat.zero_le _, Nat.zero_le _⟩ (zki (fun x3 μ2 h => ?_))
  obtain ⟨o4, h⟩ := h
  exact zw_zret (pc := 9) (by decide +kernel) rfl (Nat.le_refl _) (Nat.le_refl _) o4 ⟨_, _, rfl, rfl, h⟩
abbrev at_X11_list_34 (g : zG) (φ : Int → zMu → Prop) (v1 : Int) (v3 : Int) (μ : zMu) : Prop := zWP g zm_X11_list (zmo g zm_X11_list (zΦi φ)) 34 [(0, .ref 203), (1, .int (zJ v1)), (3, .int (zJ v3))] [] 0 0 (zw μ)
theorem sg_X11_list {g : zG} {φ : Int → zMu → Prop} {v1 : Int} {v2 : Int} {μ : zMu}
    (h : zOi g zm_X11_isList [.int (zJ v1)] μ (fun x2 μ1 => (zR x2) ∧ ((¬ x2 = 0 → (zR v2) ∧ ((v2 ≤ 80 → ((0 ≤ v2 → (0 ≤ v1 ∧ v1 < 4) ∧ at_X11_list_34 g φ v1 0 (zup μ1 229 v1.toNat v2)) ∧ (v2 < 0 → φ (-14) μ1))) ∧ (80 < v2 → φ (-2) μ1))) ∧ (x2 = 0 → φ (-1) μ1)))) : zOi g zm_X11_list [.ref 203, .int (zJ v1), .int (zJ v2)] μ φ := by
  refine zok_of (by decide +kernel) rfl ?_
  show zWP g zm_X11_list (zmo g zm_X11_list (zΦi φ)) 0 [(0, .ref 203), (1, .int (zJ v1)), (2, .int (zJ v2))] [] 0 0 (zw μ)
  refine zw_iload_n (pc := 0) (n := 1) (i := 1) 1 (by decide +kernel) rfl rfl ?_
  refine zx_callS (pc := 1) (As := [.int (zJ v1)]) h zi_X11_isList zis_X11_isList zl_11_371 (by decide +kernel) ⟨Nat.le_of_ble_eq_true rfl, Nat.le_of_ble_eq_true rfl⟩ rfl rfl ⟨rfl, rfl⟩ ⟨Nat.zero_le _, Nat.zero_le _⟩ (zki (fun x2 μ1 h => ?_))
  obtain ⟨o3, h⟩ := h
  refine zw_if_ne (pc := 4) (off := 5) (tgt := 9) (by decide +kernel) (by decide) o3 (fun hc => ?_) (fun hc => ?_)
  · replace h := h.1 hc
    obtain ⟨o4, h⟩ := h
    refine zw_iload_n (pc := 9) (n := 2) (i := 2) 2 (by decide +kernel) rfl rfl ?_
    refine zw_bipush (pc := 10) (n := 80) (by decide +kernel) (by decide +kernel) ?_
    refine zw_icmp_le (pc := 12) (off := 6) (tgt := 18) (by decide +kernel) (by decide) o4 ⟨by decide, by decide⟩ (fun hc => ?_) (fun hc => ?_)
    · replace h := h.1 hc
      refine zw_iload_n (pc := 18) (n := 2) (i := 2) 2 (by decide +kernel) rfl rfl ?_
      refine zw_if_ge (pc := 19) (off := 6) (tgt := 25) (by decide +kernel) (by decide) o4 (fun hc => ?_) (fun hc => ?_)
      · replace h := h.1 hc
        obtain ⟨o5, h⟩ := h
        refine zw_aload_n (pc := 25) (n := 0) (i := 0) 0 (by decide +kernel) rfl rfl ?_
        refine zx_getR (pc := 26) (o := 26) (r := 229) zf_11_91 (by decide +kernel) rfl zc_203 rfl (by decide) rfl ?_
        refine zw_iload_n (pc := 29) (n := 1) (i := 1) 1 (by decide +kernel) rfl rfl ?_
        refine zw_iload_n (pc := 30) (n := 2) (i := 2) 2 (by decide +kernel) rfl rfl ?_
        refine zx_iastore (pc := 31) (by decide +kernel) ⟨4, zc_229, o5.1, o5.2⟩ ?_
        refine zw_iconst (pc := 32) (n := 0) (by decide +kernel) ?_
        refine zw_istore_n (pc := 33) (n := 3) (i := 3) (lv' := [(0, .ref 203), (1, .int (zJ v1)), (2, .int (zJ v2)), (3, .int (zJ 0))]) (by decide +kernel) rfl (Nat.le_of_ble_eq_true rfl) rfl ?_
        exact zw_pick (lv' := [(0, .ref 203), (1, .int (zJ v1)), (3, .int (zJ 0))]) [0, 1, 3] rfl h
      · replace h := h.2 hc
        refine zw_bipush (pc := 22) (n := (-14)) (by decide +kernel) (by decide +kernel) ?_
        exact zw_iret (pc := 24) (by decide +kernel) rfl (Nat.le_refl _) (Nat.le_refl _) ⟨_, _, rfl, rfl, h⟩
    · replace h := h.2 hc
      refine zw_bipush (pc := 15) (n := (-2)) (by decide +kernel) (by decide +kernel) ?_
      exact zw_iret (pc := 17) (by decide +kernel) rfl (Nat.le_refl _) (Nat.le_refl _) ⟨_, _, rfl, rfl, h⟩
  · replace h := h.2 hc
    refine zw_iconst (pc := 7) (n := (-1)) (by decide +kernel) ?_
    exact zw_iret (pc := 8) (by decide +kernel) rfl (Nat.le_refl _) (Nat.le_refl _) ⟨_, _, rfl, rfl, h⟩
theorem sg_X11_list_34 {g : zG} {φ : Int → zMu → Prop} {v1 : Int} {v3 : Int} {μ : zMu}
    (h : (zR v3) ∧ ((80 ≤ v3 → φ 1 μ) ∧ (v3 < 80 → (0 ≤ ((80 * v1) + v3) ∧ ((80 * v1) + v3) < 320) ∧ at_X11_list_34 g φ v1 (v3 + 1) (zup μ 230 (Int.toNat ((80 * v1) + v3)) 0)))) : at_X11_list_34 g φ v1 v3 μ := by
  obtain ⟨o1, h⟩ := h
  refine zw_iload_n (pc := 34) (n := 3) (i := 3) 2 (by decide +kernel) rfl rfl ?_
  refine zw_bipush (pc := 35) (n := 80) (by decide +kernel) (by decide +kernel) ?_
  refine zw_icmp_ge (pc := 37) (off := 21) (tgt := 58) (by decide +kernel) (by decide) o1 ⟨by decide, by decide⟩ (fun hc => ?_) (fun hc => ?_)
  · replace h := h.1 hc
    refine zw_iconst (pc := 58) (n := 1) (by decide +kernel) ?_
    exact zw_iret (pc := 59) (by decide +kernel) rfl (Nat.le_refl _) (Nat.le_refl _) ⟨_, _, rfl, rfl, h⟩
  · replace h := h.2 hc
    obtain ⟨o2, h⟩ := h
    refine zw_aload_n (pc := 40) (n := 0) (i := 0) 0 (by decide +kernel) rfl rfl ?_
    refine zx_getR (pc := 41) (o := 27) (r := 230) zf_11_94 (by decide +kernel) rfl zc_203 rfl (by decide) rfl ?_
    refine zw_bipush (pc := 44) (n := 80) (by decide +kernel) (by decide +kernel) ?_
    refine zw_iload_n (pc := 46) (n := 1) (i := 1) 1 (by decide +kernel) rfl rfl ?_
    refine zw_imul (pc := 47) (by decide +kernel) ?_
    refine zw_iload_n (pc := 48) (n := 3) (i := 3) 2 (by decide +kernel) rfl rfl ?_
    refine zw_iadd (pc := 49) (by decide +kernel) ?_
    refine zw_iconst (pc := 50) (n := 0) (by decide +kernel) ?_
    refine zx_iastore (pc := 51) (by decide +kernel) ⟨320, zc_230, o2.1, o2.2⟩ ?_
    refine zw_iinc (pc := 52) (i := 3) (n := 1) (lv' := [(0, .ref 203), (1, .int (zJ v1)), (3, .int (zJ (v3 + 1)))]) 2 (by decide +kernel) rfl rfl (Nat.le_of_ble_eq_true rfl) rfl ?_
    refine zw_goto (pc := 55) (off := (-21)) (tgt := 34) (by decide +kernel) (by decide) ?_
    exact h
theorem sg_X11_put {g : zG} {φ : Int → zMu → Prop} {v1 : Int} {v2 : Int} {v3 : Int} {μ : zMu}
    (h : zOi g zm_X11_isList [.int (zJ v1)] μ (fun x2 μ1 => (zR x2) ∧ ((¬ x2 = 0 → (0 ≤ v1 ∧ v1 < 4) ∧ (zR (μ1 229 v1.toNat)) ∧ ((0 ≤ (μ1 229 v1.toNat) → (zR v2) ∧ (zR ((μ1 229 v1.toNat) - 1)) ∧ zOi g zm_X11_in [.long (zL v2), .long (zL 0), .long (zL ((μ1 229 v1.toNat) - 1))] μ1 (fun x9 μ8 => (zR x9) ∧ ((¬ x9 = 0 → (0 ≤ ((80 * v1) + v2) ∧ ((80 * v1) + v2) < 320) ∧ φ 1 (zup μ8 230 (Int.toNat ((80 * v1) + v2)) v3)) ∧ (x9 = 0 → φ (-13) μ8)))) ∧ ((μ1 229 v1.toNat) < 0 → φ (-11) μ1))) ∧ (x2 = 0 → φ (-1) μ1)))) : zOi g zm_X11_put [.ref 203, .int (zJ v1), .int (zJ v2), .int (zJ v3)] μ φ := by
  refine zok_of (by decide +kernel) rfl ?_
  show zWP g zm_X11_put (zmo g zm_X11_put (zΦi φ)) 0 [(0, .ref 203), (1, .int (zJ v1)), (2, .int (zJ v2)), (3, .int (zJ v3))] [] 0 0 (zw μ)
  refine zw_iload_n (pc := 0) (n := 1) (i := 1) 1 (by decide +kernel) rfl rfl ?_
  refine zx_callS (pc := 1) (As := [.int (zJ v1)]) h zi_X11_isList zis_X11_isList zl_11_371 (by decide +kernel) ⟨Nat.le_of_ble_eq_true rfl, Nat.le_of_ble_eq_true rfl⟩ rfl rfl ⟨rfl, rfl⟩ ⟨Nat.zero_le _, Nat.zero_le _⟩ (zki (fun x2 μ1 h => ?_))
  obtain ⟨o3, h⟩ := h
  refine zw_if_ne (pc := 4) (off := 5) (tgt := 9) (by decide +kernel) (by decide) o3 (fun hc => ?_) (fun hc => ?_)
  · replace h := h.1 hc
    obtain ⟨o4, o5, h⟩ := h
    refine zw_aload_n (pc := 9) (n := 0) (i := 0) 0 (by decide +kernel) rfl rfl ?_
    refine zx_getR (pc := 10) (o := 26) (r := 229) zf_11_91 (by decide +kernel) rfl zc_203 rfl (by decide) rfl ?_
    refine zw_iload_n (pc := 13) (n := 1) (i := 1) 1 (by decide +kernel) rfl rfl ?_
    refine zx_iaload (pc := 14) (by decide +kernel) ⟨4, zc_229, o4.1, o4.2⟩ ?_
    refine zw_if_ge (pc := 15) (off := 6) (tgt := 21) (by decide +kernel) (by decide) o5 (fun hc => ?_) (fun hc => ?_)
    · replace h := h.1 hc
      obtain ⟨o6, o7, h⟩ := h
      refine zw_iload_n (pc := 21) (n := 2) (i := 2) 2 (by decide +kernel) rfl rfl ?_
      refine zw_i2l (pc := 22) (by decide +kernel) o6 ?_
      refine zw_lconst (pc := 23) (n := 0) (v := 0) (by decide +kernel) rfl ?_
      refine zw_aload_n (pc := 24) (n := 0) (i := 0) 0 (by decide +kernel) rfl rfl ?_
      refine zx_getR (pc := 25) (o := 26) (r := 229) zf_11_91 (by decide +kernel) rfl zc_203 rfl (by decide) rfl ?_
      refine zw_iload_n (pc := 28) (n := 1) (i := 1) 1 (by decide +kernel) rfl rfl ?_
      refine zx_iaload (pc := 29) (by decide +kernel) ⟨4, zc_229, o4.1, o4.2⟩ ?_
      refine zw_iconst (pc := 30) (n := 1) (by decide +kernel) ?_
      refine zw_isub (pc := 31) (by decide +kernel) ?_
      refine zw_i2l (pc := 32) (by decide +kernel) o7 ?_
      refine zx_callS (pc := 33) (As := [.long (zL v2), .long (zL 0), .long (zL ((μ1 229 v1.toNat) - 1))]) h zi_X11_in zis_X11_in zl_11_114 (by decide +kernel) ⟨Nat.le_of_ble_eq_true rfl, Nat.le_of_ble_eq_true rfl⟩ rfl rfl ⟨rfl, rfl⟩ ⟨Nat.zero_le _, Nat.zero_le _⟩ (zki (fun x9 μ8 h => ?_))
      obtain ⟨o10, h⟩ := h
      refine zw_if_ne (pc := 36) (off := 6) (tgt := 42) (by decide +kernel) (by decide) o10 (fun hc => ?_) (fun hc => ?_)
      · replace h := h.1 hc
        obtain ⟨o11, h⟩ := h
        refine zw_aload_n (pc := 42) (n := 0) (i := 0) 0 (by decide +kernel) rfl rfl ?_
        refine zx_getR (pc := 43) (o := 27) (r := 230) zf_11_94 (by decide +kernel) rfl zc_203 rfl (by decide) rfl ?_
        refine zw_bipush (pc := 46) (n := 80) (by decide +kernel) (by decide +kernel) ?_
        refine zw_iload_n (pc := 48) (n := 1) (i := 1) 1 (by decide +kernel) rfl rfl ?_
        refine zw_imul (pc := 49) (by decide +kernel) ?_
        refine zw_iload_n (pc := 50) (n := 2) (i := 2) 2 (by decide +kernel) rfl rfl ?_
        refine zw_iadd (pc := 51) (by decide +kernel) ?_
        refine zw_iload_n (pc := 52) (n := 3) (i := 3) 3 (by decide +kernel) rfl rfl ?_
        refine zx_iastore (pc := 53) (by decide +kernel) ⟨320, zc_230, o11.1, o11.2⟩ ?_
        refine zw_iconst (pc := 54) (n := 1) (by decide +kernel) ?_
        exact zw_iret (pc := 55) (by decide +kernel) rfl (Nat.le_refl _) (Nat.le_refl _) ⟨_, _, rfl, rfl, h⟩
      · replace h := h.2 hc
        refine zw_bipush (pc := 39) (n := (-13)) (by decide +kernel) (by decide +kernel) ?_
        exact zw_iret (pc := 41) (by decide +kernel) rfl (Nat.le_refl _) (Nat.le_refl _) ⟨_, _, rfl, rfl, h⟩
    · replace h := h.2 hc
      refine zw_bipush (pc := 18) (n := (-11)) (by decide +kernel) (by decide +kernel) ?_
      exact zw_iret (pc := 20) (by decide +kernel) rfl (Nat.le_refl _) (Nat.le_refl _) ⟨_, _, rfl, rfl, h⟩
  · replace h := h.2 hc
    refine zw_iconst (pc := 7) (n := (-1)) (by decide +kernel) ?_
    exact zw_iret (pc := 8) (by decide +kernel) rfl (Nat.le_refl _) (Nat.le_refl _) ⟨_, _, rfl, rfl, h⟩
theorem sg_X11_get {g : zG} {φ : Int → zMu → Prop} {v1 : Int} {v2 : Int} {μ : zMu}
    (h : zOi g zm_X11_isList [.int (zJ v1)] μ (fun x2 μ1 => (zR x2) ∧ ((x2 = 0 → φ (-9223372036854775808) μ1) ∧ (¬ x2 = 0 → (zR v2) ∧ (0 ≤ v1 ∧ v1 < 4) ∧ (zR ((μ1 229 v1.toNat) - 1)) ∧ zOi g zm_X11_in [.long (zL v2), .long (zL 0), .long (zL ((μ1 229 v1.toNat) - 1))] μ1 (fun x8 μ7 => (zR x8) ∧ ((x8 = 0 → φ (-9223372036854775808) μ7) ∧ (¬ x8 = 0 → (0 ≤ ((80 * v1) + v2) ∧ ((80 * v1) + v2) < 320) ∧ (zR (μ7 230 (Int.toNat ((80 * v1) + v2)))) ∧ φ (μ7 230 (Int.toNat ((80 * v1) + v2))) μ7))))))) : zOl g zm_X11_get [.ref 203, .int (zJ v1), .int (zJ v2)] μ φ := by
  refine zok_of (by decide +kernel) rfl ?_
  show zWP g zm_X11_get (zmo g zm_X11_get (zΦl φ)) 0 [(0, .ref 203), (1, .int (zJ v1)), (2, .int (zJ v2))] [] 0 0 (zw μ)
  refine zw_iload_n (pc := 0) (n := 1) (i := 1) 1 (by decide +kernel) rfl rfl ?_
  refine zx_callS (pc := 1) (As := [.int (zJ v1)]) h zi_X11_isList zis_X11_isList zl_11_371 (by decide +kernel) ⟨Nat.le_of_ble_eq_true rfl, Nat.le_of_ble_eq_true rfl⟩ rfl rfl ⟨rfl, rfl⟩ ⟨Nat.zero_le _, Nat.zero_le _⟩ (zki (fun x2 μ1 h => ?_))
  obtain ⟨o3, h⟩ := h
  refine zw_if_eq (pc := 4) (off := 36) (tgt := 40) (by decide +kernel) (by decide) o3 (fun hc => ?_) (fun hc => ?_)
  · replace h := h.1 hc
    refine zw_ldc2 (pc := 40) (v := (-9223372036854775808)) (by decide +kernel) zk_11_275 ?_
    exact zw_lret (pc := 43) (by decide +kernel) rfl (Nat.le_refl _) (Nat.le_refl _) ⟨_, _, rfl, rfl, h⟩
  · replace h := h.2 hc
    obtain ⟨o4, o5, o6, h⟩ := h
    refine zw_iload_n (pc := 7) (n := 2) (i := 2) 2 (by decide +kernel) rfl rfl ?_
    refine zw_i2l (pc := 8) (by decide +kernel) o4 ?_
    refine zw_lconst (pc := 9) (n := 0) (v := 0) (by decide +kernel) rfl ?_
    refine zw_aload_n (pc := 10) (n := 0) (i := 0) 0 (by decide +kernel) rfl rfl ?_
    refine zx_getR (pc := 11) (o := 26) (r := 229) zf_11_91 (by decide +kernel) rfl zc_203 rfl (by decide) rfl ?_
    refine zw_iload_n (pc := 14) (n := 1) (i := 1) 1 (by decide +kernel) rfl rfl ?_
    refine zx_iaload (pc := 15) (by decide +kernel) ⟨4, zc_229, o5.1, o5.2⟩ ?_
    refine zw_iconst (pc := 16) (n := 1) (by decide +kernel) ?_
    refine zw_isub (pc := 17) (by decide +kernel) ?_
    refine zw_i2l (pc := 18) (by decide +kernel) o6 ?_
    refine zx_callS (pc := 19) (As := [.long (zL v2), .long (zL 0), .long (zL ((μ1 229 v1.toNat) - 1))]) h zi_X11_in zis_X11_in zl_11_114 (by decide +kernel) ⟨Nat.le_of_ble_eq_true rfl, Nat.le_of_ble_eq_true rfl⟩ rfl rfl ⟨rfl, rfl⟩ ⟨Nat.zero_le _, Nat.zero_le _⟩ (zki (fun x8 μ7 h => ?_))
    obtain ⟨o9, h⟩ := h
    refine zw_if_eq (pc := 22) (off := 18) (tgt := 40) (by decide +kernel) (by decide) o9 (fun hc => ?_) (fun hc => ?_)
    · replace h := h.1 hc
      refine zw_ldc2 (pc := 40) (v := (-9223372036854775808)) (by decide +kernel) zk_11_275 ?_
      exact zw_lret (pc := 43) (by decide +kernel) rfl (Nat.le_refl _) (Nat.le_refl _) ⟨_, _, rfl, rfl, h⟩
    · replace h := h.2 hc
      obtain ⟨o10, o11, h⟩ := h
      refine zw_aload_n (pc := 25) (n := 0) (i := 0) 0 (by decide +kernel) rfl rfl ?_
      refine zx_getR (pc := 26) (o := 27) (r := 230) zf_11_94 (by decide +kernel) rfl zc_203 rfl (by decide) rfl ?_
      refine zw_bipush (pc := 29) (n := 80) (by decide +kernel) (by decide +kernel) ?_
      refine zw_iload_n (pc := 31) (n := 1) (i := 1) 1 (by decide +kernel) rfl rfl ?_
      refine zw_imul (pc := 32) (by decide +kernel) ?_
      refine zw_iload_n (pc := 33) (n := 2) (i := 2) 2 (by decide +kernel) rfl rfl ?_
      refine zw_iadd (pc := 34) (by decide +kernel) ?_
      refine zx_iaload (pc := 35) (by decide +kernel) ⟨320, zc_230, o10.1, o10.2⟩ ?_
      refine zw_i2l (pc := 36) (by decide +kernel) o11 ?_
      refine zw_goto (pc := 37) (off := 6) (tgt := 43) (by decide +kernel) (by decide) ?_
      exact zw_lret (pc := 43) (by decide +kernel) rfl (Nat.le_refl _) (Nat.le_refl _) ⟨_, _, rfl, rfl, h⟩
abbrev at_X11_lay_55 (g : zG) (φ : Int → zMu → Prop) (v1 : Int) (v2 : Int) (v3 : Int) (v4 : Int) (μ : zMu) : Prop := zWP g zm_X11_lay (zmo g zm_X11_lay (zΦi φ)) 55 [(0, .ref 203), (1, .int (zJ v1)), (2, .int (zJ v2)), (3, .int (zJ v3)), (4, .int (zJ v4))] [] 0 0 (zw μ)
theorem sg_X11_lay {g : zG} {φ : Int → zMu → Prop} {v1 : Int} {v2 : Int} {μ : zMu}
    (h : zOi g zm_X11_isList [.int (zJ v1)] μ (fun x2 μ1 => (zR x2) ∧ ((x2 = 0 → φ (-1) μ1) ∧ (¬ x2 = 0 → zOi g zm_X11_isSeries [.int (zJ v2)] μ1 (fun x5 μ4 => (zR x5) ∧ ((¬ x5 = 0 → (0 ≤ v1 ∧ v1 < 4) ∧ (zR (μ4 229 v1.toNat)) ∧ (((μ4 229 v1.toNat) < 0 → φ (-11) μ4) ∧ (0 ≤ (μ4 229 v1.toNat) → zOi g zm_X11_isThere [.ref 203, .int (zJ v2)] μ4 (fun x10 μ9 => (zR x10) ∧ ((¬ x10 = 0 → (0 ≤ v2 ∧ v2 < 6) ∧ (zR (μ9 229 v1.toNat)) ∧ (zR (μ9 205 v2.toNat)) ∧ at_X11_lay_55 g φ v1 v2 (min (μ9 229 v1.toNat) (μ9 205 v2.toNat)) 0 μ9) ∧ (x10 = 0 → φ (-11) μ9)))))) ∧ (x5 = 0 → φ (-1) μ4))))))) : zOi g zm_X11_lay [.ref 203, .int (zJ v1), .int (zJ v2)] μ φ := by
  refine zok_of (by decide +kernel) rfl ?_
  show zWP g zm_X11_lay (zmo g zm_X11_lay (zΦi φ)) 0 [(0, .ref 203), (1, .int (zJ v1)), (2, .int (zJ v2))] [] 0 0 (zw μ)
  refine zw_iload_n (pc := 0) (n := 1) (i := 1) 1 (by decide +kernel) rfl rfl ?_
  refine zx_callS (pc := 1) (As := [.int (zJ v1)]) h zi_X11_isList zis_X11_isList zl_11_371 (by decide +kernel) ⟨Nat.le_of_ble_eq_true rfl, Nat.le_of_ble_eq_true rfl⟩ rfl rfl ⟨rfl, rfl⟩ ⟨Nat.zero_le _, Nat.zero_le _⟩ (zki (fun x2 μ1 h => ?_))
  obtain ⟨o3, h⟩ := h
  refine zw_if_eq (pc := 4) (off := 10) (tgt := 14) (by decide +kernel) (by decide) o3 (fun hc => ?_) (fun hc => ?_)
  · replace h := h.1 hc
    refine zw_iconst (pc := 14) (n := (-1)) (by decide +kernel) ?_
    exact zw_iret (pc := 15) (by decide +kernel) rfl (Nat.le_refl _) (Nat.le_refl _) ⟨_, _, rfl, rfl, h⟩
  · replace h := h.2 hc
    refine zw_iload_n (pc := 7) (n := 2) (i := 2) 2 (by decide +kernel) rfl rfl ?_
    refine zx_callS (pc := 8) (As := [.int (zJ v2)]) h zi_X11_isSeries zis_X11_isSeries zl_11_141 (by decide +kernel) ⟨Nat.le_of_ble_eq_true rfl, Nat.le_of_ble_eq_true rfl⟩ rfl rfl ⟨rfl, rfl⟩ ⟨Nat.zero_le _, Nat.zero_le _⟩ (zki (fun x5 μ4 h => ?_))
    obtain ⟨o6, h⟩ := h
    refine zw_if_ne (pc := 11) (off := 5) (tgt := 16) (by decide +kernel) (by decide) o6 (fun hc => ?_) (fun hc => ?_)
    · replace h := h.1 hc
      obtain ⟨o7, o8, h⟩ := h
      refine zw_aload_n (pc := 16) (n := 0) (i := 0) 0 (by decide +kernel) rfl rfl ?_
      refine zx_getR (pc := 17) (o := 26) (r := 229) zf_11_91 (by decide +kernel) rfl zc_203 rfl (by decide) rfl ?_
      refine zw_iload_n (pc := 20) (n := 1) (i := 1) 1 (by decide +kernel) rfl rfl ?_
      refine zx_iaload (pc := 21) (by decide +kernel) ⟨4, zc_229, o7.1, o7.2⟩ ?_
      refine zw_if_lt (pc := 22) (off := 11) (tgt := 33) (by decide +kernel) (by decide) o8 (fun hc => ?_) (fun hc => ?_)
      · replace h := h.1 hc
        refine zw_bipush (pc := 33) (n := (-11)) (by decide +kernel) (by decide +kernel) ?_
        exact zw_iret (pc := 35) (by decide +kernel) rfl (Nat.le_refl _) (Nat.le_refl _) ⟨_, _, rfl, rfl, h⟩
      · replace h := h.2 hc
        refine zw_aload_n (pc := 25) (n := 0) (i := 0) 0 (by decide +kernel) rfl rfl ?_
        refine zw_iload_n (pc := 26) (n := 2) (i := 2) 2 (by decide +kernel) rfl rfl ?_
        refine zx_callV (pc := 27) (As := [.int (zJ v2)]) h zi_X11_isThere zii_X11_isThere zie_X11_isThere zl_11_166 (by decide +kernel) ⟨Nat.le_of_ble_eq_true rfl, Nat.le_of_ble_eq_true rfl⟩ rfl zc_203 (by decide) rfl rfl ⟨rfl, rfl⟩ ⟨Nat.zero_le _, Nat.zero_le _⟩ (zki (fun x10 μ9 h => ?_))
        obtain ⟨o11, h⟩ := h
        refine zw_if_ne (pc := 30) (off := 6) (tgt := 36) (by decide +kernel) (by decide) o11 (fun hc => ?_) (fun hc => ?_)
        · replace h := h.1 hc
          obtain ⟨o12, o13, o14, h⟩ := h
          refine zw_aload_n (pc := 36) (n := 0) (i := 0) 0 (by decide +kernel) rfl rfl ?_
          refine zx_getR (pc := 37) (o := 26) (r := 229) zf_11_91 (by decide +kernel) rfl zc_203 rfl (by decide) rfl ?_
          refine zw_iload_n (pc := 40) (n := 1) (i := 1) 1 (by decide +kernel) rfl rfl ?_
          refine zx_iaload (pc := 41) (by decide +kernel) ⟨4, zc_229, o7.1, o7.2⟩ ?_
          refine zw_aload_n (pc := 42) (n := 0) (i := 0) 0 (by decide +kernel) rfl rfl ?_
          refine zx_getR (pc := 43) (o := 2) (r := 205) zf_11_19 (by decide +kernel) rfl zc_203 rfl (by decide) rfl ?_
          refine zw_iload_n (pc := 46) (n := 2) (i := 2) 2 (by decide +kernel) rfl rfl ?_
          refine zx_iaload (pc := 47) (by decide +kernel) ⟨6, zc_205, o12.1, o12.2⟩ ?_
          refine zw_min (pc := 48) zl_11_169 zb_minS zb_mathI zb_minC (by decide +kernel) ⟨Nat.le_of_ble_eq_true rfl, Nat.le_of_ble_eq_true rfl⟩ (Nat.zero_le _) (Nat.zero_le _) rfl o13 o14 ?_
          refine zw_istore_n (pc := 51) (n := 3) (i := 3) (lv' := [(0, .ref 203), (1, .int (zJ v1)), (2, .int (zJ v2)), (3, .int (zJ (min (μ9 229 v1.toNat) (μ9 205 v2.toNat))))]) (by decide +kernel) rfl (Nat.le_of_ble_eq_true rfl) rfl ?_
          refine zw_iconst (pc := 52) (n := 0) (by decide +kernel) ?_
          refine zw_istore (pc := 53) (i := 4) (lv' := [(0, .ref 203), (1, .int (zJ v1)), (2, .int (zJ v2)), (3, .int (zJ (min (μ9 229 v1.toNat) (μ9 205 v2.toNat)))), (4, .int (zJ 0))]) (by decide +kernel) (Nat.le_of_ble_eq_true rfl) rfl ?_
          exact h
        · replace h := h.2 hc
          refine zw_bipush (pc := 33) (n := (-11)) (by decide +kernel) (by decide +kernel) ?_
          exact zw_iret (pc := 35) (by decide +kernel) rfl (Nat.le_refl _) (Nat.le_refl _) ⟨_, _, rfl, rfl, h⟩
    · replace h := h.2 hc
      refine zw_iconst (pc := 14) (n := (-1)) (by decide +kernel) ?_
      exact zw_iret (pc := 15) (by decide +kernel) rfl (Nat.le_refl _) (Nat.le_refl _) ⟨_, _, rfl, rfl, h⟩
theorem sg_X11_lay_55 {g : zG} {φ : Int → zMu → Prop} {v1 : Int} {v2 : Int} {v3 : Int} {v4 : Int} {μ : zMu}
    (h : (zR v4) ∧ (zR v3) ∧ ((v3 ≤ v4 → φ v3 μ) ∧ (v4 < v3 → (0 ≤ ((80 * v2) + v4) ∧ ((80 * v2) + v4) < 480) ∧ (0 ≤ ((80 * v1) + v4) ∧ ((80 * v1) + v4) < 320) ∧ at_X11_lay_55 g φ v1 v2 v3 (v4 + 1) (zup μ 230 (Int.toNat ((80 * v1) + v4)) (μ 206 (Int.toNat ((80 * v2) + v4))))))) : at_X11_lay_55 g φ v1 v2 v3 v4 μ := by
  obtain ⟨o1, o2, h⟩ := h
  refine zw_iload (pc := 55) (i := 4) 4 (by decide +kernel) rfl ?_
  refine zw_iload_n (pc := 57) (n := 3) (i := 3) 3 (by decide +kernel) rfl rfl ?_
  refine zw_icmp_ge (pc := 58) (off := 33) (tgt := 91) (by decide +kernel) (by decide) o1 o2 (fun hc => ?_) (fun hc => ?_)
  · replace h := h.1 hc
    refine zw_iload_n (pc := 91) (n := 3) (i := 3) 3 (by decide +kernel) rfl rfl ?_
    exact zw_iret (pc := 92) (by decide +kernel) rfl (Nat.le_refl _) (Nat.le_refl _) ⟨_, _, rfl, rfl, h⟩
  · replace h := h.2 hc
    obtain ⟨o3, o4, h⟩ := h
    refine zw_aload_n (pc := 61) (n := 0) (i := 0) 0 (by decide +kernel) rfl rfl ?_
    refine zx_getR (pc := 62) (o := 27) (r := 230) zf_11_94 (by decide +kernel) rfl zc_203 rfl (by decide) rfl ?_
    refine zw_bipush (pc := 65) (n := 80) (by decide +kernel) (by decide +kernel) ?_
    refine zw_iload_n (pc := 67) (n := 1) (i := 1) 1 (by decide +kernel) rfl rfl ?_
    refine zw_imul (pc := 68) (by decide +kernel) ?_
    refine zw_iload (pc := 69) (i := 4) 4 (by decide +kernel) rfl ?_
    refine zw_iadd (pc := 71) (by decide +kernel) ?_
    refine zw_aload_n (pc := 72) (n := 0) (i := 0) 0 (by decide +kernel) rfl rfl ?_
    refine zx_getR (pc := 73) (o := 3) (r := 206) zf_11_22 (by decide +kernel) rfl zc_203 rfl (by decide) rfl ?_
    refine zw_bipush (pc := 76) (n := 80) (by decide +kernel) (by decide +kernel) ?_
    refine zw_iload_n (pc := 78) (n := 2) (i := 2) 2 (by decide +kernel) rfl rfl ?_
    refine zw_imul (pc := 79) (by decide +kernel) ?_
    refine zw_iload (pc := 80) (i := 4) 4 (by decide +kernel) rfl ?_
    refine zw_iadd (pc := 82) (by decide +kernel) ?_
    refine zx_iaload (pc := 83) (by decide +kernel) ⟨480, zc_206, o3.1, o3.2⟩ ?_
    refine zx_iastore (pc := 84) (by decide +kernel) ⟨320, zc_230, o4.1, o4.2⟩ ?_
    refine zw_iinc (pc := 85) (i := 4) (n := 1) (lv' := [(0, .ref 203), (1, .int (zJ v1)), (2, .int (zJ v2)), (3, .int (zJ v3)), (4, .int (zJ (v4 + 1)))]) 4 (by decide +kernel) rfl rfl (Nat.le_of_ble_eq_true rfl) rfl ?_
    refine zw_goto (pc := 88) (off := (-33)) (tgt := 55) (by decide +kernel) (by decide) ?_
    exact h
abbrev at_X11_judge_38 (g : zG) (φ : Int → zMu → Prop) (v1 : Int) (v2 : Int) (v3 : Int) (μ : zMu) : Prop := zWP g zm_X11_judge (zmo g zm_X11_judge (zΦi φ)) 38 [(0, .ref 203), (1, .int (zJ v1)), (2, .int (zJ v2)), (3, .int (zJ v3))] [] 0 0 (zw μ)
theorem sg_X11_judge {g : zG} {φ : Int → zMu → Prop} {v1 : Int} {v2 : Int} {μ : zMu}
    (h : zOi g zm_X11_isList [.int (zJ v1)] μ (fun x2 μ1 => (zR x2) ∧ ((x2 = 0 → φ (-1) μ1) ∧ (¬ x2 = 0 → zOi g zm_X11_isSeries [.int (zJ v2)] μ1 (fun x5 μ4 => (zR x5) ∧ ((¬ x5 = 0 → (0 ≤ v1 ∧ v1 < 4) ∧ (zR (μ4 229 v1.toNat)) ∧ (((μ4 229 v1.toNat) < 0 → φ (-11) μ4) ∧ (0 ≤ (μ4 229 v1.toNat) → zOi g zm_X11_isThere [.ref 203, .int (zJ v2)] μ4 (fun x10 μ9 => (zR x10) ∧ ((¬ x10 = 0 → at_X11_judge_38 g φ v1 v2 0 μ9) ∧ (x10 = 0 → φ (-11) μ9)))))) ∧ (x5 = 0 → φ (-1) μ4))))))) : zOi g zm_X11_judge [.ref 203, .int (zJ v1), .int (zJ v2)] μ φ := by
  refine zok_of (by decide +kernel) rfl ?_
  show zWP g zm_X11_judge (zmo g zm_X11_judge (zΦi φ)) 0 [(0, .ref 203), (1, .int (zJ v1)), (2, .int (zJ v2))] [] 0 0 (zw μ)
  refine zw_iload_n (pc := 0) (n := 1) (i := 1) 1 (by decide +kernel) rfl rfl ?_
  refine zx_callS (pc := 1) (As := [.int (zJ v1)]) h zi_X11_isList zis_X11_isList zl_11_371 (by decide +kernel) ⟨Nat.le_of_ble_eq_true rfl, Nat.le_of_ble_eq_true rfl⟩ rfl rfl ⟨rfl, rfl⟩ ⟨Nat.zero_le _, Nat.zero_le _⟩ (zki (fun x2 μ1 h => ?_))
  obtain ⟨o3, h⟩ := h
  refine zw_if_eq (pc := 4) (off := 10) (tgt := 14) (by decide +kernel) (by decide) o3 (fun hc => ?_) (fun hc => ?_)
  · replace h := h.1 hc
    refine zw_iconst (pc := 14) (n := (-1)) (by decide +kernel) ?_
    exact zw_iret (pc := 15) (by decide +kernel) rfl (Nat.le_refl _) (Nat.le_refl _) ⟨_, _, rfl, rfl, h⟩
  · replace h := h.2 hc
    refine zw_iload_n (pc := 7) (n := 2) (i := 2) 2 (by decide +kernel) rfl rfl ?_
    refine zx_callS (pc := 8) (As := [.int (zJ v2)]) h zi_X11_isSeries zis_X11_isSeries zl_11_141 (by decide +kernel) ⟨Nat.le_of_ble_eq_true rfl, Nat.le_of_ble_eq_true rfl⟩ rfl rfl ⟨rfl, rfl⟩ ⟨Nat.zero_le _, Nat.zero_le _⟩ (zki (fun x5 μ4 h => ?_))
    obtain ⟨o6, h⟩ := h
    refine zw_if_ne (pc := 11) (off := 5) (tgt := 16) (by decide +kernel) (by decide) o6 (fun hc => ?_) (fun hc => ?_)
    · replace h := h.1 hc
      obtain ⟨o7, o8, h⟩ := h
      refine zw_aload_n (pc := 16) (n := 0) (i := 0) 0 (by decide +kernel) rfl rfl ?_
      refine zx_getR (pc := 17) (o := 26) (r := 229) zf_11_91 (by decide +kernel) rfl zc_203 rfl (by decide) rfl ?_
      refine zw_iload_n (pc := 20) (n := 1) (i := 1) 1 (by decide +kernel) rfl rfl ?_
      refine zx_iaload (pc := 21) (by decide +kernel) ⟨4, zc_229, o7.1, o7.2⟩ ?_
      refine zw_if_lt (pc := 22) (off := 11) (tgt := 33) (by decide +kernel) (by decide) o8 (fun hc => ?_) (fun hc => ?_)
      · replace h := h.1 hc
        refine zw_bipush (pc := 33) (n := (-11)) (by decide +kernel) (by decide +kernel) ?_
        exact zw_iret (pc := 35) (by decide +kernel) rfl (Nat.le_refl _) (Nat.le_refl _) ⟨_, _, rfl, rfl, h⟩
      · replace h := h.2 hc
        refine zw_aload_n (pc := 25) (n := 0) (i := 0) 0 (by decide +kernel) rfl rfl ?_
        refine zw_iload_n (pc := 26) (n := 2) (i := 2) 2 (by decide +kernel) rfl rfl ?_
        refine zx_callV (pc := 27) (As := [.int (zJ v2)]) h zi_X11_isThere zii_X11_isThere zie_X11_isThere zl_11_166 (by decide +kernel) ⟨Nat.le_of_ble_eq_true rfl, Nat.le_of_ble_eq_true rfl⟩ rfl zc_203 (by decide) rfl rfl ⟨rfl, rfl⟩ ⟨Nat.zero_le _, Nat.zero_le _⟩ (zki (fun x10 μ9 h => ?_))
        obtain ⟨o11, h⟩ := h
        refine zw_if_ne (pc := 30) (off := 6) (tgt := 36) (by decide +kernel) (by decide) o11 (fun hc => ?_) (fun hc => ?_)
        · replace h := h.1 hc
          refine zw_iconst (pc := 36) (n := 0) (by decide +kernel) ?_
          refine zw_istore_n (pc := 37) (n := 3) (i := 3) (lv' := [(0, .ref 203), (1, .int (zJ v1)), (2, .int (zJ v2)), (3, .int (zJ 0))]) (by decide +kernel) rfl (Nat.le_of_ble_eq_true rfl) rfl ?_
          exact h
        · replace h := h.2 hc
          refine zw_bipush (pc := 33) (n := (-11)) (by decide +kernel) (by decide +kernel) ?_
          exact zw_iret (pc := 35) (by decide +kernel) rfl (Nat.le_refl _) (Nat.le_refl _) ⟨_, _, rfl, rfl, h⟩
    · replace h := h.2 hc
      refine zw_iconst (pc := 14) (n := (-1)) (by decide +kernel) ?_
      exact zw_iret (pc := 15) (by decide +kernel) rfl (Nat.le_refl _) (Nat.le_refl _) ⟨_, _, rfl, rfl, h⟩
theorem sg_X11_judge_38 {g : zG} {φ : Int → zMu → Prop} {v1 : Int} {v2 : Int} {v3 : Int} {μ : zMu}
    (h : (0 ≤ v1 ∧ v1 < 4) ∧ (zR v3) ∧ (zR (μ 229 v1.toNat)) ∧ (((μ 229 v1.toNat) ≤ v3 → φ (-5) μ) ∧ (v3 < (μ 229 v1.toNat) → (0 ≤ v2 ∧ v2 < 6) ∧ (zR (μ 205 v2.toNat)) ∧ (((μ 205 v2.toNat) ≤ v3 → φ v3 μ) ∧ (v3 < (μ 205 v2.toNat) → (0 ≤ ((80 * v1) + v3) ∧ ((80 * v1) + v3) < 320) ∧ (0 ≤ ((80 * v2) + v3) ∧ ((80 * v2) + v3) < 480) ∧ (zR (μ 230 (Int.toNat ((80 * v1) + v3)))) ∧ (zR (μ 206 (Int.toNat ((80 * v2) + v3)))) ∧ (((μ 230 (Int.toNat ((80 * v1) + v3))) = (μ 206 (Int.toNat ((80 * v2) + v3))) → at_X11_judge_38 g φ v1 v2 (v3 + 1) μ) ∧ (¬ (μ 230 (Int.toNat ((80 * v1) + v3))) = (μ 206 (Int.toNat ((80 * v2) + v3))) → φ v3 μ))))))) : at_X11_judge_38 g φ v1 v2 v3 μ := by
  obtain ⟨o1, o2, o3, h⟩ := h
  refine zw_iload_n (pc := 38) (n := 3) (i := 3) 3 (by decide +kernel) rfl rfl ?_
  refine zw_aload_n (pc := 39) (n := 0) (i := 0) 0 (by decide +kernel) rfl rfl ?_
  refine zx_getR (pc := 40) (o := 26) (r := 229) zf_11_91 (by decide +kernel) rfl zc_203 rfl (by decide) rfl ?_
  refine zw_iload_n (pc := 43) (n := 1) (i := 1) 1 (by decide +kernel) rfl rfl ?_
  refine zx_iaload (pc := 44) (by decide +kernel) ⟨4, zc_229, o1.1, o1.2⟩ ?_
  refine zw_icmp_ge (pc := 45) (off := 46) (tgt := 91) (by decide +kernel) (by decide) o2 o3 (fun hc => ?_) (fun hc => ?_)
  · replace h := h.1 hc
    refine zw_bipush (pc := 91) (n := (-5)) (by decide +kernel) (by decide +kernel) ?_
    exact zw_iret (pc := 93) (by decide +kernel) rfl (Nat.le_refl _) (Nat.le_refl _) ⟨_, _, rfl, rfl, h⟩
  · replace h := h.2 hc
    obtain ⟨o4, o5, h⟩ := h
    refine zw_iload_n (pc := 48) (n := 3) (i := 3) 3 (by decide +kernel) rfl rfl ?_
    refine zw_aload_n (pc := 49) (n := 0) (i := 0) 0 (by decide +kernel) rfl rfl ?_
    refine zx_getR (pc := 50) (o := 2) (r := 205) zf_11_19 (by decide +kernel) rfl zc_203 rfl (by decide) rfl ?_
    refine zw_iload_n (pc := 53) (n := 2) (i := 2) 2 (by decide +kernel) rfl rfl ?_
    refine zx_iaload (pc := 54) (by decide +kernel) ⟨6, zc_205, o4.1, o4.2⟩ ?_
    refine zw_icmp_ge (pc := 55) (off := 28) (tgt := 83) (by decide +kernel) (by decide) o2 o5 (fun hc => ?_) (fun hc => ?_)
    · replace h := h.1 hc
      refine zw_iload_n (pc := 83) (n := 3) (i := 3) 3 (by decide +kernel) rfl rfl ?_
      exact zw_iret (pc := 84) (by decide +kernel) rfl (Nat.le_refl _) (Nat.le_refl _) ⟨_, _, rfl, rfl, h⟩
    · replace h := h.2 hc
      obtain ⟨o6, o7, o8, o9, h⟩ := h
      refine zw_aload_n (pc := 58) (n := 0) (i := 0) 0 (by decide +kernel) rfl rfl ?_
      refine zx_getR (pc := 59) (o := 27) (r := 230) zf_11_94 (by decide +kernel) rfl zc_203 rfl (by decide) rfl ?_
      refine zw_bipush (pc := 62) (n := 80) (by decide +kernel) (by decide +kernel) ?_
      refine zw_iload_n (pc := 64) (n := 1) (i := 1) 1 (by decide +kernel) rfl rfl ?_
      refine zw_imul (pc := 65) (by decide +kernel) ?_
      refine zw_iload_n (pc := 66) (n := 3) (i := 3) 3 (by decide +kernel) rfl rfl ?_
      refine zw_iadd (pc := 67) (by decide +kernel) ?_
      refine zx_iaload (pc := 68) (by decide +kernel) ⟨320, zc_230, o6.1, o6.2⟩ ?_
      refine zw_aload_n (pc := 69) (n := 0) (i := 0) 0 (by decide +kernel) rfl rfl ?_
      refine zx_getR (pc := 70) (o := 3) (r := 206) zf_11_22 (by decide +kernel) rfl zc_203 rfl (by decide) rfl ?_
      refine zw_bipush (pc := 73) (n := 80) (by decide +kernel) (by decide +kernel) ?_
      refine zw_iload_n (pc := 75) (n := 2) (i := 2) 2 (by decide +kernel) rfl rfl ?_
      refine zw_imul (pc := 76) (by decide +kernel) ?_
      refine zw_iload_n (pc := 77) (n := 3) (i := 3) 3 (by decide +kernel) rfl rfl ?_
      refine zw_iadd (pc := 78) (by decide +kernel) ?_
      refine zx_iaload (pc := 79) (by decide +kernel) ⟨480, zc_206, o7.1, o7.2⟩ ?_
      refine zw_icmp_eq (pc := 80) (off := 5) (tgt := 85) (by decide +kernel) (by decide) o8 o9 (fun hc => ?_) (fun hc => ?_)
      · replace h := h.1 hc
        refine zw_iinc (pc := 85) (i := 3) (n := 1) (lv' := [(0, .ref 203), (1, .int (zJ v1)), (2, .int (zJ v2)), (3, .int (zJ (v3 + 1)))]) 3 (by decide +kernel) rfl rfl (Nat.le_of_ble_eq_true rfl) rfl ?_
        refine zw_goto (pc := 88) (off := (-50)) (tgt := 38) (by decide +kernel) (by decide) ?_
        exact h
      · replace h := h.2 hc
        refine zw_iload_n (pc := 83) (n := 3) (i := 3) 3 (by decide +kernel) rfl rfl ?_
        exact zw_iret (pc := 84) (by decide +kernel) rfl (Nat.le_refl _) (Nat.le_refl _) ⟨_, _, rfl, rfl, h⟩
theorem sg_X11_image {g : zG} {φ : Int → zMu → Prop} {μ : zMu}
    (h : zOv g zm_X11_copies [.ref 204, .ref 231] (zup (zup (zup μ 203 42 1) 203 43 ((zup μ 203 42 1) 203 0)) 203 44 ((zup (zup μ 203 42 1) 203 43 ((zup μ 203 42 1) 203 0)) 203 4)) (fun μ1 => zOv g zm_X11_copies [.ref 205, .ref 232] μ1 (fun μ2 => zOv g zm_X11_copies [.ref 206, .ref 233] μ2 (fun μ3 => zOv g zm_X11_copies [.ref 207, .ref 234] μ3 (fun μ4 => zOv g zm_X11_copies [.ref 208, .ref 235] μ4 (fun μ5 => zOi g zm_X11_seriesMany [.ref 203] μ5 (fun x7 μ6 => φ x7 μ6))))))) : zOi g zm_X11_image [.ref 203] μ φ := by
  refine zok_of (by decide +kernel) rfl ?_
  show zWP g zm_X11_image (zmo g zm_X11_image (zΦi φ)) 0 [(0, .ref 203)] [] 0 0 (zw μ)
  refine zw_aload_n (pc := 0) (n := 0) (i := 0) 0 (by decide +kernel) rfl rfl ?_
  refine zw_iconst (pc := 1) (n := 1) (by decide +kernel) ?_
  refine zx_putZ (pc := 2) zf_11_374 (by decide +kernel) rfl zc_203 (Or.inr rfl) ?_
  refine zw_aload_n (pc := 5) (n := 0) (i := 0) 0 (by decide +kernel) rfl rfl ?_
  refine zw_aload_n (pc := 6) (n := 0) (i := 0) 0 (by decide +kernel) rfl rfl ?_
  refine zx_getI (pc := 7) zf_11_9 (by decide +kernel) rfl zc_203 ?_
  refine zx_putI (pc := 10) zf_11_378 (by decide +kernel) rfl zc_203 ?_
  refine zw_aload_n (pc := 13) (n := 0) (i := 0) 0 (by decide +kernel) rfl rfl ?_
  refine zw_aload_n (pc := 14) (n := 0) (i := 0) 0 (by decide +kernel) rfl rfl ?_
  refine zx_getI (pc := 15) zf_11_128 (by decide +kernel) rfl zc_203 ?_
  refine zx_putI (pc := 18) zf_11_381 (by decide +kernel) rfl zc_203 ?_
  refine zw_aload_n (pc := 21) (n := 0) (i := 0) 0 (by decide +kernel) rfl rfl ?_
  refine zx_getR (pc := 22) (o := 1) (r := 204) zf_11_15 (by decide +kernel) rfl zc_203 rfl (by decide) rfl ?_
  refine zw_aload_n (pc := 25) (n := 0) (i := 0) 0 (by decide +kernel) rfl rfl ?_
  refine zx_getR (pc := 26) (o := 28) (r := 231) zf_11_97 (by decide +kernel) rfl zc_203 rfl (by decide) rfl ?_
  refine zx_callS (pc := 29) (As := [.ref 204, .ref 231]) h zi_X11_copies zis_X11_copies zl_11_384 (by decide +kernel) ⟨Nat.le_of_ble_eq_true rfl, Nat.le_of_ble_eq_true rfl⟩ rfl rfl ⟨rfl, rfl⟩ ⟨Nat.zero_le _, Nat.zero_le _⟩ (zkv (fun μ1 h => ?_))
  refine zw_aload_n (pc := 32) (n := 0) (i := 0) 0 (by decide +kernel) rfl rfl ?_
  refine zx_getR (pc := 33) (o := 2) (r := 205) zf_11_19 (by decide +kernel) rfl zc_203 rfl (by decide) rfl ?_
  refine zw_aload_n (pc := 36) (n := 0) (i := 0) 0 (by decide +kernel) rfl rfl ?_
  refine zx_getR (pc := 37) (o := 29) (r := 232) zf_11_100 (by decide +kernel) rfl zc_203 rfl (by decide) rfl ?_
  refine zx_callS (pc := 40) (As := [.ref 205, .ref 232]) h zi_X11_copies zis_X11_copies zl_11_384 (by decide +kernel) ⟨Nat.le_of_ble_eq_true rfl, Nat.le_of_ble_eq_true rfl⟩ rfl rfl ⟨rfl, rfl⟩ ⟨Nat.zero_le _, Nat.zero_le _⟩ (zkv (fun μ2 h => ?_))
  refine zw_aload_n (pc := 43) (n := 0) (i := 0) 0 (by decide +kernel) rfl rfl ?_
  refine zx_getR (pc := 44) (o := 3) (r := 206) zf_11_22 (by decide +kernel) rfl zc_203 rfl (by decide) rfl ?_
  refine zw_aload_n (pc := 47) (n := 0) (i := 0) 0 (by decide +kernel) rfl rfl ?_
  refine zx_getR (pc := 48) (o := 30) (r := 233) zf_11_103 (by decide +kernel) rfl zc_203 rfl (by decide) rfl ?_
  refine zx_callS (pc := 51) (As := [.ref 206, .ref 233]) h zi_X11_copies zis_X11_copies zl_11_384 (by decide +kernel) ⟨Nat.le_of_ble_eq_true rfl, Nat.le_of_ble_eq_true rfl⟩ rfl rfl ⟨rfl, rfl⟩ ⟨Nat.zero_le _, Nat.zero_le _⟩ (zkv (fun μ3 h => ?_))
  refine zw_aload_n (pc := 54) (n := 0) (i := 0) 0 (by decide +kernel) rfl rfl ?_
  refine zx_getR (pc := 55) (o := 4) (r := 207) zf_11_25 (by decide +kernel) rfl zc_203 rfl (by decide) rfl ?_
  refine zw_aload_n (pc := 58) (n := 0) (i := 0) 0 (by decide +kernel) rfl rfl ?_
  refine zx_getR (pc := 59) (o := 31) (r := 234) zf_11_106 (by decide +kernel) rfl zc_203 rfl (by decide) rfl ?_
  refine zx_callS (pc := 62) (As := [.ref 207, .ref 234]) h zi_X11_copies zis_X11_copies zl_11_384 (by decide +kernel) ⟨Nat.le_of_ble_eq_true rfl, Nat.le_of_ble_eq_true rfl⟩ rfl rfl ⟨rfl, rfl⟩ ⟨Nat.zero_le _, Nat.zero_le _⟩ (zkv (fun μ4 h => ?_))
  refine zw_aload_n (pc := 65) (n := 0) (i := 0) 0 (by decide +kernel) rfl rfl ?_
  refine zx_getR (pc := 66) (o := 5) (r := 208) zf_11_28 (by decide +kernel) rfl zc_203 rfl (by decide) rfl ?_
  refine zw_aload_n (pc := 69) (n := 0) (i := 0) 0 (by decide +kernel) rfl rfl ?_
  refine zx_getR (pc := 70) (o := 32) (r := 235) zf_11_109 (by decide +kernel) rfl zc_203 rfl (by decide) rfl ?_
  refine zx_callS (pc := 73) (As := [.ref 208, .ref 235]) h zi_X11_copies zis_X11_copies zl_11_384 (by decide +kernel) ⟨Nat.le_of_ble_eq_true rfl, Nat.le_of_ble_eq_true rfl⟩ rfl rfl ⟨rfl, rfl⟩ ⟨Nat.zero_le _, Nat.zero_le _⟩ (zkv (fun μ5 h => ?_))
  refine zw_aload_n (pc := 76) (n := 0) (i := 0) 0 (by decide +kernel) rfl rfl ?_
  refine zx_callV (pc := 77) (As := []) h zi_X11_seriesMany zii_X11_seriesMany zie_X11_seriesMany zl_11_388 (by decide +kernel) ⟨Nat.le_of_ble_eq_true rfl, Nat.le_of_ble_eq_true rfl⟩ rfl zc_203 (by decide) rfl rfl ⟨rfl, rfl⟩ ⟨Nat.zero_le _, Nat.zero_le _⟩ (zki (fun x7 μ6 h => ?_))
  exact zw_iret (pc := 80) (by decide +kernel) rfl (Nat.le_refl _) (Nat.le_refl _) ⟨_, _, rfl, rfl, h⟩
abbrev at_X11_copies_2 (g : zG) (φ : zMu → Prop) (v0 : Nat) (v1 : Nat) (v2 : Int) (μ : zMu) : Prop := zWP g zm_X11_copies (zmo g zm_X11_copies (zΦv φ)) 2 [(0, .ref v0), (1, .ref v1), (2, .int (zJ v2))] [] 0 0 (zw μ)
theorem sg_X11_copies {g : zG} {φ : zMu → Prop} {v0 : Nat} {v1 : Nat} {n0 : Nat} {n1 : Nat} {μ : zMu} (h_v0 : zS v0 12 n0) (h_v1 : zS v1 12 n1)
    (h : at_X11_copies_2 g φ v0 v1 0 μ) : zOv g zm_X11_copies [.ref v0, .ref v1] μ φ := by
  refine zok_of (by decide +kernel) rfl ?_
  show zWP g zm_X11_copies (zmo g zm_X11_copies (zΦv φ)) 0 [(0, .ref v0), (1, .ref v1)] [] 0 0 (zw μ)
  refine zw_iconst (pc := 0) (n := 0) (by decide +kernel) ?_
  refine zw_istore_n (pc := 1) (n := 2) (i := 2) (lv' := [(0, .ref v0), (1, .ref v1), (2, .int (zJ 0))]) (by decide +kernel) rfl (Nat.le_of_ble_eq_true rfl) rfl ?_
  exact h
theorem sg_X11_copies_2 {g : zG} {φ : zMu → Prop} {v0 : Nat} {v1 : Nat} {v2 : Int} {n0 : Nat} {n1 : Nat} {μ : zMu} (h_v0 : zS v0 12 n0) (h_v1 : zS v1 12 n1)
    (h : (zR v2) ∧ (zR (n0 : Int)) ∧ (((n0 : Int) ≤ v2 → φ μ) ∧ (v2 < (n0 : Int) → (0 ≤ v2 ∧ v2 < n0) ∧ (0 ≤ v2 ∧ v2 < n1) ∧ at_X11_copies_2 g φ v0 v1 (v2 + 1) (zup μ v1 v2.toNat (μ v0 v2.toNat))))) : at_X11_copies_2 g φ v0 v1 v2 μ := by
  obtain ⟨o1, o2, h⟩ := h
  refine zw_iload_n (pc := 2) (n := 2) (i := 2) 2 (by decide +kernel) rfl rfl ?_
  refine zw_aload_n (pc := 3) (n := 0) (i := 0) 0 (by decide +kernel) rfl rfl ?_
  refine zx_alen (pc := 4) (n := n0) (by decide +kernel) h_v0 ?_
  refine zw_icmp_ge (pc := 5) (off := 15) (tgt := 20) (by decide +kernel) (by decide) o1 o2 (fun hc => ?_) (fun hc => ?_)
  · replace h := h.1 hc
    exact zw_vret (pc := 20) (by decide +kernel) rfl (Nat.le_refl _) (Nat.le_refl _) ⟨_, rfl, rfl, h⟩
  · replace h := h.2 hc
    obtain ⟨o3, o4, h⟩ := h
    refine zw_aload_n (pc := 8) (n := 1) (i := 1) 1 (by decide +kernel) rfl rfl ?_
    refine zw_iload_n (pc := 9) (n := 2) (i := 2) 2 (by decide +kernel) rfl rfl ?_
    refine zw_aload_n (pc := 10) (n := 0) (i := 0) 0 (by decide +kernel) rfl rfl ?_
    refine zw_iload_n (pc := 11) (n := 2) (i := 2) 2 (by decide +kernel) rfl rfl ?_
    refine zx_iaload (pc := 12) (by decide +kernel) ⟨n0, h_v0, o3.1, o3.2⟩ ?_
    refine zx_iastore (pc := 13) (by decide +kernel) ⟨n1, h_v1, o4.1, o4.2⟩ ?_
    refine zw_iinc (pc := 14) (i := 2) (n := 1) (lv' := [(0, .ref v0), (1, .ref v1), (2, .int (zJ (v2 + 1)))]) 2 (by decide +kernel) rfl rfl (Nat.le_of_ble_eq_true rfl) rfl ?_
    refine zw_goto (pc := 17) (off := (-15)) (tgt := 2) (by decide +kernel) (by decide) ?_
    exact h
abbrev at_X11_seriesMany_4 (g : zG) (φ : Int → zMu → Prop) (v1 : Int) (v2 : Int) (μ : zMu) : Prop := zWP g zm_X11_seriesMany (zmo g zm_X11_seriesMany (zΦi φ)) 4 [(0, .ref 203), (1, .int (zJ v1)), (2, .int (zJ v2))] [] 0 0 (zw μ)
theorem sg_X11_seriesMany {g : zG} {φ : Int → zMu → Prop} {μ : zMu}
    (h : at_X11_seriesMany_4 g φ 0 0 μ) : zOi g zm_X11_seriesMany [.ref 203] μ φ := by
  refine zok_of (by decide +kernel) rfl ?_
  show zWP g zm_X11_seriesMany (zmo g zm_X11_seriesMany (zΦi φ)) 0 [(0, .ref 203)] [] 0 0 (zw μ)
  refine zw_iconst (pc := 0) (n := 0) (by decide +kernel) ?_
  refine zw_istore_n (pc := 1) (n := 1) (i := 1) (lv' := [(0, .ref 203), (1, .int (zJ 0))]) (by decide +kernel) rfl (Nat.le_of_ble_eq_true rfl) rfl ?_
  refine zw_iconst (pc := 2) (n := 0) (by decide +kernel) ?_
  refine zw_istore_n (pc := 3) (n := 2) (i := 2) (lv' := [(0, .ref 203), (1, .int (zJ 0)), (2, .int (zJ 0))]) (by decide +kernel) rfl (Nat.le_of_ble_eq_true rfl) rfl ?_
  exact h
theorem sg_X11_seriesMany_4 {g : zG} {φ : Int → zMu → Prop} {v1 : Int} {v2 : Int} {μ : zMu}
    (h : (zR v2) ∧ ((6 ≤ v2 → φ v1 μ) ∧ (v2 < 6 → zOi g zm_X11_isThere [.ref 203, .int (zJ v2)] μ (fun x3 μ2 => (zR x3) ∧ ((x3 = 0 → at_X11_seriesMany_4 g φ (v1 + 0) (v2 + 1) μ2) ∧ (¬ x3 = 0 → at_X11_seriesMany_4 g φ (v1 + 1) (v2 + 1) μ2)))))) : at_X11_seriesMany_4 g φ v1 v2 μ := by
  obtain ⟨o1, h⟩ := h
  refine zw_iload_n (pc := 4) (n := 2) (i := 2) 2 (by decide +kernel) rfl rfl ?_
  refine zw_bipush (pc := 5) (n := 6) (by decide +kernel) (by decide +kernel) ?_
  refine zw_icmp_ge (pc := 7) (off := 25) (tgt := 32) (by decide +kernel) (by decide) o1 ⟨by decide, by decide⟩ (fun hc => ?_) (fun hc => ?_)
  · replace h := h.1 hc
    refine zw_iload_n (pc := 32) (n := 1) (i := 1) 1 (by decide +kernel) rfl rfl ?_
    exact zw_iret (pc := 33) (by decide +kernel) rfl (Nat.le_refl _) (Nat.le_refl _) ⟨_, _, rfl, rfl, h⟩
  · replace h := h.2 hc
    refine zw_iload_n (pc := 10) (n := 1) (i := 1) 1 (by decide +kernel) rfl rfl ?_
    refine zw_aload_n (pc := 11) (n := 0) (i := 0) 0 (by decide +kernel) rfl rfl ?_
    refine zw_iload_n (pc := 12) (n := 2) (i := 2) 2 (by decide +kernel) rfl rfl ?_
    refine zx_callV (pc := 13) (As := [.int (zJ v2)]) h zi_X11_isThere zii_X11_isThere zie_X11_isThere zl_11_166 (by decide +kernel) ⟨Nat.le_of_ble_eq_true rfl, Nat.le_of_ble_eq_true rfl⟩ rfl zc_203 (by decide) rfl rfl ⟨rfl, rfl⟩ ⟨Nat.zero_le _, Nat.zero_le _⟩ (zki (fun x3 μ2 h => ?_))
    obtain ⟨o4, h⟩ := h
    refine zw_if_eq (pc := 16) (off := 7) (tgt := 23) (by decide +kernel) (by decide) o4 (fun hc => ?_) (fun hc => ?_)
    · replace h := h.1 hc
      refine zw_iconst (pc := 23) (n := 0) (by decide +kernel) ?_
      refine zw_iadd (pc := 24) (by decide +kernel) ?_
      refine zw_istore_n (pc := 25) (n := 1) (i := 1) (lv' := [(0, .ref 203), (1, .int (zJ (v1 + 0))), (2, .int (zJ v2))]) (by decide +kernel) rfl (Nat.le_of_ble_eq_true rfl) rfl ?_
      refine zw_iinc (pc := 26) (i := 2) (n := 1) (lv' := [(0, .ref 203), (1, .int (zJ (v1 + 0))), (2, .int (zJ (v2 + 1)))]) 2 (by decide +kernel) rfl rfl (Nat.le_of_ble_eq_true rfl) rfl ?_
      refine zw_goto (pc := 29) (off := (-25)) (tgt := 4) (by decide +kernel) (by decide) ?_
      exact h
    · replace h := h.2 hc
      refine zw_iconst (pc := 19) (n := 1) (by decide +kernel) ?_
      refine zw_goto (pc := 20) (off := 4) (tgt := 24) (by decide +kernel) (by decide) ?_
      refine zw_iadd (pc := 24) (by decide +kernel) ?_
      refine zw_istore_n (pc := 25) (n := 1) (i := 1) (lv' := [(0, .ref 203), (1, .int (zJ (v1 + 1))), (2, .int (zJ v2))]) (by decide +kernel) rfl (Nat.le_of_ble_eq_true rfl) rfl ?_
      refine zw_iinc (pc := 26) (i := 2) (n := 1) (lv' := [(0, .ref 203), (1, .int (zJ (v1 + 1))), (2, .int (zJ (v2 + 1)))]) 2 (by decide +kernel) rfl rfl (Nat.le_of_ble_eq_true rfl) rfl ?_
      refine zw_goto (pc := 29) (off := (-25)) (tgt := 4) (by decide +kernel) (by decide) ?_
      exact h
theorem sg_X11_back {g : zG} {φ : Int → zMu → Prop} {μ : zMu}
    (h : (zR (μ 203 42)) ∧ ((¬ (μ 203 42) = 0 → zOv g zm_X11_copies [.ref 231, .ref 204] (zup (zup μ 203 0 (μ 203 43)) 203 4 ((zup μ 203 0 (μ 203 43)) 203 44)) (fun μ2 => zOv g zm_X11_copies [.ref 232, .ref 205] μ2 (fun μ3 => zOv g zm_X11_copies [.ref 233, .ref 206] μ3 (fun μ4 => zOv g zm_X11_copies [.ref 234, .ref 207] μ4 (fun μ5 => zOv g zm_X11_copies [.ref 235, .ref 208] μ5 (fun μ6 => zOi g zm_X11_seriesMany [.ref 203] μ6 (fun x8 μ7 => φ x8 μ7))))))) ∧ ((μ 203 42) = 0 → φ (-3) μ))) : zOi g zm_X11_back [.ref 203] μ φ := by
  refine zok_of (by decide +kernel) rfl ?_
  show zWP g zm_X11_back (zmo g zm_X11_back (zΦi φ)) 0 [(0, .ref 203)] [] 0 0 (zw μ)
  obtain ⟨o1, h⟩ := h
  refine zw_aload_n (pc := 0) (n := 0) (i := 0) 0 (by decide +kernel) rfl rfl ?_
  refine zx_getI (pc := 1) zf_11_374 (by decide +kernel) rfl zc_203 ?_
  refine zw_if_ne (pc := 4) (off := 6) (tgt := 10) (by decide +kernel) (by decide) o1 (fun hc => ?_) (fun hc => ?_)
  · replace h := h.1 hc
    refine zw_aload_n (pc := 10) (n := 0) (i := 0) 0 (by decide +kernel) rfl rfl ?_
    refine zw_aload_n (pc := 11) (n := 0) (i := 0) 0 (by decide +kernel) rfl rfl ?_
    refine zx_getI (pc := 12) zf_11_378 (by decide +kernel) rfl zc_203 ?_
    refine zx_putI (pc := 15) zf_11_9 (by decide +kernel) rfl zc_203 ?_
    refine zw_aload_n (pc := 18) (n := 0) (i := 0) 0 (by decide +kernel) rfl rfl ?_
    refine zw_aload_n (pc := 19) (n := 0) (i := 0) 0 (by decide +kernel) rfl rfl ?_
    refine zx_getI (pc := 20) zf_11_381 (by decide +kernel) rfl zc_203 ?_
    refine zx_putI (pc := 23) zf_11_128 (by decide +kernel) rfl zc_203 ?_
    refine zw_aload_n (pc := 26) (n := 0) (i := 0) 0 (by decide +kernel) rfl rfl ?_
    refine zx_getR (pc := 27) (o := 28) (r := 231) zf_11_97 (by decide +kernel) rfl zc_203 rfl (by decide) rfl ?_
    refine zw_aload_n (pc := 30) (n := 0) (i := 0) 0 (by decide +kernel) rfl rfl ?_
    refine zx_getR (pc := 31) (o := 1) (r := 204) zf_11_15 (by decide +kernel) rfl zc_203 rfl (by decide) rfl ?_
    refine zx_callS (pc := 34) (As := [.ref 231, .ref 204]) h zi_X11_copies zis_X11_copies zl_11_384 (by decide +kernel) ⟨Nat.le_of_ble_eq_true rfl, Nat.le_of_ble_eq_true rfl⟩ rfl rfl ⟨rfl, rfl⟩ ⟨Nat.zero_le _, Nat.zero_le _⟩ (zkv (fun μ2 h => ?_))
    refine zw_aload_n (pc := 37) (n := 0) (i := 0) 0 (by decide +kernel) rfl rfl ?_
    refine zx_getR (pc := 38) (o := 29) (r := 232) zf_11_100 (by decide +kernel) rfl zc_203 rfl (by decide) rfl ?_
    refine zw_aload_n (pc := 41) (n := 0) (i := 0) 0 (by decide +kernel) rfl rfl ?_
    refine zx_getR (pc := 42) (o := 2) (r := 205) zf_11_19 (by decide +kernel) rfl zc_203 rfl (by decide) rfl ?_
    refine zx_callS (pc := 45) (As := [.ref 232, .ref 205]) h zi_X11_copies zis_X11_copies zl_11_384 (by decide +kernel) ⟨Nat.le_of_ble_eq_true rfl, Nat.le_of_ble_eq_true rfl⟩ rfl rfl ⟨rfl, rfl⟩ ⟨Nat.zero_le _, Nat.zero_le _⟩ (zkv (fun μ3 h => ?_))
    refine zw_aload_n (pc := 48) (n := 0) (i := 0) 0 (by decide +kernel) rfl rfl ?_
    refine zx_getR (pc := 49) (o := 30) (r := 233) zf_11_103 (by decide +kernel) rfl zc_203 rfl (by decide) rfl ?_
    refine zw_aload_n (pc := 52) (n := 0) (i := 0) 0 (by decide +kernel) rfl rfl ?_
    refine zx_getR (pc := 53) (o := 3) (r := 206) zf_11_22 (by decide +kernel) rfl zc_203 rfl (by decide) rfl ?_
    refine zx_callS (pc := 56) (As := [.ref 233, .ref 206]) h zi_X11_copies zis_X11_copies zl_11_384 (by decide +kernel) ⟨Nat.le_of_ble_eq_true rfl, Nat.le_of_ble_eq_true rfl⟩ rfl rfl ⟨rfl, rfl⟩ ⟨Nat.zero_le _, Nat.zero_le _⟩ (zkv (fun μ4 h => ?_))
    refine zw_aload_n (pc := 59) (n := 0) (i := 0) 0 (by decide +kernel) rfl rfl ?_
    refine zx_getR (pc := 60) (o := 31) (r := 234) zf_11_106 (by decide +kernel) rfl zc_203 rfl (by decide) rfl ?_
    refine zw_aload_n (pc := 63) (n := 0) (i := 0) 0 (by decide +kernel) rfl rfl ?_
    refine zx_getR (pc := 64) (o := 4) (r := 207) zf_11_25 (by decide +kernel) rfl zc_203 rfl (by decide) rfl ?_
    refine zx_callS (pc := 67) (As := [.ref 234, .ref 207]) h zi_X11_copies zis_X11_copies zl_11_384 (by decide +kernel) ⟨Nat.le_of_ble_eq_true rfl, Nat.le_of_ble_eq_true rfl⟩ rfl rfl ⟨rfl, rfl⟩ ⟨Nat.zero_le _, Nat.zero_le _⟩ (zkv (fun μ5 h => ?_))
    refine zw_aload_n (pc := 70) (n := 0) (i := 0) 0 (by decide +kernel) rfl rfl ?_
    refine zx_getR (pc := 71) (o := 32) (r := 235) zf_11_109 (by decide +kernel) rfl zc_203 rfl (by decide) rfl ?_
    refine zw_aload_n (pc := 74) (n := 0) (i := 0) 0 (by decide +kernel) rfl rfl ?_
    refine zx_getR (pc := 75) (o := 5) (r := 208) zf_11_28 (by decide +kernel) rfl zc_203 rfl (by decide) rfl ?_
    refine zx_callS (pc := 78) (As := [.ref 235, .ref 208]) h zi_X11_copies zis_X11_copies zl_11_384 (by decide +kernel) ⟨Nat.le_of_ble_eq_true rfl, Nat.le_of_ble_eq_true rfl⟩ rfl rfl ⟨rfl, rfl⟩ ⟨Nat.zero_le _, Nat.zero_le _⟩ (zkv (fun μ6 h => ?_))
    refine zw_aload_n (pc := 81) (n := 0) (i := 0) 0 (by decide +kernel) rfl rfl ?_
    refine zx_callV (pc := 82) (As := []) h zi_X11_seriesMany zii_X11_seriesMany zie_X11_seriesMany zl_11_388 (by decide +kernel) ⟨Nat.le_of_ble_eq_true rfl, Nat.le_of_ble_eq_true rfl⟩ rfl zc_203 (by decide) rfl rfl ⟨rfl, rfl⟩ ⟨Nat.zero_le _, Nat.zero_le _⟩ (zki (fun x8 μ7 h => ?_))
    exact zw_iret (pc := 85) (by decide +kernel) rfl (Nat.le_refl _) (Nat.le_refl _) ⟨_, _, rfl, rfl, h⟩
  · replace h := h.2 hc
    refine zw_bipush (pc := 7) (n := (-3)) (by decide +kernel) (by decide +kernel) ?_
    exact zw_iret (pc := 9) (by decide +kernel) rfl (Nat.le_refl _) (Nat.le_refl _) ⟨_, _, rfl, rfl, h⟩
theorem sg_X11_count {g : zG} {φ : Int → zMu → Prop} {v1 : Int} {μ : zMu}
    (h : (zR v1) ∧ ((v1 < 0 ∨ 4 < v1 → φ (-2) μ) ∧ (v1 = 0 → φ (μ 203 0) μ) ∧ (v1 = 1 → zOi g zm_X11_seriesMany [.ref 203] μ (fun x4 μ3 => φ x4 μ3)) ∧ (v1 = 2 → zOi g zm_X11_keptMany [.ref 203] μ (fun x6 μ5 => φ x6 μ5)) ∧ (v1 = 3 → φ (μ 203 31) μ) ∧ (v1 = 4 → φ (μ 203 39) μ))) : zOi g zm_X11_count [.ref 203, .int (zJ v1)] μ φ := by
  refine zok_of (by decide +kernel) rfl ?_
  show zWP g zm_X11_count (zmo g zm_X11_count (zΦi φ)) 0 [(0, .ref 203), (1, .int (zJ v1))] [] 0 0 (zw μ)
  obtain ⟨o1, h⟩ := h
  refine zw_iload_n (pc := 0) (n := 1) (i := 1) 1 (by decide +kernel) rfl rfl ?_
  by_cases e2 : v1 < 0 ∨ 4 < v1
  · replace h := h.1 e2
    refine zw_swOut (pc := 1) (tgt := 61) (by decide +kernel : decode zm_X11_count.2.1 1 = .ok (.tableswitch 60 0 4 #[35, 40, 45, 50, 55], 35)) o1 e2 (by decide) ?_
    refine zw_bipush (pc := 61) (n := (-2)) (by decide +kernel) (by decide +kernel) ?_
    exact zw_iret (pc := 63) (by decide +kernel) rfl (Nat.le_refl _) (Nat.le_refl _) ⟨_, _, rfl, rfl, h⟩
  · replace h := h.2
    rcases (show v1 = 0 ∨ v1 = 1 ∨ v1 = 2 ∨ v1 = 3 ∨ v1 = 4 by omega) with e2 | e2 | e2 | e2 | e2
    · replace h := h.1 e2
      refine zw_swIn (pc := 1) (off := 35) (tgt := 36) (by decide +kernel : decode zm_X11_count.2.1 1 = .ok (.tableswitch 60 0 4 #[35, 40, 45, 50, 55], 35)) o1 (by omega) (by omega) (by rw [e2]; rfl) (by decide) ?_
      refine zw_aload_n (pc := 36) (n := 0) (i := 0) 0 (by decide +kernel) rfl rfl ?_
      refine zx_getI (pc := 37) zf_11_9 (by decide +kernel) rfl zc_203 ?_
      exact zw_iret (pc := 40) (by decide +kernel) rfl (Nat.le_refl _) (Nat.le_refl _) ⟨_, _, rfl, rfl, h⟩
    · replace h := h.2.1 e2
      refine zw_swIn (pc := 1) (off := 40) (tgt := 41) (by decide +kernel : decode zm_X11_count.2.1 1 = .ok (.tableswitch 60 0 4 #[35, 40, 45, 50, 55], 35)) o1 (by omega) (by omega) (by rw [e2]; rfl) (by decide) ?_
      refine zw_aload_n (pc := 41) (n := 0) (i := 0) 0 (by decide +kernel) rfl rfl ?_
      refine zx_callV (pc := 42) (As := []) h zi_X11_seriesMany zii_X11_seriesMany zie_X11_seriesMany zl_11_388 (by decide +kernel) ⟨Nat.le_of_ble_eq_true rfl, Nat.le_of_ble_eq_true rfl⟩ rfl zc_203 (by decide) rfl rfl ⟨rfl, rfl⟩ ⟨Nat.zero_le _, Nat.zero_le _⟩ (zki (fun x4 μ3 h => ?_))
      exact zw_iret (pc := 45) (by decide +kernel) rfl (Nat.le_refl _) (Nat.le_refl _) ⟨_, _, rfl, rfl, h⟩
    · replace h := h.2.2.1 e2
      refine zw_swIn (pc := 1) (off := 45) (tgt := 46) (by decide +kernel : decode zm_X11_count.2.1 1 = .ok (.tableswitch 60 0 4 #[35, 40, 45, 50, 55], 35)) o1 (by omega) (by omega) (by rw [e2]; rfl) (by decide) ?_
      refine zw_aload_n (pc := 46) (n := 0) (i := 0) 0 (by decide +kernel) rfl rfl ?_
      refine zx_callV (pc := 47) (As := []) h zi_X11_keptMany zii_X11_keptMany zie_X11_keptMany zl_11_272 (by decide +kernel) ⟨Nat.le_of_ble_eq_true rfl, Nat.le_of_ble_eq_true rfl⟩ rfl zc_203 (by decide) rfl rfl ⟨rfl, rfl⟩ ⟨Nat.zero_le _, Nat.zero_le _⟩ (zki (fun x6 μ5 h => ?_))
      exact zw_iret (pc := 50) (by decide +kernel) rfl (Nat.le_refl _) (Nat.le_refl _) ⟨_, _, rfl, rfl, h⟩
    · replace h := h.2.2.2.1 e2
      refine zw_swIn (pc := 1) (off := 50) (tgt := 51) (by decide +kernel : decode zm_X11_count.2.1 1 = .ok (.tableswitch 60 0 4 #[35, 40, 45, 50, 55], 35)) o1 (by omega) (by omega) (by rw [e2]; rfl) (by decide) ?_
      refine zw_aload_n (pc := 51) (n := 0) (i := 0) 0 (by decide +kernel) rfl rfl ?_
      refine zx_getI (pc := 52) zf_11_282 (by decide +kernel) rfl zc_203 ?_
      exact zw_iret (pc := 55) (by decide +kernel) rfl (Nat.le_refl _) (Nat.le_refl _) ⟨_, _, rfl, rfl, h⟩
    · replace h := h.2.2.2.2 e2
      refine zw_swIn (pc := 1) (off := 55) (tgt := 56) (by decide +kernel : decode zm_X11_count.2.1 1 = .ok (.tableswitch 60 0 4 #[35, 40, 45, 50, 55], 35)) o1 (by omega) (by omega) (by rw [e2]; rfl) (by decide) ?_
      refine zw_aload_n (pc := 56) (n := 0) (i := 0) 0 (by decide +kernel) rfl rfl ?_
      refine zx_getI (pc := 57) zf_11_358 (by decide +kernel) rfl zc_203 ?_
      exact zw_iret (pc := 60) (by decide +kernel) rfl (Nat.le_refl _) (Nat.le_refl _) ⟨_, _, rfl, rfl, h⟩
