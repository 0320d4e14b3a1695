theorem sg_X11_termAt {g : zG} {φ : Int → zMu → Prop} {v1 : Int} {v2 : Int} {μ : zMu}
    (h : zOi g zm_X11_place [.int (zJ (μ 203 4)), .int (zJ v1), .int (zJ v2)] μ (fun x2 μ1 => (0 ≤ x2 ∧ x2 < 81) ∧ φ (μ1 207 x2.toNat) μ1)) : zOi g zm_X11_termAt [.ref 203, .int (zJ v1), .int (zJ v2)] μ φ := by
  refine zok_of (by decide +kernel) rfl ?_
  show zWP g zm_X11_termAt (zmo g zm_X11_termAt (zΦi φ)) 0 [(0, .ref 203), (1, .int (zJ v1)), (2, .int (zJ v2))] [] 0 0 (zw μ)
  refine zw_aload_n (pc := 0) (n := 0) (i := 0) 0 (by decide +kernel) rfl rfl ?_
  refine zx_getR (pc := 1) (o := 4) (r := 207) zf_11_25 (by decide +kernel) rfl zc_203 rfl (by decide) rfl ?_
  refine zw_aload_n (pc := 4) (n := 0) (i := 0) 0 (by decide +kernel) rfl rfl ?_
  refine zx_getI (pc := 5) zf_11_128 (by decide +kernel) rfl zc_203 ?_
  refine zw_iload_n (pc := 8) (n := 1) (i := 1) 1 (by decide +kernel) rfl rfl ?_
  refine zw_iload_n (pc := 9) (n := 2) (i := 2) 2 (by decide +kernel) rfl rfl ?_
  refine zx_callS (pc := 10) (As := [.int (zJ (μ 203 4)), .int (zJ v1), .int (zJ v2)]) h zi_X11_place zis_X11_place zl_11_218 (by decide +kernel) ⟨Nat.le_of_ble_eq_true rfl, Nat.le_of_ble_eq_true rfl⟩ rfl rfl ⟨rfl, rfl⟩ ⟨Nat.zero_le _, Nat.zero_le _⟩ (zki (fun x2 μ1 h => ?_))
  obtain ⟨o3, h⟩ := h
  refine zx_iaload (pc := 13) (by decide +kernel) ⟨81, zc_207, o3.1, o3.2⟩ ?_
  exact zw_iret (pc := 14) (by decide +kernel) rfl (Nat.le_refl _) (Nat.le_refl _) ⟨_, _, rfl, rfl, h⟩
theorem sg_X11_term {g : zG} {φ : Int → zMu → Prop} {v1 : Int} {v2 : Int} {μ : zMu}
    (h : (zR v1) ∧ zOi g zm_X11_in [.long (zL v1), .long (zL 0), .long (zL 8)] μ (fun x3 μ2 => (zR x3) ∧ ((x3 = 0 → φ (-1) μ2) ∧ (¬ x3 = 0 → (zR v2) ∧ zOi g zm_X11_in [.long (zL v2), .long (zL 0), .long (zL 8)] μ2 (fun x7 μ6 => (zR x7) ∧ ((¬ x7 = 0 → (zR (μ6 203 4)) ∧ ((¬ (μ6 203 4) = 0 → (((μ6 203 4) < v1 → φ (-1) μ6) ∧ (v1 ≤ (μ6 203 4) → (((μ6 203 4) < v2 → φ (-1) μ6) ∧ (v2 ≤ (μ6 203 4) → zOi g zm_X11_termAt [.ref 203, .int (zJ v1), .int (zJ v2)] μ6 (fun x11 μ10 => φ x11 μ10)))))) ∧ ((μ6 203 4) = 0 → φ (-11) μ6))) ∧ (x7 = 0 → φ (-1) μ6))))))) : zOi g zm_X11_term [.ref 203, .int (zJ v1), .int (zJ v2)] μ φ := by
  refine zok_of (by decide +kernel) rfl ?_
  show zWP g zm_X11_term (zmo g zm_X11_term (zΦi φ)) 0 [(0, .ref 203), (1, .int (zJ v1)), (2, .int (zJ v2))] [] 0 0 (zw μ)
  obtain ⟨o1, h⟩ := h
  refine zw_iload_n (pc := 0) (n := 1) (i := 1) 1 (by decide +kernel) rfl rfl ?_
  refine zw_i2l (pc := 1) (by decide +kernel) o1 ?_
  refine zw_lconst (pc := 2) (n := 0) (v := 0) (by decide +kernel) rfl ?_
  refine zw_ldc2 (pc := 3) (v := 8) (by decide +kernel) zk_11_229 ?_
  refine zx_callS (pc := 6) (As := [.long (zL v1), .long (zL 0), .long (zL 8)]) h zi_X11_in zis_X11_in zl_11_114 (by decide +kernel) ⟨Nat.le_of_ble_eq_true rfl, Nat.le_of_ble_eq_true rfl⟩ rfl rfl ⟨rfl, rfl⟩ ⟨Nat.zero_le _, Nat.zero_le _⟩ (zki (fun x3 μ2 h => ?_))
  obtain ⟨o4, h⟩ := h
  refine zw_if_eq (pc := 9) (off := 15) (tgt := 24) (by decide +kernel) (by decide) o4 (fun hc => ?_) (fun hc => ?_)
  · replace h := h.1 hc
    refine zw_iconst (pc := 24) (n := (-1)) (by decide +kernel) ?_
    exact zw_iret (pc := 25) (by decide +kernel) rfl (Nat.le_refl _) (Nat.le_refl _) ⟨_, _, rfl, rfl, h⟩
  · replace h := h.2 hc
    obtain ⟨o5, h⟩ := h
    refine zw_iload_n (pc := 12) (n := 2) (i := 2) 2 (by decide +kernel) rfl rfl ?_
    refine zw_i2l (pc := 13) (by decide +kernel) o5 ?_
    refine zw_lconst (pc := 14) (n := 0) (v := 0) (by decide +kernel) rfl ?_
    refine zw_ldc2 (pc := 15) (v := 8) (by decide +kernel) zk_11_229 ?_
    refine zx_callS (pc := 18) (As := [.long (zL v2), .long (zL 0), .long (zL 8)]) h zi_X11_in zis_X11_in zl_11_114 (by decide +kernel) ⟨Nat.le_of_ble_eq_true rfl, Nat.le_of_ble_eq_true rfl⟩ rfl rfl ⟨rfl, rfl⟩ ⟨Nat.zero_le _, Nat.zero_le _⟩ (zki (fun x7 μ6 h => ?_))
    obtain ⟨o8, h⟩ := h
    refine zw_if_ne (pc := 21) (off := 5) (tgt := 26) (by decide +kernel) (by decide) o8 (fun hc => ?_) (fun hc => ?_)
    · replace h := h.1 hc
      obtain ⟨o9, h⟩ := h
      refine zw_aload_n (pc := 26) (n := 0) (i := 0) 0 (by decide +kernel) rfl rfl ?_
      refine zx_getI (pc := 27) zf_11_128 (by decide +kernel) rfl zc_203 ?_
      refine zw_if_ne (pc := 30) (off := 6) (tgt := 36) (by decide +kernel) (by decide) o9 (fun hc => ?_) (fun hc => ?_)
      · replace h := h.1 hc
        refine zw_iload_n (pc := 36) (n := 1) (i := 1) 1 (by decide +kernel) rfl rfl ?_
        refine zw_aload_n (pc := 37) (n := 0) (i := 0) 0 (by decide +kernel) rfl rfl ?_
        refine zx_getI (pc := 38) zf_11_128 (by decide +kernel) rfl zc_203 ?_
        refine zw_icmp_gt (pc := 41) (off := 20) (tgt := 61) (by decide +kernel) (by decide) o1 o9 (fun hc => ?_) (fun hc => ?_)
        · replace h := h.1 hc
          refine zw_iconst (pc := 61) (n := (-1)) (by decide +kernel) ?_
          exact zw_iret (pc := 62) (by decide +kernel) rfl (Nat.le_refl _) (Nat.le_refl _) ⟨_, _, rfl, rfl, h⟩
        · replace h := h.2 hc
          refine zw_iload_n (pc := 44) (n := 2) (i := 2) 2 (by decide +kernel) rfl rfl ?_
          refine zw_aload_n (pc := 45) (n := 0) (i := 0) 0 (by decide +kernel) rfl rfl ?_
          refine zx_getI (pc := 46) zf_11_128 (by decide +kernel) rfl zc_203 ?_
          refine zw_icmp_gt (pc := 49) (off := 12) (tgt := 61) (by decide +kernel) (by decide) o5 o9 (fun hc => ?_) (fun hc => ?_)
          · replace h := h.1 hc
            refine zw_iconst (pc := 61) (n := (-1)) (by decide +kernel) ?_
            exact zw_iret (pc := 62) (by decide +kernel) rfl (Nat.le_refl _) (Nat.le_refl _) ⟨_, _, rfl, rfl, h⟩
          · replace h := h.2 hc
            refine zw_aload_n (pc := 52) (n := 0) (i := 0) 0 (by decide +kernel) rfl rfl ?_
            refine zw_iload_n (pc := 53) (n := 1) (i := 1) 1 (by decide +kernel) rfl rfl ?_
            refine zw_iload_n (pc := 54) (n := 2) (i := 2) 2 (by decide +kernel) rfl rfl ?_
            refine zx_callV (pc := 55) (As := [.int (zJ v1), .int (zJ v2)]) h zi_X11_termAt zii_X11_termAt zie_X11_termAt zl_11_240 (by decide +kernel) ⟨Nat.le_of_ble_eq_true rfl, Nat.le_of_ble_eq_true rfl⟩ rfl zc_203 (by decide) rfl rfl ⟨rfl, rfl⟩ ⟨Nat.zero_le _, Nat.zero_le _⟩ (zki (fun x11 μ10 h => ?_))
            refine zw_goto (pc := 58) (off := 4) (tgt := 62) (by decide +kernel) (by decide) ?_
            exact zw_iret (pc := 62) (by decide +kernel) rfl (Nat.le_refl _) (Nat.le_refl _) ⟨_, _, rfl, rfl, h⟩
      · replace h := h.2 hc
        refine zw_bipush (pc := 33) (n := (-11)) (by decide +kernel) (by decide +kernel) ?_
        exact zw_iret (pc := 35) (by decide +kernel) rfl (Nat.le_refl _) (Nat.le_refl _) ⟨_, _, rfl, rfl, h⟩
    · replace h := h.2 hc
      refine zw_iconst (pc := 24) (n := (-1)) (by decide +kernel) ?_
      exact zw_iret (pc := 25) (by decide +kernel) rfl (Nat.le_refl _) (Nat.le_refl _) ⟨_, _, rfl, rfl, h⟩
theorem sg_X11_at {g : zG} {φ : Int → zMu → Prop} {v1 : Int} {v2 : Int} {μ : zMu}
    (h : zOi g zm_X11_isValue [.ref 203, .int (zJ v1)] μ (fun x2 μ1 => (zR x2) ∧ ((x2 = 0 → φ (-2) μ1) ∧ (¬ x2 = 0 → zOi g zm_X11_isValue [.ref 203, .int (zJ v2)] μ1 (fun x5 μ4 => (zR x5) ∧ ((¬ x5 = 0 → (zR (μ4 203 4)) ∧ ((¬ (μ4 203 4) = 0 → zOi g zm_X11_puts [.ref 203, .int (zJ v1)] μ4 (fun x9 μ8 => zOi g zm_X11_worth [.ref 203, .int (zJ v2)] μ8 (fun x11 μ10 => φ x11 μ10))) ∧ ((μ4 203 4) = 0 → φ (-11) μ4))) ∧ (x5 = 0 → φ (-2) μ4))))))) : zOi g zm_X11_at [.ref 203, .int (zJ v1), .int (zJ v2)] μ φ := by
  refine zok_of (by decide +kernel) rfl ?_
  show zWP g zm_X11_at (zmo g zm_X11_at (zΦi φ)) 0 [(0, .ref 203), (1, .int (zJ v1)), (2, .int (zJ v2))] [] 0 0 (zw μ)
  refine zw_aload_n (pc := 0) (n := 0) (i := 0) 0 (by decide +kernel) rfl rfl ?_
  refine zw_iload_n (pc := 1) (n := 1) (i := 1) 1 (by decide +kernel) rfl rfl ?_
  refine zx_callV (pc := 2) (As := [.int (zJ v1)]) h zi_X11_isValue zii_X11_isValue zie_X11_isValue zl_11_243 (by decide +kernel) ⟨Nat.le_of_ble_eq_true rfl, Nat.le_of_ble_eq_true rfl⟩ rfl zc_203 (by decide) rfl rfl ⟨rfl, rfl⟩ ⟨Nat.zero_le _, Nat.zero_le _⟩ (zki (fun x2 μ1 h => ?_))
  obtain ⟨o3, h⟩ := h
  refine zw_if_eq (pc := 5) (off := 11) (tgt := 16) (by decide +kernel) (by decide) o3 (fun hc => ?_) (fun hc => ?_)
  · replace h := h.1 hc
    refine zw_bipush (pc := 16) (n := (-2)) (by decide +kernel) (by decide +kernel) ?_
    exact zw_iret (pc := 18) (by decide +kernel) rfl (Nat.le_refl _) (Nat.le_refl _) ⟨_, _, rfl, rfl, h⟩
  · replace h := h.2 hc
    refine zw_aload_n (pc := 8) (n := 0) (i := 0) 0 (by decide +kernel) rfl rfl ?_
    refine zw_iload_n (pc := 9) (n := 2) (i := 2) 2 (by decide +kernel) rfl rfl ?_
    refine zx_callV (pc := 10) (As := [.int (zJ v2)]) h zi_X11_isValue zii_X11_isValue zie_X11_isValue zl_11_243 (by decide +kernel) ⟨Nat.le_of_ble_eq_true rfl, Nat.le_of_ble_eq_true rfl⟩ rfl zc_203 (by decide) rfl rfl ⟨rfl, rfl⟩ ⟨Nat.zero_le _, Nat.zero_le _⟩ (zki (fun x5 μ4 h => ?_))
    obtain ⟨o6, h⟩ := h
    refine zw_if_ne (pc := 13) (off := 6) (tgt := 19) (by decide +kernel) (by decide) o6 (fun hc => ?_) (fun hc => ?_)
    · replace h := h.1 hc
      obtain ⟨o7, h⟩ := h
      refine zw_aload_n (pc := 19) (n := 0) (i := 0) 0 (by decide +kernel) rfl rfl ?_
      refine zx_getI (pc := 20) zf_11_128 (by decide +kernel) rfl zc_203 ?_
      refine zw_if_ne (pc := 23) (off := 6) (tgt := 29) (by decide +kernel) (by decide) o7 (fun hc => ?_) (fun hc => ?_)
      · replace h := h.1 hc
        refine zw_aload_n (pc := 29) (n := 0) (i := 0) 0 (by decide +kernel) rfl rfl ?_
        refine zw_iload_n (pc := 30) (n := 1) (i := 1) 1 (by decide +kernel) rfl rfl ?_
        refine zx_callV (pc := 31) (As := [.int (zJ v1)]) h zi_X11_puts zii_X11_puts zie_X11_puts zl_11_246 (by decide +kernel) ⟨Nat.le_of_ble_eq_true rfl, Nat.le_of_ble_eq_true rfl⟩ rfl zc_203 (by decide) rfl rfl ⟨rfl, rfl⟩ ⟨Nat.zero_le _, Nat.zero_le _⟩ (zki (fun x9 μ8 h => ?_))
        refine zw_istore_n (pc := 34) (n := 3) (i := 3) (lv' := [(0, .ref 203), (1, .int (zJ v1)), (2, .int (zJ v2)), (3, .int (zJ x9))]) (by decide +kernel) rfl (Nat.le_of_ble_eq_true rfl) rfl ?_
        refine zw_aload_n (pc := 35) (n := 0) (i := 0) 0 (by decide +kernel) rfl rfl ?_
        refine zw_iload_n (pc := 36) (n := 2) (i := 2) 2 (by decide +kernel) rfl rfl ?_
        refine zx_callV (pc := 37) (As := [.int (zJ v2)]) h zi_X11_worth zii_X11_worth zie_X11_worth zl_11_249 (by decide +kernel) ⟨Nat.le_of_ble_eq_true rfl, Nat.le_of_ble_eq_true rfl⟩ rfl zc_203 (by decide) rfl rfl ⟨rfl, rfl⟩ ⟨Nat.zero_le _, Nat.zero_le _⟩ (zki (fun x11 μ10 h => ?_))
        exact zw_iret (pc := 40) (by decide +kernel) rfl (Nat.le_refl _) (Nat.le_refl _) ⟨_, _, rfl, rfl, h⟩
      · replace h := h.2 hc
        refine zw_bipush (pc := 26) (n := (-11)) (by decide +kernel) (by decide +kernel) ?_
        exact zw_iret (pc := 28) (by decide +kernel) rfl (Nat.le_refl _) (Nat.le_refl _) ⟨_, _, rfl, rfl, h⟩
    · replace h := h.2 hc
      refine zw_bipush (pc := 16) (n := (-2)) (by decide +kernel) (by decide +kernel) ?_
      exact zw_iret (pc := 18) (by decide +kernel) rfl (Nat.le_refl _) (Nat.le_refl _) ⟨_, _, rfl, rfl, h⟩
theorem sg_X11_isValue {g : zG} {φ : Int → zMu → Prop} {v1 : Int} {μ : zMu}
    (h : (zR v1) ∧ (zR ((μ 203 0) - 1)) ∧ zOi g zm_X11_in [.long (zL v1), .long (zL 0), .long (zL ((μ 203 0) - 1))] μ (fun x4 μ3 => (x4 = 0 ∨ x4 = 1) ∧ φ x4 μ3)) : zOi g zm_X11_isValue [.ref 203, .int (zJ v1)] μ φ := by
  refine zok_of (by decide +kernel) rfl ?_
  show zWP g zm_X11_isValue (zmo g zm_X11_isValue (zΦi φ)) 0 [(0, .ref 203), (1, .int (zJ v1))] [] 0 0 (zw μ)
  obtain ⟨o1, o2, h⟩ := h
  refine zw_iload_n (pc := 0) (n := 1) (i := 1) 1 (by decide +kernel) rfl rfl ?_
  refine zw_i2l (pc := 1) (by decide +kernel) o1 ?_
  refine zw_lconst (pc := 2) (n := 0) (v := 0) (by decide +kernel) rfl ?_
  refine zw_aload_n (pc := 3) (n := 0) (i := 0) 0 (by decide +kernel) rfl rfl ?_
  refine zx_getI (pc := 4) zf_11_9 (by decide +kernel) rfl zc_203 ?_
  refine zw_iconst (pc := 7) (n := 1) (by decide +kernel) ?_
  refine zw_isub (pc := 8) (by decide +kernel) ?_
  refine zw_i2l (pc := 9) (by decide +kernel) o2 ?_
  refine zx_callS (pc := 10) (As := [.long (zL v1), .long (zL 0), .long (zL ((μ 203 0) - 1))]) h zi_X11_in zis_X11_in zl_11_114 (by decide +kernel) ⟨Nat.le_of_ble_eq_true rfl, Nat.le_of_ble_eq_true rfl⟩ rfl rfl ⟨rfl, rfl⟩ ⟨Nat.zero_le _, Nat.zero_le _⟩ (zki (fun x4 μ3 h => ?_))
  obtain ⟨o5, h⟩ := h
  exact zw_zret (pc := 13) (by decide +kernel) rfl (Nat.le_refl _) (Nat.le_refl _) o5 ⟨_, _, rfl, rfl, h⟩
abbrev at_X11_puts_4 (g : zG) (φ : Int → zMu → Prop) (v1 : Int) (v2 : Int) (v3 : Int) (μ : zMu) : Prop := zWP g zm_X11_puts (zmo g zm_X11_puts (zΦi φ)) 4 [(0, .ref 203), (1, .int (zJ v1)), (2, .int (zJ v2)), (3, .int (zJ v3))] [] 0 0 (zw μ)
abbrev at_X11_puts_21 (g : zG) (φ : Int → zMu → Prop) (v1 : Int) (v2 : Int) (v3 : Int) (v4 : Int) (v5 : Int) (μ : zMu) : Prop := zWP g zm_X11_puts (zmo g zm_X11_puts (zΦi φ)) 21 [(0, .ref 203), (1, .int (zJ v1)), (2, .int (zJ v2)), (3, .int (zJ v3)), (4, .int (zJ v4)), (5, .int (zJ v5))] [] 0 0 (zw μ)
theorem sg_X11_puts {g : zG} {φ : Int → zMu → Prop} {v1 : Int} {μ : zMu}
    (h : at_X11_puts_4 g φ v1 0 0 μ) : zOi g zm_X11_puts [.ref 203, .int (zJ v1)] μ φ := by
  refine zok_of (by decide +kernel) rfl ?_
  show zWP g zm_X11_puts (zmo g zm_X11_puts (zΦi φ)) 0 [(0, .ref 203), (1, .int (zJ v1))] [] 0 0 (zw μ)
  refine zw_iconst (pc := 0) (n := 0) (by decide +kernel) ?_
  refine zw_istore_n (pc := 1) (n := 2) (i := 2) (lv' := [(0, .ref 203), (1, .int (zJ v1)), (2, .int (zJ 0))]) (by decide +kernel) rfl (Nat.le_of_ble_eq_true rfl) rfl ?_
  refine zw_iconst (pc := 2) (n := 0) (by decide +kernel) ?_
  refine zw_istore_n (pc := 3) (n := 3) (i := 3) (lv' := [(0, .ref 203), (1, .int (zJ v1)), (2, .int (zJ 0)), (3, .int (zJ 0))]) (by decide +kernel) rfl (Nat.le_of_ble_eq_true rfl) rfl ?_
  exact h
theorem sg_X11_puts_4 {g : zG} {φ : Int → zMu → Prop} {v1 : Int} {v2 : Int} {v3 : Int} {μ : zMu}
    (h : (zR v3) ∧ (zR (μ 203 4)) ∧ (((μ 203 4) < v3 → (v2 = 0 ∨ v2 = 1) ∧ φ v2 μ) ∧ (v3 ≤ (μ 203 4) → at_X11_puts_21 g φ v1 v2 v3 0 (μ 203 4) μ))) : at_X11_puts_4 g φ v1 v2 v3 μ := by
  obtain ⟨o1, o2, h⟩ := h
  refine zw_iload_n (pc := 4) (n := 3) (i := 3) 3 (by decide +kernel) rfl rfl ?_
  refine zw_aload_n (pc := 5) (n := 0) (i := 0) 0 (by decide +kernel) rfl rfl ?_
  refine zx_getI (pc := 6) zf_11_128 (by decide +kernel) rfl zc_203 ?_
  refine zw_icmp_gt (pc := 9) (off := 69) (tgt := 78) (by decide +kernel) (by decide) o1 o2 (fun hc => ?_) (fun hc => ?_)
  · replace h := h.1 hc
    obtain ⟨o3, h⟩ := h
    refine zw_iload_n (pc := 78) (n := 2) (i := 2) 2 (by decide +kernel) rfl rfl ?_
    exact zw_zret (pc := 79) (by decide +kernel) rfl (Nat.le_refl _) (Nat.le_refl _) o3 ⟨_, _, rfl, rfl, h⟩
  · replace h := h.2 hc
    refine zw_iconst (pc := 12) (n := 0) (by decide +kernel) ?_
    refine zw_istore (pc := 13) (i := 4) (lv' := [(0, .ref 203), (1, .int (zJ v1)), (2, .int (zJ v2)), (3, .int (zJ v3)), (4, .int (zJ 0))]) (by decide +kernel) (Nat.le_of_ble_eq_true rfl) rfl ?_
    refine zw_aload_n (pc := 15) (n := 0) (i := 0) 0 (by decide +kernel) rfl rfl ?_
    refine zx_getI (pc := 16) zf_11_128 (by decide +kernel) rfl zc_203 ?_
    refine zw_istore (pc := 19) (i := 5) (lv' := [(0, .ref 203), (1, .int (zJ v1)), (2, .int (zJ v2)), (3, .int (zJ v3)), (4, .int (zJ 0)), (5, .int (zJ (μ 203 4)))]) (by decide +kernel) (Nat.le_of_ble_eq_true rfl) rfl ?_
    exact h
theorem sg_X11_puts_21 {g : zG} {φ : Int → zMu → Prop} {v1 : Int} {v2 : Int} {v3 : Int} {v4 : Int} {v5 : Int} {μ : zMu}
    (h : (zR v5) ∧ ((v5 < 0 → (0 ≤ v3 ∧ v3 < 9) ∧ (zR v4) ∧ ((v4 = 0 → at_X11_puts_4 g φ v1 (zor v2 0) (v3 + 1) (zup μ 220 v3.toNat v4)) ∧ (¬ v4 = 0 → at_X11_puts_4 g φ v1 (zor v2 1) (v3 + 1) (zup μ 220 v3.toNat v4)))) ∧ (0 ≤ v5 → zOi g zm_X11_termAt [.ref 203, .int (zJ v5), .int (zJ v3)] μ (fun x5 μ4 => (zR ((v4 * v1) + x5)) ∧ (zR (μ4 203 0)) ∧ ((μ4 203 0) ≠ 0) ∧ at_X11_puts_21 g φ v1 v2 v3 (((v4 * v1) + x5).tmod (μ4 203 0)) (v5 + (-1)) μ4)))) : at_X11_puts_21 g φ v1 v2 v3 v4 v5 μ := by
  obtain ⟨o1, h⟩ := h
  refine zw_iload (pc := 21) (i := 5) 5 (by decide +kernel) rfl ?_
  refine zw_if_lt (pc := 23) (off := 28) (tgt := 51) (by decide +kernel) (by decide) o1 (fun hc => ?_) (fun hc => ?_)
  · replace h := h.1 hc
    obtain ⟨o2, o3, h⟩ := h
    refine zw_aload_n (pc := 51) (n := 0) (i := 0) 0 (by decide +kernel) rfl rfl ?_
    refine zx_getR (pc := 52) (o := 17) (r := 220) zf_11_64 (by decide +kernel) rfl zc_203 rfl (by decide) rfl ?_
    refine zw_iload_n (pc := 55) (n := 3) (i := 3) 3 (by decide +kernel) rfl rfl ?_
    refine zw_iload (pc := 56) (i := 4) 4 (by decide +kernel) rfl ?_
    refine zx_iastore (pc := 58) (by decide +kernel) ⟨9, zc_220, o2.1, o2.2⟩ ?_
    refine zw_iload_n (pc := 59) (n := 2) (i := 2) 2 (by decide +kernel) rfl rfl ?_
    refine zw_iload (pc := 60) (i := 4) 4 (by decide +kernel) rfl ?_
    refine zw_if_eq (pc := 62) (off := 7) (tgt := 69) (by decide +kernel) (by decide) o3 (fun hc => ?_) (fun hc => ?_)
    · replace h := h.1 hc
      refine zw_iconst (pc := 69) (n := 0) (by decide +kernel) ?_
      refine zw_ior (pc := 70) (by decide +kernel) ?_
      refine zw_istore_n (pc := 71) (n := 2) (i := 2) (lv' := [(0, .ref 203), (1, .int (zJ v1)), (2, .int (zJ (zor v2 0))), (3, .int (zJ v3)), (4, .int (zJ v4)), (5, .int (zJ v5))]) (by decide +kernel) rfl (Nat.le_of_ble_eq_true rfl) rfl ?_
      refine zw_iinc (pc := 72) (i := 3) (n := 1) (lv' := [(0, .ref 203), (1, .int (zJ v1)), (2, .int (zJ (zor v2 0))), (3, .int (zJ (v3 + 1))), (4, .int (zJ v4)), (5, .int (zJ v5))]) 3 (by decide +kernel) rfl rfl (Nat.le_of_ble_eq_true rfl) rfl ?_
      refine zw_goto (pc := 75) (off := (-71)) (tgt := 4) (by decide +kernel) (by decide) ?_
      exact zw_pick (lv' := [(0, .ref 203), (1, .int (zJ v1)), (2, .int (zJ (zor v2 0))), (3, .int (zJ (v3 + 1)))]) [0, 1, 2, 3] rfl h
    · replace h := h.2 hc
      refine zw_iconst (pc := 65) (n := 1) (by decide +kernel) ?_
      refine zw_goto (pc := 66) (off := 4) (tgt := 70) (by decide +kernel) (by decide) ?_
      refine zw_ior (pc := 70) (by decide +kernel) ?_
      refine zw_istore_n (pc := 71) (n := 2) (i := 2) (lv' := [(0, .ref 203), (1, .int (zJ v1)), (2, .int (zJ (zor v2 1))), (3, .int (zJ v3)), (4, .int (zJ v4)), (5, .int (zJ v5))]) (by decide +kernel) rfl (Nat.le_of_ble_eq_true rfl) rfl ?_
      refine zw_iinc (pc := 72) (i := 3) (n := 1) (lv' := [(0, .ref 203), (1, .int (zJ v1)), (2, .int (zJ (zor v2 1))), (3, .int (zJ (v3 + 1))), (4, .int (zJ v4)), (5, .int (zJ v5))]) 3 (by decide +kernel) rfl rfl (Nat.le_of_ble_eq_true rfl) rfl ?_
      refine zw_goto (pc := 75) (off := (-71)) (tgt := 4) (by decide +kernel) (by decide) ?_
      exact zw_pick (lv' := [(0, .ref 203), (1, .int (zJ v1)), (2, .int (zJ (zor v2 1))), (3, .int (zJ (v3 + 1)))]) [0, 1, 2, 3] rfl h
  · replace h := h.2 hc
    refine zw_iload (pc := 26) (i := 4) 4 (by decide +kernel) rfl ?_
    refine zw_iload_n (pc := 28) (n := 1) (i := 1) 1 (by decide +kernel) rfl rfl ?_
    refine zw_imul (pc := 29) (by decide +kernel) ?_
    refine zw_aload_n (pc := 30) (n := 0) (i := 0) 0 (by decide +kernel) rfl rfl ?_
    refine zw_iload (pc := 31) (i := 5) 5 (by decide +kernel) rfl ?_
    refine zw_iload_n (pc := 33) (n := 3) (i := 3) 3 (by decide +kernel) rfl rfl ?_
    refine zx_callV (pc := 34) (As := [.int (zJ v5), .int (zJ v3)]) h zi_X11_termAt zii_X11_termAt zie_X11_termAt zl_11_240 (by decide +kernel) ⟨Nat.le_of_ble_eq_true rfl, Nat.le_of_ble_eq_true rfl⟩ rfl zc_203 (by decide) rfl rfl ⟨rfl, rfl⟩ ⟨Nat.zero_le _, Nat.zero_le _⟩ (zki (fun x5 μ4 h => ?_))
    obtain ⟨o6, o7, o8, h⟩ := h
    refine zw_iadd (pc := 37) (by decide +kernel) ?_
    refine zw_aload_n (pc := 38) (n := 0) (i := 0) 0 (by decide +kernel) rfl rfl ?_
    refine zx_getI (pc := 39) zf_11_9 (by decide +kernel) rfl zc_203 ?_
    refine zw_irem (pc := 42) (by decide +kernel) o6 o7 o8 ?_
    refine zw_istore (pc := 43) (i := 4) (lv' := [(0, .ref 203), (1, .int (zJ v1)), (2, .int (zJ v2)), (3, .int (zJ v3)), (4, .int (zJ (((v4 * v1) + x5).tmod (μ4 203 0)))), (5, .int (zJ v5))]) (by decide +kernel) (Nat.le_of_ble_eq_true rfl) rfl ?_
    refine zw_iinc (pc := 45) (i := 5) (n := (-1)) (lv' := [(0, .ref 203), (1, .int (zJ v1)), (2, .int (zJ v2)), (3, .int (zJ v3)), (4, .int (zJ (((v4 * v1) + x5).tmod (μ4 203 0)))), (5, .int (zJ (v5 + (-1))))]) 5 (by decide +kernel) rfl rfl (Nat.le_of_ble_eq_true rfl) rfl ?_
    refine zw_goto (pc := 48) (off := (-27)) (tgt := 21) (by decide +kernel) (by decide) ?_
    exact h
abbrev at_X11_worth_7 (g : zG) (φ : Int → zMu → Prop) (v1 : Int) (v2 : Int) (v3 : Int) (μ : zMu) : Prop := zWP g zm_X11_worth (zmo g zm_X11_worth (zΦi φ)) 7 [(0, .ref 203), (1, .int (zJ v1)), (2, .int (zJ v2)), (3, .int (zJ v3))] [] 0 0 (zw μ)
theorem sg_X11_worth {g : zG} {φ : Int → zMu → Prop} {v1 : Int} {μ : zMu}
    (h : at_X11_worth_7 g φ v1 0 (μ 203 4) μ) : zOi g zm_X11_worth [.ref 203, .int (zJ v1)] μ φ := by
  refine zok_of (by decide +kernel) rfl ?_
  show zWP g zm_X11_worth (zmo g zm_X11_worth (zΦi φ)) 0 [(0, .ref 203), (1, .int (zJ v1))] [] 0 0 (zw μ)
  refine zw_iconst (pc := 0) (n := 0) (by decide +kernel) ?_
  refine zw_istore_n (pc := 1) (n := 2) (i := 2) (lv' := [(0, .ref 203), (1, .int (zJ v1)), (2, .int (zJ 0))]) (by decide +kernel) rfl (Nat.le_of_ble_eq_true rfl) rfl ?_
  refine zw_aload_n (pc := 2) (n := 0) (i := 0) 0 (by decide +kernel) rfl rfl ?_
  refine zx_getI (pc := 3) zf_11_128 (by decide +kernel) rfl zc_203 ?_
  refine zw_istore_n (pc := 6) (n := 3) (i := 3) (lv' := [(0, .ref 203), (1, .int (zJ v1)), (2, .int (zJ 0)), (3, .int (zJ (μ 203 4)))]) (by decide +kernel) rfl (Nat.le_of_ble_eq_true rfl) rfl ?_
  exact h
theorem sg_X11_worth_7 {g : zG} {φ : Int → zMu → Prop} {v1 : Int} {v2 : Int} {v3 : Int} {μ : zMu}
    (h : (zR v3) ∧ ((v3 < 0 → φ v2 μ) ∧ (0 ≤ v3 → (0 ≤ v3 ∧ v3 < 9) ∧ (zR ((v2 * v1) + (μ 220 v3.toNat))) ∧ (zR (μ 203 0)) ∧ ((μ 203 0) ≠ 0) ∧ at_X11_worth_7 g φ v1 (((v2 * v1) + (μ 220 v3.toNat)).tmod (μ 203 0)) (v3 + (-1)) μ))) : at_X11_worth_7 g φ v1 v2 v3 μ := by
  obtain ⟨o1, h⟩ := h
  refine zw_iload_n (pc := 7) (n := 3) (i := 3) 3 (by decide +kernel) rfl rfl ?_
  refine zw_if_lt (pc := 8) (off := 25) (tgt := 33) (by decide +kernel) (by decide) o1 (fun hc => ?_) (fun hc => ?_)
  · replace h := h.1 hc
    refine zw_iload_n (pc := 33) (n := 2) (i := 2) 2 (by decide +kernel) rfl rfl ?_
    exact zw_iret (pc := 34) (by decide +kernel) rfl (Nat.le_refl _) (Nat.le_refl _) ⟨_, _, rfl, rfl, h⟩
  · replace h := h.2 hc
    obtain ⟨o2, o3, o4, o5, h⟩ := h
    refine zw_iload_n (pc := 11) (n := 2) (i := 2) 2 (by decide +kernel) rfl rfl ?_
    refine zw_iload_n (pc := 12) (n := 1) (i := 1) 1 (by decide +kernel) rfl rfl ?_
    refine zw_imul (pc := 13) (by decide +kernel) ?_
    refine zw_aload_n (pc := 14) (n := 0) (i := 0) 0 (by decide +kernel) rfl rfl ?_
    refine zx_getR (pc := 15) (o := 17) (r := 220) zf_11_64 (by decide +kernel) rfl zc_203 rfl (by decide) rfl ?_
    refine zw_iload_n (pc := 18) (n := 3) (i := 3) 3 (by decide +kernel) rfl rfl ?_
    refine zx_iaload (pc := 19) (by decide +kernel) ⟨9, zc_220, o2.1, o2.2⟩ ?_
    refine zw_iadd (pc := 20) (by decide +kernel) ?_
    refine zw_aload_n (pc := 21) (n := 0) (i := 0) 0 (by decide +kernel) rfl rfl ?_
    refine zx_getI (pc := 22) zf_11_9 (by decide +kernel) rfl zc_203 ?_
    refine zw_irem (pc := 25) (by decide +kernel) o3 o4 o5 ?_
    refine zw_istore_n (pc := 26) (n := 2) (i := 2) (lv' := [(0, .ref 203), (1, .int (zJ v1)), (2, .int (zJ (((v2 * v1) + (μ 220 v3.toNat)).tmod (μ 203 0)))), (3, .int (zJ v3))]) (by decide +kernel) rfl (Nat.le_of_ble_eq_true rfl) rfl ?_
    refine zw_iinc (pc := 27) (i := 3) (n := (-1)) (lv' := [(0, .ref 203), (1, .int (zJ v1)), (2, .int (zJ (((v2 * v1) + (μ 220 v3.toNat)).tmod (μ 203 0)))), (3, .int (zJ (v3 + (-1))))]) 3 (by decide +kernel) rfl rfl (Nat.le_of_ble_eq_true rfl) rfl ?_
    refine zw_goto (pc := 30) (off := (-23)) (tgt := 7) (by decide +kernel) (by decide) ?_
    exact h
abbrev at_X11_vanishes_58 (g : zG) (φ : Int → zMu → Prop) (v3 : Int) (μ : zMu) : Prop := zWP g zm_X11_vanishes (zmo g zm_X11_vanishes (zΦi φ)) 58 [(0, .ref 203), (3, .int (zJ v3))] [] 0 0 (zw μ)
abbrev at_X11_vanishes_69 (g : zG) (φ : Int → zMu → Prop) (v3 : Int) (v4 : Int) (μ : zMu) : Prop := zWP g zm_X11_vanishes (zmo g zm_X11_vanishes (zΦi φ)) 69 [(0, .ref 203), (3, .int (zJ v3)), (4, .int (zJ v4))] [] 0 0 (zw μ)
theorem sg_X11_vanishes {g : zG} {φ : Int → zMu → Prop} {v1 : Int} {v2 : Int} {μ : zMu}
    (h : zOi g zm_X11_isSeries [.int (zJ v1)] μ (fun x2 μ1 => (zR x2) ∧ ((x2 = 0 → φ (-1) μ1) ∧ (¬ x2 = 0 → zOi g zm_X11_isSeries [.int (zJ v2)] μ1 (fun x5 μ4 => (zR x5) ∧ ((¬ x5 = 0 → (zR (μ4 203 4)) ∧ (((μ4 203 4) = 0 → φ (-11) μ4) ∧ (¬ (μ4 203 4) = 0 → zOi g zm_X11_isThere [.ref 203, .int (zJ v1)] μ4 (fun x9 μ8 => (zR x9) ∧ ((x9 = 0 → φ (-11) μ8) ∧ (¬ x9 = 0 → zOi g zm_X11_isThere [.ref 203, .int (zJ v2)] μ8 (fun x12 μ11 => (zR x12) ∧ ((¬ x12 = 0 → zOv g zm_X11_tellsPowers [.ref 203, .int (zJ v1), .int (zJ v2), .int (zJ (μ11 203 4))] μ11 (fun μ14 => zOv g zm_X11_emptiesColumn [.ref 203] μ14 (fun μ15 => at_X11_vanishes_58 g φ 0 μ15))) ∧ (x12 = 0 → φ (-11) μ11))))))))) ∧ (x5 = 0 → φ (-1) μ4))))))) : zOi g zm_X11_vanishes [.ref 203, .int (zJ v1), .int (zJ v2)] μ φ := by
  refine zok_of (by decide +kernel) rfl ?_
  show zWP g zm_X11_vanishes (zmo g zm_X11_vanishes (zΦi φ)) 0 [(0, .ref 203), (1, .int (zJ v1)), (2, .int (zJ v2))] [] 0 0 (zw μ)
  refine zw_iload_n (pc := 0) (n := 1) (i := 1) 1 (by decide +kernel) rfl rfl ?_
  refine zx_callS (pc := 1) (As := [.int (zJ v1)]) h zi_X11_isSeries zis_X11_isSeries zl_11_141 (by decide +kernel) ⟨Nat.le_of_ble_eq_true rfl, Nat.le_of_ble_eq_true rfl⟩ rfl rfl ⟨rfl, rfl⟩ ⟨Nat.zero_le _, Nat.zero_le _⟩ (zki (fun x2 μ1 h => ?_))
  obtain ⟨o3, h⟩ := h
  refine zw_if_eq (pc := 4) (off := 10) (tgt := 14) (by decide +kernel) (by decide) o3 (fun hc => ?_) (fun hc => ?_)
  · replace h := h.1 hc
    refine zw_iconst (pc := 14) (n := (-1)) (by decide +kernel) ?_
    exact zw_iret (pc := 15) (by decide +kernel) rfl (Nat.le_refl _) (Nat.le_refl _) ⟨_, _, rfl, rfl, h⟩
  · replace h := h.2 hc
    refine zw_iload_n (pc := 7) (n := 2) (i := 2) 2 (by decide +kernel) rfl rfl ?_
    refine zx_callS (pc := 8) (As := [.int (zJ v2)]) h zi_X11_isSeries zis_X11_isSeries zl_11_141 (by decide +kernel) ⟨Nat.le_of_ble_eq_true rfl, Nat.le_of_ble_eq_true rfl⟩ rfl rfl ⟨rfl, rfl⟩ ⟨Nat.zero_le _, Nat.zero_le _⟩ (zki (fun x5 μ4 h => ?_))
    obtain ⟨o6, h⟩ := h
    refine zw_if_ne (pc := 11) (off := 5) (tgt := 16) (by decide +kernel) (by decide) o6 (fun hc => ?_) (fun hc => ?_)
    · replace h := h.1 hc
      obtain ⟨o7, h⟩ := h
      refine zw_aload_n (pc := 16) (n := 0) (i := 0) 0 (by decide +kernel) rfl rfl ?_
      refine zx_getI (pc := 17) zf_11_128 (by decide +kernel) rfl zc_203 ?_
      refine zw_if_eq (pc := 20) (off := 19) (tgt := 39) (by decide +kernel) (by decide) o7 (fun hc => ?_) (fun hc => ?_)
      · replace h := h.1 hc
        refine zw_bipush (pc := 39) (n := (-11)) (by decide +kernel) (by decide +kernel) ?_
        exact zw_iret (pc := 41) (by decide +kernel) rfl (Nat.le_refl _) (Nat.le_refl _) ⟨_, _, rfl, rfl, h⟩
      · replace h := h.2 hc
        refine zw_aload_n (pc := 23) (n := 0) (i := 0) 0 (by decide +kernel) rfl rfl ?_
        refine zw_iload_n (pc := 24) (n := 1) (i := 1) 1 (by decide +kernel) rfl rfl ?_
        refine zx_callV (pc := 25) (As := [.int (zJ v1)]) h zi_X11_isThere zii_X11_isThere zie_X11_isThere zl_11_166 (by decide +kernel) ⟨Nat.le_of_ble_eq_true rfl, Nat.le_of_ble_eq_true rfl⟩ rfl zc_203 (by decide) rfl rfl ⟨rfl, rfl⟩ ⟨Nat.zero_le _, Nat.zero_le _⟩ (zki (fun x9 μ8 h => ?_))
        obtain ⟨o10, h⟩ := h
        refine zw_if_eq (pc := 28) (off := 11) (tgt := 39) (by decide +kernel) (by decide) o10 (fun hc => ?_) (fun hc => ?_)
        · replace h := h.1 hc
          refine zw_bipush (pc := 39) (n := (-11)) (by decide +kernel) (by decide +kernel) ?_
          exact zw_iret (pc := 41) (by decide +kernel) rfl (Nat.le_refl _) (Nat.le_refl _) ⟨_, _, rfl, rfl, h⟩
        · replace h := h.2 hc
          refine zw_aload_n (pc := 31) (n := 0) (i := 0) 0 (by decide +kernel) rfl rfl ?_
          refine zw_iload_n (pc := 32) (n := 2) (i := 2) 2 (by decide +kernel) rfl rfl ?_
          refine zx_callV (pc := 33) (As := [.int (zJ v2)]) h zi_X11_isThere zii_X11_isThere zie_X11_isThere zl_11_166 (by decide +kernel) ⟨Nat.le_of_ble_eq_true rfl, Nat.le_of_ble_eq_true rfl⟩ rfl zc_203 (by decide) rfl rfl ⟨rfl, rfl⟩ ⟨Nat.zero_le _, Nat.zero_le _⟩ (zki (fun x12 μ11 h => ?_))
          obtain ⟨o13, h⟩ := h
          refine zw_if_ne (pc := 36) (off := 6) (tgt := 42) (by decide +kernel) (by decide) o13 (fun hc => ?_) (fun hc => ?_)
          · replace h := h.1 hc
            refine zw_aload_n (pc := 42) (n := 0) (i := 0) 0 (by decide +kernel) rfl rfl ?_
            refine zw_iload_n (pc := 43) (n := 1) (i := 1) 1 (by decide +kernel) rfl rfl ?_
            refine zw_iload_n (pc := 44) (n := 2) (i := 2) 2 (by decide +kernel) rfl rfl ?_
            refine zw_aload_n (pc := 45) (n := 0) (i := 0) 0 (by decide +kernel) rfl rfl ?_
            refine zx_getI (pc := 46) zf_11_128 (by decide +kernel) rfl zc_203 ?_
            refine zx_callV (pc := 49) (As := [.int (zJ v1), .int (zJ v2), .int (zJ (μ11 203 4))]) h zi_X11_tellsPowers zii_X11_tellsPowers zie_X11_tellsPowers zl_11_231 (by decide +kernel) ⟨Nat.le_of_ble_eq_true rfl, Nat.le_of_ble_eq_true rfl⟩ rfl zc_203 (by decide) rfl rfl ⟨rfl, rfl⟩ ⟨Nat.zero_le _, Nat.zero_le _⟩ (zkv (fun μ14 h => ?_))
            refine zw_aload_n (pc := 52) (n := 0) (i := 0) 0 (by decide +kernel) rfl rfl ?_
            refine zx_callV (pc := 53) (As := []) h zi_X11_emptiesColumn zii_X11_emptiesColumn zie_X11_emptiesColumn zl_11_212 (by decide +kernel) ⟨Nat.le_of_ble_eq_true rfl, Nat.le_of_ble_eq_true rfl⟩ rfl zc_203 (by decide) rfl rfl ⟨rfl, rfl⟩ ⟨Nat.zero_le _, Nat.zero_le _⟩ (zkv (fun μ15 h => ?_))
            refine zw_iconst (pc := 56) (n := 0) (by decide +kernel) ?_
            refine zw_istore_n (pc := 57) (n := 3) (i := 3) (lv' := [(0, .ref 203), (1, .int (zJ v1)), (2, .int (zJ v2)), (3, .int (zJ 0))]) (by decide +kernel) rfl (Nat.le_of_ble_eq_true rfl) rfl ?_
            exact zw_pick (lv' := [(0, .ref 203), (3, .int (zJ 0))]) [0, 3] rfl h
          · replace h := h.2 hc
            refine zw_bipush (pc := 39) (n := (-11)) (by decide +kernel) (by decide +kernel) ?_
            exact zw_iret (pc := 41) (by decide +kernel) rfl (Nat.le_refl _) (Nat.le_refl _) ⟨_, _, rfl, rfl, h⟩
    · replace h := h.2 hc
      refine zw_iconst (pc := 14) (n := (-1)) (by decide +kernel) ?_
      exact zw_iret (pc := 15) (by decide +kernel) rfl (Nat.le_refl _) (Nat.le_refl _) ⟨_, _, rfl, rfl, h⟩
theorem sg_X11_vanishes_58 {g : zG} {φ : Int → zMu → Prop} {v3 : Int} {μ : zMu}
    (h : (zR v3) ∧ (zR (μ 203 4)) ∧ (((μ 203 4) < v3 → zOi g zm_X11_firstOther [.ref 203] μ (fun x4 μ3 => (zR x4) ∧ ((¬ x4 = (-1) → φ 0 μ3) ∧ (x4 = (-1) → φ 1 μ3)))) ∧ (v3 ≤ (μ 203 4) → at_X11_vanishes_69 g φ v3 0 μ))) : at_X11_vanishes_58 g φ v3 μ := by
  obtain ⟨o1, o2, h⟩ := h
  refine zw_iload_n (pc := 58) (n := 3) (i := 3) 1 (by decide +kernel) rfl rfl ?_
  refine zw_aload_n (pc := 59) (n := 0) (i := 0) 0 (by decide +kernel) rfl rfl ?_
  refine zx_getI (pc := 60) zf_11_128 (by decide +kernel) rfl zc_203 ?_
  refine zw_icmp_gt (pc := 63) (off := 41) (tgt := 104) (by decide +kernel) (by decide) o1 o2 (fun hc => ?_) (fun hc => ?_)
  · replace h := h.1 hc
    refine zw_aload_n (pc := 104) (n := 0) (i := 0) 0 (by decide +kernel) rfl rfl ?_
    refine zx_callV (pc := 105) (As := []) h zi_X11_firstOther zii_X11_firstOther zie_X11_firstOther zl_11_208 (by decide +kernel) ⟨Nat.le_of_ble_eq_true rfl, Nat.le_of_ble_eq_true rfl⟩ rfl zc_203 (by decide) rfl rfl ⟨rfl, rfl⟩ ⟨Nat.zero_le _, Nat.zero_le _⟩ (zki (fun x4 μ3 h => ?_))
    obtain ⟨o5, h⟩ := h
    refine zw_iconst (pc := 108) (n := (-1)) (by decide +kernel) ?_
    refine zw_icmp_ne (pc := 109) (off := 7) (tgt := 116) (by decide +kernel) (by decide) o5 ⟨by decide, by decide⟩ (fun hc => ?_) (fun hc => ?_)
    · replace h := h.1 hc
      refine zw_iconst (pc := 116) (n := 0) (by decide +kernel) ?_
      exact zw_iret (pc := 117) (by decide +kernel) rfl (Nat.le_refl _) (Nat.le_refl _) ⟨_, _, rfl, rfl, h⟩
    · replace h := h.2 hc
      refine zw_iconst (pc := 112) (n := 1) (by decide +kernel) ?_
      refine zw_goto (pc := 113) (off := 4) (tgt := 117) (by decide +kernel) (by decide) ?_
      exact zw_iret (pc := 117) (by decide +kernel) rfl (Nat.le_refl _) (Nat.le_refl _) ⟨_, _, rfl, rfl, h⟩
  · replace h := h.2 hc
    refine zw_iconst (pc := 66) (n := 0) (by decide +kernel) ?_
    refine zw_istore (pc := 67) (i := 4) (lv' := [(0, .ref 203), (3, .int (zJ v3)), (4, .int (zJ 0))]) (by decide +kernel) (Nat.le_of_ble_eq_true rfl) rfl ?_
    exact h
theorem sg_X11_vanishes_69 {g : zG} {φ : Int → zMu → Prop} {v3 : Int} {v4 : Int} {μ : zMu}
    (h : (zR v4) ∧ (zR (μ 203 4)) ∧ (((μ 203 4) < v4 → at_X11_vanishes_58 g φ (v3 + 1) μ) ∧ (v4 ≤ (μ 203 4) → zOi g zm_X11_termAt [.ref 203, .int (zJ v3), .int (zJ v4)] μ (fun x4 μ3 => zOv g zm_X11_adds [.ref 203, .int (zJ v3), .int (zJ v4), .int (zJ x4)] μ3 (fun μ5 => at_X11_vanishes_69 g φ v3 (v4 + 1) μ5))))) : at_X11_vanishes_69 g φ v3 v4 μ := by
  obtain ⟨o1, o2, h⟩ := h
  refine zw_iload (pc := 69) (i := 4) 2 (by decide +kernel) rfl ?_
  refine zw_aload_n (pc := 71) (n := 0) (i := 0) 0 (by decide +kernel) rfl rfl ?_
  refine zx_getI (pc := 72) zf_11_128 (by decide +kernel) rfl zc_203 ?_
  refine zw_icmp_gt (pc := 75) (off := 23) (tgt := 98) (by decide +kernel) (by decide) o1 o2 (fun hc => ?_) (fun hc => ?_)
  · replace h := h.1 hc
    refine zw_iinc (pc := 98) (i := 3) (n := 1) (lv' := [(0, .ref 203), (3, .int (zJ (v3 + 1))), (4, .int (zJ v4))]) 1 (by decide +kernel) rfl rfl (Nat.le_of_ble_eq_true rfl) rfl ?_
    refine zw_goto (pc := 101) (off := (-43)) (tgt := 58) (by decide +kernel) (by decide) ?_
    exact zw_pick (lv' := [(0, .ref 203), (3, .int (zJ (v3 + 1)))]) [0, 1] rfl h
  · replace h := h.2 hc
    refine zw_aload_n (pc := 78) (n := 0) (i := 0) 0 (by decide +kernel) rfl rfl ?_
    refine zw_iload_n (pc := 79) (n := 3) (i := 3) 1 (by decide +kernel) rfl rfl ?_
    refine zw_iload (pc := 80) (i := 4) 2 (by decide +kernel) rfl ?_
    refine zw_aload_n (pc := 82) (n := 0) (i := 0) 0 (by decide +kernel) rfl rfl ?_
    refine zw_iload_n (pc := 83) (n := 3) (i := 3) 1 (by decide +kernel) rfl rfl ?_
    refine zw_iload (pc := 84) (i := 4) 2 (by decide +kernel) rfl ?_
    refine zx_callV (pc := 86) (As := [.int (zJ v3), .int (zJ v4)]) h zi_X11_termAt zii_X11_termAt zie_X11_termAt zl_11_240 (by decide +kernel) ⟨Nat.le_of_ble_eq_true rfl, Nat.le_of_ble_eq_true rfl⟩ rfl zc_203 (by decide) rfl rfl ⟨rfl, rfl⟩ ⟨Nat.zero_le _, Nat.zero_le _⟩ (zki (fun x4 μ3 h => ?_))
    refine zx_callV (pc := 89) (As := [.int (zJ v3), .int (zJ v4), .int (zJ x4)]) h zi_X11_adds zii_X11_adds zie_X11_adds zl_11_215 (by decide +kernel) ⟨Nat.le_of_ble_eq_true rfl, Nat.le_of_ble_eq_true rfl⟩ rfl zc_203 (by decide) rfl rfl ⟨rfl, rfl⟩ ⟨Nat.zero_le _, Nat.zero_le _⟩ (zkv (fun μ5 h => ?_))
    refine zw_iinc (pc := 92) (i := 4) (n := 1) (lv' := [(0, .ref 203), (3, .int (zJ v3)), (4, .int (zJ (v4 + 1)))]) 2 (by decide +kernel) rfl rfl (Nat.le_of_ble_eq_true rfl) rfl ?_
    refine zw_goto (pc := 95) (off := (-26)) (tgt := 69) (by decide +kernel) (by decide) ?_
    exact h
theorem sg_X11_neighbour {g : zG} {φ : Int → zMu → Prop} {v1 : Int} {v2 : Int} {μ : zMu}
    (h : zOi g zm_X11_isValue [.ref 203, .int (zJ v1)] μ (fun x2 μ1 => (zR x2) ∧ ((x2 = 0 → φ (-2) μ1) ∧ (¬ x2 = 0 → (zR v2) ∧ (((-1) ≤ v2 → (zR (μ1 203 4)) ∧ ((¬ (μ1 203 4) = 0 → zOi g zm_X11_tellsNeighbours [.ref 203, .int (zJ v1)] μ1 (fun x7 μ6 => (zR x7) ∧ ((¬ x7 = 0 → ((¬ v2 = (-1) → (zR (μ6 203 28)) ∧ (((μ6 203 28) ≤ v2 → φ (-5) μ6) ∧ (v2 < (μ6 203 28) → (0 ≤ v2 ∧ v2 < 8) ∧ φ (μ6 221 v2.toNat) μ6))) ∧ (v2 = (-1) → φ (μ6 203 28) μ6))) ∧ (x7 = 0 → φ (-3) μ6)))) ∧ ((μ1 203 4) = 0 → φ (-11) μ1))) ∧ (v2 < (-1) → φ (-2) μ1)))))) : zOi g zm_X11_neighbour [.ref 203, .int (zJ v1), .int (zJ v2)] μ φ := by
  refine zok_of (by decide +kernel) rfl ?_
  show zWP g zm_X11_neighbour (zmo g zm_X11_neighbour (zΦi φ)) 0 [(0, .ref 203), (1, .int (zJ v1)), (2, .int (zJ v2))] [] 0 0 (zw μ)
  refine zw_aload_n (pc := 0) (n := 0) (i := 0) 0 (by decide +kernel) rfl rfl ?_
  refine zw_iload_n (pc := 1) (n := 1) (i := 1) 1 (by decide +kernel) rfl rfl ?_
  refine zx_callV (pc := 2) (As := [.int (zJ v1)]) h zi_X11_isValue zii_X11_isValue zie_X11_isValue zl_11_243 (by decide +kernel) ⟨Nat.le_of_ble_eq_true rfl, Nat.le_of_ble_eq_true rfl⟩ rfl zc_203 (by decide) rfl rfl ⟨rfl, rfl⟩ ⟨Nat.zero_le _, Nat.zero_le _⟩ (zki (fun x2 μ1 h => ?_))
  obtain ⟨o3, h⟩ := h
  refine zw_if_eq (pc := 5) (off := 8) (tgt := 13) (by decide +kernel) (by decide) o3 (fun hc => ?_) (fun hc => ?_)
  · replace h := h.1 hc
    refine zw_bipush (pc := 13) (n := (-2)) (by decide +kernel) (by decide +kernel) ?_
    exact zw_iret (pc := 15) (by decide +kernel) rfl (Nat.le_refl _) (Nat.le_refl _) ⟨_, _, rfl, rfl, h⟩
  · replace h := h.2 hc
    obtain ⟨o4, h⟩ := h
    refine zw_iload_n (pc := 8) (n := 2) (i := 2) 2 (by decide +kernel) rfl rfl ?_
    refine zw_iconst (pc := 9) (n := (-1)) (by decide +kernel) ?_
    refine zw_icmp_ge (pc := 10) (off := 6) (tgt := 16) (by decide +kernel) (by decide) o4 ⟨by decide, by decide⟩ (fun hc => ?_) (fun hc => ?_)
    · replace h := h.1 hc
      obtain ⟨o5, h⟩ := h
      refine zw_aload_n (pc := 16) (n := 0) (i := 0) 0 (by decide +kernel) rfl rfl ?_
      refine zx_getI (pc := 17) zf_11_128 (by decide +kernel) rfl zc_203 ?_
      refine zw_if_ne (pc := 20) (off := 6) (tgt := 26) (by decide +kernel) (by decide) o5 (fun hc => ?_) (fun hc => ?_)
      · replace h := h.1 hc
        refine zw_aload_n (pc := 26) (n := 0) (i := 0) 0 (by decide +kernel) rfl rfl ?_
        refine zw_iload_n (pc := 27) (n := 1) (i := 1) 1 (by decide +kernel) rfl rfl ?_
        refine zx_callV (pc := 28) (As := [.int (zJ v1)]) h zi_X11_tellsNeighbours zii_X11_tellsNeighbours zie_X11_tellsNeighbours zl_11_258 (by decide +kernel) ⟨Nat.le_of_ble_eq_true rfl, Nat.le_of_ble_eq_true rfl⟩ rfl zc_203 (by decide) rfl rfl ⟨rfl, rfl⟩ ⟨Nat.zero_le _, Nat.zero_le _⟩ (zki (fun x7 μ6 h => ?_))
        obtain ⟨o8, h⟩ := h
        refine zw_if_ne (pc := 31) (off := 6) (tgt := 37) (by decide +kernel) (by decide) o8 (fun hc => ?_) (fun hc => ?_)
        · replace h := h.1 hc
          refine zw_iload_n (pc := 37) (n := 2) (i := 2) 2 (by decide +kernel) rfl rfl ?_
          refine zw_iconst (pc := 38) (n := (-1)) (by decide +kernel) ?_
          refine zw_icmp_ne (pc := 39) (off := 10) (tgt := 49) (by decide +kernel) (by decide) o4 ⟨by decide, by decide⟩ (fun hc => ?_) (fun hc => ?_)
          · replace h := h.1 hc
            obtain ⟨o9, h⟩ := h
            refine zw_iload_n (pc := 49) (n := 2) (i := 2) 2 (by decide +kernel) rfl rfl ?_
            refine zw_aload_n (pc := 50) (n := 0) (i := 0) 0 (by decide +kernel) rfl rfl ?_
            refine zx_getI (pc := 51) zf_11_252 (by decide +kernel) rfl zc_203 ?_
            refine zw_icmp_ge (pc := 54) (off := 12) (tgt := 66) (by decide +kernel) (by decide) o4 o9 (fun hc => ?_) (fun hc => ?_)
            · replace h := h.1 hc
              refine zw_bipush (pc := 66) (n := (-5)) (by decide +kernel) (by decide +kernel) ?_
              exact zw_iret (pc := 68) (by decide +kernel) rfl (Nat.le_refl _) (Nat.le_refl _) ⟨_, _, rfl, rfl, h⟩
            · replace h := h.2 hc
              obtain ⟨o10, h⟩ := h
              refine zw_aload_n (pc := 57) (n := 0) (i := 0) 0 (by decide +kernel) rfl rfl ?_
              refine zx_getR (pc := 58) (o := 18) (r := 221) zf_11_67 (by decide +kernel) rfl zc_203 rfl (by decide) rfl ?_
              refine zw_iload_n (pc := 61) (n := 2) (i := 2) 2 (by decide +kernel) rfl rfl ?_
              refine zx_iaload (pc := 62) (by decide +kernel) ⟨8, zc_221, o10.1, o10.2⟩ ?_
              refine zw_goto (pc := 63) (off := 5) (tgt := 68) (by decide +kernel) (by decide) ?_
              exact zw_iret (pc := 68) (by decide +kernel) rfl (Nat.le_refl _) (Nat.le_refl _) ⟨_, _, rfl, rfl, h⟩
          · replace h := h.2 hc
            refine zw_aload_n (pc := 42) (n := 0) (i := 0) 0 (by decide +kernel) rfl rfl ?_
            refine zx_getI (pc := 43) zf_11_252 (by decide +kernel) rfl zc_203 ?_
            refine zw_goto (pc := 46) (off := 22) (tgt := 68) (by decide +kernel) (by decide) ?_
            exact zw_iret (pc := 68) (by decide +kernel) rfl (Nat.le_refl _) (Nat.le_refl _) ⟨_, _, rfl, rfl, h⟩
        · replace h := h.2 hc
          refine zw_bipush (pc := 34) (n := (-3)) (by decide +kernel) (by decide +kernel) ?_
          exact zw_iret (pc := 36) (by decide +kernel) rfl (Nat.le_refl _) (Nat.le_refl _) ⟨_, _, rfl, rfl, h⟩
      · replace h := h.2 hc
        refine zw_bipush (pc := 23) (n := (-11)) (by decide +kernel) (by decide +kernel) ?_
        exact zw_iret (pc := 25) (by decide +kernel) rfl (Nat.le_refl _) (Nat.le_refl _) ⟨_, _, rfl, rfl, h⟩
    · replace h := h.2 hc
      refine zw_bipush (pc := 13) (n := (-2)) (by decide +kernel) (by decide +kernel) ?_
      exact zw_iret (pc := 15) (by decide +kernel) rfl (Nat.le_refl _) (Nat.le_refl _) ⟨_, _, rfl, rfl, h⟩
abbrev at_X11_tellsNeighbours_17 (g : zG) (φ : Int → zMu → Prop) (v2 : Int) (μ : zMu) : Prop := zWP g zm_X11_tellsNeighbours (zmo g zm_X11_tellsNeighbours (zΦi φ)) 17 [(0, .ref 203), (2, .int (zJ v2))] [] 0 0 (zw μ)
abbrev at_X11_tellsNeighbours_34 (g : zG) (φ : Int → zMu → Prop) (v2 : Int) (v3 : Int) (v4 : Int) (μ : zMu) : Prop := zWP g zm_X11_tellsNeighbours (zmo g zm_X11_tellsNeighbours (zΦi φ)) 34 [(0, .ref 203), (2, .int (zJ v2)), (3, .int (zJ v3)), (4, .int (zJ v4))] [] 0 0 (zw μ)
theorem sg_X11_tellsNeighbours {g : zG} {φ : Int → zMu → Prop} {v1 : Int} {μ : zMu}
    (h : zOi g zm_X11_puts [.ref 203, .int (zJ v1)] (zup μ 203 28 0) (fun x2 μ1 => (zR x2) ∧ ((¬ x2 = 0 → at_X11_tellsNeighbours_17 g φ 0 μ1) ∧ (x2 = 0 → φ 0 μ1)))) : zOi g zm_X11_tellsNeighbours [.ref 203, .int (zJ v1)] μ φ := by
  refine zok_of (by decide +kernel) rfl ?_
  show zWP g zm_X11_tellsNeighbours (zmo g zm_X11_tellsNeighbours (zΦi φ)) 0 [(0, .ref 203), (1, .int (zJ v1))] [] 0 0 (zw μ)
  refine zw_aload_n (pc := 0) (n := 0) (i := 0) 0 (by decide +kernel) rfl rfl ?_
  refine zw_iconst (pc := 1) (n := 0) (by decide +kernel) ?_
  refine zx_putI (pc := 2) zf_11_252 (by decide +kernel) rfl zc_203 ?_
  refine zw_aload_n (pc := 5) (n := 0) (i := 0) 0 (by decide +kernel) rfl rfl ?_
  refine zw_iload_n (pc := 6) (n := 1) (i := 1) 1 (by decide +kernel) rfl rfl ?_
  refine zx_callV (pc := 7) (As := [.int (zJ v1)]) h zi_X11_puts zii_X11_puts zie_X11_puts zl_11_246 (by decide +kernel) ⟨Nat.le_of_ble_eq_true rfl, Nat.le_of_ble_eq_true rfl⟩ rfl zc_203 (by decide) rfl rfl ⟨rfl, rfl⟩ ⟨Nat.zero_le _, Nat.zero_le _⟩ (zki (fun x2 μ1 h => ?_))
  obtain ⟨o3, h⟩ := h
  refine zw_if_ne (pc := 10) (off := 5) (tgt := 15) (by decide +kernel) (by decide) o3 (fun hc => ?_) (fun hc => ?_)
  · replace h := h.1 hc
    refine zw_iconst (pc := 15) (n := 0) (by decide +kernel) ?_
    refine zw_istore_n (pc := 16) (n := 2) (i := 2) (lv' := [(0, .ref 203), (1, .int (zJ v1)), (2, .int (zJ 0))]) (by decide +kernel) rfl (Nat.le_of_ble_eq_true rfl) rfl ?_
    exact zw_pick (lv' := [(0, .ref 203), (2, .int (zJ 0))]) [0, 2] rfl h
  · replace h := h.2 hc
    refine zw_iconst (pc := 13) (n := 0) (by decide +kernel) ?_
    exact zw_zret (pc := 14) (by decide +kernel) rfl (Nat.le_refl _) (Nat.le_refl _) (Or.inl rfl) ⟨_, _, rfl, rfl, h⟩
theorem sg_X11_tellsNeighbours_17 {g : zG} {φ : Int → zMu → Prop} {v2 : Int} {μ : zMu}
    (h : (zR v2) ∧ (zR (μ 203 0)) ∧ (((μ 203 0) ≤ v2 → φ 1 μ) ∧ (v2 < (μ 203 0) → zOi g zm_X11_oftenOf [.ref 203, .int (zJ v2)] μ (fun x4 μ3 => at_X11_tellsNeighbours_34 g φ v2 x4 0 μ3)))) : at_X11_tellsNeighbours_17 g φ v2 μ := by
  obtain ⟨o1, o2, h⟩ := h
  refine zw_iload_n (pc := 17) (n := 2) (i := 2) 1 (by decide +kernel) rfl rfl ?_
  refine zw_aload_n (pc := 18) (n := 0) (i := 0) 0 (by decide +kernel) rfl rfl ?_
  refine zx_getI (pc := 19) zf_11_9 (by decide +kernel) rfl zc_203 ?_
  refine zw_icmp_ge (pc := 22) (off := 50) (tgt := 72) (by decide +kernel) (by decide) o1 o2 (fun hc => ?_) (fun hc => ?_)
  · replace h := h.1 hc
    refine zw_iconst (pc := 72) (n := 1) (by decide +kernel) ?_
    exact zw_zret (pc := 73) (by decide +kernel) rfl (Nat.le_refl _) (Nat.le_refl _) (Or.inr rfl) ⟨_, _, rfl, rfl, h⟩
  · replace h := h.2 hc
    refine zw_aload_n (pc := 25) (n := 0) (i := 0) 0 (by decide +kernel) rfl rfl ?_
    refine zw_iload_n (pc := 26) (n := 2) (i := 2) 1 (by decide +kernel) rfl rfl ?_
    refine zx_callV (pc := 27) (As := [.int (zJ v2)]) h zi_X11_oftenOf zii_X11_oftenOf zie_X11_oftenOf zl_11_255 (by decide +kernel) ⟨Nat.le_of_ble_eq_true rfl, Nat.le_of_ble_eq_true rfl⟩ rfl zc_203 (by decide) rfl rfl ⟨rfl, rfl⟩ ⟨Nat.zero_le _, Nat.zero_le _⟩ (zki (fun x4 μ3 h => ?_))
    refine zw_istore_n (pc := 30) (n := 3) (i := 3) (lv' := [(0, .ref 203), (2, .int (zJ v2)), (3, .int (zJ x4))]) (by decide +kernel) rfl (Nat.le_of_ble_eq_true rfl) rfl ?_
    refine zw_iconst (pc := 31) (n := 0) (by decide +kernel) ?_
    refine zw_istore (pc := 32) (i := 4) (lv' := [(0, .ref 203), (2, .int (zJ v2)), (3, .int (zJ x4)), (4, .int (zJ 0))]) (by decide +kernel) (Nat.le_of_ble_eq_true rfl) rfl ?_
    exact h
theorem sg_X11_tellsNeighbours_34 {g : zG} {φ : Int → zMu → Prop} {v2 : Int} {v3 : Int} {v4 : Int} {μ : zMu}
    (h : (zR v4) ∧ (zR v3) ∧ ((v3 ≤ v4 → at_X11_tellsNeighbours_17 g φ (v2 + 1) μ) ∧ (v4 < v3 → (0 ≤ (μ 203 28) ∧ (μ 203 28) < 8) ∧ at_X11_tellsNeighbours_34 g φ v2 v3 (v4 + 1) (zup (zup μ 221 (Int.toNat (μ 203 28)) v2) 203 28 (((zup μ 221 (Int.toNat (μ 203 28)) v2) 203 28) + 1))))) : at_X11_tellsNeighbours_34 g φ v2 v3 v4 μ := by
  obtain ⟨o1, o2, h⟩ := h
  refine zw_iload (pc := 34) (i := 4) 3 (by decide +kernel) rfl ?_
  refine zw_iload_n (pc := 36) (n := 3) (i := 3) 2 (by decide +kernel) rfl rfl ?_
  refine zw_icmp_ge (pc := 37) (off := 29) (tgt := 66) (by decide +kernel) (by decide) o1 o2 (fun hc => ?_) (fun hc => ?_)
  · replace h := h.1 hc
    refine zw_iinc (pc := 66) (i := 2) (n := 1) (lv' := [(0, .ref 203), (2, .int (zJ (v2 + 1))), (3, .int (zJ v3)), (4, .int (zJ v4))]) 1 (by decide +kernel) rfl rfl (Nat.le_of_ble_eq_true rfl) rfl ?_
    refine zw_goto (pc := 69) (off := (-52)) (tgt := 17) (by decide +kernel) (by decide) ?_
    exact zw_pick (lv' := [(0, .ref 203), (2, .int (zJ (v2 + 1)))]) [0, 1] rfl h
  · replace h := h.2 hc
    obtain ⟨o3, h⟩ := h
    refine zw_aload_n (pc := 40) (n := 0) (i := 0) 0 (by decide +kernel) rfl rfl ?_
    refine zx_getR (pc := 41) (o := 18) (r := 221) zf_11_67 (by decide +kernel) rfl zc_203 rfl (by decide) rfl ?_
    refine zw_aload_n (pc := 44) (n := 0) (i := 0) 0 (by decide +kernel) rfl rfl ?_
    refine zx_getI (pc := 45) zf_11_252 (by decide +kernel) rfl zc_203 ?_
    refine zw_iload_n (pc := 48) (n := 2) (i := 2) 1 (by decide +kernel) rfl rfl ?_
    refine zx_iastore (pc := 49) (by decide +kernel) ⟨8, zc_221, o3.1, o3.2⟩ ?_
    refine zw_aload_n (pc := 50) (n := 0) (i := 0) 0 (by decide +kernel) rfl rfl ?_
    refine zw_dup (pc := 51) (by decide +kernel) rfl ?_
    refine zx_getI (pc := 52) zf_11_252 (by decide +kernel) rfl zc_203 ?_
    refine zw_iconst (pc := 55) (n := 1) (by decide +kernel) ?_
    refine zw_iadd (pc := 56) (by decide +kernel) ?_
    refine zx_putI (pc := 57) zf_11_252 (by decide +kernel) rfl zc_203 ?_
    refine zw_iinc (pc := 60) (i := 4) (n := 1) (lv' := [(0, .ref 203), (2, .int (zJ v2)), (3, .int (zJ v3)), (4, .int (zJ (v4 + 1)))]) 3 (by decide +kernel) rfl rfl (Nat.le_of_ble_eq_true rfl) rfl ?_
    refine zw_goto (pc := 63) (off := (-29)) (tgt := 34) (by decide +kernel) (by decide) ?_
    exact h
abbrev at_X11_oftenOf_2 (g : zG) (φ : Int → zMu → Prop) (v1 : Int) (v2 : Int) (μ : zMu) : Prop := zWP g zm_X11_oftenOf (zmo g zm_X11_oftenOf (zΦi φ)) 2 [(0, .ref 203), (1, .int (zJ v1)), (2, .int (zJ v2))] [] 0 0 (zw μ)
abbrev at_X11_oftenOf_21 (g : zG) (φ : Int → zMu → Prop) (v1 : Int) (v2 : Int) (v3 : Int) (v4 : Int) (μ : zMu) : Prop := zWP g zm_X11_oftenOf (zmo g zm_X11_oftenOf (zΦi φ)) 21 [(0, .ref 203), (1, .int (zJ v1)), (2, .int (zJ v2)), (3, .int (zJ v3)), (4, .int (zJ v4))] [] 0 0 (zw μ)
theorem sg_X11_oftenOf {g : zG} {φ : Int → zMu → Prop} {v1 : Int} {μ : zMu}
    (h : at_X11_oftenOf_2 g φ v1 0 μ) : zOi g zm_X11_oftenOf [.ref 203, .int (zJ v1)] μ φ := by
  refine zok_of (by decide +kernel) rfl ?_
  show zWP g zm_X11_oftenOf (zmo g zm_X11_oftenOf (zΦi φ)) 0 [(0, .ref 203), (1, .int (zJ v1))] [] 0 0 (zw μ)
  refine zw_iconst (pc := 0) (n := 0) (by decide +kernel) ?_
  refine zw_istore_n (pc := 1) (n := 2) (i := 2) (lv' := [(0, .ref 203), (1, .int (zJ v1)), (2, .int (zJ 0))]) (by decide +kernel) rfl (Nat.le_of_ble_eq_true rfl) rfl ?_
  exact h
theorem sg_X11_oftenOf_2 {g : zG} {φ : Int → zMu → Prop} {v1 : Int} {v2 : Int} {μ : zMu}
    (h : zOi g zm_X11_worth [.ref 203, .int (zJ v1)] μ (fun x2 μ1 => (zR x2) ∧ ((¬ x2 = 0 → φ v2 μ1) ∧ (x2 = 0 → at_X11_oftenOf_21 g φ v1 (v2 + 1) 0 (μ1 203 4) μ1)))) : at_X11_oftenOf_2 g φ v1 v2 μ := by
  refine zw_aload_n (pc := 2) (n := 0) (i := 0) 0 (by decide +kernel) rfl rfl ?_
  refine zw_iload_n (pc := 3) (n := 1) (i := 1) 1 (by decide +kernel) rfl rfl ?_
  refine zx_callV (pc := 4) (As := [.int (zJ v1)]) h zi_X11_worth zii_X11_worth zie_X11_worth zl_11_249 (by decide +kernel) ⟨Nat.le_of_ble_eq_true rfl, Nat.le_of_ble_eq_true rfl⟩ rfl zc_203 (by decide) rfl rfl ⟨rfl, rfl⟩ ⟨Nat.zero_le _, Nat.zero_le _⟩ (zki (fun x2 μ1 h => ?_))
  obtain ⟨o3, h⟩ := h
  refine zw_if_ne (pc := 7) (off := 57) (tgt := 64) (by decide +kernel) (by decide) o3 (fun hc => ?_) (fun hc => ?_)
  · replace h := h.1 hc
    refine zw_iload_n (pc := 64) (n := 2) (i := 2) 2 (by decide +kernel) rfl rfl ?_
    exact zw_iret (pc := 65) (by decide +kernel) rfl (Nat.le_refl _) (Nat.le_refl _) ⟨_, _, rfl, rfl, h⟩
  · replace h := h.2 hc
    refine zw_iinc (pc := 10) (i := 2) (n := 1) (lv' := [(0, .ref 203), (1, .int (zJ v1)), (2, .int (zJ (v2 + 1)))]) 2 (by decide +kernel) rfl rfl (Nat.le_of_ble_eq_true rfl) rfl ?_
    refine zw_iconst (pc := 13) (n := 0) (by decide +kernel) ?_
    refine zw_istore_n (pc := 14) (n := 3) (i := 3) (lv' := [(0, .ref 203), (1, .int (zJ v1)), (2, .int (zJ (v2 + 1))), (3, .int (zJ 0))]) (by decide +kernel) rfl (Nat.le_of_ble_eq_true rfl) rfl ?_
    refine zw_aload_n (pc := 15) (n := 0) (i := 0) 0 (by decide +kernel) rfl rfl ?_
    refine zx_getI (pc := 16) zf_11_128 (by decide +kernel) rfl zc_203 ?_
    refine zw_istore (pc := 19) (i := 4) (lv' := [(0, .ref 203), (1, .int (zJ v1)), (2, .int (zJ (v2 + 1))), (3, .int (zJ 0)), (4, .int (zJ (μ1 203 4)))]) (by decide +kernel) (Nat.le_of_ble_eq_true rfl) rfl ?_
    exact h
theorem sg_X11_oftenOf_21 {g : zG} {φ : Int → zMu → Prop} {v1 : Int} {v2 : Int} {v3 : Int} {v4 : Int} {μ : zMu}
    (h : (zR v4) ∧ ((v4 < 0 → at_X11_oftenOf_2 g φ v1 v2 μ) ∧ (0 ≤ v4 → (0 ≤ v4 ∧ v4 < 9) ∧ (zR ((v3 * v1) + (μ 220 v4.toNat))) ∧ (zR ((zup μ 220 v4.toNat v3) 203 0)) ∧ (((zup μ 220 v4.toNat v3) 203 0) ≠ 0) ∧ at_X11_oftenOf_21 g φ v1 v2 (((v3 * v1) + (μ 220 v4.toNat)).tmod ((zup μ 220 v4.toNat v3) 203 0)) (v4 + (-1)) (zup μ 220 v4.toNat v3)))) : at_X11_oftenOf_21 g φ v1 v2 v3 v4 μ := by
  obtain ⟨o1, h⟩ := h
  refine zw_iload (pc := 21) (i := 4) 4 (by decide +kernel) rfl ?_
  refine zw_if_lt (pc := 23) (off := 38) (tgt := 61) (by decide +kernel) (by decide) o1 (fun hc => ?_) (fun hc => ?_)
  · replace h := h.1 hc
    refine zw_goto (pc := 61) (off := (-59)) (tgt := 2) (by decide +kernel) (by decide) ?_
    exact zw_pick (lv' := [(0, .ref 203), (1, .int (zJ v1)), (2, .int (zJ v2))]) [0, 1, 2] rfl h
  · replace h := h.2 hc
    obtain ⟨o2, o3, o4, o5, h⟩ := h
    refine zw_aload_n (pc := 26) (n := 0) (i := 0) 0 (by decide +kernel) rfl rfl ?_
    refine zx_getR (pc := 27) (o := 17) (r := 220) zf_11_64 (by decide +kernel) rfl zc_203 rfl (by decide) rfl ?_
    refine zw_iload (pc := 30) (i := 4) 4 (by decide +kernel) rfl ?_
    refine zx_iaload (pc := 32) (by decide +kernel) ⟨9, zc_220, o2.1, o2.2⟩ ?_
    refine zw_istore (pc := 33) (i := 5) (lv' := [(0, .ref 203), (1, .int (zJ v1)), (2, .int (zJ v2)), (3, .int (zJ v3)), (4, .int (zJ v4)), (5, .int (zJ (μ 220 v4.toNat)))]) (by decide +kernel) (Nat.le_of_ble_eq_true rfl) rfl ?_
    refine zw_aload_n (pc := 35) (n := 0) (i := 0) 0 (by decide +kernel) rfl rfl ?_
    refine zx_getR (pc := 36) (o := 17) (r := 220) zf_11_64 (by decide +kernel) rfl zc_203 rfl (by decide) rfl ?_
    refine zw_iload (pc := 39) (i := 4) 4 (by decide +kernel) rfl ?_
    refine zw_iload_n (pc := 41) (n := 3) (i := 3) 3 (by decide +kernel) rfl rfl ?_
    refine zx_iastore (pc := 42) (by decide +kernel) ⟨9, zc_220, o2.1, o2.2⟩ ?_
    refine zw_iload_n (pc := 43) (n := 3) (i := 3) 3 (by decide +kernel) rfl rfl ?_
    refine zw_iload_n (pc := 44) (n := 1) (i := 1) 1 (by decide +kernel) rfl rfl ?_
    refine zw_imul (pc := 45) (by decide +kernel) ?_
    refine zw_iload (pc := 46) (i := 5) 5 (by decide +kernel) rfl ?_
    refine zw_iadd (pc := 48) (by decide +kernel) ?_
    refine zw_aload_n (pc := 49) (n := 0) (i := 0) 0 (by decide +kernel) rfl rfl ?_
    refine zx_getI (pc := 50) zf_11_9 (by decide +kernel) rfl zc_203 ?_
    refine zw_irem (pc := 53) (by decide +kernel) o3 o4 o5 ?_
    refine zw_istore_n (pc := 54) (n := 3) (i := 3) (lv' := [(0, .ref 203), (1, .int (zJ v1)), (2, .int (zJ v2)), (3, .int (zJ (((v3 * v1) + (μ 220 v4.toNat)).tmod ((zup μ 220 v4.toNat v3) 203 0)))), (4, .int (zJ v4)), (5, .int (zJ (μ 220 v4.toNat)))]) (by decide +kernel) rfl (Nat.le_of_ble_eq_true rfl) rfl ?_
    refine zw_iinc (pc := 55) (i := 4) (n := (-1)) (lv' := [(0, .ref 203), (1, .int (zJ v1)), (2, .int (zJ v2)), (3, .int (zJ (((v3 * v1) + (μ 220 v4.toNat)).tmod ((zup μ 220 v4.toNat v3) 203 0)))), (4, .int (zJ (v4 + (-1)))), (5, .int (zJ (μ 220 v4.toNat)))]) 4 (by decide +kernel) rfl rfl (Nat.le_of_ble_eq_true rfl) rfl ?_
    refine zw_goto (pc := 58) (off := (-37)) (tgt := 21) (by decide +kernel) (by decide) ?_
    exact zw_pick (lv' := [(0, .ref 203), (1, .int (zJ v1)), (2, .int (zJ v2)), (3, .int (zJ (((v3 * v1) + (μ 220 v4.toNat)).tmod ((zup μ 220 v4.toNat v3) 203 0)))), (4, .int (zJ (v4 + (-1))))]) [0, 1, 2, 3, 4] rfl h
theorem sg_X11_far {g : zG} {φ : Int → zMu → Prop} {v1 : Int} {v2 : Int} {μ : zMu}
    (h : zOi g zm_X11_isValue [.ref 203, .int (zJ v1)] μ (fun x2 μ1 => (zR x2) ∧ ((x2 = 0 → φ (-2) μ1) ∧ (¬ x2 = 0 → zOi g zm_X11_isValue [.ref 203, .int (zJ v2)] μ1 (fun x5 μ4 => (zR x5) ∧ ((¬ x5 = 0 → (zR (μ4 203 4)) ∧ ((¬ (μ4 203 4) = 0 → zOv g zm_X11_tellsAway [.ref 203, .int (zJ v1)] μ4 (fun μ8 => (0 ≤ v2 ∧ v2 < 200) ∧ φ (μ8 222 v2.toNat) μ8)) ∧ ((μ4 203 4) = 0 → φ (-11) μ4))) ∧ (x5 = 0 → φ (-2) μ4))))))) : zOi g zm_X11_far [.ref 203, .int (zJ v1), .int (zJ v2)] μ φ := by
  refine zok_of (by decide +kernel) rfl ?_
  show zWP g zm_X11_far (zmo g zm_X11_far (zΦi φ)) 0 [(0, .ref 203), (1, .int (zJ v1)), (2, .int (zJ v2))] [] 0 0 (zw μ)
  refine zw_aload_n (pc := 0) (n := 0) (i := 0) 0 (by decide +kernel) rfl rfl ?_
  refine zw_iload_n (pc := 1) (n := 1) (i := 1) 1 (by decide +kernel) rfl rfl ?_
  refine zx_callV (pc := 2) (As := [.int (zJ v1)]) h zi_X11_isValue zii_X11_isValue zie_X11_isValue zl_11_243 (by decide +kernel) ⟨Nat.le_of_ble_eq_true rfl, Nat.le_of_ble_eq_true rfl⟩ rfl zc_203 (by decide) rfl rfl ⟨rfl, rfl⟩ ⟨Nat.zero_le _, Nat.zero_le _⟩ (zki (fun x2 μ1 h => ?_))
  obtain ⟨o3, h⟩ := h
  refine zw_if_eq (pc := 5) (off := 11) (tgt := 16) (by decide +kernel) (by decide) o3 (fun hc => ?_) (fun hc => ?_)
  · replace h := h.1 hc
    refine zw_bipush (pc := 16) (n := (-2)) (by decide +kernel) (by decide +kernel) ?_
    exact zw_iret (pc := 18) (by decide +kernel) rfl (Nat.le_refl _) (Nat.le_refl _) ⟨_, _, rfl, rfl, h⟩
  · replace h := h.2 hc
    refine zw_aload_n (pc := 8) (n := 0) (i := 0) 0 (by decide +kernel) rfl rfl ?_
    refine zw_iload_n (pc := 9) (n := 2) (i := 2) 2 (by decide +kernel) rfl rfl ?_
    refine zx_callV (pc := 10) (As := [.int (zJ v2)]) h zi_X11_isValue zii_X11_isValue zie_X11_isValue zl_11_243 (by decide +kernel) ⟨Nat.le_of_ble_eq_true rfl, Nat.le_of_ble_eq_true rfl⟩ rfl zc_203 (by decide) rfl rfl ⟨rfl, rfl⟩ ⟨Nat.zero_le _, Nat.zero_le _⟩ (zki (fun x5 μ4 h => ?_))
    obtain ⟨o6, h⟩ := h
    refine zw_if_ne (pc := 13) (off := 6) (tgt := 19) (by decide +kernel) (by decide) o6 (fun hc => ?_) (fun hc => ?_)
    · replace h := h.1 hc
      obtain ⟨o7, h⟩ := h
      refine zw_aload_n (pc := 19) (n := 0) (i := 0) 0 (by decide +kernel) rfl rfl ?_
      refine zx_getI (pc := 20) zf_11_128 (by decide +kernel) rfl zc_203 ?_
      refine zw_if_ne (pc := 23) (off := 6) (tgt := 29) (by decide +kernel) (by decide) o7 (fun hc => ?_) (fun hc => ?_)
      · replace h := h.1 hc
        refine zw_aload_n (pc := 29) (n := 0) (i := 0) 0 (by decide +kernel) rfl rfl ?_
        refine zw_iload_n (pc := 30) (n := 1) (i := 1) 1 (by decide +kernel) rfl rfl ?_
        refine zx_callV (pc := 31) (As := [.int (zJ v1)]) h zi_X11_tellsAway zii_X11_tellsAway zie_X11_tellsAway zl_11_261 (by decide +kernel) ⟨Nat.le_of_ble_eq_true rfl, Nat.le_of_ble_eq_true rfl⟩ rfl zc_203 (by decide) rfl rfl ⟨rfl, rfl⟩ ⟨Nat.zero_le _, Nat.zero_le _⟩ (zkv (fun μ8 h => ?_))
        obtain ⟨o9, h⟩ := h
        refine zw_aload_n (pc := 34) (n := 0) (i := 0) 0 (by decide +kernel) rfl rfl ?_
        refine zx_getR (pc := 35) (o := 19) (r := 222) zf_11_70 (by decide +kernel) rfl zc_203 rfl (by decide) rfl ?_
        refine zw_iload_n (pc := 38) (n := 2) (i := 2) 2 (by decide +kernel) rfl rfl ?_
        refine zx_iaload (pc := 39) (by decide +kernel) ⟨200, zc_222, o9.1, o9.2⟩ ?_
        exact zw_iret (pc := 40) (by decide +kernel) rfl (Nat.le_refl _) (Nat.le_refl _) ⟨_, _, rfl, rfl, h⟩
      · replace h := h.2 hc
        refine zw_bipush (pc := 26) (n := (-11)) (by decide +kernel) (by decide +kernel) ?_
        exact zw_iret (pc := 28) (by decide +kernel) rfl (Nat.le_refl _) (Nat.le_refl _) ⟨_, _, rfl, rfl, h⟩
    · replace h := h.2 hc
      refine zw_bipush (pc := 16) (n := (-2)) (by decide +kernel) (by decide +kernel) ?_
      exact zw_iret (pc := 18) (by decide +kernel) rfl (Nat.le_refl _) (Nat.le_refl _) ⟨_, _, rfl, rfl, h⟩
abbrev at_X11_tellsAway_2 (g : zG) (φ : zMu → Prop) (v1 : Int) (v2 : Int) (μ : zMu) : Prop := zWP g zm_X11_tellsAway (zmo g zm_X11_tellsAway (zΦv φ)) 2 [(0, .ref 203), (1, .int (zJ v1)), (2, .int (zJ v2))] [] 0 0 (zw μ)
abbrev at_X11_tellsAway_36 (g : zG) (φ : zMu → Prop) (v2 : Int) (v3 : Int) (μ : zMu) : Prop := zWP g zm_X11_tellsAway (zmo g zm_X11_tellsAway (zΦv φ)) 36 [(0, .ref 203), (2, .int (zJ v2)), (3, .int (zJ v3))] [] 0 0 (zw μ)
abbrev at_X11_tellsAway_45 (g : zG) (φ : zMu → Prop) (v2 : Int) (v3 : Int) (v4 : Int) (μ : zMu) : Prop := zWP g zm_X11_tellsAway (zmo g zm_X11_tellsAway (zΦv φ)) 45 [(0, .ref 203), (2, .int (zJ v2)), (3, .int (zJ v3)), (4, .int (zJ v4))] [] 0 0 (zw μ)
abbrev at_X11_tellsAway_77 (g : zG) (φ : zMu → Prop) (v2 : Int) (v3 : Int) (v4 : Int) (v5 : Int) (μ : zMu) : Prop := zWP g zm_X11_tellsAway (zmo g zm_X11_tellsAway (zΦv φ)) 77 [(0, .ref 203), (2, .int (zJ v2)), (3, .int (zJ v3)), (4, .int (zJ v4)), (5, .int (zJ v5))] [] 0 0 (zw μ)
theorem sg_X11_tellsAway {g : zG} {φ : zMu → Prop} {v1 : Int} {μ : zMu}
    (h : at_X11_tellsAway_2 g φ v1 0 μ) : zOv g zm_X11_tellsAway [.ref 203, .int (zJ v1)] μ φ := by
  refine zok_of (by decide +kernel) rfl ?_
  show zWP g zm_X11_tellsAway (zmo g zm_X11_tellsAway (zΦv φ)) 0 [(0, .ref 203), (1, .int (zJ v1))] [] 0 0 (zw μ)
  refine zw_iconst (pc := 0) (n := 0) (by decide +kernel) ?_
  refine zw_istore_n (pc := 1) (n := 2) (i := 2) (lv' := [(0, .ref 203), (1, .int (zJ v1)), (2, .int (zJ 0))]) (by decide +kernel) rfl (Nat.le_of_ble_eq_true rfl) rfl ?_
  exact h
theorem sg_X11_tellsAway_2 {g : zG} {φ : zMu → Prop} {v1 : Int} {v2 : Int} {μ : zMu}
    (h : (zR v2) ∧ ((200 ≤ v2 → at_X11_tellsAway_36 g φ 1 0 μ) ∧ (v2 < 200 → (zR v1) ∧ ((¬ v2 = v1 → (0 ≤ v2 ∧ v2 < 200) ∧ at_X11_tellsAway_2 g φ v1 (v2 + 1) (zup μ 222 v2.toNat (-5))) ∧ (v2 = v1 → (0 ≤ v2 ∧ v2 < 200) ∧ at_X11_tellsAway_2 g φ v1 (v2 + 1) (zup μ 222 v2.toNat 0)))))) : at_X11_tellsAway_2 g φ v1 v2 μ := by
  obtain ⟨o1, h⟩ := h
  refine zw_iload_n (pc := 2) (n := 2) (i := 2) 2 (by decide +kernel) rfl rfl ?_
  refine zw_sipush (pc := 3) (n := 200) (by decide +kernel) (by decide +kernel) ?_
  refine zw_icmp_ge (pc := 6) (off := 26) (tgt := 32) (by decide +kernel) (by decide) o1 ⟨by decide, by decide⟩ (fun hc => ?_) (fun hc => ?_)
  · replace h := h.1 hc
    refine zw_iconst (pc := 32) (n := 1) (by decide +kernel) ?_
    refine zw_istore_n (pc := 33) (n := 2) (i := 2) (lv' := [(0, .ref 203), (1, .int (zJ v1)), (2, .int (zJ 1))]) (by decide +kernel) rfl (Nat.le_of_ble_eq_true rfl) rfl ?_
    refine zw_iconst (pc := 34) (n := 0) (by decide +kernel) ?_
    refine zw_istore_n (pc := 35) (n := 3) (i := 3) (lv' := [(0, .ref 203), (1, .int (zJ v1)), (2, .int (zJ 1)), (3, .int (zJ 0))]) (by decide +kernel) rfl (Nat.le_of_ble_eq_true rfl) rfl ?_
    exact zw_pick (lv' := [(0, .ref 203), (2, .int (zJ 1)), (3, .int (zJ 0))]) [0, 2, 3] rfl h
  · replace h := h.2 hc
    obtain ⟨o2, h⟩ := h
    refine zw_aload_n (pc := 9) (n := 0) (i := 0) 0 (by decide +kernel) rfl rfl ?_
    refine zx_getR (pc := 10) (o := 19) (r := 222) zf_11_70 (by decide +kernel) rfl zc_203 rfl (by decide) rfl ?_
    refine zw_iload_n (pc := 13) (n := 2) (i := 2) 2 (by decide +kernel) rfl rfl ?_
    refine zw_iload_n (pc := 14) (n := 2) (i := 2) 2 (by decide +kernel) rfl rfl ?_
    refine zw_iload_n (pc := 15) (n := 1) (i := 1) 1 (by decide +kernel) rfl rfl ?_
    refine zw_icmp_ne (pc := 16) (off := 7) (tgt := 23) (by decide +kernel) (by decide) o1 o2 (fun hc => ?_) (fun hc => ?_)
    · replace h := h.1 hc
      obtain ⟨o3, h⟩ := h
      refine zw_bipush (pc := 23) (n := (-5)) (by decide +kernel) (by decide +kernel) ?_
      refine zx_iastore (pc := 25) (by decide +kernel) ⟨200, zc_222, o3.1, o3.2⟩ ?_
      refine zw_iinc (pc := 26) (i := 2) (n := 1) (lv' := [(0, .ref 203), (1, .int (zJ v1)), (2, .int (zJ (v2 + 1)))]) 2 (by decide +kernel) rfl rfl (Nat.le_of_ble_eq_true rfl) rfl ?_
      refine zw_goto (pc := 29) (off := (-27)) (tgt := 2) (by decide +kernel) (by decide) ?_
      exact h
    · replace h := h.2 hc
      obtain ⟨o4, h⟩ := h
      refine zw_iconst (pc := 19) (n := 0) (by decide +kernel) ?_
      refine zw_goto (pc := 20) (off := 5) (tgt := 25) (by decide +kernel) (by decide) ?_
      refine zx_iastore (pc := 25) (by decide +kernel) ⟨200, zc_222, o4.1, o4.2⟩ ?_
      refine zw_iinc (pc := 26) (i := 2) (n := 1) (lv' := [(0, .ref 203), (1, .int (zJ v1)), (2, .int (zJ (v2 + 1)))]) 2 (by decide +kernel) rfl rfl (Nat.le_of_ble_eq_true rfl) rfl ?_
      refine zw_goto (pc := 29) (off := (-27)) (tgt := 2) (by decide +kernel) (by decide) ?_
      exact h
theorem sg_X11_tellsAway_36 {g : zG} {φ : zMu → Prop} {v2 : Int} {v3 : Int} {μ : zMu}
    (h : (zR v2) ∧ ((v2 = 0 → φ μ) ∧ (¬ v2 = 0 → at_X11_tellsAway_45 g φ 0 v3 0 μ))) : at_X11_tellsAway_36 g φ v2 v3 μ := by
  obtain ⟨o1, h⟩ := h
  refine zw_iload_n (pc := 36) (n := 2) (i := 2) 1 (by decide +kernel) rfl rfl ?_
  refine zw_if_eq (pc := 37) (off := 139) (tgt := 176) (by decide +kernel) (by decide) o1 (fun hc => ?_) (fun hc => ?_)
  · replace h := h.1 hc
    exact zw_vret (pc := 176) (by decide +kernel) rfl (Nat.le_refl _) (Nat.le_refl _) ⟨_, rfl, rfl, h⟩
  · replace h := h.2 hc
    refine zw_iconst (pc := 40) (n := 0) (by decide +kernel) ?_
    refine zw_istore_n (pc := 41) (n := 2) (i := 2) (lv' := [(0, .ref 203), (2, .int (zJ 0)), (3, .int (zJ v3))]) (by decide +kernel) rfl (Nat.le_of_ble_eq_true rfl) rfl ?_
    refine zw_iconst (pc := 42) (n := 0) (by decide +kernel) ?_
    refine zw_istore (pc := 43) (i := 4) (lv' := [(0, .ref 203), (2, .int (zJ 0)), (3, .int (zJ v3)), (4, .int (zJ 0))]) (by decide +kernel) (Nat.le_of_ble_eq_true rfl) rfl ?_
    exact h
theorem sg_X11_tellsAway_45 {g : zG} {φ : zMu → Prop} {v2 : Int} {v3 : Int} {v4 : Int} {μ : zMu}
    (h : (zR v4) ∧ (zR (μ 203 0)) ∧ (((μ 203 0) ≤ v4 → at_X11_tellsAway_36 g φ v2 (v3 + 1) μ) ∧ (v4 < (μ 203 0) → (0 ≤ v4 ∧ v4 < 200) ∧ (zR (μ 222 v4.toNat)) ∧ (zR v3) ∧ ((¬ (μ 222 v4.toNat) = v3 → at_X11_tellsAway_45 g φ v2 v3 (v4 + 1) μ) ∧ ((μ 222 v4.toNat) = v3 → zOi g zm_X11_tellsNeighbours [.ref 203, .int (zJ v4)] μ (fun x7 μ6 => (zR x7) ∧ ((x7 = 0 → at_X11_tellsAway_45 g φ v2 v3 (v4 + 1) μ6) ∧ (¬ x7 = 0 → at_X11_tellsAway_77 g φ v2 v3 v4 0 μ6)))))))) : at_X11_tellsAway_45 g φ v2 v3 v4 μ := by
  obtain ⟨o1, o2, h⟩ := h
  refine zw_iload (pc := 45) (i := 4) 3 (by decide +kernel) rfl ?_
  refine zw_aload_n (pc := 47) (n := 0) (i := 0) 0 (by decide +kernel) rfl rfl ?_
  refine zx_getI (pc := 48) zf_11_9 (by decide +kernel) rfl zc_203 ?_
  refine zw_icmp_ge (pc := 51) (off := 119) (tgt := 170) (by decide +kernel) (by decide) o1 o2 (fun hc => ?_) (fun hc => ?_)
  · replace h := h.1 hc
    refine zw_iinc (pc := 170) (i := 3) (n := 1) (lv' := [(0, .ref 203), (2, .int (zJ v2)), (3, .int (zJ (v3 + 1))), (4, .int (zJ v4))]) 2 (by decide +kernel) rfl rfl (Nat.le_of_ble_eq_true rfl) rfl ?_
    refine zw_goto (pc := 173) (off := (-137)) (tgt := 36) (by decide +kernel) (by decide) ?_
    exact zw_pick (lv' := [(0, .ref 203), (2, .int (zJ v2)), (3, .int (zJ (v3 + 1)))]) [0, 1, 2] rfl h
  · replace h := h.2 hc
    obtain ⟨o3, o4, o5, h⟩ := h
    refine zw_aload_n (pc := 54) (n := 0) (i := 0) 0 (by decide +kernel) rfl rfl ?_
    refine zx_getR (pc := 55) (o := 19) (r := 222) zf_11_70 (by decide +kernel) rfl zc_203 rfl (by decide) rfl ?_
    refine zw_iload (pc := 58) (i := 4) 3 (by decide +kernel) rfl ?_
    refine zx_iaload (pc := 60) (by decide +kernel) ⟨200, zc_222, o3.1, o3.2⟩ ?_
    refine zw_iload_n (pc := 61) (n := 3) (i := 3) 2 (by decide +kernel) rfl rfl ?_
    refine zw_icmp_ne (pc := 62) (off := 102) (tgt := 164) (by decide +kernel) (by decide) o4 o5 (fun hc => ?_) (fun hc => ?_)
    · replace h := h.1 hc
      refine zw_iinc (pc := 164) (i := 4) (n := 1) (lv' := [(0, .ref 203), (2, .int (zJ v2)), (3, .int (zJ v3)), (4, .int (zJ (v4 + 1)))]) 3 (by decide +kernel) rfl rfl (Nat.le_of_ble_eq_true rfl) rfl ?_
      refine zw_goto (pc := 167) (off := (-122)) (tgt := 45) (by decide +kernel) (by decide) ?_
      exact h
    · replace h := h.2 hc
      refine zw_aload_n (pc := 65) (n := 0) (i := 0) 0 (by decide +kernel) rfl rfl ?_
      refine zw_iload (pc := 66) (i := 4) 3 (by decide +kernel) rfl ?_
      refine zx_callV (pc := 68) (As := [.int (zJ v4)]) h zi_X11_tellsNeighbours zii_X11_tellsNeighbours zie_X11_tellsNeighbours zl_11_258 (by decide +kernel) ⟨Nat.le_of_ble_eq_true rfl, Nat.le_of_ble_eq_true rfl⟩ rfl zc_203 (by decide) rfl rfl ⟨rfl, rfl⟩ ⟨Nat.zero_le _, Nat.zero_le _⟩ (zki (fun x7 μ6 h => ?_))
      obtain ⟨o8, h⟩ := h
      refine zw_if_eq (pc := 71) (off := 93) (tgt := 164) (by decide +kernel) (by decide) o8 (fun hc => ?_) (fun hc => ?_)
      · replace h := h.1 hc
        refine zw_iinc (pc := 164) (i := 4) (n := 1) (lv' := [(0, .ref 203), (2, .int (zJ v2)), (3, .int (zJ v3)), (4, .int (zJ (v4 + 1)))]) 3 (by decide +kernel) rfl rfl (Nat.le_of_ble_eq_true rfl) rfl ?_
        refine zw_goto (pc := 167) (off := (-122)) (tgt := 45) (by decide +kernel) (by decide) ?_
        exact h
      · replace h := h.2 hc
        refine zw_iconst (pc := 74) (n := 0) (by decide +kernel) ?_
        refine zw_istore (pc := 75) (i := 5) (lv' := [(0, .ref 203), (2, .int (zJ v2)), (3, .int (zJ v3)), (4, .int (zJ v4)), (5, .int (zJ 0))]) (by decide +kernel) (Nat.le_of_ble_eq_true rfl) rfl ?_
        exact h
theorem sg_X11_tellsAway_77 {g : zG} {φ : zMu → Prop} {v2 : Int} {v3 : Int} {v4 : Int} {v5 : Int} {μ : zMu}
    (h : (zR v5) ∧ (zR (μ 203 28)) ∧ (((μ 203 28) ≤ v5 → at_X11_tellsAway_45 g φ v2 v3 (v4 + 1) μ) ∧ (v5 < (μ 203 28) → (0 ≤ v5 ∧ v5 < 8) ∧ (0 ≤ (μ 221 v5.toNat) ∧ (μ 221 v5.toNat) < 200) ∧ (zR (μ 222 (Int.toNat (μ 221 v5.toNat)))) ∧ ((¬ (μ 222 (Int.toNat (μ 221 v5.toNat))) = (-5) → ((¬ (μ 222 (Int.toNat (μ 221 v5.toNat))) = (-5) → at_X11_tellsAway_77 g φ (zor v2 0) v3 v4 (v5 + 1) (zup μ 222 (Int.toNat (μ 221 v5.toNat)) (μ 222 (Int.toNat (μ 221 v5.toNat))))) ∧ ((μ 222 (Int.toNat (μ 221 v5.toNat))) = (-5) → at_X11_tellsAway_77 g φ (zor v2 0) v3 v4 (v5 + 1) (zup μ 222 (Int.toNat (μ 221 v5.toNat)) (v3 + 1))))) ∧ ((μ 222 (Int.toNat (μ 221 v5.toNat))) = (-5) → ((¬ (μ 222 (Int.toNat (μ 221 v5.toNat))) = (-5) → at_X11_tellsAway_77 g φ (zor v2 1) v3 v4 (v5 + 1) (zup μ 222 (Int.toNat (μ 221 v5.toNat)) (μ 222 (Int.toNat (μ 221 v5.toNat))))) ∧ ((μ 222 (Int.toNat (μ 221 v5.toNat))) = (-5) → at_X11_tellsAway_77 g φ (zor v2 1) v3 v4 (v5 + 1) (zup μ 222 (Int.toNat (μ 221 v5.toNat)) (v3 + 1))))))))) : at_X11_tellsAway_77 g φ v2 v3 v4 v5 μ := by
  obtain ⟨o1, o2, h⟩ := h
  refine zw_iload (pc := 77) (i := 5) 4 (by decide +kernel) rfl ?_
  refine zw_aload_n (pc := 79) (n := 0) (i := 0) 0 (by decide +kernel) rfl rfl ?_
  refine zx_getI (pc := 80) zf_11_252 (by decide +kernel) rfl zc_203 ?_
  refine zw_icmp_ge (pc := 83) (off := 81) (tgt := 164) (by decide +kernel) (by decide) o1 o2 (fun hc => ?_) (fun hc => ?_)
  · replace h := h.1 hc
    refine zw_iinc (pc := 164) (i := 4) (n := 1) (lv' := [(0, .ref 203), (2, .int (zJ v2)), (3, .int (zJ v3)), (4, .int (zJ (v4 + 1))), (5, .int (zJ v5))]) 3 (by decide +kernel) rfl rfl (Nat.le_of_ble_eq_true rfl) rfl ?_
    refine zw_goto (pc := 167) (off := (-122)) (tgt := 45) (by decide +kernel) (by decide) ?_
    exact zw_pick (lv' := [(0, .ref 203), (2, .int (zJ v2)), (3, .int (zJ v3)), (4, .int (zJ (v4 + 1)))]) [0, 1, 2, 3] rfl h
  · replace h := h.2 hc
    obtain ⟨o3, o4, o5, h⟩ := h
    refine zw_iload_n (pc := 86) (n := 2) (i := 2) 1 (by decide +kernel) rfl rfl ?_
    refine zw_aload_n (pc := 87) (n := 0) (i := 0) 0 (by decide +kernel) rfl rfl ?_
    refine zx_getR (pc := 88) (o := 19) (r := 222) zf_11_70 (by decide +kernel) rfl zc_203 rfl (by decide) rfl ?_
    refine zw_aload_n (pc := 91) (n := 0) (i := 0) 0 (by decide +kernel) rfl rfl ?_
    refine zx_getR (pc := 92) (o := 18) (r := 221) zf_11_67 (by decide +kernel) rfl zc_203 rfl (by decide) rfl ?_
    refine zw_iload (pc := 95) (i := 5) 4 (by decide +kernel) rfl ?_
    refine zx_iaload (pc := 97) (by decide +kernel) ⟨8, zc_221, o3.1, o3.2⟩ ?_
    refine zx_iaload (pc := 98) (by decide +kernel) ⟨200, zc_222, o4.1, o4.2⟩ ?_
    refine zw_bipush (pc := 99) (n := (-5)) (by decide +kernel) (by decide +kernel) ?_
    refine zw_icmp_ne (pc := 101) (off := 7) (tgt := 108) (by decide +kernel) (by decide) o5 ⟨by decide, by decide⟩ (fun hc => ?_) (fun hc => ?_)
    · replace h := h.1 hc
      refine zw_iconst (pc := 108) (n := 0) (by decide +kernel) ?_
      refine zw_ior (pc := 109) (by decide +kernel) ?_
      refine zw_istore_n (pc := 110) (n := 2) (i := 2) (lv' := [(0, .ref 203), (2, .int (zJ (zor v2 0))), (3, .int (zJ v3)), (4, .int (zJ v4)), (5, .int (zJ v5))]) (by decide +kernel) rfl (Nat.le_of_ble_eq_true rfl) rfl ?_
      refine zw_aload_n (pc := 111) (n := 0) (i := 0) 0 (by decide +kernel) rfl rfl ?_
      refine zx_getR (pc := 112) (o := 19) (r := 222) zf_11_70 (by decide +kernel) rfl zc_203 rfl (by decide) rfl ?_
      refine zw_aload_n (pc := 115) (n := 0) (i := 0) 0 (by decide +kernel) rfl rfl ?_
      refine zx_getR (pc := 116) (o := 18) (r := 221) zf_11_67 (by decide +kernel) rfl zc_203 rfl (by decide) rfl ?_
      refine zw_iload (pc := 119) (i := 5) 4 (by decide +kernel) rfl ?_
      refine zx_iaload (pc := 121) (by decide +kernel) ⟨8, zc_221, o3.1, o3.2⟩ ?_
      refine zw_aload_n (pc := 122) (n := 0) (i := 0) 0 (by decide +kernel) rfl rfl ?_
      refine zx_getR (pc := 123) (o := 19) (r := 222) zf_11_70 (by decide +kernel) rfl zc_203 rfl (by decide) rfl ?_
      refine zw_aload_n (pc := 126) (n := 0) (i := 0) 0 (by decide +kernel) rfl rfl ?_
      refine zx_getR (pc := 127) (o := 18) (r := 221) zf_11_67 (by decide +kernel) rfl zc_203 rfl (by decide) rfl ?_
      refine zw_iload (pc := 130) (i := 5) 4 (by decide +kernel) rfl ?_
      refine zx_iaload (pc := 132) (by decide +kernel) ⟨8, zc_221, o3.1, o3.2⟩ ?_
      refine zx_iaload (pc := 133) (by decide +kernel) ⟨200, zc_222, o4.1, o4.2⟩ ?_
      refine zw_bipush (pc := 134) (n := (-5)) (by decide +kernel) (by decide +kernel) ?_
      refine zw_icmp_ne (pc := 136) (off := 9) (tgt := 145) (by decide +kernel) (by decide) o5 ⟨by decide, by decide⟩ (fun hc => ?_) (fun hc => ?_)
      · replace h := h.1 hc
        refine zw_aload_n (pc := 145) (n := 0) (i := 0) 0 (by decide +kernel) rfl rfl ?_
        refine zx_getR (pc := 146) (o := 19) (r := 222) zf_11_70 (by decide +kernel) rfl zc_203 rfl (by decide) rfl ?_
        refine zw_aload_n (pc := 149) (n := 0) (i := 0) 0 (by decide +kernel) rfl rfl ?_
        refine zx_getR (pc := 150) (o := 18) (r := 221) zf_11_67 (by decide +kernel) rfl zc_203 rfl (by decide) rfl ?_
        refine zw_iload (pc := 153) (i := 5) 4 (by decide +kernel) rfl ?_
        refine zx_iaload (pc := 155) (by decide +kernel) ⟨8, zc_221, o3.1, o3.2⟩ ?_
        refine zx_iaload (pc := 156) (by decide +kernel) ⟨200, zc_222, o4.1, o4.2⟩ ?_
        refine zx_iastore (pc := 157) (by decide +kernel) ⟨200, zc_222, o4.1, o4.2⟩ ?_
        refine zw_iinc (pc := 158) (i := 5) (n := 1) (lv' := [(0, .ref 203), (2, .int (zJ (zor v2 0))), (3, .int (zJ v3)), (4, .int (zJ v4)), (5, .int (zJ (v5 + 1)))]) 4 (by decide +kernel) rfl rfl (Nat.le_of_ble_eq_true rfl) rfl ?_
        refine zw_goto (pc := 161) (off := (-84)) (tgt := 77) (by decide +kernel) (by decide) ?_
        exact h
      · replace h := h.2 hc
        refine zw_iload_n (pc := 139) (n := 3) (i := 3) 2 (by decide +kernel) rfl rfl ?_
        refine zw_iconst (pc := 140) (n := 1) (by decide +kernel) ?_
        refine zw_iadd (pc := 141) (by decide +kernel) ?_
        refine zw_goto (pc := 142) (off := 15) (tgt := 157) (by decide +kernel) (by decide) ?_
        refine zx_iastore (pc := 157) (by decide +kernel) ⟨200, zc_222, o4.1, o4.2⟩ ?_
        refine zw_iinc (pc := 158) (i := 5) (n := 1) (lv' := [(0, .ref 203), (2, .int (zJ (zor v2 0))), (3, .int (zJ v3)), (4, .int (zJ v4)), (5, .int (zJ (v5 + 1)))]) 4 (by decide +kernel) rfl rfl (Nat.le_of_ble_eq_true rfl) rfl ?_
        refine zw_goto (pc := 161) (off := (-84)) (tgt := 77) (by decide +kernel) (by decide) ?_
        exact h
    · replace h := h.2 hc
      refine zw_iconst (pc := 104) (n := 1) (by decide +kernel) ?_
      refine zw_goto (pc := 105) (off := 4) (tgt := 109) (by decide +kernel) (by decide) ?_
      refine zw_ior (pc := 109) (by decide +kernel) ?_
      refine zw_istore_n (pc := 110) (n := 2) (i := 2) (lv' := [(0, .ref 203), (2, .int (zJ (zor v2 1))), (3, .int (zJ v3)), (4, .int (zJ v4)), (5, .int (zJ v5))]) (by decide +kernel) rfl (Nat.le_of_ble_eq_true rfl) rfl ?_
      refine zw_aload_n (pc := 111) (n := 0) (i := 0) 0 (by decide +kernel) rfl rfl ?_
      refine zx_getR (pc := 112) (o := 19) (r := 222) zf_11_70 (by decide +kernel) rfl zc_203 rfl (by decide) rfl ?_
      refine zw_aload_n (pc := 115) (n := 0) (i := 0) 0 (by decide +kernel) rfl rfl ?_
      refine zx_getR (pc := 116) (o := 18) (r := 221) zf_11_67 (by decide +kernel) rfl zc_203 rfl (by decide) rfl ?_
      refine zw_iload (pc := 119) (i := 5) 4 (by decide +kernel) rfl ?_
      refine zx_iaload (pc := 121) (by decide +kernel) ⟨8, zc_221, o3.1, o3.2⟩ ?_
      refine zw_aload_n (pc := 122) (n := 0) (i := 0) 0 (by decide +kernel) rfl rfl ?_
      refine zx_getR (pc := 123) (o := 19) (r := 222) zf_11_70 (by decide +kernel) rfl zc_203 rfl (by decide) rfl ?_
      refine zw_aload_n (pc := 126) (n := 0) (i := 0) 0 (by decide +kernel) rfl rfl ?_
      refine zx_getR (pc := 127) (o := 18) (r := 221) zf_11_67 (by decide +kernel) rfl zc_203 rfl (by decide) rfl ?_
      refine zw_iload (pc := 130) (i := 5) 4 (by decide +kernel) rfl ?_
      refine zx_iaload (pc := 132) (by decide +kernel) ⟨8, zc_221, o3.1, o3.2⟩ ?_
      refine zx_iaload (pc := 133) (by decide +kernel) ⟨200, zc_222, o4.1, o4.2⟩ ?_
      refine zw_bipush (pc := 134) (n := (-5)) (by decide +kernel) (by decide +kernel) ?_
      refine zw_icmp_ne (pc := 136) (off := 9) (tgt := 145) (by decide +kernel) (by decide) o5 ⟨by decide, by decide⟩ (fun hc => ?_) (fun hc => ?_)
      · replace h := h.1 hc
        refine zw_aload_n (pc := 145) (n := 0) (i := 0) 0 (by decide +kernel) rfl rfl ?_
        refine zx_getR (pc := 146) (o := 19) (r := 222) zf_11_70 (by decide +kernel) rfl zc_203 rfl (by decide) rfl ?_
        refine zw_aload_n (pc := 149) (n := 0) (i := 0) 0 (by decide +kernel) rfl rfl ?_
        refine zx_getR (pc := 150) (o := 18) (r := 221) zf_11_67 (by decide +kernel) rfl zc_203 rfl (by decide) rfl ?_
        refine zw_iload (pc := 153) (i := 5) 4 (by decide +kernel) rfl ?_
        refine zx_iaload (pc := 155) (by decide +kernel) ⟨8, zc_221, o3.1, o3.2⟩ ?_
        refine zx_iaload (pc := 156) (by decide +kernel) ⟨200, zc_222, o4.1, o4.2⟩ ?_
        refine zx_iastore (pc := 157) (by decide +kernel) ⟨200, zc_222, o4.1, o4.2⟩ ?_
        refine zw_iinc (pc := 158) (i := 5) (n := 1) (lv' := [(0, .ref 203), (2, .int (zJ (zor v2 1))), (3, .int (zJ v3)), (4, .int (zJ v4)), (5, .int (zJ (v5 + 1)))]) 4 (by decide +kernel) rfl rfl (Nat.le_of_ble_eq_true rfl) rfl ?_
        refine zw_goto (pc := 161) (off := (-84)) (tgt := 77) (by decide +kernel) (by decide) ?_
        exact h
      · replace h := h.2 hc
        refine zw_iload_n (pc := 139) (n := 3) (i := 3) 2 (by decide +kernel) rfl rfl ?_
        refine zw_iconst (pc := 140) (n := 1) (by decide +kernel) ?_
        refine zw_iadd (pc := 141) (by decide +kernel) ?_
        refine zw_goto (pc := 142) (off := 15) (tgt := 157) (by decide +kernel) (by decide) ?_
        refine zx_iastore (pc := 157) (by decide +kernel) ⟨200, zc_222, o4.1, o4.2⟩ ?_
        refine zw_iinc (pc := 158) (i := 5) (n := 1) (lv' := [(0, .ref 203), (2, .int (zJ (zor v2 1))), (3, .int (zJ v3)), (4, .int (zJ v4)), (5, .int (zJ (v5 + 1)))]) 4 (by decide +kernel) rfl rfl (Nat.le_of_ble_eq_true rfl) rfl ?_
        refine zw_goto (pc := 161) (off := (-84)) (tgt := 77) (by decide +kernel) (by decide) ?_
        exact h
abbrev at_X11_reach_30 (g : zG) (φ : Int → zMu → Prop) (v2 : Int) (v3 : Int) (μ : zMu) : Prop := zWP g zm_X11_reach (zmo g zm_X11_reach (zΦi φ)) 30 [(0, .ref 203), (2, .int (zJ v2)), (3, .int (zJ v3))] [] 0 0 (zw μ)
theorem sg_X11_reach {g : zG} {φ : Int → zMu → Prop} {v1 : Int} {μ : zMu}
    (h : zOi g zm_X11_isValue [.ref 203, .int (zJ v1)] μ (fun x2 μ1 => (zR x2) ∧ ((¬ x2 = 0 → (zR (μ1 203 4)) ∧ ((¬ (μ1 203 4) = 0 → zOv g zm_X11_tellsAway [.ref 203, .int (zJ v1)] μ1 (fun μ5 => at_X11_reach_30 g φ 0 0 μ5)) ∧ ((μ1 203 4) = 0 → φ (-11) μ1))) ∧ (x2 = 0 → φ (-2) μ1)))) : zOi g zm_X11_reach [.ref 203, .int (zJ v1)] μ φ := by
  refine zok_of (by decide +kernel) rfl ?_
  show zWP g zm_X11_reach (zmo g zm_X11_reach (zΦi φ)) 0 [(0, .ref 203), (1, .int (zJ v1))] [] 0 0 (zw μ)
  refine zw_aload_n (pc := 0) (n := 0) (i := 0) 0 (by decide +kernel) rfl rfl ?_
  refine zw_iload_n (pc := 1) (n := 1) (i := 1) 1 (by decide +kernel) rfl rfl ?_
  refine zx_callV (pc := 2) (As := [.int (zJ v1)]) h zi_X11_isValue zii_X11_isValue zie_X11_isValue zl_11_243 (by decide +kernel) ⟨Nat.le_of_ble_eq_true rfl, Nat.le_of_ble_eq_true rfl⟩ rfl zc_203 (by decide) rfl rfl ⟨rfl, rfl⟩ ⟨Nat.zero_le _, Nat.zero_le _⟩ (zki (fun x2 μ1 h => ?_))
  obtain ⟨o3, h⟩ := h
  refine zw_if_ne (pc := 5) (off := 6) (tgt := 11) (by decide +kernel) (by decide) o3 (fun hc => ?_) (fun hc => ?_)
  · replace h := h.1 hc
    obtain ⟨o4, h⟩ := h
    refine zw_aload_n (pc := 11) (n := 0) (i := 0) 0 (by decide +kernel) rfl rfl ?_
    refine zx_getI (pc := 12) zf_11_128 (by decide +kernel) rfl zc_203 ?_
    refine zw_if_ne (pc := 15) (off := 6) (tgt := 21) (by decide +kernel) (by decide) o4 (fun hc => ?_) (fun hc => ?_)
    · replace h := h.1 hc
      refine zw_aload_n (pc := 21) (n := 0) (i := 0) 0 (by decide +kernel) rfl rfl ?_
      refine zw_iload_n (pc := 22) (n := 1) (i := 1) 1 (by decide +kernel) rfl rfl ?_
      refine zx_callV (pc := 23) (As := [.int (zJ v1)]) h zi_X11_tellsAway zii_X11_tellsAway zie_X11_tellsAway zl_11_261 (by decide +kernel) ⟨Nat.le_of_ble_eq_true rfl, Nat.le_of_ble_eq_true rfl⟩ rfl zc_203 (by decide) rfl rfl ⟨rfl, rfl⟩ ⟨Nat.zero_le _, Nat.zero_le _⟩ (zkv (fun μ5 h => ?_))
      refine zw_iconst (pc := 26) (n := 0) (by decide +kernel) ?_
      refine zw_istore_n (pc := 27) (n := 2) (i := 2) (lv' := [(0, .ref 203), (1, .int (zJ v1)), (2, .int (zJ 0))]) (by decide +kernel) rfl (Nat.le_of_ble_eq_true rfl) rfl ?_
      refine zw_iconst (pc := 28) (n := 0) (by decide +kernel) ?_
      refine zw_istore_n (pc := 29) (n := 3) (i := 3) (lv' := [(0, .ref 203), (1, .int (zJ v1)), (2, .int (zJ 0)), (3, .int (zJ 0))]) (by decide +kernel) rfl (Nat.le_of_ble_eq_true rfl) rfl ?_
      exact zw_pick (lv' := [(0, .ref 203), (2, .int (zJ 0)), (3, .int (zJ 0))]) [0, 2, 3] rfl h
    · replace h := h.2 hc
      refine zw_bipush (pc := 18) (n := (-11)) (by decide +kernel) (by decide +kernel) ?_
      exact zw_iret (pc := 20) (by decide +kernel) rfl (Nat.le_refl _) (Nat.le_refl _) ⟨_, _, rfl, rfl, h⟩
  · replace h := h.2 hc
    refine zw_bipush (pc := 8) (n := (-2)) (by decide +kernel) (by decide +kernel) ?_
    exact zw_iret (pc := 10) (by decide +kernel) rfl (Nat.le_refl _) (Nat.le_refl _) ⟨_, _, rfl, rfl, h⟩
theorem sg_X11_reach_30 {g : zG} {φ : Int → zMu → Prop} {v2 : Int} {v3 : Int} {μ : zMu}
    (h : (zR v3) ∧ (zR (μ 203 0)) ∧ (((μ 203 0) ≤ v3 → φ v2 μ) ∧ (v3 < (μ 203 0) → (0 ≤ v3 ∧ v3 < 200) ∧ (zR (μ 222 v3.toNat)) ∧ (((μ 222 v3.toNat) = (-5) → at_X11_reach_30 g φ (v2 + 0) (v3 + 1) μ) ∧ (¬ (μ 222 v3.toNat) = (-5) → at_X11_reach_30 g φ (v2 + 1) (v3 + 1) μ))))) : at_X11_reach_30 g φ v2 v3 μ := by
  obtain ⟨o1, o2, h⟩ := h
  refine zw_iload_n (pc := 30) (n := 3) (i := 3) 2 (by decide +kernel) rfl rfl ?_
  refine zw_aload_n (pc := 31) (n := 0) (i := 0) 0 (by decide +kernel) rfl rfl ?_
  refine zx_getI (pc := 32) zf_11_9 (by decide +kernel) rfl zc_203 ?_
  refine zw_icmp_ge (pc := 35) (off := 28) (tgt := 63) (by decide +kernel) (by decide) o1 o2 (fun hc => ?_) (fun hc => ?_)
  · replace h := h.1 hc
    refine zw_iload_n (pc := 63) (n := 2) (i := 2) 1 (by decide +kernel) rfl rfl ?_
    exact zw_iret (pc := 64) (by decide +kernel) rfl (Nat.le_refl _) (Nat.le_refl _) ⟨_, _, rfl, rfl, h⟩
  · replace h := h.2 hc
    obtain ⟨o3, o4, h⟩ := h
    refine zw_iload_n (pc := 38) (n := 2) (i := 2) 1 (by decide +kernel) rfl rfl ?_
    refine zw_aload_n (pc := 39) (n := 0) (i := 0) 0 (by decide +kernel) rfl rfl ?_
    refine zx_getR (pc := 40) (o := 19) (r := 222) zf_11_70 (by decide +kernel) rfl zc_203 rfl (by decide) rfl ?_
    refine zw_iload_n (pc := 43) (n := 3) (i := 3) 2 (by decide +kernel) rfl rfl ?_
    refine zx_iaload (pc := 44) (by decide +kernel) ⟨200, zc_222, o3.1, o3.2⟩ ?_
    refine zw_bipush (pc := 45) (n := (-5)) (by decide +kernel) (by decide +kernel) ?_
    refine zw_icmp_eq (pc := 47) (off := 7) (tgt := 54) (by decide +kernel) (by decide) o4 ⟨by decide, by decide⟩ (fun hc => ?_) (fun hc => ?_)
    · replace h := h.1 hc
      refine zw_iconst (pc := 54) (n := 0) (by decide +kernel) ?_
      refine zw_iadd (pc := 55) (by decide +kernel) ?_
      refine zw_istore_n (pc := 56) (n := 2) (i := 2) (lv' := [(0, .ref 203), (2, .int (zJ (v2 + 0))), (3, .int (zJ v3))]) (by decide +kernel) rfl (Nat.le_of_ble_eq_true rfl) rfl ?_
      refine zw_iinc (pc := 57) (i := 3) (n := 1) (lv' := [(0, .ref 203), (2, .int (zJ (v2 + 0))), (3, .int (zJ (v3 + 1)))]) 2 (by decide +kernel) rfl rfl (Nat.le_of_ble_eq_true rfl) rfl ?_
      refine zw_goto (pc := 60) (off := (-30)) (tgt := 30) (by decide +kernel) (by decide) ?_
      exact h
    · replace h := h.2 hc
      refine zw_iconst (pc := 50) (n := 1) (by decide +kernel) ?_
      refine zw_goto (pc := 51) (off := 4) (tgt := 55) (by decide +kernel) (by decide) ?_
      refine zw_iadd (pc := 55) (by decide +kernel) ?_
      refine zw_istore_n (pc := 56) (n := 2) (i := 2) (lv' := [(0, .ref 203), (2, .int (zJ (v2 + 1))), (3, .int (zJ v3))]) (by decide +kernel) rfl (Nat.le_of_ble_eq_true rfl) rfl ?_
      refine zw_iinc (pc := 57) (i := 3) (n := 1) (lv' := [(0, .ref 203), (2, .int (zJ (v2 + 1))), (3, .int (zJ (v3 + 1)))]) 2 (by decide +kernel) rfl rfl (Nat.le_of_ble_eq_true rfl) rfl ?_
      refine zw_goto (pc := 60) (off := (-30)) (tgt := 30) (by decide +kernel) (by decide) ?_
      exact h
abbrev at_X11_values_37 (g : zG) (φ : Int → zMu → Prop) (v1 : Int) (v2 : Int) (v3 : Int) (v4 : Int) (v5 : Int) (v6 : Int) (μ : zMu) : Prop := zWP g zm_X11_values (zmo g zm_X11_values (zΦi φ)) 37 [(0, .ref 203), (1, .int (zJ v1)), (2, .int (zJ v2)), (3, .int (zJ v3)), (4, .int (zJ v4)), (5, .int (zJ v5)), (6, .int (zJ v6))] [] 0 0 (zw μ)
abbrev at_X11_values_115 (g : zG) (φ : Int → zMu → Prop) (v1 : Int) (v2 : Int) (v3 : Int) (v4 : Int) (v5 : Int) (v6 : Int) (v8 : Int) (v9 : Int) (μ : zMu) : Prop := zWP g zm_X11_values (zmo g zm_X11_values (zΦi φ)) 115 [(0, .ref 203), (1, .int (zJ v1)), (2, .int (zJ v2)), (3, .int (zJ v3)), (4, .int (zJ v4)), (5, .int (zJ v5)), (6, .int (zJ v6)), (8, .int (zJ v8)), (9, .int (zJ v9))] [] 0 0 (zw μ)
theorem sg_X11_values {g : zG} {φ : Int → zMu → Prop} {v1 : Int} {μ : zMu}
    (h : (zR v1) ∧ zOi g zm_X11_in [.long (zL v1), .long (zL 0), .long (zL 3)] μ (fun x3 μ2 => (zR x3) ∧ ((¬ x3 = 0 → (zR (μ2 203 4)) ∧ ((¬ (μ2 203 4) = 0 → at_X11_values_37 g φ v1 0 0 0 0 0 μ2) ∧ ((μ2 203 4) = 0 → φ (-11) μ2))) ∧ (x3 = 0 → φ (-1) μ2)))) : zOi g zm_X11_values [.ref 203, .int (zJ v1)] μ φ := by
  refine zok_of (by decide +kernel) rfl ?_
  show zWP g zm_X11_values (zmo g zm_X11_values (zΦi φ)) 0 [(0, .ref 203), (1, .int (zJ v1))] [] 0 0 (zw μ)
  obtain ⟨o1, h⟩ := h
  refine zw_iload_n (pc := 0) (n := 1) (i := 1) 1 (by decide +kernel) rfl rfl ?_
  refine zw_i2l (pc := 1) (by decide +kernel) o1 ?_
  refine zw_lconst (pc := 2) (n := 0) (v := 0) (by decide +kernel) rfl ?_
  refine zw_ldc2 (pc := 3) (v := 3) (by decide +kernel) zk_11_238 ?_
  refine zx_callS (pc := 6) (As := [.long (zL v1), .long (zL 0), .long (zL 3)]) h zi_X11_in zis_X11_in zl_11_114 (by decide +kernel) ⟨Nat.le_of_ble_eq_true rfl, Nat.le_of_ble_eq_true rfl⟩ rfl rfl ⟨rfl, rfl⟩ ⟨Nat.zero_le _, Nat.zero_le _⟩ (zki (fun x3 μ2 h => ?_))
  obtain ⟨o4, h⟩ := h
  refine zw_if_ne (pc := 9) (off := 5) (tgt := 14) (by decide +kernel) (by decide) o4 (fun hc => ?_) (fun hc => ?_)
  · replace h := h.1 hc
    obtain ⟨o5, h⟩ := h
    refine zw_aload_n (pc := 14) (n := 0) (i := 0) 0 (by decide +kernel) rfl rfl ?_
    refine zx_getI (pc := 15) zf_11_128 (by decide +kernel) rfl zc_203 ?_
    refine zw_if_ne (pc := 18) (off := 6) (tgt := 24) (by decide +kernel) (by decide) o5 (fun hc => ?_) (fun hc => ?_)
    · replace h := h.1 hc
      refine zw_iconst (pc := 24) (n := 0) (by decide +kernel) ?_
      refine zw_istore_n (pc := 25) (n := 2) (i := 2) (lv' := [(0, .ref 203), (1, .int (zJ v1)), (2, .int (zJ 0))]) (by decide +kernel) rfl (Nat.le_of_ble_eq_true rfl) rfl ?_
      refine zw_iconst (pc := 26) (n := 0) (by decide +kernel) ?_
      refine zw_istore_n (pc := 27) (n := 3) (i := 3) (lv' := [(0, .ref 203), (1, .int (zJ v1)), (2, .int (zJ 0)), (3, .int (zJ 0))]) (by decide +kernel) rfl (Nat.le_of_ble_eq_true rfl) rfl ?_
      refine zw_iconst (pc := 28) (n := 0) (by decide +kernel) ?_
      refine zw_istore (pc := 29) (i := 4) (lv' := [(0, .ref 203), (1, .int (zJ v1)), (2, .int (zJ 0)), (3, .int (zJ 0)), (4, .int (zJ 0))]) (by decide +kernel) (Nat.le_of_ble_eq_true rfl) rfl ?_
      refine zw_iconst (pc := 31) (n := 0) (by decide +kernel) ?_
      refine zw_istore (pc := 32) (i := 5) (lv' := [(0, .ref 203), (1, .int (zJ v1)), (2, .int (zJ 0)), (3, .int (zJ 0)), (4, .int (zJ 0)), (5, .int (zJ 0))]) (by decide +kernel) (Nat.le_of_ble_eq_true rfl) rfl ?_
      refine zw_iconst (pc := 34) (n := 0) (by decide +kernel) ?_
      refine zw_istore (pc := 35) (i := 6) (lv' := [(0, .ref 203), (1, .int (zJ v1)), (2, .int (zJ 0)), (3, .int (zJ 0)), (4, .int (zJ 0)), (5, .int (zJ 0)), (6, .int (zJ 0))]) (by decide +kernel) (Nat.le_of_ble_eq_true rfl) rfl ?_
      exact h
    · replace h := h.2 hc
      refine zw_bipush (pc := 21) (n := (-11)) (by decide +kernel) (by decide +kernel) ?_
      exact zw_iret (pc := 23) (by decide +kernel) rfl (Nat.le_refl _) (Nat.le_refl _) ⟨_, _, rfl, rfl, h⟩
  · replace h := h.2 hc
    refine zw_iconst (pc := 12) (n := (-1)) (by decide +kernel) ?_
    exact zw_iret (pc := 13) (by decide +kernel) rfl (Nat.le_refl _) (Nat.le_refl _) ⟨_, _, rfl, rfl, h⟩
theorem sg_X11_values_37 {g : zG} {φ : Int → zMu → Prop} {v1 : Int} {v2 : Int} {v3 : Int} {v4 : Int} {v5 : Int} {v6 : Int} {μ : zMu}
    (h : (zR v6) ∧ (zR (μ 203 0)) ∧ (((μ 203 0) ≤ v6 → (zR v1) ∧ ((¬ v1 = 0 → ((¬ v1 = 1 → ((¬ v1 = 2 → φ v5 μ) ∧ (v1 = 2 → φ v4 μ))) ∧ (v1 = 1 → φ v3 μ))) ∧ (v1 = 0 → φ v2 μ))) ∧ (v6 < (μ 203 0) → zOi g zm_X11_tellsNeighbours [.ref 203, .int (zJ v6)] μ (fun x5 μ4 => (zR x5) ∧ ((x5 = 0 → ((x5 = 0 → (zR (μ4 203 28)) ∧ (zR v5) ∧ (((μ4 203 28) ≤ v5 → at_X11_values_115 g φ v1 v2 (v3 + 1) (v4 + 0) v5 v6 0 0 μ4) ∧ (v5 < (μ4 203 28) → at_X11_values_115 g φ v1 v2 (v3 + 1) (v4 + 0) (μ4 203 28) v6 0 0 μ4))) ∧ (¬ x5 = 0 → (zR (μ4 203 28)) ∧ ((¬ (μ4 203 28) = 0 → (zR v5) ∧ (((μ4 203 28) ≤ v5 → at_X11_values_115 g φ v1 v2 (v3 + 1) (v4 + 0) v5 v6 0 0 μ4) ∧ (v5 < (μ4 203 28) → at_X11_values_115 g φ v1 v2 (v3 + 1) (v4 + 0) (μ4 203 28) v6 0 0 μ4))) ∧ ((μ4 203 28) = 0 → (zR v5) ∧ (((μ4 203 28) ≤ v5 → at_X11_values_115 g φ v1 v2 (v3 + 1) (v4 + 1) v5 v6 0 0 μ4) ∧ (v5 < (μ4 203 28) → at_X11_values_115 g φ v1 v2 (v3 + 1) (v4 + 1) (μ4 203 28) v6 0 0 μ4))))))) ∧ (¬ x5 = 0 → ((x5 = 0 → (zR (μ4 203 28)) ∧ (zR v5) ∧ (((μ4 203 28) ≤ v5 → at_X11_values_115 g φ v1 v2 (v3 + 0) (v4 + 0) v5 v6 0 0 μ4) ∧ (v5 < (μ4 203 28) → at_X11_values_115 g φ v1 v2 (v3 + 0) (v4 + 0) (μ4 203 28) v6 0 0 μ4))) ∧ (¬ x5 = 0 → (zR (μ4 203 28)) ∧ ((¬ (μ4 203 28) = 0 → (zR v5) ∧ (((μ4 203 28) ≤ v5 → at_X11_values_115 g φ v1 v2 (v3 + 0) (v4 + 0) v5 v6 0 0 μ4) ∧ (v5 < (μ4 203 28) → at_X11_values_115 g φ v1 v2 (v3 + 0) (v4 + 0) (μ4 203 28) v6 0 0 μ4))) ∧ ((μ4 203 28) = 0 → (zR v5) ∧ (((μ4 203 28) ≤ v5 → at_X11_values_115 g φ v1 v2 (v3 + 0) (v4 + 1) v5 v6 0 0 μ4) ∧ (v5 < (μ4 203 28) → at_X11_values_115 g φ v1 v2 (v3 + 0) (v4 + 1) (μ4 203 28) v6 0 0 μ4)))))))))))) : at_X11_values_37 g φ v1 v2 v3 v4 v5 v6 μ := by
  obtain ⟨o1, o2, h⟩ := h
  refine zw_iload (pc := 37) (i := 6) 6 (by decide +kernel) rfl ?_
  refine zw_aload_n (pc := 39) (n := 0) (i := 0) 0 (by decide +kernel) rfl rfl ?_
  refine zx_getI (pc := 40) zf_11_9 (by decide +kernel) rfl zc_203 ?_
  refine zw_icmp_ge (pc := 43) (off := 128) (tgt := 171) (by decide +kernel) (by decide) o1 o2 (fun hc => ?_) (fun hc => ?_)
  · replace h := h.1 hc
    obtain ⟨o3, h⟩ := h
    refine zw_iload_n (pc := 171) (n := 1) (i := 1) 1 (by decide +kernel) rfl rfl ?_
    refine zw_if_ne (pc := 172) (off := 7) (tgt := 179) (by decide +kernel) (by decide) o3 (fun hc => ?_) (fun hc => ?_)
    · replace h := h.1 hc
      refine zw_iload_n (pc := 179) (n := 1) (i := 1) 1 (by decide +kernel) rfl rfl ?_
      refine zw_iconst (pc := 180) (n := 1) (by decide +kernel) ?_
      refine zw_icmp_ne (pc := 181) (off := 7) (tgt := 188) (by decide +kernel) (by decide) o3 ⟨by decide, by decide⟩ (fun hc => ?_) (fun hc => ?_)
      · replace h := h.1 hc
        refine zw_iload_n (pc := 188) (n := 1) (i := 1) 1 (by decide +kernel) rfl rfl ?_
        refine zw_iconst (pc := 189) (n := 2) (by decide +kernel) ?_
        refine zw_icmp_ne (pc := 190) (off := 8) (tgt := 198) (by decide +kernel) (by decide) o3 ⟨by decide, by decide⟩ (fun hc => ?_) (fun hc => ?_)
        · replace h := h.1 hc
          refine zw_iload (pc := 198) (i := 5) 5 (by decide +kernel) rfl ?_
          exact zw_iret (pc := 200) (by decide +kernel) rfl (Nat.le_refl _) (Nat.le_refl _) ⟨_, _, rfl, rfl, h⟩
        · replace h := h.2 hc
          refine zw_iload (pc := 193) (i := 4) 4 (by decide +kernel) rfl ?_
          refine zw_goto (pc := 195) (off := 5) (tgt := 200) (by decide +kernel) (by decide) ?_
          exact zw_iret (pc := 200) (by decide +kernel) rfl (Nat.le_refl _) (Nat.le_refl _) ⟨_, _, rfl, rfl, h⟩
      · replace h := h.2 hc
        refine zw_iload_n (pc := 184) (n := 3) (i := 3) 3 (by decide +kernel) rfl rfl ?_
        refine zw_goto (pc := 185) (off := 15) (tgt := 200) (by decide +kernel) (by decide) ?_
        exact zw_iret (pc := 200) (by decide +kernel) rfl (Nat.le_refl _) (Nat.le_refl _) ⟨_, _, rfl, rfl, h⟩
    · replace h := h.2 hc
      refine zw_iload_n (pc := 175) (n := 2) (i := 2) 2 (by decide +kernel) rfl rfl ?_
      refine zw_goto (pc := 176) (off := 24) (tgt := 200) (by decide +kernel) (by decide) ?_
      exact zw_iret (pc := 200) (by decide +kernel) rfl (Nat.le_refl _) (Nat.le_refl _) ⟨_, _, rfl, rfl, h⟩
  · replace h := h.2 hc
    refine zw_aload_n (pc := 46) (n := 0) (i := 0) 0 (by decide +kernel) rfl rfl ?_
    refine zw_iload (pc := 47) (i := 6) 6 (by decide +kernel) rfl ?_
    refine zx_callV (pc := 49) (As := [.int (zJ v6)]) h zi_X11_tellsNeighbours zii_X11_tellsNeighbours zie_X11_tellsNeighbours zl_11_258 (by decide +kernel) ⟨Nat.le_of_ble_eq_true rfl, Nat.le_of_ble_eq_true rfl⟩ rfl zc_203 (by decide) rfl rfl ⟨rfl, rfl⟩ ⟨Nat.zero_le _, Nat.zero_le _⟩ (zki (fun x5 μ4 h => ?_))
    obtain ⟨o6, h⟩ := h
    refine zw_istore (pc := 52) (i := 7) (lv' := [(0, .ref 203), (1, .int (zJ v1)), (2, .int (zJ v2)), (3, .int (zJ v3)), (4, .int (zJ v4)), (5, .int (zJ v5)), (6, .int (zJ v6)), (7, .int (zJ x5))]) (by decide +kernel) (Nat.le_of_ble_eq_true rfl) rfl ?_
    refine zw_iload_n (pc := 54) (n := 3) (i := 3) 3 (by decide +kernel) rfl rfl ?_
    refine zw_iload (pc := 55) (i := 7) 7 (by decide +kernel) rfl ?_
    refine zw_if_eq (pc := 57) (off := 7) (tgt := 64) (by decide +kernel) (by decide) o6 (fun hc => ?_) (fun hc => ?_)
    · replace h := h.1 hc
      refine zw_iconst (pc := 64) (n := 1) (by decide +kernel) ?_
      refine zw_iadd (pc := 65) (by decide +kernel) ?_
      refine zw_istore_n (pc := 66) (n := 3) (i := 3) (lv' := [(0, .ref 203), (1, .int (zJ v1)), (2, .int (zJ v2)), (3, .int (zJ (v3 + 1))), (4, .int (zJ v4)), (5, .int (zJ v5)), (6, .int (zJ v6)), (7, .int (zJ x5))]) (by decide +kernel) rfl (Nat.le_of_ble_eq_true rfl) rfl ?_
      refine zw_iload (pc := 67) (i := 4) 4 (by decide +kernel) rfl ?_
      refine zw_iload (pc := 69) (i := 7) 7 (by decide +kernel) rfl ?_
      refine zw_if_eq (pc := 71) (off := 14) (tgt := 85) (by decide +kernel) (by decide) o6 (fun hc => ?_) (fun hc => ?_)
      · replace h := h.1 hc
        obtain ⟨o7, o8, h⟩ := h
        refine zw_iconst (pc := 85) (n := 0) (by decide +kernel) ?_
        refine zw_iadd (pc := 86) (by decide +kernel) ?_
        refine zw_istore (pc := 87) (i := 4) (lv' := [(0, .ref 203), (1, .int (zJ v1)), (2, .int (zJ v2)), (3, .int (zJ (v3 + 1))), (4, .int (zJ (v4 + 0))), (5, .int (zJ v5)), (6, .int (zJ v6)), (7, .int (zJ x5))]) (by decide +kernel) (Nat.le_of_ble_eq_true rfl) rfl ?_
        refine zw_aload_n (pc := 89) (n := 0) (i := 0) 0 (by decide +kernel) rfl rfl ?_
        refine zx_getI (pc := 90) zf_11_252 (by decide +kernel) rfl zc_203 ?_
        refine zw_iload (pc := 93) (i := 5) 5 (by decide +kernel) rfl ?_
        refine zw_icmp_le (pc := 95) (off := 10) (tgt := 105) (by decide +kernel) (by decide) o7 o8 (fun hc => ?_) (fun hc => ?_)
        · replace h := h.1 hc
          refine zw_iload (pc := 105) (i := 5) 5 (by decide +kernel) rfl ?_
          refine zw_istore (pc := 107) (i := 5) (lv' := [(0, .ref 203), (1, .int (zJ v1)), (2, .int (zJ v2)), (3, .int (zJ (v3 + 1))), (4, .int (zJ (v4 + 0))), (5, .int (zJ v5)), (6, .int (zJ v6)), (7, .int (zJ x5))]) (by decide +kernel) (Nat.le_of_ble_eq_true rfl) rfl ?_
          refine zw_iconst (pc := 109) (n := 0) (by decide +kernel) ?_
          refine zw_istore (pc := 110) (i := 8) (lv' := [(0, .ref 203), (1, .int (zJ v1)), (2, .int (zJ v2)), (3, .int (zJ (v3 + 1))), (4, .int (zJ (v4 + 0))), (5, .int (zJ v5)), (6, .int (zJ v6)), (7, .int (zJ x5)), (8, .int (zJ 0))]) (by decide +kernel) (Nat.le_of_ble_eq_true rfl) rfl ?_
          refine zw_iconst (pc := 112) (n := 0) (by decide +kernel) ?_
          refine zw_istore (pc := 113) (i := 9) (lv' := [(0, .ref 203), (1, .int (zJ v1)), (2, .int (zJ v2)), (3, .int (zJ (v3 + 1))), (4, .int (zJ (v4 + 0))), (5, .int (zJ v5)), (6, .int (zJ v6)), (7, .int (zJ x5)), (8, .int (zJ 0)), (9, .int (zJ 0))]) (by decide +kernel) (Nat.le_of_ble_eq_true rfl) rfl ?_
          exact zw_pick (lv' := [(0, .ref 203), (1, .int (zJ v1)), (2, .int (zJ v2)), (3, .int (zJ (v3 + 1))), (4, .int (zJ (v4 + 0))), (5, .int (zJ v5)), (6, .int (zJ v6)), (8, .int (zJ 0)), (9, .int (zJ 0))]) [0, 1, 2, 3, 4, 5, 6, 8, 9] rfl h
        · replace h := h.2 hc
          refine zw_aload_n (pc := 98) (n := 0) (i := 0) 0 (by decide +kernel) rfl rfl ?_
          refine zx_getI (pc := 99) zf_11_252 (by decide +kernel) rfl zc_203 ?_
          refine zw_goto (pc := 102) (off := 5) (tgt := 107) (by decide +kernel) (by decide) ?_
          refine zw_istore (pc := 107) (i := 5) (lv' := [(0, .ref 203), (1, .int (zJ v1)), (2, .int (zJ v2)), (3, .int (zJ (v3 + 1))), (4, .int (zJ (v4 + 0))), (5, .int (zJ (μ4 203 28))), (6, .int (zJ v6)), (7, .int (zJ x5))]) (by decide +kernel) (Nat.le_of_ble_eq_true rfl) rfl ?_
          refine zw_iconst (pc := 109) (n := 0) (by decide +kernel) ?_
          refine zw_istore (pc := 110) (i := 8) (lv' := [(0, .ref 203), (1, .int (zJ v1)), (2, .int (zJ v2)), (3, .int (zJ (v3 + 1))), (4, .int (zJ (v4 + 0))), (5, .int (zJ (μ4 203 28))), (6, .int (zJ v6)), (7, .int (zJ x5)), (8, .int (zJ 0))]) (by decide +kernel) (Nat.le_of_ble_eq_true rfl) rfl ?_
          refine zw_iconst (pc := 112) (n := 0) (by decide +kernel) ?_
          refine zw_istore (pc := 113) (i := 9) (lv' := [(0, .ref 203), (1, .int (zJ v1)), (2, .int (zJ v2)), (3, .int (zJ (v3 + 1))), (4, .int (zJ (v4 + 0))), (5, .int (zJ (μ4 203 28))), (6, .int (zJ v6)), (7, .int (zJ x5)), (8, .int (zJ 0)), (9, .int (zJ 0))]) (by decide +kernel) (Nat.le_of_ble_eq_true rfl) rfl ?_
          exact zw_pick (lv' := [(0, .ref 203), (1, .int (zJ v1)), (2, .int (zJ v2)), (3, .int (zJ (v3 + 1))), (4, .int (zJ (v4 + 0))), (5, .int (zJ (μ4 203 28))), (6, .int (zJ v6)), (8, .int (zJ 0)), (9, .int (zJ 0))]) [0, 1, 2, 3, 4, 5, 6, 8, 9] rfl h
      · replace h := h.2 hc
        obtain ⟨o9, h⟩ := h
        refine zw_aload_n (pc := 74) (n := 0) (i := 0) 0 (by decide +kernel) rfl rfl ?_
        refine zx_getI (pc := 75) zf_11_252 (by decide +kernel) rfl zc_203 ?_
        refine zw_if_ne (pc := 78) (off := 7) (tgt := 85) (by decide +kernel) (by decide) o9 (fun hc => ?_) (fun hc => ?_)
        · replace h := h.1 hc
          obtain ⟨o10, h⟩ := h
          refine zw_iconst (pc := 85) (n := 0) (by decide +kernel) ?_
          refine zw_iadd (pc := 86) (by decide +kernel) ?_
          refine zw_istore (pc := 87) (i := 4) (lv' := [(0, .ref 203), (1, .int (zJ v1)), (2, .int (zJ v2)), (3, .int (zJ (v3 + 1))), (4, .int (zJ (v4 + 0))), (5, .int (zJ v5)), (6, .int (zJ v6)), (7, .int (zJ x5))]) (by decide +kernel) (Nat.le_of_ble_eq_true rfl) rfl ?_
          refine zw_aload_n (pc := 89) (n := 0) (i := 0) 0 (by decide +kernel) rfl rfl ?_
          refine zx_getI (pc := 90) zf_11_252 (by decide +kernel) rfl zc_203 ?_
          refine zw_iload (pc := 93) (i := 5) 5 (by decide +kernel) rfl ?_
          refine zw_icmp_le (pc := 95) (off := 10) (tgt := 105) (by decide +kernel) (by decide) o9 o10 (fun hc => ?_) (fun hc => ?_)
          · replace h := h.1 hc
            refine zw_iload (pc := 105) (i := 5) 5 (by decide +kernel) rfl ?_
            refine zw_istore (pc := 107) (i := 5) (lv' := [(0, .ref 203), (1, .int (zJ v1)), (2, .int (zJ v2)), (3, .int (zJ (v3 + 1))), (4, .int (zJ (v4 + 0))), (5, .int (zJ v5)), (6, .int (zJ v6)), (7, .int (zJ x5))]) (by decide +kernel) (Nat.le_of_ble_eq_true rfl) rfl ?_
            refine zw_iconst (pc := 109) (n := 0) (by decide +kernel) ?_
            refine zw_istore (pc := 110) (i := 8) (lv' := [(0, .ref 203), (1, .int (zJ v1)), (2, .int (zJ v2)), (3, .int (zJ (v3 + 1))), (4, .int (zJ (v4 + 0))), (5, .int (zJ v5)), (6, .int (zJ v6)), (7, .int (zJ x5)), (8, .int (zJ 0))]) (by decide +kernel) (Nat.le_of_ble_eq_true rfl) rfl ?_
            refine zw_iconst (pc := 112) (n := 0) (by decide +kernel) ?_
            refine zw_istore (pc := 113) (i := 9) (lv' := [(0, .ref 203), (1, .int (zJ v1)), (2, .int (zJ v2)), (3, .int (zJ (v3 + 1))), (4, .int (zJ (v4 + 0))), (5, .int (zJ v5)), (6, .int (zJ v6)), (7, .int (zJ x5)), (8, .int (zJ 0)), (9, .int (zJ 0))]) (by decide +kernel) (Nat.le_of_ble_eq_true rfl) rfl ?_
            exact zw_pick (lv' := [(0, .ref 203), (1, .int (zJ v1)), (2, .int (zJ v2)), (3, .int (zJ (v3 + 1))), (4, .int (zJ (v4 + 0))), (5, .int (zJ v5)), (6, .int (zJ v6)), (8, .int (zJ 0)), (9, .int (zJ 0))]) [0, 1, 2, 3, 4, 5, 6, 8, 9] rfl h
          · replace h := h.2 hc
            refine zw_aload_n (pc := 98) (n := 0) (i := 0) 0 (by decide +kernel) rfl rfl ?_
            refine zx_getI (pc := 99) zf_11_252 (by decide +kernel) rfl zc_203 ?_
            refine zw_goto (pc := 102) (off := 5) (tgt := 107) (by decide +kernel) (by decide) ?_
            refine zw_istore (pc := 107) (i := 5) (lv' := [(0, .ref 203), (1, .int (zJ v1)), (2, .int (zJ v2)), (3, .int (zJ (v3 + 1))), (4, .int (zJ (v4 + 0))), (5, .int (zJ (μ4 203 28))), (6, .int (zJ v6)), (7, .int (zJ x5))]) (by decide +kernel) (Nat.le_of_ble_eq_true rfl) rfl ?_
            refine zw_iconst (pc := 109) (n := 0) (by decide +kernel) ?_
            refine zw_istore (pc := 110) (i := 8) (lv' := [(0, .ref 203), (1, .int (zJ v1)), (2, .int (zJ v2)), (3, .int (zJ (v3 + 1))), (4, .int (zJ (v4 + 0))), (5, .int (zJ (μ4 203 28))), (6, .int (zJ v6)), (7, .int (zJ x5)), (8, .int (zJ 0))]) (by decide +kernel) (Nat.le_of_ble_eq_true rfl) rfl ?_
            refine zw_iconst (pc := 112) (n := 0) (by decide +kernel) ?_
            refine zw_istore (pc := 113) (i := 9) (lv' := [(0, .ref 203), (1, .int (zJ v1)), (2, .int (zJ v2)), (3, .int (zJ (v3 + 1))), (4, .int (zJ (v4 + 0))), (5, .int (zJ (μ4 203 28))), (6, .int (zJ v6)), (7, .int (zJ x5)), (8, .int (zJ 0)), (9, .int (zJ 0))]) (by decide +kernel) (Nat.le_of_ble_eq_true rfl) rfl ?_
            exact zw_pick (lv' := [(0, .ref 203), (1, .int (zJ v1)), (2, .int (zJ v2)), (3, .int (zJ (v3 + 1))), (4, .int (zJ (v4 + 0))), (5, .int (zJ (μ4 203 28))), (6, .int (zJ v6)), (8, .int (zJ 0)), (9, .int (zJ 0))]) [0, 1, 2, 3, 4, 5, 6, 8, 9] rfl h
        · replace h := h.2 hc
          obtain ⟨o11, h⟩ := h
          refine zw_iconst (pc := 81) (n := 1) (by decide +kernel) ?_
          refine zw_goto (pc := 82) (off := 4) (tgt := 86) (by decide +kernel) (by decide) ?_
          refine zw_iadd (pc := 86) (by decide +kernel) ?_
          refine zw_istore (pc := 87) (i := 4) (lv' := [(0, .ref 203), (1, .int (zJ v1)), (2, .int (zJ v2)), (3, .int (zJ (v3 + 1))), (4, .int (zJ (v4 + 1))), (5, .int (zJ v5)), (6, .int (zJ v6)), (7, .int (zJ x5))]) (by decide +kernel) (Nat.le_of_ble_eq_true rfl) rfl ?_
          refine zw_aload_n (pc := 89) (n := 0) (i := 0) 0 (by decide +kernel) rfl rfl ?_
          refine zx_getI (pc := 90) zf_11_252 (by decide +kernel) rfl zc_203 ?_
          refine zw_iload (pc := 93) (i := 5) 5 (by decide +kernel) rfl ?_
          refine zw_icmp_le (pc := 95) (off := 10) (tgt := 105) (by decide +kernel) (by decide) o9 o11 (fun hc => ?_) (fun hc => ?_)
          · replace h := h.1 hc
            refine zw_iload (pc := 105) (i := 5) 5 (by decide +kernel) rfl ?_
            refine zw_istore (pc := 107) (i := 5) (lv' := [(0, .ref 203), (1, .int (zJ v1)), (2, .int (zJ v2)), (3, .int (zJ (v3 + 1))), (4, .int (zJ (v4 + 1))), (5, .int (zJ v5)), (6, .int (zJ v6)), (7, .int (zJ x5))]) (by decide +kernel) (Nat.le_of_ble_eq_true rfl) rfl ?_
            refine zw_iconst (pc := 109) (n := 0) (by decide +kernel) ?_
            refine zw_istore (pc := 110) (i := 8) (lv' := [(0, .ref 203), (1, .int (zJ v1)), (2, .int (zJ v2)), (3, .int (zJ (v3 + 1))), (4, .int (zJ (v4 + 1))), (5, .int (zJ v5)), (6, .int (zJ v6)), (7, .int (zJ x5)), (8, .int (zJ 0))]) (by decide +kernel) (Nat.le_of_ble_eq_true rfl) rfl ?_
            refine zw_iconst (pc := 112) (n := 0) (by decide +kernel) ?_
            refine zw_istore (pc := 113) (i := 9) (lv' := [(0, .ref 203), (1, .int (zJ v1)), (2, .int (zJ v2)), (3, .int (zJ (v3 + 1))), (4, .int (zJ (v4 + 1))), (5, .int (zJ v5)), (6, .int (zJ v6)), (7, .int (zJ x5)), (8, .int (zJ 0)), (9, .int (zJ 0))]) (by decide +kernel) (Nat.le_of_ble_eq_true rfl) rfl ?_
            exact zw_pick (lv' := [(0, .ref 203), (1, .int (zJ v1)), (2, .int (zJ v2)), (3, .int (zJ (v3 + 1))), (4, .int (zJ (v4 + 1))), (5, .int (zJ v5)), (6, .int (zJ v6)), (8, .int (zJ 0)), (9, .int (zJ 0))]) [0, 1, 2, 3, 4, 5, 6, 8, 9] rfl h
          · replace h := h.2 hc
            refine zw_aload_n (pc := 98) (n := 0) (i := 0) 0 (by decide +kernel) rfl rfl ?_
            refine zx_getI (pc := 99) zf_11_252 (by decide +kernel) rfl zc_203 ?_
            refine zw_goto (pc := 102) (off := 5) (tgt := 107) (by decide +kernel) (by decide) ?_
            refine zw_istore (pc := 107) (i := 5) (lv' := [(0, .ref 203), (1, .int (zJ v1)), (2, .int (zJ v2)), (3, .int (zJ (v3 + 1))), (4, .int (zJ (v4 + 1))), (5, .int (zJ (μ4 203 28))), (6, .int (zJ v6)), (7, .int (zJ x5))]) (by decide +kernel) (Nat.le_of_ble_eq_true rfl) rfl ?_
            refine zw_iconst (pc := 109) (n := 0) (by decide +kernel) ?_
            refine zw_istore (pc := 110) (i := 8) (lv' := [(0, .ref 203), (1, .int (zJ v1)), (2, .int (zJ v2)), (3, .int (zJ (v3 + 1))), (4, .int (zJ (v4 + 1))), (5, .int (zJ (μ4 203 28))), (6, .int (zJ v6)), (7, .int (zJ x5)), (8, .int (zJ 0))]) (by decide +kernel) (Nat.le_of_ble_eq_true rfl) rfl ?_
            refine zw_iconst (pc := 112) (n := 0) (by decide +kernel) ?_
            refine zw_istore (pc := 113) (i := 9) (lv' := [(0, .ref 203), (1, .int (zJ v1)), (2, .int (zJ v2)), (3, .int (zJ (v3 + 1))), (4, .int (zJ (v4 + 1))), (5, .int (zJ (μ4 203 28))), (6, .int (zJ v6)), (7, .int (zJ x5)), (8, .int (zJ 0)), (9, .int (zJ 0))]) (by decide +kernel) (Nat.le_of_ble_eq_true rfl) rfl ?_
            exact zw_pick (lv' := [(0, .ref 203), (1, .int (zJ v1)), (2, .int (zJ v2)), (3, .int (zJ (v3 + 1))), (4, .int (zJ (v4 + 1))), (5, .int (zJ (μ4 203 28))), (6, .int (zJ v6)), (8, .int (zJ 0)), (9, .int (zJ 0))]) [0, 1, 2, 3, 4, 5, 6, 8, 9] rfl h
    · replace h := h.2 hc
      refine zw_iconst (pc := 60) (n := 0) (by decide +kernel) ?_
      refine zw_goto (pc := 61) (off := 4) (tgt := 65) (by decide +kernel) (by decide) ?_
      refine zw_iadd (pc := 65) (by decide +kernel) ?_
      refine zw_istore_n (pc := 66) (n := 3) (i := 3) (lv' := [(0, .ref 203), (1, .int (zJ v1)), (2, .int (zJ v2)), (3, .int (zJ (v3 + 0))), (4, .int (zJ v4)), (5, .int (zJ v5)), (6, .int (zJ v6)), (7, .int (zJ x5))]) (by decide +kernel) rfl (Nat.le_of_ble_eq_true rfl) rfl ?_
      refine zw_iload (pc := 67) (i := 4) 4 (by decide +kernel) rfl ?_
      refine zw_iload (pc := 69) (i := 7) 7 (by decide +kernel) rfl ?_
      refine zw_if_eq (pc := 71) (off := 14) (tgt := 85) (by decide +kernel) (by decide) o6 (fun hc => ?_) (fun hc => ?_)
      · replace h := h.1 hc
        obtain ⟨o12, o13, h⟩ := h
        refine zw_iconst (pc := 85) (n := 0) (by decide +kernel) ?_
        refine zw_iadd (pc := 86) (by decide +kernel) ?_
        refine zw_istore (pc := 87) (i := 4) (lv' := [(0, .ref 203), (1, .int (zJ v1)), (2, .int (zJ v2)), (3, .int (zJ (v3 + 0))), (4, .int (zJ (v4 + 0))), (5, .int (zJ v5)), (6, .int (zJ v6)), (7, .int (zJ x5))]) (by decide +kernel) (Nat.le_of_ble_eq_true rfl) rfl ?_
        refine zw_aload_n (pc := 89) (n := 0) (i := 0) 0 (by decide +kernel) rfl rfl ?_
        refine zx_getI (pc := 90) zf_11_252 (by decide +kernel) rfl zc_203 ?_
        refine zw_iload (pc := 93) (i := 5) 5 (by decide +kernel) rfl ?_
        refine zw_icmp_le (pc := 95) (off := 10) (tgt := 105) (by decide +kernel) (by decide) o12 o13 (fun hc => ?_) (fun hc => ?_)
        · replace h := h.1 hc
          refine zw_iload (pc := 105) (i := 5) 5 (by decide +kernel) rfl ?_
          refine zw_istore (pc := 107) (i := 5) (lv' := [(0, .ref 203), (1, .int (zJ v1)), (2, .int (zJ v2)), (3, .int (zJ (v3 + 0))), (4, .int (zJ (v4 + 0))), (5, .int (zJ v5)), (6, .int (zJ v6)), (7, .int (zJ x5))]) (by decide +kernel) (Nat.le_of_ble_eq_true rfl) rfl ?_
          refine zw_iconst (pc := 109) (n := 0) (by decide +kernel) ?_
          refine zw_istore (pc := 110) (i := 8) (lv' := [(0, .ref 203), (1, .int (zJ v1)), (2, .int (zJ v2)), (3, .int (zJ (v3 + 0))), (4, .int (zJ (v4 + 0))), (5, .int (zJ v5)), (6, .int (zJ v6)), (7, .int (zJ x5)), (8, .int (zJ 0))]) (by decide +kernel) (Nat.le_of_ble_eq_true rfl) rfl ?_
          refine zw_iconst (pc := 112) (n := 0) (by decide +kernel) ?_
          refine zw_istore (pc := 113) (i := 9) (lv' := [(0, .ref 203), (1, .int (zJ v1)), (2, .int (zJ v2)), (3, .int (zJ (v3 + 0))), (4, .int (zJ (v4 + 0))), (5, .int (zJ v5)), (6, .int (zJ v6)), (7, .int (zJ x5)), (8, .int (zJ 0)), (9, .int (zJ 0))]) (by decide +kernel) (Nat.le_of_ble_eq_true rfl) rfl ?_
          exact zw_pick (lv' := [(0, .ref 203), (1, .int (zJ v1)), (2, .int (zJ v2)), (3, .int (zJ (v3 + 0))), (4, .int (zJ (v4 + 0))), (5, .int (zJ v5)), (6, .int (zJ v6)), (8, .int (zJ 0)), (9, .int (zJ 0))]) [0, 1, 2, 3, 4, 5, 6, 8, 9] rfl h
        · replace h := h.2 hc
          refine zw_aload_n (pc := 98) (n := 0) (i := 0) 0 (by decide +kernel) rfl rfl ?_
          refine zx_getI (pc := 99) zf_11_252 (by decide +kernel) rfl zc_203 ?_
          refine zw_goto (pc := 102) (off := 5) (tgt := 107) (by decide +kernel) (by decide) ?_
          refine zw_istore (pc := 107) (i := 5) (lv' := [(0, .ref 203), (1, .int (zJ v1)), (2, .int (zJ v2)), (3, .int (zJ (v3 + 0))), (4, .int (zJ (v4 + 0))), (5, .int (zJ (μ4 203 28))), (6, .int (zJ v6)), (7, .int (zJ x5))]) (by decide +kernel) (Nat.le_of_ble_eq_true rfl) rfl ?_
          refine zw_iconst (pc := 109) (n := 0) (by decide +kernel) ?_
          refine zw_istore (pc := 110) (i := 8) (lv' := [(0, .ref 203), (1, .int (zJ v1)), (2, .int (zJ v2)), (3, .int (zJ (v3 + 0))), (4, .int (zJ (v4 + 0))), (5, .int (zJ (μ4 203 28))), (6, .int (zJ v6)), (7, .int (zJ x5)), (8, .int (zJ 0))]) (by decide +kernel) (Nat.le_of_ble_eq_true rfl) rfl ?_
          refine zw_iconst (pc := 112) (n := 0) (by decide +kernel) ?_
          refine zw_istore (pc := 113) (i := 9) (lv' := [(0, .ref 203), (1, .int (zJ v1)), (2, .int (zJ v2)), (3, .int (zJ (v3 + 0))), (4, .int (zJ (v4 + 0))), (5, .int (zJ (μ4 203 28))), (6, .int (zJ v6)), (7, .int (zJ x5)), (8, .int (zJ 0)), (9, .int (zJ 0))]) (by decide +kernel) (Nat.le_of_ble_eq_true rfl) rfl ?_
          exact zw_pick (lv' := [(0, .ref 203), (1, .int (zJ v1)), (2, .int (zJ v2)), (3, .int (zJ (v3 + 0))), (4, .int (zJ (v4 + 0))), (5, .int (zJ (μ4 203 28))), (6, .int (zJ v6)), (8, .int (zJ 0)), (9, .int (zJ 0))]) [0, 1, 2, 3, 4, 5, 6, 8, 9] rfl h
      · replace h := h.2 hc
        obtain ⟨o14, h⟩ := h
        refine zw_aload_n (pc := 74) (n := 0) (i := 0) 0 (by decide +kernel) rfl rfl ?_
        refine zx_getI (pc := 75) zf_11_252 (by decide +kernel) rfl zc_203 ?_
        refine zw_if_ne (pc := 78) (off := 7) (tgt := 85) (by decide +kernel) (by decide) o14 (fun hc => ?_) (fun hc => ?_)
        · replace h := h.1 hc
          obtain ⟨o15, h⟩ := h
          refine zw_iconst (pc := 85) (n := 0) (by decide +kernel) ?_
          refine zw_iadd (pc := 86) (by decide +kernel) ?_
          refine zw_istore (pc := 87) (i := 4) (lv' := [(0, .ref 203), (1, .int (zJ v1)), (2, .int (zJ v2)), (3, .int (zJ (v3 + 0))), (4, .int (zJ (v4 + 0))), (5, .int (zJ v5)), (6, .int (zJ v6)), (7, .int (zJ x5))]) (by decide +kernel) (Nat.le_of_ble_eq_true rfl) rfl ?_
          refine zw_aload_n (pc := 89) (n := 0) (i := 0) 0 (by decide +kernel) rfl rfl ?_
          refine zx_getI (pc := 90) zf_11_252 (by decide +kernel) rfl zc_203 ?_
          refine zw_iload (pc := 93) (i := 5) 5 (by decide +kernel) rfl ?_
          refine zw_icmp_le (pc := 95) (off := 10) (tgt := 105) (by decide +kernel) (by decide) o14 o15 (fun hc => ?_) (fun hc => ?_)
          · replace h := h.1 hc
            refine zw_iload (pc := 105) (i := 5) 5 (by decide +kernel) rfl ?_
            refine zw_istore (pc := 107) (i := 5) (lv' := [(0, .ref 203), (1, .int (zJ v1)), (2, .int (zJ v2)), (3, .int (zJ (v3 + 0))), (4, .int (zJ (v4 + 0))), (5, .int (zJ v5)), (6, .int (zJ v6)), (7, .int (zJ x5))]) (by decide +kernel) (Nat.le_of_ble_eq_true rfl) rfl ?_
            refine zw_iconst (pc := 109) (n := 0) (by decide +kernel) ?_
            refine zw_istore (pc := 110) (i := 8) (lv' := [(0, .ref 203), (1, .int (zJ v1)), (2, .int (zJ v2)), (3, .int (zJ (v3 + 0))), (4, .int (zJ (v4 + 0))), (5, .int (zJ v5)), (6, .int (zJ v6)), (7, .int (zJ x5)), (8, .int (zJ 0))]) (by decide +kernel) (Nat.le_of_ble_eq_true rfl) rfl ?_
            refine zw_iconst (pc := 112) (n := 0) (by decide +kernel) ?_
            refine zw_istore (pc := 113) (i := 9) (lv' := [(0, .ref 203), (1, .int (zJ v1)), (2, .int (zJ v2)), (3, .int (zJ (v3 + 0))), (4, .int (zJ (v4 + 0))), (5, .int (zJ v5)), (6, .int (zJ v6)), (7, .int (zJ x5)), (8, .int (zJ 0)), (9, .int (zJ 0))]) (by decide +kernel) (Nat.le_of_ble_eq_true rfl) rfl ?_
            exact zw_pick (lv' := [(0, .ref 203), (1, .int (zJ v1)), (2, .int (zJ v2)), (3, .int (zJ (v3 + 0))), (4, .int (zJ (v4 + 0))), (5, .int (zJ v5)), (6, .int (zJ v6)), (8, .int (zJ 0)), (9, .int (zJ 0))]) [0, 1, 2, 3, 4, 5, 6, 8, 9] rfl h
          · replace h := h.2 hc
            refine zw_aload_n (pc := 98) (n := 0) (i := 0) 0 (by decide +kernel) rfl rfl ?_
            refine zx_getI (pc := 99) zf_11_252 (by decide +kernel) rfl zc_203 ?_
            refine zw_goto (pc := 102) (off := 5) (tgt := 107) (by decide +kernel) (by decide) ?_
            refine zw_istore (pc := 107) (i := 5) (lv' := [(0, .ref 203), (1, .int (zJ v1)), (2, .int (zJ v2)), (3, .int (zJ (v3 + 0))), (4, .int (zJ (v4 + 0))), (5, .int (zJ (μ4 203 28))), (6, .int (zJ v6)), (7, .int (zJ x5))]) (by decide +kernel) (Nat.le_of_ble_eq_true rfl) rfl ?_
            refine zw_iconst (pc := 109) (n := 0) (by decide +kernel) ?_
            refine zw_istore (pc := 110) (i := 8) (lv' := [(0, .ref 203), (1, .int (zJ v1)), (2, .int (zJ v2)), (3, .int (zJ (v3 + 0))), (4, .int (zJ (v4 + 0))), (5, .int (zJ (μ4 203 28))), (6, .int (zJ v6)), (7, .int (zJ x5)), (8, .int (zJ 0))]) (by decide +kernel) (Nat.le_of_ble_eq_true rfl) rfl ?_
            refine zw_iconst (pc := 112) (n := 0) (by decide +kernel) ?_
            refine zw_istore (pc := 113) (i := 9) (lv' := [(0, .ref 203), (1, .int (zJ v1)), (2, .int (zJ v2)), (3, .int (zJ (v3 + 0))), (4, .int (zJ (v4 + 0))), (5, .int (zJ (μ4 203 28))), (6, .int (zJ v6)), (7, .int (zJ x5)), (8, .int (zJ 0)), (9, .int (zJ 0))]) (by decide +kernel) (Nat.le_of_ble_eq_true rfl) rfl ?_
            exact zw_pick (lv' := [(0, .ref 203), (1, .int (zJ v1)), (2, .int (zJ v2)), (3, .int (zJ (v3 + 0))), (4, .int (zJ (v4 + 0))), (5, .int (zJ (μ4 203 28))), (6, .int (zJ v6)), (8, .int (zJ 0)), (9, .int (zJ 0))]) [0, 1, 2, 3, 4, 5, 6, 8, 9] rfl h
        · replace h := h.2 hc
          obtain ⟨o16, h⟩ := h
          refine zw_iconst (pc := 81) (n := 1) (by decide +kernel) ?_
          refine zw_goto (pc := 82) (off := 4) (tgt := 86) (by decide +kernel) (by decide) ?_
          refine zw_iadd (pc := 86) (by decide +kernel) ?_
          refine zw_istore (pc := 87) (i := 4) (lv' := [(0, .ref 203), (1, .int (zJ v1)), (2, .int (zJ v2)), (3, .int (zJ (v3 + 0))), (4, .int (zJ (v4 + 1))), (5, .int (zJ v5)), (6, .int (zJ v6)), (7, .int (zJ x5))]) (by decide +kernel) (Nat.le_of_ble_eq_true rfl) rfl ?_
          refine zw_aload_n (pc := 89) (n := 0) (i := 0) 0 (by decide +kernel) rfl rfl ?_
          refine zx_getI (pc := 90) zf_11_252 (by decide +kernel) rfl zc_203 ?_
          refine zw_iload (pc := 93) (i := 5) 5 (by decide +kernel) rfl ?_
          refine zw_icmp_le (pc := 95) (off := 10) (tgt := 105) (by decide +kernel) (by decide) o14 o16 (fun hc => ?_) (fun hc => ?_)
          · replace h := h.1 hc
            refine zw_iload (pc := 105) (i := 5) 5 (by decide +kernel) rfl ?_
            refine zw_istore (pc := 107) (i := 5) (lv' := [(0, .ref 203), (1, .int (zJ v1)), (2, .int (zJ v2)), (3, .int (zJ (v3 + 0))), (4, .int (zJ (v4 + 1))), (5, .int (zJ v5)), (6, .int (zJ v6)), (7, .int (zJ x5))]) (by decide +kernel) (Nat.le_of_ble_eq_true rfl) rfl ?_
            refine zw_iconst (pc := 109) (n := 0) (by decide +kernel) ?_
            refine zw_istore (pc := 110) (i := 8) (lv' := [(0, .ref 203), (1, .int (zJ v1)), (2, .int (zJ v2)), (3, .int (zJ (v3 + 0))), (4, .int (zJ (v4 + 1))), (5, .int (zJ v5)), (6, .int (zJ v6)), (7, .int (zJ x5)), (8, .int (zJ 0))]) (by decide +kernel) (Nat.le_of_ble_eq_true rfl) rfl ?_
            refine zw_iconst (pc := 112) (n := 0) (by decide +kernel) ?_
            refine zw_istore (pc := 113) (i := 9) (lv' := [(0, .ref 203), (1, .int (zJ v1)), (2, .int (zJ v2)), (3, .int (zJ (v3 + 0))), (4, .int (zJ (v4 + 1))), (5, .int (zJ v5)), (6, .int (zJ v6)), (7, .int (zJ x5)), (8, .int (zJ 0)), (9, .int (zJ 0))]) (by decide +kernel) (Nat.le_of_ble_eq_true rfl) rfl ?_
            exact zw_pick (lv' := [(0, .ref 203), (1, .int (zJ v1)), (2, .int (zJ v2)), (3, .int (zJ (v3 + 0))), (4, .int (zJ (v4 + 1))), (5, .int (zJ v5)), (6, .int (zJ v6)), (8, .int (zJ 0)), (9, .int (zJ 0))]) [0, 1, 2, 3, 4, 5, 6, 8, 9] rfl h
          · replace h := h.2 hc
            refine zw_aload_n (pc := 98) (n := 0) (i := 0) 0 (by decide +kernel) rfl rfl ?_
            refine zx_getI (pc := 99) zf_11_252 (by decide +kernel) rfl zc_203 ?_
            refine zw_goto (pc := 102) (off := 5) (tgt := 107) (by decide +kernel) (by decide) ?_
            refine zw_istore (pc := 107) (i := 5) (lv' := [(0, .ref 203), (1, .int (zJ v1)), (2, .int (zJ v2)), (3, .int (zJ (v3 + 0))), (4, .int (zJ (v4 + 1))), (5, .int (zJ (μ4 203 28))), (6, .int (zJ v6)), (7, .int (zJ x5))]) (by decide +kernel) (Nat.le_of_ble_eq_true rfl) rfl ?_
            refine zw_iconst (pc := 109) (n := 0) (by decide +kernel) ?_
            refine zw_istore (pc := 110) (i := 8) (lv' := [(0, .ref 203), (1, .int (zJ v1)), (2, .int (zJ v2)), (3, .int (zJ (v3 + 0))), (4, .int (zJ (v4 + 1))), (5, .int (zJ (μ4 203 28))), (6, .int (zJ v6)), (7, .int (zJ x5)), (8, .int (zJ 0))]) (by decide +kernel) (Nat.le_of_ble_eq_true rfl) rfl ?_
            refine zw_iconst (pc := 112) (n := 0) (by decide +kernel) ?_
            refine zw_istore (pc := 113) (i := 9) (lv' := [(0, .ref 203), (1, .int (zJ v1)), (2, .int (zJ v2)), (3, .int (zJ (v3 + 0))), (4, .int (zJ (v4 + 1))), (5, .int (zJ (μ4 203 28))), (6, .int (zJ v6)), (7, .int (zJ x5)), (8, .int (zJ 0)), (9, .int (zJ 0))]) (by decide +kernel) (Nat.le_of_ble_eq_true rfl) rfl ?_
            exact zw_pick (lv' := [(0, .ref 203), (1, .int (zJ v1)), (2, .int (zJ v2)), (3, .int (zJ (v3 + 0))), (4, .int (zJ (v4 + 1))), (5, .int (zJ (μ4 203 28))), (6, .int (zJ v6)), (8, .int (zJ 0)), (9, .int (zJ 0))]) [0, 1, 2, 3, 4, 5, 6, 8, 9] rfl h
theorem sg_X11_values_115 {g : zG} {φ : Int → zMu → Prop} {v1 : Int} {v2 : Int} {v3 : Int} {v4 : Int} {v5 : Int} {v6 : Int} {v8 : Int} {v9 : Int} {μ : zMu}
    (h : (zR v9) ∧ (zR (μ 203 28)) ∧ (((μ 203 28) ≤ v9 → (zR v8) ∧ ((v8 = 0 → at_X11_values_37 g φ v1 (v2 + 0) v3 v4 v5 (v6 + 1) μ) ∧ (¬ v8 = 0 → at_X11_values_37 g φ v1 (v2 + 1) v3 v4 v5 (v6 + 1) μ))) ∧ (v9 < (μ 203 28) → (0 ≤ v9 ∧ v9 < 8) ∧ (zR (μ 221 v9.toNat)) ∧ (zR v6) ∧ ((¬ (μ 221 v9.toNat) = v6 → at_X11_values_115 g φ v1 v2 v3 v4 v5 v6 (zor v8 0) (v9 + 1) μ) ∧ ((μ 221 v9.toNat) = v6 → at_X11_values_115 g φ v1 v2 v3 v4 v5 v6 (zor v8 1) (v9 + 1) μ))))) : at_X11_values_115 g φ v1 v2 v3 v4 v5 v6 v8 v9 μ := by
  obtain ⟨o1, o2, h⟩ := h
  refine zw_iload (pc := 115) (i := 9) 8 (by decide +kernel) rfl ?_
  refine zw_aload_n (pc := 117) (n := 0) (i := 0) 0 (by decide +kernel) rfl rfl ?_
  refine zx_getI (pc := 118) zf_11_252 (by decide +kernel) rfl zc_203 ?_
  refine zw_icmp_ge (pc := 121) (off := 31) (tgt := 152) (by decide +kernel) (by decide) o1 o2 (fun hc => ?_) (fun hc => ?_)
  · replace h := h.1 hc
    obtain ⟨o3, h⟩ := h
    refine zw_iload_n (pc := 152) (n := 2) (i := 2) 2 (by decide +kernel) rfl rfl ?_
    refine zw_iload (pc := 153) (i := 8) 7 (by decide +kernel) rfl ?_
    refine zw_if_eq (pc := 155) (off := 7) (tgt := 162) (by decide +kernel) (by decide) o3 (fun hc => ?_) (fun hc => ?_)
    · replace h := h.1 hc
      refine zw_iconst (pc := 162) (n := 0) (by decide +kernel) ?_
      refine zw_iadd (pc := 163) (by decide +kernel) ?_
      refine zw_istore_n (pc := 164) (n := 2) (i := 2) (lv' := [(0, .ref 203), (1, .int (zJ v1)), (2, .int (zJ (v2 + 0))), (3, .int (zJ v3)), (4, .int (zJ v4)), (5, .int (zJ v5)), (6, .int (zJ v6)), (8, .int (zJ v8)), (9, .int (zJ v9))]) (by decide +kernel) rfl (Nat.le_of_ble_eq_true rfl) rfl ?_
      refine zw_iinc (pc := 165) (i := 6) (n := 1) (lv' := [(0, .ref 203), (1, .int (zJ v1)), (2, .int (zJ (v2 + 0))), (3, .int (zJ v3)), (4, .int (zJ v4)), (5, .int (zJ v5)), (6, .int (zJ (v6 + 1))), (8, .int (zJ v8)), (9, .int (zJ v9))]) 6 (by decide +kernel) rfl rfl (Nat.le_of_ble_eq_true rfl) rfl ?_
      refine zw_goto (pc := 168) (off := (-131)) (tgt := 37) (by decide +kernel) (by decide) ?_
      exact zw_pick (lv' := [(0, .ref 203), (1, .int (zJ v1)), (2, .int (zJ (v2 + 0))), (3, .int (zJ v3)), (4, .int (zJ v4)), (5, .int (zJ v5)), (6, .int (zJ (v6 + 1)))]) [0, 1, 2, 3, 4, 5, 6] rfl h
    · replace h := h.2 hc
      refine zw_iconst (pc := 158) (n := 1) (by decide +kernel) ?_
      refine zw_goto (pc := 159) (off := 4) (tgt := 163) (by decide +kernel) (by decide) ?_
      refine zw_iadd (pc := 163) (by decide +kernel) ?_
      refine zw_istore_n (pc := 164) (n := 2) (i := 2) (lv' := [(0, .ref 203), (1, .int (zJ v1)), (2, .int (zJ (v2 + 1))), (3, .int (zJ v3)), (4, .int (zJ v4)), (5, .int (zJ v5)), (6, .int (zJ v6)), (8, .int (zJ v8)), (9, .int (zJ v9))]) (by decide +kernel) rfl (Nat.le_of_ble_eq_true rfl) rfl ?_
      refine zw_iinc (pc := 165) (i := 6) (n := 1) (lv' := [(0, .ref 203), (1, .int (zJ v1)), (2, .int (zJ (v2 + 1))), (3, .int (zJ v3)), (4, .int (zJ v4)), (5, .int (zJ v5)), (6, .int (zJ (v6 + 1))), (8, .int (zJ v8)), (9, .int (zJ v9))]) 6 (by decide +kernel) rfl rfl (Nat.le_of_ble_eq_true rfl) rfl ?_
      refine zw_goto (pc := 168) (off := (-131)) (tgt := 37) (by decide +kernel) (by decide) ?_
      exact zw_pick (lv' := [(0, .ref 203), (1, .int (zJ v1)), (2, .int (zJ (v2 + 1))), (3, .int (zJ v3)), (4, .int (zJ v4)), (5, .int (zJ v5)), (6, .int (zJ (v6 + 1)))]) [0, 1, 2, 3, 4, 5, 6] rfl h
  · replace h := h.2 hc
    obtain ⟨o4, o5, o6, h⟩ := h
    refine zw_iload (pc := 124) (i := 8) 7 (by decide +kernel) rfl ?_
    refine zw_aload_n (pc := 126) (n := 0) (i := 0) 0 (by decide +kernel) rfl rfl ?_
    refine zx_getR (pc := 127) (o := 18) (r := 221) zf_11_67 (by decide +kernel) rfl zc_203 rfl (by decide) rfl ?_
    refine zw_iload (pc := 130) (i := 9) 8 (by decide +kernel) rfl ?_
    refine zx_iaload (pc := 132) (by decide +kernel) ⟨8, zc_221, o4.1, o4.2⟩ ?_
    refine zw_iload (pc := 133) (i := 6) 6 (by decide +kernel) rfl ?_
    refine zw_icmp_ne (pc := 135) (off := 7) (tgt := 142) (by decide +kernel) (by decide) o5 o6 (fun hc => ?_) (fun hc => ?_)
    · replace h := h.1 hc
      refine zw_iconst (pc := 142) (n := 0) (by decide +kernel) ?_
      refine zw_ior (pc := 143) (by decide +kernel) ?_
      refine zw_istore (pc := 144) (i := 8) (lv' := [(0, .ref 203), (1, .int (zJ v1)), (2, .int (zJ v2)), (3, .int (zJ v3)), (4, .int (zJ v4)), (5, .int (zJ v5)), (6, .int (zJ v6)), (8, .int (zJ (zor v8 0))), (9, .int (zJ v9))]) (by decide +kernel) (Nat.le_of_ble_eq_true rfl) rfl ?_
      refine zw_iinc (pc := 146) (i := 9) (n := 1) (lv' := [(0, .ref 203), (1, .int (zJ v1)), (2, .int (zJ v2)), (3, .int (zJ v3)), (4, .int (zJ v4)), (5, .int (zJ v5)), (6, .int (zJ v6)), (8, .int (zJ (zor v8 0))), (9, .int (zJ (v9 + 1)))]) 8 (by decide +kernel) rfl rfl (Nat.le_of_ble_eq_true rfl) rfl ?_
      refine zw_goto (pc := 149) (off := (-34)) (tgt := 115) (by decide +kernel) (by decide) ?_
      exact h
    · replace h := h.2 hc
      refine zw_iconst (pc := 138) (n := 1) (by decide +kernel) ?_
      refine zw_goto (pc := 139) (off := 4) (tgt := 143) (by decide +kernel) (by decide) ?_
      refine zw_ior (pc := 143) (by decide +kernel) ?_
      refine zw_istore (pc := 144) (i := 8) (lv' := [(0, .ref 203), (1, .int (zJ v1)), (2, .int (zJ v2)), (3, .int (zJ v3)), (4, .int (zJ v4)), (5, .int (zJ v5)), (6, .int (zJ v6)), (8, .int (zJ (zor v8 1))), (9, .int (zJ v9))]) (by decide +kernel) (Nat.le_of_ble_eq_true rfl) rfl ?_
      refine zw_iinc (pc := 146) (i := 9) (n := 1) (lv' := [(0, .ref 203), (1, .int (zJ v1)), (2, .int (zJ v2)), (3, .int (zJ v3)), (4, .int (zJ v4)), (5, .int (zJ v5)), (6, .int (zJ v6)), (8, .int (zJ (zor v8 1))), (9, .int (zJ (v9 + 1)))]) 8 (by decide +kernel) rfl rfl (Nat.le_of_ble_eq_true rfl) rfl ?_
      refine zw_goto (pc := 149) (off := (-34)) (tgt := 115) (by decide +kernel) (by decide) ?_
      exact h
