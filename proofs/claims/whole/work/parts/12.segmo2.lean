abbrev at_X11_powers_18 (g : zG) (φ : zMu → Prop) (v2 : Int) (v3 : Int) (v4 : Int) (μ : zMu) : Prop := zWP g zm_X11_powers (zmo g zm_X11_powers (zΦv φ)) 18 [(0, .ref 203), (2, .int (zJ v2)), (3, .int (zJ v3)), (4, .int (zJ v4))] [] 0 0 (zw μ)
abbrev at_X11_powers_51 (g : zG) (φ : zMu → Prop) (v2 : Int) (v3 : Int) (v4 : Int) (μ : zMu) : Prop := zWP g zm_X11_powers (zmo g zm_X11_powers (zΦv φ)) 51 [(0, .ref 203), (2, .int (zJ v2)), (3, .int (zJ v3)), (4, .int (zJ v4))] [] 0 0 (zw μ)
theorem sg_X11_powers {g : zG} {φ : zMu → Prop} {v1 : Int} {v2 : Int} {v3 : Int} {μ : zMu}
    (h : zOv g zm_X11_lays [.ref 206, .int (zJ (80 * v1)), .ref 211] μ (fun μ1 => at_X11_powers_18 g φ v2 v3 0 μ1)) : zOv g zm_X11_powers [.ref 203, .int (zJ v1), .int (zJ v2), .int (zJ v3)] μ φ := by
  refine zok_of (by decide +kernel) rfl ?_
  show zWP g zm_X11_powers (zmo g zm_X11_powers (zΦv φ)) 0 [(0, .ref 203), (1, .int (zJ v1)), (2, .int (zJ v2)), (3, .int (zJ v3))] [] 0 0 (zw μ)
  refine zw_aload_n (pc := 0) (n := 0) (i := 0) 0 (by decide +kernel) rfl rfl ?_
  refine zx_getR (pc := 1) (o := 3) (r := 206) zf_11_22 (by decide +kernel) rfl zc_203 rfl (by decide) rfl ?_
  refine zw_bipush (pc := 4) (n := 80) (by decide +kernel) (by decide +kernel) ?_
  refine zw_iload_n (pc := 6) (n := 1) (i := 1) 1 (by decide +kernel) rfl rfl ?_
  refine zw_imul (pc := 7) (by decide +kernel) ?_
  refine zw_aload_n (pc := 8) (n := 0) (i := 0) 0 (by decide +kernel) rfl rfl ?_
  refine zx_getR (pc := 9) (o := 8) (r := 211) zf_11_37 (by decide +kernel) rfl zc_203 rfl (by decide) rfl ?_
  refine zx_callS (pc := 12) (As := [.ref 206, .int (zJ (80 * v1)), .ref 211]) h zi_X11_lays zis_X11_lays zl_11_156 (by decide +kernel) ⟨Nat.le_of_ble_eq_true rfl, Nat.le_of_ble_eq_true rfl⟩ rfl rfl ⟨rfl, rfl⟩ ⟨Nat.zero_le _, Nat.zero_le _⟩ (zkv (fun μ1 h => ?_))
  refine zw_iconst (pc := 15) (n := 0) (by decide +kernel) ?_
  refine zw_istore (pc := 16) (i := 4) (lv' := [(0, .ref 203), (1, .int (zJ v1)), (2, .int (zJ v2)), (3, .int (zJ v3)), (4, .int (zJ 0))]) (by decide +kernel) (Nat.le_of_ble_eq_true rfl) rfl ?_
  exact zw_pick (lv' := [(0, .ref 203), (2, .int (zJ v2)), (3, .int (zJ v3)), (4, .int (zJ 0))]) [0, 2, 3, 4] rfl h
theorem sg_X11_powers_18 {g : zG} {φ : zMu → Prop} {v2 : Int} {v3 : Int} {v4 : Int} {μ : zMu}
    (h : (zR v4) ∧ ((80 ≤ v4 → at_X11_powers_51 g φ v2 v3 0 μ) ∧ (v4 < 80 → ((¬ v4 = 0 → (0 ≤ v4 ∧ v4 < 80) ∧ at_X11_powers_18 g φ v2 v3 (v4 + 1) (zup μ 209 v4.toNat 0)) ∧ (v4 = 0 → (0 ≤ v4 ∧ v4 < 80) ∧ at_X11_powers_18 g φ v2 v3 (v4 + 1) (zup μ 209 v4.toNat 1)))))) : at_X11_powers_18 g φ v2 v3 v4 μ := by
  obtain ⟨o1, h⟩ := h
  refine zw_iload (pc := 18) (i := 4) 3 (by decide +kernel) rfl ?_
  refine zw_bipush (pc := 20) (n := 80) (by decide +kernel) (by decide +kernel) ?_
  refine zw_icmp_ge (pc := 22) (off := 26) (tgt := 48) (by decide +kernel) (by decide) o1 ⟨by decide, by decide⟩ (fun hc => ?_) (fun hc => ?_)
  · replace h := h.1 hc
    refine zw_iconst (pc := 48) (n := 0) (by decide +kernel) ?_
    refine zw_istore (pc := 49) (i := 4) (lv' := [(0, .ref 203), (2, .int (zJ v2)), (3, .int (zJ v3)), (4, .int (zJ 0))]) (by decide +kernel) (Nat.le_of_ble_eq_true rfl) rfl ?_
    exact h
  · replace h := h.2 hc
    refine zw_aload_n (pc := 25) (n := 0) (i := 0) 0 (by decide +kernel) rfl rfl ?_
    refine zx_getR (pc := 26) (o := 6) (r := 209) zf_11_31 (by decide +kernel) rfl zc_203 rfl (by decide) rfl ?_
    refine zw_iload (pc := 29) (i := 4) 3 (by decide +kernel) rfl ?_
    refine zw_iload (pc := 31) (i := 4) 3 (by decide +kernel) rfl ?_
    refine zw_if_ne (pc := 33) (off := 7) (tgt := 40) (by decide +kernel) (by decide) o1 (fun hc => ?_) (fun hc => ?_)
    · replace h := h.1 hc
      obtain ⟨o2, h⟩ := h
      refine zw_iconst (pc := 40) (n := 0) (by decide +kernel) ?_
      refine zx_iastore (pc := 41) (by decide +kernel) ⟨80, zc_209, o2.1, o2.2⟩ ?_
      refine zw_iinc (pc := 42) (i := 4) (n := 1) (lv' := [(0, .ref 203), (2, .int (zJ v2)), (3, .int (zJ v3)), (4, .int (zJ (v4 + 1)))]) 3 (by decide +kernel) rfl rfl (Nat.le_of_ble_eq_true rfl) rfl ?_
      refine zw_goto (pc := 45) (off := (-27)) (tgt := 18) (by decide +kernel) (by decide) ?_
      exact h
    · replace h := h.2 hc
      obtain ⟨o3, h⟩ := h
      refine zw_iconst (pc := 36) (n := 1) (by decide +kernel) ?_
      refine zw_goto (pc := 37) (off := 4) (tgt := 41) (by decide +kernel) (by decide) ?_
      refine zx_iastore (pc := 41) (by decide +kernel) ⟨80, zc_209, o3.1, o3.2⟩ ?_
      refine zw_iinc (pc := 42) (i := 4) (n := 1) (lv' := [(0, .ref 203), (2, .int (zJ v2)), (3, .int (zJ v3)), (4, .int (zJ (v4 + 1)))]) 3 (by decide +kernel) rfl rfl (Nat.le_of_ble_eq_true rfl) rfl ?_
      refine zw_goto (pc := 45) (off := (-27)) (tgt := 18) (by decide +kernel) (by decide) ?_
      exact h
theorem sg_X11_powers_51 {g : zG} {φ : zMu → Prop} {v2 : Int} {v3 : Int} {v4 : Int} {μ : zMu}
    (h : (zR v4) ∧ (zR v2) ∧ ((v2 ≤ v4 → φ μ) ∧ (v4 < v2 → zOv g zm_X11_lays [.ref 209, .int (zJ 0), .ref 210] μ (fun μ3 => zOv g zm_X11_multiplies [.ref 203, .ref 210, .ref 211, .int (zJ v3)] μ3 (fun μ4 => at_X11_powers_51 g φ v2 v3 (v4 + 1) μ4))))) : at_X11_powers_51 g φ v2 v3 v4 μ := by
  obtain ⟨o1, o2, h⟩ := h
  refine zw_iload (pc := 51) (i := 4) 3 (by decide +kernel) rfl ?_
  refine zw_iload_n (pc := 53) (n := 2) (i := 2) 1 (by decide +kernel) rfl rfl ?_
  refine zw_icmp_ge (pc := 54) (off := 34) (tgt := 88) (by decide +kernel) (by decide) o1 o2 (fun hc => ?_) (fun hc => ?_)
  · replace h := h.1 hc
    exact zw_vret (pc := 88) (by decide +kernel) rfl (Nat.le_refl _) (Nat.le_refl _) ⟨_, rfl, rfl, h⟩
  · replace h := h.2 hc
    refine zw_aload_n (pc := 57) (n := 0) (i := 0) 0 (by decide +kernel) rfl rfl ?_
    refine zx_getR (pc := 58) (o := 6) (r := 209) zf_11_31 (by decide +kernel) rfl zc_203 rfl (by decide) rfl ?_
    refine zw_iconst (pc := 61) (n := 0) (by decide +kernel) ?_
    refine zw_aload_n (pc := 62) (n := 0) (i := 0) 0 (by decide +kernel) rfl rfl ?_
    refine zx_getR (pc := 63) (o := 7) (r := 210) zf_11_34 (by decide +kernel) rfl zc_203 rfl (by decide) rfl ?_
    refine zx_callS (pc := 66) (As := [.ref 209, .int (zJ 0), .ref 210]) h zi_X11_lays zis_X11_lays zl_11_156 (by decide +kernel) ⟨Nat.le_of_ble_eq_true rfl, Nat.le_of_ble_eq_true rfl⟩ rfl rfl ⟨rfl, rfl⟩ ⟨Nat.zero_le _, Nat.zero_le _⟩ (zkv (fun μ3 h => ?_))
    refine zw_aload_n (pc := 69) (n := 0) (i := 0) 0 (by decide +kernel) rfl rfl ?_
    refine zw_aload_n (pc := 70) (n := 0) (i := 0) 0 (by decide +kernel) rfl rfl ?_
    refine zx_getR (pc := 71) (o := 7) (r := 210) zf_11_34 (by decide +kernel) rfl zc_203 rfl (by decide) rfl ?_
    refine zw_aload_n (pc := 74) (n := 0) (i := 0) 0 (by decide +kernel) rfl rfl ?_
    refine zx_getR (pc := 75) (o := 8) (r := 211) zf_11_37 (by decide +kernel) rfl zc_203 rfl (by decide) rfl ?_
    refine zw_iload_n (pc := 78) (n := 3) (i := 3) 2 (by decide +kernel) rfl rfl ?_
    refine zx_callV (pc := 79) (As := [.ref 210, .ref 211, .int (zJ v3)]) h zi_X11_multiplies zii_X11_multiplies zie_X11_multiplies zl_11_152 (by decide +kernel) ⟨Nat.le_of_ble_eq_true rfl, Nat.le_of_ble_eq_true rfl⟩ rfl zc_203 (by decide) rfl rfl ⟨rfl, rfl⟩ ⟨Nat.zero_le _, Nat.zero_le _⟩ (zkv (fun μ4 h => ?_))
    refine zw_iinc (pc := 82) (i := 4) (n := 1) (lv' := [(0, .ref 203), (2, .int (zJ v2)), (3, .int (zJ v3)), (4, .int (zJ (v4 + 1)))]) 3 (by decide +kernel) rfl rfl (Nat.le_of_ble_eq_true rfl) rfl ?_
    refine zw_goto (pc := 85) (off := (-34)) (tgt := 51) (by decide +kernel) (by decide) ?_
    exact h
abbrev at_X11_of_63 (g : zG) (φ : Int → zMu → Prop) (v1 : Int) (v3 : Int) (μ : zMu) : Prop := zWP g zm_X11_of (zmo g zm_X11_of (zΦi φ)) 63 [(0, .ref 203), (1, .int (zJ v1)), (3, .int (zJ v3))] [] 0 0 (zw μ)
theorem sg_X11_of {g : zG} {φ : Int → zMu → Prop} {v1 : Int} {v2 : Int} {μ : zMu}
    (h : zOi g zm_X11_isSeries [.int (zJ v1)] μ (fun x2 μ1 => (zR x2) ∧ ((x2 = 0 → φ (-1) μ1) ∧ (¬ x2 = 0 → (zR v2) ∧ zOi g zm_X11_in [.long (zL v2), .long (zL 0), .long (zL 2)] μ1 (fun x6 μ5 => (zR x6) ∧ ((¬ x6 = 0 → zOi g zm_X11_isThere [.ref 203, .int (zJ v1)] μ5 (fun x9 μ8 => (zR x9) ∧ ((¬ x9 = 0 → ((2 ≤ v2 → at_X11_of_63 g φ v1 0 μ8) ∧ (v2 < 2 → ((¬ v2 = 0 → (0 ≤ v1 ∧ v1 < 6) ∧ φ (μ8 205 v1.toNat) μ8) ∧ (v2 = 0 → (0 ≤ v1 ∧ v1 < 6) ∧ φ ((μ8 204 v1.toNat) + 1000) μ8))))) ∧ (x9 = 0 → φ (-11) μ8)))) ∧ (x6 = 0 → φ (-1) μ5))))))) : zOi g zm_X11_of [.ref 203, .int (zJ v1), .int (zJ v2)] μ φ := by
  refine zok_of (by decide +kernel) rfl ?_
  show zWP g zm_X11_of (zmo g zm_X11_of (zΦi φ)) 0 [(0, .ref 203), (1, .int (zJ v1)), (2, .int (zJ v2))] [] 0 0 (zw μ)
  refine zw_iload_n (pc := 0) (n := 1) (i := 1) 1 (by decide +kernel) rfl rfl ?_
  refine zx_callS (pc := 1) (As := [.int (zJ v1)]) h zi_X11_isSeries zis_X11_isSeries zl_11_141 (by decide +kernel) ⟨Nat.le_of_ble_eq_true rfl, Nat.le_of_ble_eq_true rfl⟩ rfl rfl ⟨rfl, rfl⟩ ⟨Nat.zero_le _, Nat.zero_le _⟩ (zki (fun x2 μ1 h => ?_))
  obtain ⟨o3, h⟩ := h
  refine zw_if_eq (pc := 4) (off := 15) (tgt := 19) (by decide +kernel) (by decide) o3 (fun hc => ?_) (fun hc => ?_)
  · replace h := h.1 hc
    refine zw_iconst (pc := 19) (n := (-1)) (by decide +kernel) ?_
    exact zw_iret (pc := 20) (by decide +kernel) rfl (Nat.le_refl _) (Nat.le_refl _) ⟨_, _, rfl, rfl, h⟩
  · replace h := h.2 hc
    obtain ⟨o4, h⟩ := h
    refine zw_iload_n (pc := 7) (n := 2) (i := 2) 2 (by decide +kernel) rfl rfl ?_
    refine zw_i2l (pc := 8) (by decide +kernel) o4 ?_
    refine zw_lconst (pc := 9) (n := 0) (v := 0) (by decide +kernel) rfl ?_
    refine zw_ldc2 (pc := 10) (v := 2) (by decide +kernel) zk_11_187 ?_
    refine zx_callS (pc := 13) (As := [.long (zL v2), .long (zL 0), .long (zL 2)]) h zi_X11_in zis_X11_in zl_11_114 (by decide +kernel) ⟨Nat.le_of_ble_eq_true rfl, Nat.le_of_ble_eq_true rfl⟩ rfl rfl ⟨rfl, rfl⟩ ⟨Nat.zero_le _, Nat.zero_le _⟩ (zki (fun x6 μ5 h => ?_))
    obtain ⟨o7, h⟩ := h
    refine zw_if_ne (pc := 16) (off := 5) (tgt := 21) (by decide +kernel) (by decide) o7 (fun hc => ?_) (fun hc => ?_)
    · replace h := h.1 hc
      refine zw_aload_n (pc := 21) (n := 0) (i := 0) 0 (by decide +kernel) rfl rfl ?_
      refine zw_iload_n (pc := 22) (n := 1) (i := 1) 1 (by decide +kernel) rfl rfl ?_
      refine zx_callV (pc := 23) (As := [.int (zJ v1)]) h zi_X11_isThere zii_X11_isThere zie_X11_isThere zl_11_166 (by decide +kernel) ⟨Nat.le_of_ble_eq_true rfl, Nat.le_of_ble_eq_true rfl⟩ rfl zc_203 (by decide) rfl rfl ⟨rfl, rfl⟩ ⟨Nat.zero_le _, Nat.zero_le _⟩ (zki (fun x9 μ8 h => ?_))
      obtain ⟨o10, h⟩ := h
      refine zw_if_ne (pc := 26) (off := 6) (tgt := 32) (by decide +kernel) (by decide) o10 (fun hc => ?_) (fun hc => ?_)
      · replace h := h.1 hc
        refine zw_iload_n (pc := 32) (n := 2) (i := 2) 2 (by decide +kernel) rfl rfl ?_
        refine zw_iconst (pc := 33) (n := 2) (by decide +kernel) ?_
        refine zw_icmp_ge (pc := 34) (off := 27) (tgt := 61) (by decide +kernel) (by decide) o4 ⟨by decide, by decide⟩ (fun hc => ?_) (fun hc => ?_)
        · replace h := h.1 hc
          refine zw_iconst (pc := 61) (n := 0) (by decide +kernel) ?_
          refine zw_istore_n (pc := 62) (n := 3) (i := 3) (lv' := [(0, .ref 203), (1, .int (zJ v1)), (2, .int (zJ v2)), (3, .int (zJ 0))]) (by decide +kernel) rfl (Nat.le_of_ble_eq_true rfl) rfl ?_
          exact zw_pick (lv' := [(0, .ref 203), (1, .int (zJ v1)), (3, .int (zJ 0))]) [0, 1, 3] rfl h
        · replace h := h.2 hc
          refine zw_iload_n (pc := 37) (n := 2) (i := 2) 2 (by decide +kernel) rfl rfl ?_
          refine zw_if_ne (pc := 38) (off := 16) (tgt := 54) (by decide +kernel) (by decide) o4 (fun hc => ?_) (fun hc => ?_)
          · replace h := h.1 hc
            obtain ⟨o11, h⟩ := h
            refine zw_aload_n (pc := 54) (n := 0) (i := 0) 0 (by decide +kernel) rfl rfl ?_
            refine zx_getR (pc := 55) (o := 2) (r := 205) zf_11_19 (by decide +kernel) rfl zc_203 rfl (by decide) rfl ?_
            refine zw_iload_n (pc := 58) (n := 1) (i := 1) 1 (by decide +kernel) rfl rfl ?_
            refine zx_iaload (pc := 59) (by decide +kernel) ⟨6, zc_205, o11.1, o11.2⟩ ?_
            exact zw_iret (pc := 60) (by decide +kernel) rfl (Nat.le_refl _) (Nat.le_refl _) ⟨_, _, rfl, rfl, h⟩
          · replace h := h.2 hc
            obtain ⟨o12, h⟩ := h
            refine zw_aload_n (pc := 41) (n := 0) (i := 0) 0 (by decide +kernel) rfl rfl ?_
            refine zx_getR (pc := 42) (o := 1) (r := 204) zf_11_15 (by decide +kernel) rfl zc_203 rfl (by decide) rfl ?_
            refine zw_iload_n (pc := 45) (n := 1) (i := 1) 1 (by decide +kernel) rfl rfl ?_
            refine zx_iaload (pc := 46) (by decide +kernel) ⟨6, zc_204, o12.1, o12.2⟩ ?_
            refine zw_sipush (pc := 47) (n := 1000) (by decide +kernel) (by decide +kernel) ?_
            refine zw_iadd (pc := 50) (by decide +kernel) ?_
            refine zw_goto (pc := 51) (off := 9) (tgt := 60) (by decide +kernel) (by decide) ?_
            exact zw_iret (pc := 60) (by decide +kernel) rfl (Nat.le_refl _) (Nat.le_refl _) ⟨_, _, rfl, rfl, h⟩
      · replace h := h.2 hc
        refine zw_bipush (pc := 29) (n := (-11)) (by decide +kernel) (by decide +kernel) ?_
        exact zw_iret (pc := 31) (by decide +kernel) rfl (Nat.le_refl _) (Nat.le_refl _) ⟨_, _, rfl, rfl, h⟩
    · replace h := h.2 hc
      refine zw_iconst (pc := 19) (n := (-1)) (by decide +kernel) ?_
      exact zw_iret (pc := 20) (by decide +kernel) rfl (Nat.le_refl _) (Nat.le_refl _) ⟨_, _, rfl, rfl, h⟩
theorem sg_X11_of_63 {g : zG} {φ : Int → zMu → Prop} {v1 : Int} {v3 : Int} {μ : zMu}
    (h : (0 ≤ v1 ∧ v1 < 6) ∧ (zR v3) ∧ (zR (μ 205 v1.toNat)) ∧ (((μ 205 v1.toNat) ≤ v3 → φ (-5) μ) ∧ (v3 < (μ 205 v1.toNat) → (0 ≤ ((80 * v1) + v3) ∧ ((80 * v1) + v3) < 480) ∧ (zR (μ 206 (Int.toNat ((80 * v1) + v3)))) ∧ (((μ 206 (Int.toNat ((80 * v1) + v3))) = 0 → at_X11_of_63 g φ v1 (v3 + 1) μ) ∧ (¬ (μ 206 (Int.toNat ((80 * v1) + v3))) = 0 → φ (((μ 204 v1.toNat) + v3) + 1000) μ))))) : at_X11_of_63 g φ v1 v3 μ := by
  obtain ⟨o1, o2, o3, h⟩ := h
  refine zw_iload_n (pc := 63) (n := 3) (i := 3) 2 (by decide +kernel) rfl rfl ?_
  refine zw_aload_n (pc := 64) (n := 0) (i := 0) 0 (by decide +kernel) rfl rfl ?_
  refine zx_getR (pc := 65) (o := 2) (r := 205) zf_11_19 (by decide +kernel) rfl zc_203 rfl (by decide) rfl ?_
  refine zw_iload_n (pc := 68) (n := 1) (i := 1) 1 (by decide +kernel) rfl rfl ?_
  refine zx_iaload (pc := 69) (by decide +kernel) ⟨6, zc_205, o1.1, o1.2⟩ ?_
  refine zw_icmp_ge (pc := 70) (off := 36) (tgt := 106) (by decide +kernel) (by decide) o2 o3 (fun hc => ?_) (fun hc => ?_)
  · replace h := h.1 hc
    refine zw_bipush (pc := 106) (n := (-5)) (by decide +kernel) (by decide +kernel) ?_
    exact zw_iret (pc := 108) (by decide +kernel) rfl (Nat.le_refl _) (Nat.le_refl _) ⟨_, _, rfl, rfl, h⟩
  · replace h := h.2 hc
    obtain ⟨o4, o5, h⟩ := h
    refine zw_aload_n (pc := 73) (n := 0) (i := 0) 0 (by decide +kernel) rfl rfl ?_
    refine zx_getR (pc := 74) (o := 3) (r := 206) zf_11_22 (by decide +kernel) rfl zc_203 rfl (by decide) rfl ?_
    refine zw_bipush (pc := 77) (n := 80) (by decide +kernel) (by decide +kernel) ?_
    refine zw_iload_n (pc := 79) (n := 1) (i := 1) 1 (by decide +kernel) rfl rfl ?_
    refine zw_imul (pc := 80) (by decide +kernel) ?_
    refine zw_iload_n (pc := 81) (n := 3) (i := 3) 2 (by decide +kernel) rfl rfl ?_
    refine zw_iadd (pc := 82) (by decide +kernel) ?_
    refine zx_iaload (pc := 83) (by decide +kernel) ⟨480, zc_206, o4.1, o4.2⟩ ?_
    refine zw_if_eq (pc := 84) (off := 16) (tgt := 100) (by decide +kernel) (by decide) o5 (fun hc => ?_) (fun hc => ?_)
    · replace h := h.1 hc
      refine zw_iinc (pc := 100) (i := 3) (n := 1) (lv' := [(0, .ref 203), (1, .int (zJ v1)), (3, .int (zJ (v3 + 1)))]) 2 (by decide +kernel) rfl rfl (Nat.le_of_ble_eq_true rfl) rfl ?_
      refine zw_goto (pc := 103) (off := (-40)) (tgt := 63) (by decide +kernel) (by decide) ?_
      exact h
    · replace h := h.2 hc
      refine zw_aload_n (pc := 87) (n := 0) (i := 0) 0 (by decide +kernel) rfl rfl ?_
      refine zx_getR (pc := 88) (o := 1) (r := 204) zf_11_15 (by decide +kernel) rfl zc_203 rfl (by decide) rfl ?_
      refine zw_iload_n (pc := 91) (n := 1) (i := 1) 1 (by decide +kernel) rfl rfl ?_
      refine zx_iaload (pc := 92) (by decide +kernel) ⟨6, zc_204, o1.1, o1.2⟩ ?_
      refine zw_iload_n (pc := 93) (n := 3) (i := 3) 2 (by decide +kernel) rfl rfl ?_
      refine zw_iadd (pc := 94) (by decide +kernel) ?_
      refine zw_sipush (pc := 95) (n := 1000) (by decide +kernel) (by decide +kernel) ?_
      refine zw_iadd (pc := 98) (by decide +kernel) ?_
      exact zw_iret (pc := 99) (by decide +kernel) rfl (Nat.le_refl _) (Nat.le_refl _) ⟨_, _, rfl, rfl, h⟩
theorem sg_X11_coefficient {g : zG} {φ : Int → zMu → Prop} {v1 : Int} {v2 : Int} {μ : zMu}
    (h : zOi g zm_X11_isSeries [.int (zJ v1)] μ (fun x2 μ1 => (zR x2) ∧ ((¬ x2 = 0 → zOi g zm_X11_isThere [.ref 203, .int (zJ v1)] μ1 (fun x5 μ4 => (zR x5) ∧ ((¬ x5 = 0 → (0 ≤ v1 ∧ v1 < 6) ∧ (zR v2) ∧ (zR (μ4 204 v1.toNat)) ∧ (((μ4 204 v1.toNat) ≤ v2 → (zR (μ4 205 v1.toNat)) ∧ (zR64 (v2 - (μ4 204 v1.toNat))) ∧ (zR64 (μ4 205 v1.toNat)) ∧ (zR (zcmp (v2 - (μ4 204 v1.toNat)) (μ4 205 v1.toNat))) ∧ ((0 ≤ (zcmp (v2 - (μ4 204 v1.toNat)) (μ4 205 v1.toNat)) → φ (-5) μ4) ∧ ((zcmp (v2 - (μ4 204 v1.toNat)) (μ4 205 v1.toNat)) < 0 → zOi g zm_X11_numberOf [.ref 203, .int (zJ v1), .int (zJ v2)] μ4 (fun x15 μ14 => φ x15 μ14)))) ∧ (v2 < (μ4 204 v1.toNat) → φ 0 μ4))) ∧ (x5 = 0 → φ (-11) μ4)))) ∧ (x2 = 0 → φ (-1) μ1)))) : zOi g zm_X11_coefficient [.ref 203, .int (zJ v1), .int (zJ v2)] μ φ := by
  refine zok_of (by decide +kernel) rfl ?_
  show zWP g zm_X11_coefficient (zmo g zm_X11_coefficient (zΦi φ)) 0 [(0, .ref 203), (1, .int (zJ v1)), (2, .int (zJ v2))] [] 0 0 (zw μ)
  refine zw_iload_n (pc := 0) (n := 1) (i := 1) 1 (by decide +kernel) rfl rfl ?_
  refine zx_callS (pc := 1) (As := [.int (zJ v1)]) h zi_X11_isSeries zis_X11_isSeries zl_11_141 (by decide +kernel) ⟨Nat.le_of_ble_eq_true rfl, Nat.le_of_ble_eq_true rfl⟩ rfl rfl ⟨rfl, rfl⟩ ⟨Nat.zero_le _, Nat.zero_le _⟩ (zki (fun x2 μ1 h => ?_))
  obtain ⟨o3, h⟩ := h
  refine zw_if_ne (pc := 4) (off := 5) (tgt := 9) (by decide +kernel) (by decide) o3 (fun hc => ?_) (fun hc => ?_)
  · replace h := h.1 hc
    refine zw_aload_n (pc := 9) (n := 0) (i := 0) 0 (by decide +kernel) rfl rfl ?_
    refine zw_iload_n (pc := 10) (n := 1) (i := 1) 1 (by decide +kernel) rfl rfl ?_
    refine zx_callV (pc := 11) (As := [.int (zJ v1)]) h zi_X11_isThere zii_X11_isThere zie_X11_isThere zl_11_166 (by decide +kernel) ⟨Nat.le_of_ble_eq_true rfl, Nat.le_of_ble_eq_true rfl⟩ rfl zc_203 (by decide) rfl rfl ⟨rfl, rfl⟩ ⟨Nat.zero_le _, Nat.zero_le _⟩ (zki (fun x5 μ4 h => ?_))
    obtain ⟨o6, h⟩ := h
    refine zw_if_ne (pc := 14) (off := 6) (tgt := 20) (by decide +kernel) (by decide) o6 (fun hc => ?_) (fun hc => ?_)
    · replace h := h.1 hc
      obtain ⟨o7, o8, o9, h⟩ := h
      refine zw_iload_n (pc := 20) (n := 2) (i := 2) 2 (by decide +kernel) rfl rfl ?_
      refine zw_aload_n (pc := 21) (n := 0) (i := 0) 0 (by decide +kernel) rfl rfl ?_
      refine zx_getR (pc := 22) (o := 1) (r := 204) zf_11_15 (by decide +kernel) rfl zc_203 rfl (by decide) rfl ?_
      refine zw_iload_n (pc := 25) (n := 1) (i := 1) 1 (by decide +kernel) rfl rfl ?_
      refine zx_iaload (pc := 26) (by decide +kernel) ⟨6, zc_204, o7.1, o7.2⟩ ?_
      refine zw_icmp_ge (pc := 27) (off := 5) (tgt := 32) (by decide +kernel) (by decide) o8 o9 (fun hc => ?_) (fun hc => ?_)
      · replace h := h.1 hc
        obtain ⟨o10, o11, o12, o13, h⟩ := h
        refine zw_iload_n (pc := 32) (n := 2) (i := 2) 2 (by decide +kernel) rfl rfl ?_
        refine zw_i2l (pc := 33) (by decide +kernel) o8 ?_
        refine zw_aload_n (pc := 34) (n := 0) (i := 0) 0 (by decide +kernel) rfl rfl ?_
        refine zx_getR (pc := 35) (o := 1) (r := 204) zf_11_15 (by decide +kernel) rfl zc_203 rfl (by decide) rfl ?_
        refine zw_iload_n (pc := 38) (n := 1) (i := 1) 1 (by decide +kernel) rfl rfl ?_
        refine zx_iaload (pc := 39) (by decide +kernel) ⟨6, zc_204, o7.1, o7.2⟩ ?_
        refine zw_i2l (pc := 40) (by decide +kernel) o9 ?_
        refine zw_lsub (pc := 41) (by decide +kernel) ?_
        refine zw_aload_n (pc := 42) (n := 0) (i := 0) 0 (by decide +kernel) rfl rfl ?_
        refine zx_getR (pc := 43) (o := 2) (r := 205) zf_11_19 (by decide +kernel) rfl zc_203 rfl (by decide) rfl ?_
        refine zw_iload_n (pc := 46) (n := 1) (i := 1) 1 (by decide +kernel) rfl rfl ?_
        refine zx_iaload (pc := 47) (by decide +kernel) ⟨6, zc_205, o7.1, o7.2⟩ ?_
        refine zw_i2l (pc := 48) (by decide +kernel) o10 ?_
        refine zw_lcmp (pc := 49) (by decide +kernel) o11 o12 ?_
        refine zw_if_ge (pc := 50) (off := 12) (tgt := 62) (by decide +kernel) (by decide) o13 (fun hc => ?_) (fun hc => ?_)
        · replace h := h.1 hc
          refine zw_bipush (pc := 62) (n := (-5)) (by decide +kernel) (by decide +kernel) ?_
          exact zw_iret (pc := 64) (by decide +kernel) rfl (Nat.le_refl _) (Nat.le_refl _) ⟨_, _, rfl, rfl, h⟩
        · replace h := h.2 hc
          refine zw_aload_n (pc := 53) (n := 0) (i := 0) 0 (by decide +kernel) rfl rfl ?_
          refine zw_iload_n (pc := 54) (n := 1) (i := 1) 1 (by decide +kernel) rfl rfl ?_
          refine zw_iload_n (pc := 55) (n := 2) (i := 2) 2 (by decide +kernel) rfl rfl ?_
          refine zx_callV (pc := 56) (As := [.int (zJ v1), .int (zJ v2)]) h zi_X11_numberOf zii_X11_numberOf zie_X11_numberOf zl_11_175 (by decide +kernel) ⟨Nat.le_of_ble_eq_true rfl, Nat.le_of_ble_eq_true rfl⟩ rfl zc_203 (by decide) rfl rfl ⟨rfl, rfl⟩ ⟨Nat.zero_le _, Nat.zero_le _⟩ (zki (fun x15 μ14 h => ?_))
          refine zw_goto (pc := 59) (off := 5) (tgt := 64) (by decide +kernel) (by decide) ?_
          exact zw_iret (pc := 64) (by decide +kernel) rfl (Nat.le_refl _) (Nat.le_refl _) ⟨_, _, rfl, rfl, h⟩
      · replace h := h.2 hc
        refine zw_iconst (pc := 30) (n := 0) (by decide +kernel) ?_
        exact zw_iret (pc := 31) (by decide +kernel) rfl (Nat.le_refl _) (Nat.le_refl _) ⟨_, _, rfl, rfl, h⟩
    · replace h := h.2 hc
      refine zw_bipush (pc := 17) (n := (-11)) (by decide +kernel) (by decide +kernel) ?_
      exact zw_iret (pc := 19) (by decide +kernel) rfl (Nat.le_refl _) (Nat.le_refl _) ⟨_, _, rfl, rfl, h⟩
  · replace h := h.2 hc
    refine zw_iconst (pc := 7) (n := (-1)) (by decide +kernel) ?_
    exact zw_iret (pc := 8) (by decide +kernel) rfl (Nat.le_refl _) (Nat.le_refl _) ⟨_, _, rfl, rfl, h⟩
abbrev at_X11_find_81 (g : zG) (φ : Int → zMu → Prop) (v3 : Int) (v4 : Int) (v5 : Int) (μ : zMu) : Prop := zWP g zm_X11_find (zmo g zm_X11_find (zΦi φ)) 81 [(0, .ref 203), (3, .int (zJ v3)), (4, .int (zJ v4)), (5, .int (zJ v5))] [] 0 0 (zw μ)
abbrev at_X11_find_157 (g : zG) (φ : Int → zMu → Prop) (v5 : Int) (μ : zMu) : Prop := zWP g zm_X11_find (zmo g zm_X11_find (zΦi φ)) 157 [(0, .ref 203), (5, .int (zJ v5))] [] 0 0 (zw μ)
abbrev at_X11_find_90 (g : zG) (φ : Int → zMu → Prop) (v3 : Int) (v4 : Int) (v5 : Int) (v6 : Int) (μ : zMu) : Prop := zWP g zm_X11_find (zmo g zm_X11_find (zΦi φ)) 90 [(0, .ref 203), (3, .int (zJ v3)), (4, .int (zJ v4)), (5, .int (zJ v5)), (6, .int (zJ v6))] [] 0 0 (zw μ)
theorem sg_X11_find {g : zG} {φ : Int → zMu → Prop} {v1 : Int} {v2 : Int} {v3 : Int} {v4 : Int} {μ : zMu}
    (h : zOi g zm_X11_isSeries [.int (zJ v1)] μ (fun x2 μ1 => (zR x2) ∧ ((x2 = 0 → φ (-1) μ1) ∧ (¬ x2 = 0 → zOi g zm_X11_isSeries [.int (zJ v2)] μ1 (fun x5 μ4 => (zR x5) ∧ ((¬ x5 = 0 → (zR v3) ∧ zOi g zm_X11_in [.long (zL v3), .long (zL 1), .long (zL 8)] μ4 (fun x9 μ8 => (zR x9) ∧ ((x9 = 0 → φ (-2) μ8) ∧ (¬ x9 = 0 → (zR v4) ∧ zOi g zm_X11_in [.long (zL v4), .long (zL 0), .long (zL 1)] μ8 (fun x13 μ12 => (zR x13) ∧ ((¬ x13 = 0 → zOi g zm_X11_isThere [.ref 203, .int (zJ v1)] μ12 (fun x16 μ15 => (zR x16) ∧ ((x16 = 0 → φ (-11) μ15) ∧ (¬ x16 = 0 → zOi g zm_X11_isThere [.ref 203, .int (zJ v2)] μ15 (fun x19 μ18 => (zR x19) ∧ ((¬ x19 = 0 → zOv g zm_X11_tellsPowers [.ref 203, .int (zJ v1), .int (zJ v2), .int (zJ v3)] μ18 (fun μ21 => at_X11_find_81 g φ v3 v4 0 (zup (zup μ21 203 22 0) 203 24 0))) ∧ (x19 = 0 → φ (-11) μ18))))))) ∧ (x13 = 0 → φ (-2) μ12))))))) ∧ (x5 = 0 → φ (-1) μ4))))))) : zOi g zm_X11_find [.ref 203, .int (zJ v1), .int (zJ v2), .int (zJ v3), .int (zJ v4)] μ φ := by
  refine zok_of (by decide +kernel) rfl ?_
  show zWP g zm_X11_find (zmo g zm_X11_find (zΦi φ)) 0 [(0, .ref 203), (1, .int (zJ v1)), (2, .int (zJ v2)), (3, .int (zJ v3)), (4, .int (zJ v4))] [] 0 0 (zw μ)
  refine zw_iload_n (pc := 0) (n := 1) (i := 1) 1 (by decide +kernel) rfl rfl ?_
  refine zx_callS (pc := 1) (As := [.int (zJ v1)]) h zi_X11_isSeries zis_X11_isSeries zl_11_141 (by decide +kernel) ⟨Nat.le_of_ble_eq_true rfl, Nat.le_of_ble_eq_true rfl⟩ rfl rfl ⟨rfl, rfl⟩ ⟨Nat.zero_le _, Nat.zero_le _⟩ (zki (fun x2 μ1 h => ?_))
  obtain ⟨o3, h⟩ := h
  refine zw_if_eq (pc := 4) (off := 10) (tgt := 14) (by decide +kernel) (by decide) o3 (fun hc => ?_) (fun hc => ?_)
  · replace h := h.1 hc
    refine zw_iconst (pc := 14) (n := (-1)) (by decide +kernel) ?_
    exact zw_iret (pc := 15) (by decide +kernel) rfl (Nat.le_refl _) (Nat.le_refl _) ⟨_, _, rfl, rfl, h⟩
  · replace h := h.2 hc
    refine zw_iload_n (pc := 7) (n := 2) (i := 2) 2 (by decide +kernel) rfl rfl ?_
    refine zx_callS (pc := 8) (As := [.int (zJ v2)]) h zi_X11_isSeries zis_X11_isSeries zl_11_141 (by decide +kernel) ⟨Nat.le_of_ble_eq_true rfl, Nat.le_of_ble_eq_true rfl⟩ rfl rfl ⟨rfl, rfl⟩ ⟨Nat.zero_le _, Nat.zero_le _⟩ (zki (fun x5 μ4 h => ?_))
    obtain ⟨o6, h⟩ := h
    refine zw_if_ne (pc := 11) (off := 5) (tgt := 16) (by decide +kernel) (by decide) o6 (fun hc => ?_) (fun hc => ?_)
    · replace h := h.1 hc
      obtain ⟨o7, h⟩ := h
      refine zw_iload_n (pc := 16) (n := 3) (i := 3) 3 (by decide +kernel) rfl rfl ?_
      refine zw_i2l (pc := 17) (by decide +kernel) o7 ?_
      refine zw_lconst (pc := 18) (n := 1) (v := 1) (by decide +kernel) rfl ?_
      refine zw_ldc2 (pc := 19) (v := 8) (by decide +kernel) zk_11_229 ?_
      refine zx_callS (pc := 22) (As := [.long (zL v3), .long (zL 1), .long (zL 8)]) h zi_X11_in zis_X11_in zl_11_114 (by decide +kernel) ⟨Nat.le_of_ble_eq_true rfl, Nat.le_of_ble_eq_true rfl⟩ rfl rfl ⟨rfl, rfl⟩ ⟨Nat.zero_le _, Nat.zero_le _⟩ (zki (fun x9 μ8 h => ?_))
      obtain ⟨o10, h⟩ := h
      refine zw_if_eq (pc := 25) (off := 14) (tgt := 39) (by decide +kernel) (by decide) o10 (fun hc => ?_) (fun hc => ?_)
      · replace h := h.1 hc
        refine zw_bipush (pc := 39) (n := (-2)) (by decide +kernel) (by decide +kernel) ?_
        exact zw_iret (pc := 41) (by decide +kernel) rfl (Nat.le_refl _) (Nat.le_refl _) ⟨_, _, rfl, rfl, h⟩
      · replace h := h.2 hc
        obtain ⟨o11, h⟩ := h
        refine zw_iload (pc := 28) (i := 4) 4 (by decide +kernel) rfl ?_
        refine zw_i2l (pc := 30) (by decide +kernel) o11 ?_
        refine zw_lconst (pc := 31) (n := 0) (v := 0) (by decide +kernel) rfl ?_
        refine zw_lconst (pc := 32) (n := 1) (v := 1) (by decide +kernel) rfl ?_
        refine zx_callS (pc := 33) (As := [.long (zL v4), .long (zL 0), .long (zL 1)]) h zi_X11_in zis_X11_in zl_11_114 (by decide +kernel) ⟨Nat.le_of_ble_eq_true rfl, Nat.le_of_ble_eq_true rfl⟩ rfl rfl ⟨rfl, rfl⟩ ⟨Nat.zero_le _, Nat.zero_le _⟩ (zki (fun x13 μ12 h => ?_))
        obtain ⟨o14, h⟩ := h
        refine zw_if_ne (pc := 36) (off := 6) (tgt := 42) (by decide +kernel) (by decide) o14 (fun hc => ?_) (fun hc => ?_)
        · replace h := h.1 hc
          refine zw_aload_n (pc := 42) (n := 0) (i := 0) 0 (by decide +kernel) rfl rfl ?_
          refine zw_iload_n (pc := 43) (n := 1) (i := 1) 1 (by decide +kernel) rfl rfl ?_
          refine zx_callV (pc := 44) (As := [.int (zJ v1)]) h zi_X11_isThere zii_X11_isThere zie_X11_isThere zl_11_166 (by decide +kernel) ⟨Nat.le_of_ble_eq_true rfl, Nat.le_of_ble_eq_true rfl⟩ rfl zc_203 (by decide) rfl rfl ⟨rfl, rfl⟩ ⟨Nat.zero_le _, Nat.zero_le _⟩ (zki (fun x16 μ15 h => ?_))
          obtain ⟨o17, h⟩ := h
          refine zw_if_eq (pc := 47) (off := 11) (tgt := 58) (by decide +kernel) (by decide) o17 (fun hc => ?_) (fun hc => ?_)
          · replace h := h.1 hc
            refine zw_bipush (pc := 58) (n := (-11)) (by decide +kernel) (by decide +kernel) ?_
            exact zw_iret (pc := 60) (by decide +kernel) rfl (Nat.le_refl _) (Nat.le_refl _) ⟨_, _, rfl, rfl, h⟩
          · replace h := h.2 hc
            refine zw_aload_n (pc := 50) (n := 0) (i := 0) 0 (by decide +kernel) rfl rfl ?_
            refine zw_iload_n (pc := 51) (n := 2) (i := 2) 2 (by decide +kernel) rfl rfl ?_
            refine zx_callV (pc := 52) (As := [.int (zJ v2)]) h zi_X11_isThere zii_X11_isThere zie_X11_isThere zl_11_166 (by decide +kernel) ⟨Nat.le_of_ble_eq_true rfl, Nat.le_of_ble_eq_true rfl⟩ rfl zc_203 (by decide) rfl rfl ⟨rfl, rfl⟩ ⟨Nat.zero_le _, Nat.zero_le _⟩ (zki (fun x19 μ18 h => ?_))
            obtain ⟨o20, h⟩ := h
            refine zw_if_ne (pc := 55) (off := 6) (tgt := 61) (by decide +kernel) (by decide) o20 (fun hc => ?_) (fun hc => ?_)
            · replace h := h.1 hc
              refine zw_aload_n (pc := 61) (n := 0) (i := 0) 0 (by decide +kernel) rfl rfl ?_
              refine zw_iload_n (pc := 62) (n := 1) (i := 1) 1 (by decide +kernel) rfl rfl ?_
              refine zw_iload_n (pc := 63) (n := 2) (i := 2) 2 (by decide +kernel) rfl rfl ?_
              refine zw_iload_n (pc := 64) (n := 3) (i := 3) 3 (by decide +kernel) rfl rfl ?_
              refine zx_callV (pc := 65) (As := [.int (zJ v1), .int (zJ v2), .int (zJ v3)]) h zi_X11_tellsPowers zii_X11_tellsPowers zie_X11_tellsPowers zl_11_231 (by decide +kernel) ⟨Nat.le_of_ble_eq_true rfl, Nat.le_of_ble_eq_true rfl⟩ rfl zc_203 (by decide) rfl rfl ⟨rfl, rfl⟩ ⟨Nat.zero_le _, Nat.zero_le _⟩ (zkv (fun μ21 h => ?_))
              refine zw_aload_n (pc := 68) (n := 0) (i := 0) 0 (by decide +kernel) rfl rfl ?_
              refine zw_iconst (pc := 69) (n := 0) (by decide +kernel) ?_
              refine zx_putI (pc := 70) zf_11_201 (by decide +kernel) rfl zc_203 ?_
              refine zw_aload_n (pc := 73) (n := 0) (i := 0) 0 (by decide +kernel) rfl rfl ?_
              refine zw_iconst (pc := 74) (n := 0) (by decide +kernel) ?_
              refine zx_putI (pc := 75) zf_11_226 (by decide +kernel) rfl zc_203 ?_
              refine zw_iconst (pc := 78) (n := 0) (by decide +kernel) ?_
              refine zw_istore (pc := 79) (i := 5) (lv' := [(0, .ref 203), (1, .int (zJ v1)), (2, .int (zJ v2)), (3, .int (zJ v3)), (4, .int (zJ v4)), (5, .int (zJ 0))]) (by decide +kernel) (Nat.le_of_ble_eq_true rfl) rfl ?_
              exact zw_pick (lv' := [(0, .ref 203), (3, .int (zJ v3)), (4, .int (zJ v4)), (5, .int (zJ 0))]) [0, 3, 4, 5] rfl h
            · replace h := h.2 hc
              refine zw_bipush (pc := 58) (n := (-11)) (by decide +kernel) (by decide +kernel) ?_
              exact zw_iret (pc := 60) (by decide +kernel) rfl (Nat.le_refl _) (Nat.le_refl _) ⟨_, _, rfl, rfl, h⟩
        · replace h := h.2 hc
          refine zw_bipush (pc := 39) (n := (-2)) (by decide +kernel) (by decide +kernel) ?_
          exact zw_iret (pc := 41) (by decide +kernel) rfl (Nat.le_refl _) (Nat.le_refl _) ⟨_, _, rfl, rfl, h⟩
    · replace h := h.2 hc
      refine zw_iconst (pc := 14) (n := (-1)) (by decide +kernel) ?_
      exact zw_iret (pc := 15) (by decide +kernel) rfl (Nat.le_refl _) (Nat.le_refl _) ⟨_, _, rfl, rfl, h⟩
theorem sg_X11_find_81 {g : zG} {φ : Int → zMu → Prop} {v3 : Int} {v4 : Int} {v5 : Int} {μ : zMu}
    (h : (zR v5) ∧ (zR v3) ∧ ((v3 < v5 → (zR (μ 203 24)) ∧ ((¬ (μ 203 24) = 0 → at_X11_find_157 g φ 0 (zup μ 203 4 v3)) ∧ ((μ 203 24) = 0 → φ (-5) μ))) ∧ (v5 ≤ v3 → at_X11_find_90 g φ v3 v4 v5 0 μ))) : at_X11_find_81 g φ v3 v4 v5 μ := by
  obtain ⟨o1, o2, h⟩ := h
  refine zw_iload (pc := 81) (i := 5) 3 (by decide +kernel) rfl ?_
  refine zw_iload_n (pc := 83) (n := 3) (i := 3) 1 (by decide +kernel) rfl rfl ?_
  refine zw_icmp_gt (pc := 84) (off := 55) (tgt := 139) (by decide +kernel) (by decide) o1 o2 (fun hc => ?_) (fun hc => ?_)
  · replace h := h.1 hc
    obtain ⟨o3, h⟩ := h
    refine zw_aload_n (pc := 139) (n := 0) (i := 0) 0 (by decide +kernel) rfl rfl ?_
    refine zx_getI (pc := 140) zf_11_226 (by decide +kernel) rfl zc_203 ?_
    refine zw_if_ne (pc := 143) (off := 6) (tgt := 149) (by decide +kernel) (by decide) o3 (fun hc => ?_) (fun hc => ?_)
    · replace h := h.1 hc
      refine zw_aload_n (pc := 149) (n := 0) (i := 0) 0 (by decide +kernel) rfl rfl ?_
      refine zw_iload_n (pc := 150) (n := 3) (i := 3) 1 (by decide +kernel) rfl rfl ?_
      refine zx_putI (pc := 151) zf_11_128 (by decide +kernel) rfl zc_203 ?_
      refine zw_iconst (pc := 154) (n := 0) (by decide +kernel) ?_
      refine zw_istore (pc := 155) (i := 5) (lv' := [(0, .ref 203), (3, .int (zJ v3)), (4, .int (zJ v4)), (5, .int (zJ 0))]) (by decide +kernel) (Nat.le_of_ble_eq_true rfl) rfl ?_
      exact zw_pick (lv' := [(0, .ref 203), (5, .int (zJ 0))]) [0, 3] rfl h
    · replace h := h.2 hc
      refine zw_bipush (pc := 146) (n := (-5)) (by decide +kernel) (by decide +kernel) ?_
      exact zw_iret (pc := 148) (by decide +kernel) rfl (Nat.le_refl _) (Nat.le_refl _) ⟨_, _, rfl, rfl, h⟩
  · replace h := h.2 hc
    refine zw_iconst (pc := 87) (n := 0) (by decide +kernel) ?_
    refine zw_istore (pc := 88) (i := 6) (lv' := [(0, .ref 203), (3, .int (zJ v3)), (4, .int (zJ v4)), (5, .int (zJ v5)), (6, .int (zJ 0))]) (by decide +kernel) (Nat.le_of_ble_eq_true rfl) rfl ?_
    exact h
theorem sg_X11_find_157 {g : zG} {φ : Int → zMu → Prop} {v5 : Int} {μ : zMu}
    (h : (zR v5) ∧ ((81 ≤ v5 → φ (μ 203 24) μ) ∧ (v5 < 81 → (0 ≤ v5 ∧ v5 < 81) ∧ at_X11_find_157 g φ (v5 + 1) (zup μ 207 v5.toNat (μ 219 v5.toNat))))) : at_X11_find_157 g φ v5 μ := by
  obtain ⟨o1, h⟩ := h
  refine zw_iload (pc := 157) (i := 5) 1 (by decide +kernel) rfl ?_
  refine zw_bipush (pc := 159) (n := 81) (by decide +kernel) (by decide +kernel) ?_
  refine zw_icmp_ge (pc := 161) (off := 23) (tgt := 184) (by decide +kernel) (by decide) o1 ⟨by decide, by decide⟩ (fun hc => ?_) (fun hc => ?_)
  · replace h := h.1 hc
    refine zw_aload_n (pc := 184) (n := 0) (i := 0) 0 (by decide +kernel) rfl rfl ?_
    refine zx_getI (pc := 185) zf_11_226 (by decide +kernel) rfl zc_203 ?_
    exact zw_iret (pc := 188) (by decide +kernel) rfl (Nat.le_refl _) (Nat.le_refl _) ⟨_, _, rfl, rfl, h⟩
  · replace h := h.2 hc
    obtain ⟨o2, h⟩ := h
    refine zw_aload_n (pc := 164) (n := 0) (i := 0) 0 (by decide +kernel) rfl rfl ?_
    refine zx_getR (pc := 165) (o := 4) (r := 207) zf_11_25 (by decide +kernel) rfl zc_203 rfl (by decide) rfl ?_
    refine zw_iload (pc := 168) (i := 5) 1 (by decide +kernel) rfl ?_
    refine zw_aload_n (pc := 170) (n := 0) (i := 0) 0 (by decide +kernel) rfl rfl ?_
    refine zx_getR (pc := 171) (o := 16) (r := 219) zf_11_61 (by decide +kernel) rfl zc_203 rfl (by decide) rfl ?_
    refine zw_iload (pc := 174) (i := 5) 1 (by decide +kernel) rfl ?_
    refine zx_iaload (pc := 176) (by decide +kernel) ⟨81, zc_219, o2.1, o2.2⟩ ?_
    refine zx_iastore (pc := 177) (by decide +kernel) ⟨81, zc_207, o2.1, o2.2⟩ ?_
    refine zw_iinc (pc := 178) (i := 5) (n := 1) (lv' := [(0, .ref 203), (5, .int (zJ (v5 + 1)))]) 1 (by decide +kernel) rfl rfl (Nat.le_of_ble_eq_true rfl) rfl ?_
    refine zw_goto (pc := 181) (off := (-24)) (tgt := 157) (by decide +kernel) (by decide) ?_
    exact h
theorem sg_X11_find_90 {g : zG} {φ : Int → zMu → Prop} {v3 : Int} {v4 : Int} {v5 : Int} {v6 : Int} {μ : zMu}
    (h : (zR v4) ∧ ((¬ v4 = 1 → (zR v6) ∧ (zR v3) ∧ ((v3 < v6 → at_X11_find_81 g φ v3 v4 (v5 + 1) μ) ∧ (v6 ≤ v3 → ((¬ v4 = 1 → zOv g zm_X11_tries [.ref 203, .int (zJ v3), .int (zJ v5), .int (zJ v6), .int (zJ 0)] μ (fun μ4 => at_X11_find_90 g φ v3 v4 v5 (v6 + 1) μ4)) ∧ (v4 = 1 → zOv g zm_X11_tries [.ref 203, .int (zJ v3), .int (zJ v5), .int (zJ v6), .int (zJ 1)] μ (fun μ5 => at_X11_find_90 g φ v3 v4 v5 (v6 + 1) μ5)))))) ∧ (v4 = 1 → (zR v6) ∧ (zR v5) ∧ ((v5 < v6 → at_X11_find_81 g φ v3 v4 (v5 + 1) μ) ∧ (v6 ≤ v5 → ((¬ v4 = 1 → zOv g zm_X11_tries [.ref 203, .int (zJ v3), .int (zJ v5), .int (zJ v6), .int (zJ 0)] μ (fun μ8 => at_X11_find_90 g φ v3 v4 v5 (v6 + 1) μ8)) ∧ (v4 = 1 → zOv g zm_X11_tries [.ref 203, .int (zJ v3), .int (zJ v5), .int (zJ v6), .int (zJ 1)] μ (fun μ9 => at_X11_find_90 g φ v3 v4 v5 (v6 + 1) μ9)))))))) : at_X11_find_90 g φ v3 v4 v5 v6 μ := by
  obtain ⟨o1, h⟩ := h
  refine zw_iload (pc := 90) (i := 6) 4 (by decide +kernel) rfl ?_
  refine zw_iload (pc := 92) (i := 4) 2 (by decide +kernel) rfl ?_
  refine zw_iconst (pc := 94) (n := 1) (by decide +kernel) ?_
  refine zw_icmp_ne (pc := 95) (off := 8) (tgt := 103) (by decide +kernel) (by decide) o1 ⟨by decide, by decide⟩ (fun hc => ?_) (fun hc => ?_)
  · replace h := h.1 hc
    obtain ⟨o2, o3, h⟩ := h
    refine zw_iload_n (pc := 103) (n := 3) (i := 3) 1 (by decide +kernel) rfl rfl ?_
    refine zw_icmp_gt (pc := 104) (off := 29) (tgt := 133) (by decide +kernel) (by decide) o2 o3 (fun hc => ?_) (fun hc => ?_)
    · replace h := h.1 hc
      refine zw_iinc (pc := 133) (i := 5) (n := 1) (lv' := [(0, .ref 203), (3, .int (zJ v3)), (4, .int (zJ v4)), (5, .int (zJ (v5 + 1))), (6, .int (zJ v6))]) 3 (by decide +kernel) rfl rfl (Nat.le_of_ble_eq_true rfl) rfl ?_
      refine zw_goto (pc := 136) (off := (-55)) (tgt := 81) (by decide +kernel) (by decide) ?_
      exact zw_pick (lv' := [(0, .ref 203), (3, .int (zJ v3)), (4, .int (zJ v4)), (5, .int (zJ (v5 + 1)))]) [0, 1, 2, 3] rfl h
    · replace h := h.2 hc
      refine zw_aload_n (pc := 107) (n := 0) (i := 0) 0 (by decide +kernel) rfl rfl ?_
      refine zw_iload_n (pc := 108) (n := 3) (i := 3) 1 (by decide +kernel) rfl rfl ?_
      refine zw_iload (pc := 109) (i := 5) 3 (by decide +kernel) rfl ?_
      refine zw_iload (pc := 111) (i := 6) 4 (by decide +kernel) rfl ?_
      refine zw_iload (pc := 113) (i := 4) 2 (by decide +kernel) rfl ?_
      refine zw_iconst (pc := 115) (n := 1) (by decide +kernel) ?_
      refine zw_icmp_ne (pc := 116) (off := 7) (tgt := 123) (by decide +kernel) (by decide) o1 ⟨by decide, by decide⟩ (fun hc => ?_) (fun hc => ?_)
      · replace h := h.1 hc
        refine zw_iconst (pc := 123) (n := 0) (by decide +kernel) ?_
        refine zx_callV (pc := 124) (As := [.int (zJ v3), .int (zJ v5), .int (zJ v6), .int (zJ 0)]) h zi_X11_tries zii_X11_tries zie_X11_tries zl_11_234 (by decide +kernel) ⟨Nat.le_of_ble_eq_true rfl, Nat.le_of_ble_eq_true rfl⟩ rfl zc_203 (by decide) rfl rfl ⟨rfl, rfl⟩ ⟨Nat.zero_le _, Nat.zero_le _⟩ (zkv (fun μ4 h => ?_))
        refine zw_iinc (pc := 127) (i := 6) (n := 1) (lv' := [(0, .ref 203), (3, .int (zJ v3)), (4, .int (zJ v4)), (5, .int (zJ v5)), (6, .int (zJ (v6 + 1)))]) 4 (by decide +kernel) rfl rfl (Nat.le_of_ble_eq_true rfl) rfl ?_
        refine zw_goto (pc := 130) (off := (-40)) (tgt := 90) (by decide +kernel) (by decide) ?_
        exact h
      · replace h := h.2 hc
        refine zw_iconst (pc := 119) (n := 1) (by decide +kernel) ?_
        refine zw_goto (pc := 120) (off := 4) (tgt := 124) (by decide +kernel) (by decide) ?_
        refine zx_callV (pc := 124) (As := [.int (zJ v3), .int (zJ v5), .int (zJ v6), .int (zJ 1)]) h zi_X11_tries zii_X11_tries zie_X11_tries zl_11_234 (by decide +kernel) ⟨Nat.le_of_ble_eq_true rfl, Nat.le_of_ble_eq_true rfl⟩ rfl zc_203 (by decide) rfl rfl ⟨rfl, rfl⟩ ⟨Nat.zero_le _, Nat.zero_le _⟩ (zkv (fun μ5 h => ?_))
        refine zw_iinc (pc := 127) (i := 6) (n := 1) (lv' := [(0, .ref 203), (3, .int (zJ v3)), (4, .int (zJ v4)), (5, .int (zJ v5)), (6, .int (zJ (v6 + 1)))]) 4 (by decide +kernel) rfl rfl (Nat.le_of_ble_eq_true rfl) rfl ?_
        refine zw_goto (pc := 130) (off := (-40)) (tgt := 90) (by decide +kernel) (by decide) ?_
        exact h
  · replace h := h.2 hc
    obtain ⟨o6, o7, h⟩ := h
    refine zw_iload (pc := 98) (i := 5) 3 (by decide +kernel) rfl ?_
    refine zw_goto (pc := 100) (off := 4) (tgt := 104) (by decide +kernel) (by decide) ?_
    refine zw_icmp_gt (pc := 104) (off := 29) (tgt := 133) (by decide +kernel) (by decide) o6 o7 (fun hc => ?_) (fun hc => ?_)
    · replace h := h.1 hc
      refine zw_iinc (pc := 133) (i := 5) (n := 1) (lv' := [(0, .ref 203), (3, .int (zJ v3)), (4, .int (zJ v4)), (5, .int (zJ (v5 + 1))), (6, .int (zJ v6))]) 3 (by decide +kernel) rfl rfl (Nat.le_of_ble_eq_true rfl) rfl ?_
      refine zw_goto (pc := 136) (off := (-55)) (tgt := 81) (by decide +kernel) (by decide) ?_
      exact zw_pick (lv' := [(0, .ref 203), (3, .int (zJ v3)), (4, .int (zJ v4)), (5, .int (zJ (v5 + 1)))]) [0, 1, 2, 3] rfl h
    · replace h := h.2 hc
      refine zw_aload_n (pc := 107) (n := 0) (i := 0) 0 (by decide +kernel) rfl rfl ?_
      refine zw_iload_n (pc := 108) (n := 3) (i := 3) 1 (by decide +kernel) rfl rfl ?_
      refine zw_iload (pc := 109) (i := 5) 3 (by decide +kernel) rfl ?_
      refine zw_iload (pc := 111) (i := 6) 4 (by decide +kernel) rfl ?_
      refine zw_iload (pc := 113) (i := 4) 2 (by decide +kernel) rfl ?_
      refine zw_iconst (pc := 115) (n := 1) (by decide +kernel) ?_
      refine zw_icmp_ne (pc := 116) (off := 7) (tgt := 123) (by decide +kernel) (by decide) o1 ⟨by decide, by decide⟩ (fun hc => ?_) (fun hc => ?_)
      · replace h := h.1 hc
        refine zw_iconst (pc := 123) (n := 0) (by decide +kernel) ?_
        refine zx_callV (pc := 124) (As := [.int (zJ v3), .int (zJ v5), .int (zJ v6), .int (zJ 0)]) h zi_X11_tries zii_X11_tries zie_X11_tries zl_11_234 (by decide +kernel) ⟨Nat.le_of_ble_eq_true rfl, Nat.le_of_ble_eq_true rfl⟩ rfl zc_203 (by decide) rfl rfl ⟨rfl, rfl⟩ ⟨Nat.zero_le _, Nat.zero_le _⟩ (zkv (fun μ8 h => ?_))
        refine zw_iinc (pc := 127) (i := 6) (n := 1) (lv' := [(0, .ref 203), (3, .int (zJ v3)), (4, .int (zJ v4)), (5, .int (zJ v5)), (6, .int (zJ (v6 + 1)))]) 4 (by decide +kernel) rfl rfl (Nat.le_of_ble_eq_true rfl) rfl ?_
        refine zw_goto (pc := 130) (off := (-40)) (tgt := 90) (by decide +kernel) (by decide) ?_
        exact h
      · replace h := h.2 hc
        refine zw_iconst (pc := 119) (n := 1) (by decide +kernel) ?_
        refine zw_goto (pc := 120) (off := 4) (tgt := 124) (by decide +kernel) (by decide) ?_
        refine zx_callV (pc := 124) (As := [.int (zJ v3), .int (zJ v5), .int (zJ v6), .int (zJ 1)]) h zi_X11_tries zii_X11_tries zie_X11_tries zl_11_234 (by decide +kernel) ⟨Nat.le_of_ble_eq_true rfl, Nat.le_of_ble_eq_true rfl⟩ rfl zc_203 (by decide) rfl rfl ⟨rfl, rfl⟩ ⟨Nat.zero_le _, Nat.zero_le _⟩ (zkv (fun μ9 h => ?_))
        refine zw_iinc (pc := 127) (i := 6) (n := 1) (lv' := [(0, .ref 203), (3, .int (zJ v3)), (4, .int (zJ v4)), (5, .int (zJ v5)), (6, .int (zJ (v6 + 1)))]) 4 (by decide +kernel) rfl rfl (Nat.le_of_ble_eq_true rfl) rfl ?_
        refine zw_goto (pc := 130) (off := (-40)) (tgt := 90) (by decide +kernel) (by decide) ?_
        exact h
abbrev at_X11_tellsPowers_67 (g : zG) (φ : zMu → Prop) (v1 : Int) (v2 : Int) (v3 : Int) (v4 : Int) (μ : zMu) : Prop := zWP g zm_X11_tellsPowers (zmo g zm_X11_tellsPowers (zΦv φ)) 67 [(0, .ref 203), (1, .int (zJ v1)), (2, .int (zJ v2)), (3, .int (zJ v3)), (4, .int (zJ v4))] [] 0 0 (zw μ)
abbrev at_X11_tellsPowers_87 (g : zG) (φ : zMu → Prop) (v1 : Int) (v2 : Int) (v3 : Int) (v4 : Int) (v5 : Int) (μ : zMu) : Prop := zWP g zm_X11_tellsPowers (zmo g zm_X11_tellsPowers (zΦv φ)) 87 [(0, .ref 203), (1, .int (zJ v1)), (2, .int (zJ v2)), (3, .int (zJ v3)), (4, .int (zJ v4)), (5, .int (zJ v5))] [] 0 0 (zw μ)
abbrev at_X11_tellsPowers_136 (g : zG) (φ : zMu → Prop) (v1 : Int) (v2 : Int) (v3 : Int) (v4 : Int) (v5 : Int) (μ : zMu) : Prop := zWP g zm_X11_tellsPowers (zmo g zm_X11_tellsPowers (zΦv φ)) 136 [(0, .ref 203), (1, .int (zJ v1)), (2, .int (zJ v2)), (3, .int (zJ v3)), (4, .int (zJ v4)), (5, .int (zJ v5))] [] 0 0 (zw μ)
theorem sg_X11_tellsPowers {g : zG} {φ : zMu → Prop} {v1 : Int} {v2 : Int} {v3 : Int} {μ : zMu}
    (h : (0 ≤ v1 ∧ v1 < 6) ∧ (0 ≤ v2 ∧ v2 < 6) ∧ (zR (μ 205 v1.toNat)) ∧ (zR (μ 205 v2.toNat)) ∧ (zR (v3 * ((zup (zup (zup μ 203 14 (min (μ 205 v1.toNat) (μ 205 v2.toNat))) 203 16 ((zup μ 203 14 (min (μ 205 v1.toNat) (μ 205 v2.toNat))) 204 v1.toNat)) 203 17 ((zup (zup μ 203 14 (min (μ 205 v1.toNat) (μ 205 v2.toNat))) 203 16 ((zup μ 203 14 (min (μ 205 v1.toNat) (μ 205 v2.toNat))) 204 v1.toNat)) 204 v2.toNat)) 203 16))) ∧ (zR (v3 * ((zup (zup (zup μ 203 14 (min (μ 205 v1.toNat) (μ 205 v2.toNat))) 203 16 ((zup μ 203 14 (min (μ 205 v1.toNat) (μ 205 v2.toNat))) 204 v1.toNat)) 203 17 ((zup (zup μ 203 14 (min (μ 205 v1.toNat) (μ 205 v2.toNat))) 203 16 ((zup μ 203 14 (min (μ 205 v1.toNat) (μ 205 v2.toNat))) 204 v1.toNat)) 204 v2.toNat)) 203 17))) ∧ at_X11_tellsPowers_67 g φ v1 v2 v3 0 (zup (zup (zup (zup μ 203 14 (min (μ 205 v1.toNat) (μ 205 v2.toNat))) 203 16 ((zup μ 203 14 (min (μ 205 v1.toNat) (μ 205 v2.toNat))) 204 v1.toNat)) 203 17 ((zup (zup μ 203 14 (min (μ 205 v1.toNat) (μ 205 v2.toNat))) 203 16 ((zup μ 203 14 (min (μ 205 v1.toNat) (μ 205 v2.toNat))) 204 v1.toNat)) 204 v2.toNat)) 203 15 ((min 0 (v3 * ((zup (zup (zup μ 203 14 (min (μ 205 v1.toNat) (μ 205 v2.toNat))) 203 16 ((zup μ 203 14 (min (μ 205 v1.toNat) (μ 205 v2.toNat))) 204 v1.toNat)) 203 17 ((zup (zup μ 203 14 (min (μ 205 v1.toNat) (μ 205 v2.toNat))) 203 16 ((zup μ 203 14 (min (μ 205 v1.toNat) (μ 205 v2.toNat))) 204 v1.toNat)) 204 v2.toNat)) 203 16))) + (min 0 (v3 * ((zup (zup (zup μ 203 14 (min (μ 205 v1.toNat) (μ 205 v2.toNat))) 203 16 ((zup μ 203 14 (min (μ 205 v1.toNat) (μ 205 v2.toNat))) 204 v1.toNat)) 203 17 ((zup (zup μ 203 14 (min (μ 205 v1.toNat) (μ 205 v2.toNat))) 203 16 ((zup μ 203 14 (min (μ 205 v1.toNat) (μ 205 v2.toNat))) 204 v1.toNat)) 204 v2.toNat)) 203 17)))))) : zOv g zm_X11_tellsPowers [.ref 203, .int (zJ v1), .int (zJ v2), .int (zJ v3)] μ φ := by
  refine zok_of (by decide +kernel) rfl ?_
  show zWP g zm_X11_tellsPowers (zmo g zm_X11_tellsPowers (zΦv φ)) 0 [(0, .ref 203), (1, .int (zJ v1)), (2, .int (zJ v2)), (3, .int (zJ v3))] [] 0 0 (zw μ)
  obtain ⟨o1, o2, o3, o4, o5, o6, h⟩ := h
  refine zw_aload_n (pc := 0) (n := 0) (i := 0) 0 (by decide +kernel) rfl rfl ?_
  refine zw_aload_n (pc := 1) (n := 0) (i := 0) 0 (by decide +kernel) rfl rfl ?_
  refine zx_getR (pc := 2) (o := 2) (r := 205) zf_11_19 (by decide +kernel) rfl zc_203 rfl (by decide) rfl ?_
  refine zw_iload_n (pc := 5) (n := 1) (i := 1) 1 (by decide +kernel) rfl rfl ?_
  refine zx_iaload (pc := 6) (by decide +kernel) ⟨6, zc_205, o1.1, o1.2⟩ ?_
  refine zw_aload_n (pc := 7) (n := 0) (i := 0) 0 (by decide +kernel) rfl rfl ?_
  refine zx_getR (pc := 8) (o := 2) (r := 205) zf_11_19 (by decide +kernel) rfl zc_203 rfl (by decide) rfl ?_
  refine zw_iload_n (pc := 11) (n := 2) (i := 2) 2 (by decide +kernel) rfl rfl ?_
  refine zx_iaload (pc := 12) (by decide +kernel) ⟨6, zc_205, o2.1, o2.2⟩ ?_
  refine zw_min (pc := 13) zl_11_169 zb_minS zb_mathI zb_minC (by decide +kernel) ⟨Nat.le_of_ble_eq_true rfl, Nat.le_of_ble_eq_true rfl⟩ (Nat.zero_le _) (Nat.zero_le _) rfl o3 o4 ?_
  refine zx_putI (pc := 16) zf_11_189 (by decide +kernel) rfl zc_203 ?_
  refine zw_aload_n (pc := 19) (n := 0) (i := 0) 0 (by decide +kernel) rfl rfl ?_
  refine zw_aload_n (pc := 20) (n := 0) (i := 0) 0 (by decide +kernel) rfl rfl ?_
  refine zx_getR (pc := 21) (o := 1) (r := 204) zf_11_15 (by decide +kernel) rfl zc_203 rfl (by decide) rfl ?_
  refine zw_iload_n (pc := 24) (n := 1) (i := 1) 1 (by decide +kernel) rfl rfl ?_
  refine zx_iaload (pc := 25) (by decide +kernel) ⟨6, zc_204, o1.1, o1.2⟩ ?_
  refine zx_putI (pc := 26) zf_11_192 (by decide +kernel) rfl zc_203 ?_
  refine zw_aload_n (pc := 29) (n := 0) (i := 0) 0 (by decide +kernel) rfl rfl ?_
  refine zw_aload_n (pc := 30) (n := 0) (i := 0) 0 (by decide +kernel) rfl rfl ?_
  refine zx_getR (pc := 31) (o := 1) (r := 204) zf_11_15 (by decide +kernel) rfl zc_203 rfl (by decide) rfl ?_
  refine zw_iload_n (pc := 34) (n := 2) (i := 2) 2 (by decide +kernel) rfl rfl ?_
  refine zx_iaload (pc := 35) (by decide +kernel) ⟨6, zc_204, o2.1, o2.2⟩ ?_
  refine zx_putI (pc := 36) zf_11_195 (by decide +kernel) rfl zc_203 ?_
  refine zw_aload_n (pc := 39) (n := 0) (i := 0) 0 (by decide +kernel) rfl rfl ?_
  refine zw_iconst (pc := 40) (n := 0) (by decide +kernel) ?_
  refine zw_iload_n (pc := 41) (n := 3) (i := 3) 3 (by decide +kernel) rfl rfl ?_
  refine zw_aload_n (pc := 42) (n := 0) (i := 0) 0 (by decide +kernel) rfl rfl ?_
  refine zx_getI (pc := 43) zf_11_192 (by decide +kernel) rfl zc_203 ?_
  refine zw_imul (pc := 46) (by decide +kernel) ?_
  refine zw_min (pc := 47) zl_11_169 zb_minS zb_mathI zb_minC (by decide +kernel) ⟨Nat.le_of_ble_eq_true rfl, Nat.le_of_ble_eq_true rfl⟩ (Nat.zero_le _) (Nat.zero_le _) rfl ⟨by decide, by decide⟩ o5 ?_
  refine zw_iconst (pc := 50) (n := 0) (by decide +kernel) ?_
  refine zw_iload_n (pc := 51) (n := 3) (i := 3) 3 (by decide +kernel) rfl rfl ?_
  refine zw_aload_n (pc := 52) (n := 0) (i := 0) 0 (by decide +kernel) rfl rfl ?_
  refine zx_getI (pc := 53) zf_11_195 (by decide +kernel) rfl zc_203 ?_
  refine zw_imul (pc := 56) (by decide +kernel) ?_
  refine zw_min (pc := 57) zl_11_169 zb_minS zb_mathI zb_minC (by decide +kernel) ⟨Nat.le_of_ble_eq_true rfl, Nat.le_of_ble_eq_true rfl⟩ (Nat.zero_le _) (Nat.zero_le _) rfl ⟨by decide, by decide⟩ o6 ?_
  refine zw_iadd (pc := 60) (by decide +kernel) ?_
  refine zx_putI (pc := 61) zf_11_198 (by decide +kernel) rfl zc_203 ?_
  refine zw_iconst (pc := 64) (n := 0) (by decide +kernel) ?_
  refine zw_istore (pc := 65) (i := 4) (lv' := [(0, .ref 203), (1, .int (zJ v1)), (2, .int (zJ v2)), (3, .int (zJ v3)), (4, .int (zJ 0))]) (by decide +kernel) (Nat.le_of_ble_eq_true rfl) rfl ?_
  exact h
theorem sg_X11_tellsPowers_67 {g : zG} {φ : zMu → Prop} {v1 : Int} {v2 : Int} {v3 : Int} {v4 : Int} {μ : zMu}
    (h : (zR v4) ∧ (zR v3) ∧ ((v3 < v4 → φ μ) ∧ (v4 ≤ v3 → zOv g zm_X11_powers [.ref 203, .int (zJ v1), .int (zJ v4), .int (zJ (μ 203 14))] μ (fun μ3 => at_X11_tellsPowers_87 g φ v1 v2 v3 v4 0 μ3)))) : at_X11_tellsPowers_67 g φ v1 v2 v3 v4 μ := by
  obtain ⟨o1, o2, h⟩ := h
  refine zw_iload (pc := 67) (i := 4) 4 (by decide +kernel) rfl ?_
  refine zw_iload_n (pc := 69) (n := 3) (i := 3) 3 (by decide +kernel) rfl rfl ?_
  refine zw_icmp_gt (pc := 70) (off := 107) (tgt := 177) (by decide +kernel) (by decide) o1 o2 (fun hc => ?_) (fun hc => ?_)
  · replace h := h.1 hc
    exact zw_vret (pc := 177) (by decide +kernel) rfl (Nat.le_refl _) (Nat.le_refl _) ⟨_, rfl, rfl, h⟩
  · replace h := h.2 hc
    refine zw_aload_n (pc := 73) (n := 0) (i := 0) 0 (by decide +kernel) rfl rfl ?_
    refine zw_iload_n (pc := 74) (n := 1) (i := 1) 1 (by decide +kernel) rfl rfl ?_
    refine zw_iload (pc := 75) (i := 4) 4 (by decide +kernel) rfl ?_
    refine zw_aload_n (pc := 77) (n := 0) (i := 0) 0 (by decide +kernel) rfl rfl ?_
    refine zx_getI (pc := 78) zf_11_189 (by decide +kernel) rfl zc_203 ?_
    refine zx_callV (pc := 81) (As := [.int (zJ v1), .int (zJ v4), .int (zJ (μ 203 14))]) h zi_X11_powers zii_X11_powers zie_X11_powers zl_11_183 (by decide +kernel) ⟨Nat.le_of_ble_eq_true rfl, Nat.le_of_ble_eq_true rfl⟩ rfl zc_203 (by decide) rfl rfl ⟨rfl, rfl⟩ ⟨Nat.zero_le _, Nat.zero_le _⟩ (zkv (fun μ3 h => ?_))
    refine zw_iconst (pc := 84) (n := 0) (by decide +kernel) ?_
    refine zw_istore (pc := 85) (i := 5) (lv' := [(0, .ref 203), (1, .int (zJ v1)), (2, .int (zJ v2)), (3, .int (zJ v3)), (4, .int (zJ v4)), (5, .int (zJ 0))]) (by decide +kernel) (Nat.le_of_ble_eq_true rfl) rfl ?_
    exact h
theorem sg_X11_tellsPowers_87 {g : zG} {φ : zMu → Prop} {v1 : Int} {v2 : Int} {v3 : Int} {v4 : Int} {v5 : Int} {μ : zMu}
    (h : (zR v5) ∧ (zR (μ 203 14)) ∧ (((μ 203 14) ≤ v5 → zOv g zm_X11_powers [.ref 203, .int (zJ v2), .int (zJ v4), .int (zJ (μ 203 14))] μ (fun μ3 => at_X11_tellsPowers_136 g φ v1 v2 v3 v4 0 μ3)) ∧ (v5 < (μ 203 14) → (0 ≤ v5 ∧ v5 < 80) ∧ (0 ≤ ((80 * v4) + v5) ∧ ((80 * v4) + v5) < 720) ∧ at_X11_tellsPowers_87 g φ v1 v2 v3 v4 (v5 + 1) (zup μ 212 (Int.toNat ((80 * v4) + v5)) (μ 209 v5.toNat))))) : at_X11_tellsPowers_87 g φ v1 v2 v3 v4 v5 μ := by
  obtain ⟨o1, o2, h⟩ := h
  refine zw_iload (pc := 87) (i := 5) 5 (by decide +kernel) rfl ?_
  refine zw_aload_n (pc := 89) (n := 0) (i := 0) 0 (by decide +kernel) rfl rfl ?_
  refine zx_getI (pc := 90) zf_11_189 (by decide +kernel) rfl zc_203 ?_
  refine zw_icmp_ge (pc := 93) (off := 29) (tgt := 122) (by decide +kernel) (by decide) o1 o2 (fun hc => ?_) (fun hc => ?_)
  · replace h := h.1 hc
    refine zw_aload_n (pc := 122) (n := 0) (i := 0) 0 (by decide +kernel) rfl rfl ?_
    refine zw_iload_n (pc := 123) (n := 2) (i := 2) 2 (by decide +kernel) rfl rfl ?_
    refine zw_iload (pc := 124) (i := 4) 4 (by decide +kernel) rfl ?_
    refine zw_aload_n (pc := 126) (n := 0) (i := 0) 0 (by decide +kernel) rfl rfl ?_
    refine zx_getI (pc := 127) zf_11_189 (by decide +kernel) rfl zc_203 ?_
    refine zx_callV (pc := 130) (As := [.int (zJ v2), .int (zJ v4), .int (zJ (μ 203 14))]) h zi_X11_powers zii_X11_powers zie_X11_powers zl_11_183 (by decide +kernel) ⟨Nat.le_of_ble_eq_true rfl, Nat.le_of_ble_eq_true rfl⟩ rfl zc_203 (by decide) rfl rfl ⟨rfl, rfl⟩ ⟨Nat.zero_le _, Nat.zero_le _⟩ (zkv (fun μ3 h => ?_))
    refine zw_iconst (pc := 133) (n := 0) (by decide +kernel) ?_
    refine zw_istore (pc := 134) (i := 5) (lv' := [(0, .ref 203), (1, .int (zJ v1)), (2, .int (zJ v2)), (3, .int (zJ v3)), (4, .int (zJ v4)), (5, .int (zJ 0))]) (by decide +kernel) (Nat.le_of_ble_eq_true rfl) rfl ?_
    exact h
  · replace h := h.2 hc
    obtain ⟨o4, o5, h⟩ := h
    refine zw_aload_n (pc := 96) (n := 0) (i := 0) 0 (by decide +kernel) rfl rfl ?_
    refine zx_getR (pc := 97) (o := 9) (r := 212) zf_11_40 (by decide +kernel) rfl zc_203 rfl (by decide) rfl ?_
    refine zw_bipush (pc := 100) (n := 80) (by decide +kernel) (by decide +kernel) ?_
    refine zw_iload (pc := 102) (i := 4) 4 (by decide +kernel) rfl ?_
    refine zw_imul (pc := 104) (by decide +kernel) ?_
    refine zw_iload (pc := 105) (i := 5) 5 (by decide +kernel) rfl ?_
    refine zw_iadd (pc := 107) (by decide +kernel) ?_
    refine zw_aload_n (pc := 108) (n := 0) (i := 0) 0 (by decide +kernel) rfl rfl ?_
    refine zx_getR (pc := 109) (o := 6) (r := 209) zf_11_31 (by decide +kernel) rfl zc_203 rfl (by decide) rfl ?_
    refine zw_iload (pc := 112) (i := 5) 5 (by decide +kernel) rfl ?_
    refine zx_iaload (pc := 114) (by decide +kernel) ⟨80, zc_209, o4.1, o4.2⟩ ?_
    refine zx_iastore (pc := 115) (by decide +kernel) ⟨720, zc_212, o5.1, o5.2⟩ ?_
    refine zw_iinc (pc := 116) (i := 5) (n := 1) (lv' := [(0, .ref 203), (1, .int (zJ v1)), (2, .int (zJ v2)), (3, .int (zJ v3)), (4, .int (zJ v4)), (5, .int (zJ (v5 + 1)))]) 5 (by decide +kernel) rfl rfl (Nat.le_of_ble_eq_true rfl) rfl ?_
    refine zw_goto (pc := 119) (off := (-32)) (tgt := 87) (by decide +kernel) (by decide) ?_
    exact h
theorem sg_X11_tellsPowers_136 {g : zG} {φ : zMu → Prop} {v1 : Int} {v2 : Int} {v3 : Int} {v4 : Int} {v5 : Int} {μ : zMu}
    (h : (zR v5) ∧ (zR (μ 203 14)) ∧ (((μ 203 14) ≤ v5 → at_X11_tellsPowers_67 g φ v1 v2 v3 (v4 + 1) μ) ∧ (v5 < (μ 203 14) → (0 ≤ v5 ∧ v5 < 80) ∧ (0 ≤ ((80 * v4) + v5) ∧ ((80 * v4) + v5) < 720) ∧ at_X11_tellsPowers_136 g φ v1 v2 v3 v4 (v5 + 1) (zup μ 213 (Int.toNat ((80 * v4) + v5)) (μ 209 v5.toNat))))) : at_X11_tellsPowers_136 g φ v1 v2 v3 v4 v5 μ := by
  obtain ⟨o1, o2, h⟩ := h
  refine zw_iload (pc := 136) (i := 5) 5 (by decide +kernel) rfl ?_
  refine zw_aload_n (pc := 138) (n := 0) (i := 0) 0 (by decide +kernel) rfl rfl ?_
  refine zx_getI (pc := 139) zf_11_189 (by decide +kernel) rfl zc_203 ?_
  refine zw_icmp_ge (pc := 142) (off := 29) (tgt := 171) (by decide +kernel) (by decide) o1 o2 (fun hc => ?_) (fun hc => ?_)
  · replace h := h.1 hc
    refine zw_iinc (pc := 171) (i := 4) (n := 1) (lv' := [(0, .ref 203), (1, .int (zJ v1)), (2, .int (zJ v2)), (3, .int (zJ v3)), (4, .int (zJ (v4 + 1))), (5, .int (zJ v5))]) 4 (by decide +kernel) rfl rfl (Nat.le_of_ble_eq_true rfl) rfl ?_
    refine zw_goto (pc := 174) (off := (-107)) (tgt := 67) (by decide +kernel) (by decide) ?_
    exact zw_pick (lv' := [(0, .ref 203), (1, .int (zJ v1)), (2, .int (zJ v2)), (3, .int (zJ v3)), (4, .int (zJ (v4 + 1)))]) [0, 1, 2, 3, 4] rfl h
  · replace h := h.2 hc
    obtain ⟨o3, o4, h⟩ := h
    refine zw_aload_n (pc := 145) (n := 0) (i := 0) 0 (by decide +kernel) rfl rfl ?_
    refine zx_getR (pc := 146) (o := 10) (r := 213) zf_11_43 (by decide +kernel) rfl zc_203 rfl (by decide) rfl ?_
    refine zw_bipush (pc := 149) (n := 80) (by decide +kernel) (by decide +kernel) ?_
    refine zw_iload (pc := 151) (i := 4) 4 (by decide +kernel) rfl ?_
    refine zw_imul (pc := 153) (by decide +kernel) ?_
    refine zw_iload (pc := 154) (i := 5) 5 (by decide +kernel) rfl ?_
    refine zw_iadd (pc := 156) (by decide +kernel) ?_
    refine zw_aload_n (pc := 157) (n := 0) (i := 0) 0 (by decide +kernel) rfl rfl ?_
    refine zx_getR (pc := 158) (o := 6) (r := 209) zf_11_31 (by decide +kernel) rfl zc_203 rfl (by decide) rfl ?_
    refine zw_iload (pc := 161) (i := 5) 5 (by decide +kernel) rfl ?_
    refine zx_iaload (pc := 163) (by decide +kernel) ⟨80, zc_209, o3.1, o3.2⟩ ?_
    refine zx_iastore (pc := 164) (by decide +kernel) ⟨720, zc_213, o4.1, o4.2⟩ ?_
    refine zw_iinc (pc := 165) (i := 5) (n := 1) (lv' := [(0, .ref 203), (1, .int (zJ v1)), (2, .int (zJ v2)), (3, .int (zJ v3)), (4, .int (zJ v4)), (5, .int (zJ (v5 + 1)))]) 5 (by decide +kernel) rfl rfl (Nat.le_of_ble_eq_true rfl) rfl ?_
    refine zw_goto (pc := 168) (off := (-32)) (tgt := 136) (by decide +kernel) (by decide) ?_
    exact h
abbrev at_X11_tries_7 (g : zG) (φ : zMu → Prop) (v1 : Int) (v2 : Int) (v3 : Int) (v4 : Int) (v5 : Int) (μ : zMu) : Prop := zWP g zm_X11_tries (zmo g zm_X11_tries (zΦv φ)) 7 [(0, .ref 203), (1, .int (zJ v1)), (2, .int (zJ v2)), (3, .int (zJ v3)), (4, .int (zJ v4)), (5, .int (zJ v5))] [] 0 0 (zw μ)
abbrev at_X11_tries_96 (g : zG) (φ : zMu → Prop) (v5 : Int) (μ : zMu) : Prop := zWP g zm_X11_tries (zmo g zm_X11_tries (zΦv φ)) 96 [(0, .ref 203), (5, .int (zJ v5))] [] 0 0 (zw μ)
theorem sg_X11_tries {g : zG} {φ : zMu → Prop} {v1 : Int} {v2 : Int} {v3 : Int} {v4 : Int} {μ : zMu}
    (h : zOv g zm_X11_emptiesColumn [.ref 203] μ (fun μ1 => at_X11_tries_7 g φ v1 v2 v3 v4 0 μ1)) : zOv g zm_X11_tries [.ref 203, .int (zJ v1), .int (zJ v2), .int (zJ v3), .int (zJ v4)] μ φ := by
  refine zok_of (by decide +kernel) rfl ?_
  show zWP g zm_X11_tries (zmo g zm_X11_tries (zΦv φ)) 0 [(0, .ref 203), (1, .int (zJ v1)), (2, .int (zJ v2)), (3, .int (zJ v3)), (4, .int (zJ v4))] [] 0 0 (zw μ)
  refine zw_aload_n (pc := 0) (n := 0) (i := 0) 0 (by decide +kernel) rfl rfl ?_
  refine zx_callV (pc := 1) (As := []) h zi_X11_emptiesColumn zii_X11_emptiesColumn zie_X11_emptiesColumn zl_11_212 (by decide +kernel) ⟨Nat.le_of_ble_eq_true rfl, Nat.le_of_ble_eq_true rfl⟩ rfl zc_203 (by decide) rfl rfl ⟨rfl, rfl⟩ ⟨Nat.zero_le _, Nat.zero_le _⟩ (zkv (fun μ1 h => ?_))
  refine zw_iconst (pc := 4) (n := 0) (by decide +kernel) ?_
  refine zw_istore (pc := 5) (i := 5) (lv' := [(0, .ref 203), (1, .int (zJ v1)), (2, .int (zJ v2)), (3, .int (zJ v3)), (4, .int (zJ v4)), (5, .int (zJ 0))]) (by decide +kernel) (Nat.le_of_ble_eq_true rfl) rfl ?_
  exact h
theorem sg_X11_tries_7 {g : zG} {φ : zMu → Prop} {v1 : Int} {v2 : Int} {v3 : Int} {v4 : Int} {v5 : Int} {μ : zMu}
    (h : (zR v5) ∧ ((81 ≤ v5 → zOv g zm_X11_adds [.ref 203, .int (zJ v2), .int (zJ v3), .int (zJ 1)] μ (fun μ2 => zOi g zm_X11_place [.int (zJ v1), .int (zJ v2), .int (zJ v3)] μ2 (fun x4 μ3 => (0 ≤ x4 ∧ x4 < 81) ∧ (zR v4) ∧ ((v4 = 0 → zOi g zm_X11_comes [.ref 203] (zup μ3 218 x4.toNat 1) (fun x8 μ7 => (zR x8) ∧ ((¬ x8 = 0 → φ μ7) ∧ (x8 = 0 → at_X11_tries_96 g φ 0 (zup μ7 203 24 ((μ7 203 24) + 1)))))) ∧ (¬ v4 = 0 → (zR v2) ∧ (zR v3) ∧ ((v2 = v3 → zOi g zm_X11_comes [.ref 203] (zup μ3 218 x4.toNat 1) (fun x13 μ12 => (zR x13) ∧ ((¬ x13 = 0 → φ μ12) ∧ (x13 = 0 → at_X11_tries_96 g φ 0 (zup μ12 203 24 ((μ12 203 24) + 1)))))) ∧ (¬ v2 = v3 → zOv g zm_X11_adds [.ref 203, .int (zJ v3), .int (zJ v2), .int (zJ 1)] (zup μ3 218 x4.toNat 1) (fun μ15 => zOi g zm_X11_place [.int (zJ v1), .int (zJ v3), .int (zJ v2)] μ15 (fun x17 μ16 => (0 ≤ x17 ∧ x17 < 81) ∧ zOi g zm_X11_comes [.ref 203] (zup μ16 218 x17.toNat 1) (fun x20 μ19 => (zR x20) ∧ ((¬ x20 = 0 → φ μ19) ∧ (x20 = 0 → at_X11_tries_96 g φ 0 (zup μ19 203 24 ((μ19 203 24) + 1)))))))))))))) ∧ (v5 < 81 → (0 ≤ v5 ∧ v5 < 81) ∧ at_X11_tries_7 g φ v1 v2 v3 v4 (v5 + 1) (zup μ 218 v5.toNat 0)))) : at_X11_tries_7 g φ v1 v2 v3 v4 v5 μ := by
  obtain ⟨o1, h⟩ := h
  refine zw_iload (pc := 7) (i := 5) 5 (by decide +kernel) rfl ?_
  refine zw_bipush (pc := 9) (n := 81) (by decide +kernel) (by decide +kernel) ?_
  refine zw_icmp_ge (pc := 11) (off := 17) (tgt := 28) (by decide +kernel) (by decide) o1 ⟨by decide, by decide⟩ (fun hc => ?_) (fun hc => ?_)
  · replace h := h.1 hc
    refine zw_aload_n (pc := 28) (n := 0) (i := 0) 0 (by decide +kernel) rfl rfl ?_
    refine zw_iload_n (pc := 29) (n := 2) (i := 2) 2 (by decide +kernel) rfl rfl ?_
    refine zw_iload_n (pc := 30) (n := 3) (i := 3) 3 (by decide +kernel) rfl rfl ?_
    refine zw_iconst (pc := 31) (n := 1) (by decide +kernel) ?_
    refine zx_callV (pc := 32) (As := [.int (zJ v2), .int (zJ v3), .int (zJ 1)]) h zi_X11_adds zii_X11_adds zie_X11_adds zl_11_215 (by decide +kernel) ⟨Nat.le_of_ble_eq_true rfl, Nat.le_of_ble_eq_true rfl⟩ rfl zc_203 (by decide) rfl rfl ⟨rfl, rfl⟩ ⟨Nat.zero_le _, Nat.zero_le _⟩ (zkv (fun μ2 h => ?_))
    refine zw_aload_n (pc := 35) (n := 0) (i := 0) 0 (by decide +kernel) rfl rfl ?_
    refine zx_getR (pc := 36) (o := 15) (r := 218) zf_11_58 (by decide +kernel) rfl zc_203 rfl (by decide) rfl ?_
    refine zw_iload_n (pc := 39) (n := 1) (i := 1) 1 (by decide +kernel) rfl rfl ?_
    refine zw_iload_n (pc := 40) (n := 2) (i := 2) 2 (by decide +kernel) rfl rfl ?_
    refine zw_iload_n (pc := 41) (n := 3) (i := 3) 3 (by decide +kernel) rfl rfl ?_
    refine zx_callS (pc := 42) (As := [.int (zJ v1), .int (zJ v2), .int (zJ v3)]) h zi_X11_place zis_X11_place zl_11_218 (by decide +kernel) ⟨Nat.le_of_ble_eq_true rfl, Nat.le_of_ble_eq_true rfl⟩ rfl rfl ⟨rfl, rfl⟩ ⟨Nat.zero_le _, Nat.zero_le _⟩ (zki (fun x4 μ3 h => ?_))
    obtain ⟨o5, o6, h⟩ := h
    refine zw_iconst (pc := 45) (n := 1) (by decide +kernel) ?_
    refine zx_iastore (pc := 46) (by decide +kernel) ⟨81, zc_218, o5.1, o5.2⟩ ?_
    refine zw_iload (pc := 47) (i := 4) 4 (by decide +kernel) rfl ?_
    refine zw_if_eq (pc := 49) (off := 27) (tgt := 76) (by decide +kernel) (by decide) o6 (fun hc => ?_) (fun hc => ?_)
    · replace h := h.1 hc
      refine zw_aload_n (pc := 76) (n := 0) (i := 0) 0 (by decide +kernel) rfl rfl ?_
      refine zx_callV (pc := 77) (As := []) h zi_X11_comes zii_X11_comes zie_X11_comes zl_11_222 (by decide +kernel) ⟨Nat.le_of_ble_eq_true rfl, Nat.le_of_ble_eq_true rfl⟩ rfl zc_203 (by decide) rfl rfl ⟨rfl, rfl⟩ ⟨Nat.zero_le _, Nat.zero_le _⟩ (zki (fun x8 μ7 h => ?_))
      obtain ⟨o9, h⟩ := h
      refine zw_if_ne (pc := 80) (off := 51) (tgt := 131) (by decide +kernel) (by decide) o9 (fun hc => ?_) (fun hc => ?_)
      · replace h := h.1 hc
        exact zw_vret (pc := 131) (by decide +kernel) rfl (Nat.le_refl _) (Nat.le_refl _) ⟨_, rfl, rfl, h⟩
      · replace h := h.2 hc
        refine zw_aload_n (pc := 83) (n := 0) (i := 0) 0 (by decide +kernel) rfl rfl ?_
        refine zw_dup (pc := 84) (by decide +kernel) rfl ?_
        refine zx_getI (pc := 85) zf_11_226 (by decide +kernel) rfl zc_203 ?_
        refine zw_iconst (pc := 88) (n := 1) (by decide +kernel) ?_
        refine zw_iadd (pc := 89) (by decide +kernel) ?_
        refine zx_putI (pc := 90) zf_11_226 (by decide +kernel) rfl zc_203 ?_
        refine zw_iconst (pc := 93) (n := 0) (by decide +kernel) ?_
        refine zw_istore (pc := 94) (i := 5) (lv' := [(0, .ref 203), (1, .int (zJ v1)), (2, .int (zJ v2)), (3, .int (zJ v3)), (4, .int (zJ v4)), (5, .int (zJ 0))]) (by decide +kernel) (Nat.le_of_ble_eq_true rfl) rfl ?_
        exact zw_pick (lv' := [(0, .ref 203), (5, .int (zJ 0))]) [0, 5] rfl h
    · replace h := h.2 hc
      obtain ⟨o10, o11, h⟩ := h
      refine zw_iload_n (pc := 52) (n := 2) (i := 2) 2 (by decide +kernel) rfl rfl ?_
      refine zw_iload_n (pc := 53) (n := 3) (i := 3) 3 (by decide +kernel) rfl rfl ?_
      refine zw_icmp_eq (pc := 54) (off := 22) (tgt := 76) (by decide +kernel) (by decide) o10 o11 (fun hc => ?_) (fun hc => ?_)
      · replace h := h.1 hc
        refine zw_aload_n (pc := 76) (n := 0) (i := 0) 0 (by decide +kernel) rfl rfl ?_
        refine zx_callV (pc := 77) (As := []) h zi_X11_comes zii_X11_comes zie_X11_comes zl_11_222 (by decide +kernel) ⟨Nat.le_of_ble_eq_true rfl, Nat.le_of_ble_eq_true rfl⟩ rfl zc_203 (by decide) rfl rfl ⟨rfl, rfl⟩ ⟨Nat.zero_le _, Nat.zero_le _⟩ (zki (fun x13 μ12 h => ?_))
        obtain ⟨o14, h⟩ := h
        refine zw_if_ne (pc := 80) (off := 51) (tgt := 131) (by decide +kernel) (by decide) o14 (fun hc => ?_) (fun hc => ?_)
        · replace h := h.1 hc
          exact zw_vret (pc := 131) (by decide +kernel) rfl (Nat.le_refl _) (Nat.le_refl _) ⟨_, rfl, rfl, h⟩
        · replace h := h.2 hc
          refine zw_aload_n (pc := 83) (n := 0) (i := 0) 0 (by decide +kernel) rfl rfl ?_
          refine zw_dup (pc := 84) (by decide +kernel) rfl ?_
          refine zx_getI (pc := 85) zf_11_226 (by decide +kernel) rfl zc_203 ?_
          refine zw_iconst (pc := 88) (n := 1) (by decide +kernel) ?_
          refine zw_iadd (pc := 89) (by decide +kernel) ?_
          refine zx_putI (pc := 90) zf_11_226 (by decide +kernel) rfl zc_203 ?_
          refine zw_iconst (pc := 93) (n := 0) (by decide +kernel) ?_
          refine zw_istore (pc := 94) (i := 5) (lv' := [(0, .ref 203), (1, .int (zJ v1)), (2, .int (zJ v2)), (3, .int (zJ v3)), (4, .int (zJ v4)), (5, .int (zJ 0))]) (by decide +kernel) (Nat.le_of_ble_eq_true rfl) rfl ?_
          exact zw_pick (lv' := [(0, .ref 203), (5, .int (zJ 0))]) [0, 5] rfl h
      · replace h := h.2 hc
        refine zw_aload_n (pc := 57) (n := 0) (i := 0) 0 (by decide +kernel) rfl rfl ?_
        refine zw_iload_n (pc := 58) (n := 3) (i := 3) 3 (by decide +kernel) rfl rfl ?_
        refine zw_iload_n (pc := 59) (n := 2) (i := 2) 2 (by decide +kernel) rfl rfl ?_
        refine zw_iconst (pc := 60) (n := 1) (by decide +kernel) ?_
        refine zx_callV (pc := 61) (As := [.int (zJ v3), .int (zJ v2), .int (zJ 1)]) h zi_X11_adds zii_X11_adds zie_X11_adds zl_11_215 (by decide +kernel) ⟨Nat.le_of_ble_eq_true rfl, Nat.le_of_ble_eq_true rfl⟩ rfl zc_203 (by decide) rfl rfl ⟨rfl, rfl⟩ ⟨Nat.zero_le _, Nat.zero_le _⟩ (zkv (fun μ15 h => ?_))
        refine zw_aload_n (pc := 64) (n := 0) (i := 0) 0 (by decide +kernel) rfl rfl ?_
        refine zx_getR (pc := 65) (o := 15) (r := 218) zf_11_58 (by decide +kernel) rfl zc_203 rfl (by decide) rfl ?_
        refine zw_iload_n (pc := 68) (n := 1) (i := 1) 1 (by decide +kernel) rfl rfl ?_
        refine zw_iload_n (pc := 69) (n := 3) (i := 3) 3 (by decide +kernel) rfl rfl ?_
        refine zw_iload_n (pc := 70) (n := 2) (i := 2) 2 (by decide +kernel) rfl rfl ?_
        refine zx_callS (pc := 71) (As := [.int (zJ v1), .int (zJ v3), .int (zJ v2)]) h zi_X11_place zis_X11_place zl_11_218 (by decide +kernel) ⟨Nat.le_of_ble_eq_true rfl, Nat.le_of_ble_eq_true rfl⟩ rfl rfl ⟨rfl, rfl⟩ ⟨Nat.zero_le _, Nat.zero_le _⟩ (zki (fun x17 μ16 h => ?_))
        obtain ⟨o18, h⟩ := h
        refine zw_iconst (pc := 74) (n := 1) (by decide +kernel) ?_
        refine zx_iastore (pc := 75) (by decide +kernel) ⟨81, zc_218, o18.1, o18.2⟩ ?_
        refine zw_aload_n (pc := 76) (n := 0) (i := 0) 0 (by decide +kernel) rfl rfl ?_
        refine zx_callV (pc := 77) (As := []) h zi_X11_comes zii_X11_comes zie_X11_comes zl_11_222 (by decide +kernel) ⟨Nat.le_of_ble_eq_true rfl, Nat.le_of_ble_eq_true rfl⟩ rfl zc_203 (by decide) rfl rfl ⟨rfl, rfl⟩ ⟨Nat.zero_le _, Nat.zero_le _⟩ (zki (fun x20 μ19 h => ?_))
        obtain ⟨o21, h⟩ := h
        refine zw_if_ne (pc := 80) (off := 51) (tgt := 131) (by decide +kernel) (by decide) o21 (fun hc => ?_) (fun hc => ?_)
        · replace h := h.1 hc
          exact zw_vret (pc := 131) (by decide +kernel) rfl (Nat.le_refl _) (Nat.le_refl _) ⟨_, rfl, rfl, h⟩
        · replace h := h.2 hc
          refine zw_aload_n (pc := 83) (n := 0) (i := 0) 0 (by decide +kernel) rfl rfl ?_
          refine zw_dup (pc := 84) (by decide +kernel) rfl ?_
          refine zx_getI (pc := 85) zf_11_226 (by decide +kernel) rfl zc_203 ?_
          refine zw_iconst (pc := 88) (n := 1) (by decide +kernel) ?_
          refine zw_iadd (pc := 89) (by decide +kernel) ?_
          refine zx_putI (pc := 90) zf_11_226 (by decide +kernel) rfl zc_203 ?_
          refine zw_iconst (pc := 93) (n := 0) (by decide +kernel) ?_
          refine zw_istore (pc := 94) (i := 5) (lv' := [(0, .ref 203), (1, .int (zJ v1)), (2, .int (zJ v2)), (3, .int (zJ v3)), (4, .int (zJ v4)), (5, .int (zJ 0))]) (by decide +kernel) (Nat.le_of_ble_eq_true rfl) rfl ?_
          exact zw_pick (lv' := [(0, .ref 203), (5, .int (zJ 0))]) [0, 5] rfl h
  · replace h := h.2 hc
    obtain ⟨o22, h⟩ := h
    refine zw_aload_n (pc := 14) (n := 0) (i := 0) 0 (by decide +kernel) rfl rfl ?_
    refine zx_getR (pc := 15) (o := 15) (r := 218) zf_11_58 (by decide +kernel) rfl zc_203 rfl (by decide) rfl ?_
    refine zw_iload (pc := 18) (i := 5) 5 (by decide +kernel) rfl ?_
    refine zw_iconst (pc := 20) (n := 0) (by decide +kernel) ?_
    refine zx_iastore (pc := 21) (by decide +kernel) ⟨81, zc_218, o22.1, o22.2⟩ ?_
    refine zw_iinc (pc := 22) (i := 5) (n := 1) (lv' := [(0, .ref 203), (1, .int (zJ v1)), (2, .int (zJ v2)), (3, .int (zJ v3)), (4, .int (zJ v4)), (5, .int (zJ (v5 + 1)))]) 5 (by decide +kernel) rfl rfl (Nat.le_of_ble_eq_true rfl) rfl ?_
    refine zw_goto (pc := 25) (off := (-18)) (tgt := 7) (by decide +kernel) (by decide) ?_
    exact h
theorem sg_X11_tries_96 {g : zG} {φ : zMu → Prop} {v5 : Int} {μ : zMu}
    (h : (zR v5) ∧ ((81 ≤ v5 → φ μ) ∧ (v5 < 81 → (zR (μ 203 24)) ∧ ((¬ (μ 203 24) = 1 → φ μ) ∧ ((μ 203 24) = 1 → (0 ≤ v5 ∧ v5 < 81) ∧ at_X11_tries_96 g φ (v5 + 1) (zup μ 219 v5.toNat (μ 218 v5.toNat))))))) : at_X11_tries_96 g φ v5 μ := by
  obtain ⟨o1, h⟩ := h
  refine zw_iload (pc := 96) (i := 5) 1 (by decide +kernel) rfl ?_
  refine zw_bipush (pc := 98) (n := 81) (by decide +kernel) (by decide +kernel) ?_
  refine zw_icmp_ge (pc := 100) (off := 31) (tgt := 131) (by decide +kernel) (by decide) o1 ⟨by decide, by decide⟩ (fun hc => ?_) (fun hc => ?_)
  · replace h := h.1 hc
    exact zw_vret (pc := 131) (by decide +kernel) rfl (Nat.le_refl _) (Nat.le_refl _) ⟨_, rfl, rfl, h⟩
  · replace h := h.2 hc
    obtain ⟨o2, h⟩ := h
    refine zw_aload_n (pc := 103) (n := 0) (i := 0) 0 (by decide +kernel) rfl rfl ?_
    refine zx_getI (pc := 104) zf_11_226 (by decide +kernel) rfl zc_203 ?_
    refine zw_iconst (pc := 107) (n := 1) (by decide +kernel) ?_
    refine zw_icmp_ne (pc := 108) (off := 23) (tgt := 131) (by decide +kernel) (by decide) o2 ⟨by decide, by decide⟩ (fun hc => ?_) (fun hc => ?_)
    · replace h := h.1 hc
      exact zw_vret (pc := 131) (by decide +kernel) rfl (Nat.le_refl _) (Nat.le_refl _) ⟨_, rfl, rfl, h⟩
    · replace h := h.2 hc
      obtain ⟨o3, h⟩ := h
      refine zw_aload_n (pc := 111) (n := 0) (i := 0) 0 (by decide +kernel) rfl rfl ?_
      refine zx_getR (pc := 112) (o := 16) (r := 219) zf_11_61 (by decide +kernel) rfl zc_203 rfl (by decide) rfl ?_
      refine zw_iload (pc := 115) (i := 5) 1 (by decide +kernel) rfl ?_
      refine zw_aload_n (pc := 117) (n := 0) (i := 0) 0 (by decide +kernel) rfl rfl ?_
      refine zx_getR (pc := 118) (o := 15) (r := 218) zf_11_58 (by decide +kernel) rfl zc_203 rfl (by decide) rfl ?_
      refine zw_iload (pc := 121) (i := 5) 1 (by decide +kernel) rfl ?_
      refine zx_iaload (pc := 123) (by decide +kernel) ⟨81, zc_218, o3.1, o3.2⟩ ?_
      refine zx_iastore (pc := 124) (by decide +kernel) ⟨81, zc_219, o3.1, o3.2⟩ ?_
      refine zw_iinc (pc := 125) (i := 5) (n := 1) (lv' := [(0, .ref 203), (5, .int (zJ (v5 + 1)))]) 1 (by decide +kernel) rfl rfl (Nat.le_of_ble_eq_true rfl) rfl ?_
      refine zw_goto (pc := 128) (off := (-32)) (tgt := 96) (by decide +kernel) (by decide) ?_
      exact h
abbrev at_X11_emptiesColumn_2 (g : zG) (φ : zMu → Prop) (v1 : Int) (μ : zMu) : Prop := zWP g zm_X11_emptiesColumn (zmo g zm_X11_emptiesColumn (zΦv φ)) 2 [(0, .ref 203), (1, .int (zJ v1))] [] 0 0 (zw μ)
theorem sg_X11_emptiesColumn {g : zG} {φ : zMu → Prop} {μ : zMu}
    (h : at_X11_emptiesColumn_2 g φ 0 μ) : zOv g zm_X11_emptiesColumn [.ref 203] μ φ := by
  refine zok_of (by decide +kernel) rfl ?_
  show zWP g zm_X11_emptiesColumn (zmo g zm_X11_emptiesColumn (zΦv φ)) 0 [(0, .ref 203)] [] 0 0 (zw μ)
  refine zw_iconst (pc := 0) (n := 0) (by decide +kernel) ?_
  refine zw_istore_n (pc := 1) (n := 1) (i := 1) (lv' := [(0, .ref 203), (1, .int (zJ 0))]) (by decide +kernel) rfl (Nat.le_of_ble_eq_true rfl) rfl ?_
  exact h
theorem sg_X11_emptiesColumn_2 {g : zG} {φ : zMu → Prop} {v1 : Int} {μ : zMu}
    (h : (zR v1) ∧ ((80 ≤ v1 → φ μ) ∧ (v1 < 80 → (0 ≤ v1 ∧ v1 < 80) ∧ at_X11_emptiesColumn_2 g φ (v1 + 1) (zup μ 214 v1.toNat 0)))) : at_X11_emptiesColumn_2 g φ v1 μ := by
  obtain ⟨o1, h⟩ := h
  refine zw_iload_n (pc := 2) (n := 1) (i := 1) 1 (by decide +kernel) rfl rfl ?_
  refine zw_bipush (pc := 3) (n := 80) (by decide +kernel) (by decide +kernel) ?_
  refine zw_icmp_ge (pc := 5) (off := 16) (tgt := 21) (by decide +kernel) (by decide) o1 ⟨by decide, by decide⟩ (fun hc => ?_) (fun hc => ?_)
  · replace h := h.1 hc
    exact zw_vret (pc := 21) (by decide +kernel) rfl (Nat.le_refl _) (Nat.le_refl _) ⟨_, rfl, rfl, h⟩
  · replace h := h.2 hc
    obtain ⟨o2, h⟩ := h
    refine zw_aload_n (pc := 8) (n := 0) (i := 0) 0 (by decide +kernel) rfl rfl ?_
    refine zx_getR (pc := 9) (o := 11) (r := 214) zf_11_46 (by decide +kernel) rfl zc_203 rfl (by decide) rfl ?_
    refine zw_iload_n (pc := 12) (n := 1) (i := 1) 1 (by decide +kernel) rfl rfl ?_
    refine zw_iconst (pc := 13) (n := 0) (by decide +kernel) ?_
    refine zx_iastore (pc := 14) (by decide +kernel) ⟨80, zc_214, o2.1, o2.2⟩ ?_
    refine zw_iinc (pc := 15) (i := 1) (n := 1) (lv' := [(0, .ref 203), (1, .int (zJ (v1 + 1)))]) 1 (by decide +kernel) rfl rfl (Nat.le_of_ble_eq_true rfl) rfl ?_
    refine zw_goto (pc := 18) (off := (-16)) (tgt := 2) (by decide +kernel) (by decide) ?_
    exact h
abbrev at_X11_adds_24 (g : zG) (φ : zMu → Prop) (v1 : Int) (v2 : Int) (v3 : Int) (v4 : Int) (v5 : Int) (μ : zMu) : Prop := zWP g zm_X11_adds (zmo g zm_X11_adds (zΦv φ)) 24 [(0, .ref 203), (1, .int (zJ v1)), (2, .int (zJ v2)), (3, .int (zJ v3)), (4, .int (zJ v4)), (5, .int (zJ v5))] [] 0 0 (zw μ)
abbrev at_X11_adds_39 (g : zG) (φ : zMu → Prop) (v1 : Int) (v2 : Int) (v3 : Int) (v4 : Int) (v5 : Int) (v6 : Int) (v7 : Int) (μ : zMu) : Prop := zWP g zm_X11_adds (zmo g zm_X11_adds (zΦv φ)) 39 [(0, .ref 203), (1, .int (zJ v1)), (2, .int (zJ v2)), (3, .int (zJ v3)), (4, .int (zJ v4)), (5, .int (zJ v5)), (6, .int (zJ v6)), (7, .int (zJ v7))] [] 0 0 (zw μ)
theorem sg_X11_adds {g : zG} {φ : zMu → Prop} {v1 : Int} {v2 : Int} {v3 : Int} {μ : zMu}
    (h : at_X11_adds_24 g φ v1 v2 v3 (((v1 * (μ 203 16)) + (v2 * (μ 203 17))) - (μ 203 15)) (((v1 * (μ 203 16)) + (v2 * (μ 203 17))) - (μ 203 15)) μ) : zOv g zm_X11_adds [.ref 203, .int (zJ v1), .int (zJ v2), .int (zJ v3)] μ φ := by
  refine zok_of (by decide +kernel) rfl ?_
  show zWP g zm_X11_adds (zmo g zm_X11_adds (zΦv φ)) 0 [(0, .ref 203), (1, .int (zJ v1)), (2, .int (zJ v2)), (3, .int (zJ v3))] [] 0 0 (zw μ)
  refine zw_iload_n (pc := 0) (n := 1) (i := 1) 1 (by decide +kernel) rfl rfl ?_
  refine zw_aload_n (pc := 1) (n := 0) (i := 0) 0 (by decide +kernel) rfl rfl ?_
  refine zx_getI (pc := 2) zf_11_192 (by decide +kernel) rfl zc_203 ?_
  refine zw_imul (pc := 5) (by decide +kernel) ?_
  refine zw_iload_n (pc := 6) (n := 2) (i := 2) 2 (by decide +kernel) rfl rfl ?_
  refine zw_aload_n (pc := 7) (n := 0) (i := 0) 0 (by decide +kernel) rfl rfl ?_
  refine zx_getI (pc := 8) zf_11_195 (by decide +kernel) rfl zc_203 ?_
  refine zw_imul (pc := 11) (by decide +kernel) ?_
  refine zw_iadd (pc := 12) (by decide +kernel) ?_
  refine zw_aload_n (pc := 13) (n := 0) (i := 0) 0 (by decide +kernel) rfl rfl ?_
  refine zx_getI (pc := 14) zf_11_198 (by decide +kernel) rfl zc_203 ?_
  refine zw_isub (pc := 17) (by decide +kernel) ?_
  refine zw_istore (pc := 18) (i := 4) (lv' := [(0, .ref 203), (1, .int (zJ v1)), (2, .int (zJ v2)), (3, .int (zJ v3)), (4, .int (zJ (((v1 * (μ 203 16)) + (v2 * (μ 203 17))) - (μ 203 15))))]) (by decide +kernel) (Nat.le_of_ble_eq_true rfl) rfl ?_
  refine zw_iload (pc := 20) (i := 4) 4 (by decide +kernel) rfl ?_
  refine zw_istore (pc := 22) (i := 5) (lv' := [(0, .ref 203), (1, .int (zJ v1)), (2, .int (zJ v2)), (3, .int (zJ v3)), (4, .int (zJ (((v1 * (μ 203 16)) + (v2 * (μ 203 17))) - (μ 203 15)))), (5, .int (zJ (((v1 * (μ 203 16)) + (v2 * (μ 203 17))) - (μ 203 15))))]) (by decide +kernel) (Nat.le_of_ble_eq_true rfl) rfl ?_
  exact h
theorem sg_X11_adds_24 {g : zG} {φ : zMu → Prop} {v1 : Int} {v2 : Int} {v3 : Int} {v4 : Int} {v5 : Int} {μ : zMu}
    (h : (zR v5) ∧ (zR (μ 203 14)) ∧ (((μ 203 14) ≤ v5 → φ μ) ∧ (v5 < (μ 203 14) → at_X11_adds_39 g φ v1 v2 v3 v4 v5 0 0 μ))) : at_X11_adds_24 g φ v1 v2 v3 v4 v5 μ := by
  obtain ⟨o1, o2, h⟩ := h
  refine zw_iload (pc := 24) (i := 5) 5 (by decide +kernel) rfl ?_
  refine zw_aload_n (pc := 26) (n := 0) (i := 0) 0 (by decide +kernel) rfl rfl ?_
  refine zx_getI (pc := 27) zf_11_189 (by decide +kernel) rfl zc_203 ?_
  refine zw_icmp_ge (pc := 30) (off := 96) (tgt := 126) (by decide +kernel) (by decide) o1 o2 (fun hc => ?_) (fun hc => ?_)
  · replace h := h.1 hc
    exact zw_vret (pc := 126) (by decide +kernel) rfl (Nat.le_refl _) (Nat.le_refl _) ⟨_, rfl, rfl, h⟩
  · replace h := h.2 hc
    refine zw_iconst (pc := 33) (n := 0) (by decide +kernel) ?_
    refine zw_istore (pc := 34) (i := 6) (lv' := [(0, .ref 203), (1, .int (zJ v1)), (2, .int (zJ v2)), (3, .int (zJ v3)), (4, .int (zJ v4)), (5, .int (zJ v5)), (6, .int (zJ 0))]) (by decide +kernel) (Nat.le_of_ble_eq_true rfl) rfl ?_
    refine zw_iconst (pc := 36) (n := 0) (by decide +kernel) ?_
    refine zw_istore (pc := 37) (i := 7) (lv' := [(0, .ref 203), (1, .int (zJ v1)), (2, .int (zJ v2)), (3, .int (zJ v3)), (4, .int (zJ v4)), (5, .int (zJ v5)), (6, .int (zJ 0)), (7, .int (zJ 0))]) (by decide +kernel) (Nat.le_of_ble_eq_true rfl) rfl ?_
    exact h
theorem sg_X11_adds_39 {g : zG} {φ : zMu → Prop} {v1 : Int} {v2 : Int} {v3 : Int} {v4 : Int} {v5 : Int} {v6 : Int} {v7 : Int} {μ : zMu}
    (h : (zR v7) ∧ (zR (v5 - v4)) ∧ (((v5 - v4) < v7 → (0 ≤ v5 ∧ v5 < 80) ∧ (zR ((μ 214 v5.toNat) + (v3 * v6))) ∧ (zR (μ 203 0)) ∧ ((μ 203 0) ≠ 0) ∧ at_X11_adds_24 g φ v1 v2 v3 v4 (v5 + 1) (zup μ 214 v5.toNat (((μ 214 v5.toNat) + (v3 * v6)).tmod (μ 203 0)))) ∧ (v7 ≤ (v5 - v4) → (0 ≤ ((80 * v1) + v7) ∧ ((80 * v1) + v7) < 720) ∧ (0 ≤ ((((80 * v2) + v5) - v4) - v7) ∧ ((((80 * v2) + v5) - v4) - v7) < 720) ∧ (zR (v6 + ((μ 212 (Int.toNat ((80 * v1) + v7))) * (μ 213 (Int.toNat ((((80 * v2) + v5) - v4) - v7)))))) ∧ (zR (μ 203 0)) ∧ ((μ 203 0) ≠ 0) ∧ at_X11_adds_39 g φ v1 v2 v3 v4 v5 ((v6 + ((μ 212 (Int.toNat ((80 * v1) + v7))) * (μ 213 (Int.toNat ((((80 * v2) + v5) - v4) - v7))))).tmod (μ 203 0)) (v7 + 1) μ))) : at_X11_adds_39 g φ v1 v2 v3 v4 v5 v6 v7 μ := by
  obtain ⟨o1, o2, h⟩ := h
  refine zw_iload (pc := 39) (i := 7) 7 (by decide +kernel) rfl ?_
  refine zw_iload (pc := 41) (i := 5) 5 (by decide +kernel) rfl ?_
  refine zw_iload (pc := 43) (i := 4) 4 (by decide +kernel) rfl ?_
  refine zw_isub (pc := 45) (by decide +kernel) ?_
  refine zw_icmp_gt (pc := 46) (off := 50) (tgt := 96) (by decide +kernel) (by decide) o1 o2 (fun hc => ?_) (fun hc => ?_)
  · replace h := h.1 hc
    obtain ⟨o3, o4, o5, o6, h⟩ := h
    refine zw_aload_n (pc := 96) (n := 0) (i := 0) 0 (by decide +kernel) rfl rfl ?_
    refine zx_getR (pc := 97) (o := 11) (r := 214) zf_11_46 (by decide +kernel) rfl zc_203 rfl (by decide) rfl ?_
    refine zw_iload (pc := 100) (i := 5) 5 (by decide +kernel) rfl ?_
    refine zw_aload_n (pc := 102) (n := 0) (i := 0) 0 (by decide +kernel) rfl rfl ?_
    refine zx_getR (pc := 103) (o := 11) (r := 214) zf_11_46 (by decide +kernel) rfl zc_203 rfl (by decide) rfl ?_
    refine zw_iload (pc := 106) (i := 5) 5 (by decide +kernel) rfl ?_
    refine zx_iaload (pc := 108) (by decide +kernel) ⟨80, zc_214, o3.1, o3.2⟩ ?_
    refine zw_iload_n (pc := 109) (n := 3) (i := 3) 3 (by decide +kernel) rfl rfl ?_
    refine zw_iload (pc := 110) (i := 6) 6 (by decide +kernel) rfl ?_
    refine zw_imul (pc := 112) (by decide +kernel) ?_
    refine zw_iadd (pc := 113) (by decide +kernel) ?_
    refine zw_aload_n (pc := 114) (n := 0) (i := 0) 0 (by decide +kernel) rfl rfl ?_
    refine zx_getI (pc := 115) zf_11_9 (by decide +kernel) rfl zc_203 ?_
    refine zw_irem (pc := 118) (by decide +kernel) o4 o5 o6 ?_
    refine zx_iastore (pc := 119) (by decide +kernel) ⟨80, zc_214, o3.1, o3.2⟩ ?_
    refine zw_iinc (pc := 120) (i := 5) (n := 1) (lv' := [(0, .ref 203), (1, .int (zJ v1)), (2, .int (zJ v2)), (3, .int (zJ v3)), (4, .int (zJ v4)), (5, .int (zJ (v5 + 1))), (6, .int (zJ v6)), (7, .int (zJ v7))]) 5 (by decide +kernel) rfl rfl (Nat.le_of_ble_eq_true rfl) rfl ?_
    refine zw_goto (pc := 123) (off := (-99)) (tgt := 24) (by decide +kernel) (by decide) ?_
    exact zw_pick (lv' := [(0, .ref 203), (1, .int (zJ v1)), (2, .int (zJ v2)), (3, .int (zJ v3)), (4, .int (zJ v4)), (5, .int (zJ (v5 + 1)))]) [0, 1, 2, 3, 4, 5] rfl h
  · replace h := h.2 hc
    obtain ⟨o7, o8, o9, o10, o11, h⟩ := h
    refine zw_iload (pc := 49) (i := 6) 6 (by decide +kernel) rfl ?_
    refine zw_aload_n (pc := 51) (n := 0) (i := 0) 0 (by decide +kernel) rfl rfl ?_
    refine zx_getR (pc := 52) (o := 9) (r := 212) zf_11_40 (by decide +kernel) rfl zc_203 rfl (by decide) rfl ?_
    refine zw_bipush (pc := 55) (n := 80) (by decide +kernel) (by decide +kernel) ?_
    refine zw_iload_n (pc := 57) (n := 1) (i := 1) 1 (by decide +kernel) rfl rfl ?_
    refine zw_imul (pc := 58) (by decide +kernel) ?_
    refine zw_iload (pc := 59) (i := 7) 7 (by decide +kernel) rfl ?_
    refine zw_iadd (pc := 61) (by decide +kernel) ?_
    refine zx_iaload (pc := 62) (by decide +kernel) ⟨720, zc_212, o7.1, o7.2⟩ ?_
    refine zw_aload_n (pc := 63) (n := 0) (i := 0) 0 (by decide +kernel) rfl rfl ?_
    refine zx_getR (pc := 64) (o := 10) (r := 213) zf_11_43 (by decide +kernel) rfl zc_203 rfl (by decide) rfl ?_
    refine zw_bipush (pc := 67) (n := 80) (by decide +kernel) (by decide +kernel) ?_
    refine zw_iload_n (pc := 69) (n := 2) (i := 2) 2 (by decide +kernel) rfl rfl ?_
    refine zw_imul (pc := 70) (by decide +kernel) ?_
    refine zw_iload (pc := 71) (i := 5) 5 (by decide +kernel) rfl ?_
    refine zw_iadd (pc := 73) (by decide +kernel) ?_
    refine zw_iload (pc := 74) (i := 4) 4 (by decide +kernel) rfl ?_
    refine zw_isub (pc := 76) (by decide +kernel) ?_
    refine zw_iload (pc := 77) (i := 7) 7 (by decide +kernel) rfl ?_
    refine zw_isub (pc := 79) (by decide +kernel) ?_
    refine zx_iaload (pc := 80) (by decide +kernel) ⟨720, zc_213, o8.1, o8.2⟩ ?_
    refine zw_imul (pc := 81) (by decide +kernel) ?_
    refine zw_iadd (pc := 82) (by decide +kernel) ?_
    refine zw_aload_n (pc := 83) (n := 0) (i := 0) 0 (by decide +kernel) rfl rfl ?_
    refine zx_getI (pc := 84) zf_11_9 (by decide +kernel) rfl zc_203 ?_
    refine zw_irem (pc := 87) (by decide +kernel) o9 o10 o11 ?_
    refine zw_istore (pc := 88) (i := 6) (lv' := [(0, .ref 203), (1, .int (zJ v1)), (2, .int (zJ v2)), (3, .int (zJ v3)), (4, .int (zJ v4)), (5, .int (zJ v5)), (6, .int (zJ ((v6 + ((μ 212 (Int.toNat ((80 * v1) + v7))) * (μ 213 (Int.toNat ((((80 * v2) + v5) - v4) - v7))))).tmod (μ 203 0)))), (7, .int (zJ v7))]) (by decide +kernel) (Nat.le_of_ble_eq_true rfl) rfl ?_
    refine zw_iinc (pc := 90) (i := 7) (n := 1) (lv' := [(0, .ref 203), (1, .int (zJ v1)), (2, .int (zJ v2)), (3, .int (zJ v3)), (4, .int (zJ v4)), (5, .int (zJ v5)), (6, .int (zJ ((v6 + ((μ 212 (Int.toNat ((80 * v1) + v7))) * (μ 213 (Int.toNat ((((80 * v2) + v5) - v4) - v7))))).tmod (μ 203 0)))), (7, .int (zJ (v7 + 1)))]) 7 (by decide +kernel) rfl rfl (Nat.le_of_ble_eq_true rfl) rfl ?_
    refine zw_goto (pc := 93) (off := (-54)) (tgt := 39) (by decide +kernel) (by decide) ?_
    exact h
theorem sg_X11_place {g : zG} {φ : Int → zMu → Prop} {v0 : Int} {v1 : Int} {v2 : Int} {μ : zMu}
    (h : φ (((v0 + 1) * v1) + v2) μ) : zOi g zm_X11_place [.int (zJ v0), .int (zJ v1), .int (zJ v2)] μ φ := by
  refine zok_of (by decide +kernel) rfl ?_
  show zWP g zm_X11_place (zmo g zm_X11_place (zΦi φ)) 0 [(0, .int (zJ v0)), (1, .int (zJ v1)), (2, .int (zJ v2))] [] 0 0 (zw μ)
  refine zw_iload_n (pc := 0) (n := 0) (i := 0) 0 (by decide +kernel) rfl rfl ?_
  refine zw_iconst (pc := 1) (n := 1) (by decide +kernel) ?_
  refine zw_iadd (pc := 2) (by decide +kernel) ?_
  refine zw_iload_n (pc := 3) (n := 1) (i := 1) 1 (by decide +kernel) rfl rfl ?_
  refine zw_imul (pc := 4) (by decide +kernel) ?_
  refine zw_iload_n (pc := 5) (n := 2) (i := 2) 2 (by decide +kernel) rfl rfl ?_
  refine zw_iadd (pc := 6) (by decide +kernel) ?_
  exact zw_iret (pc := 7) (by decide +kernel) rfl (Nat.le_refl _) (Nat.le_refl _) ⟨_, _, rfl, rfl, h⟩
abbrev at_X11_comes_2 (g : zG) (φ : Int → zMu → Prop) (v1 : Int) (μ : zMu) : Prop := zWP g zm_X11_comes (zmo g zm_X11_comes (zΦi φ)) 2 [(0, .ref 203), (1, .int (zJ v1))] [] 0 0 (zw μ)
abbrev at_X11_comes_46 (g : zG) (φ : Int → zMu → Prop) (v1 : Int) (v2 : Int) (v3 : Int) (μ : zMu) : Prop := zWP g zm_X11_comes (zmo g zm_X11_comes (zΦi φ)) 46 [(0, .ref 203), (1, .int (zJ v1)), (2, .int (zJ v2)), (3, .int (zJ v3))] [] 0 0 (zw μ)
abbrev at_X11_comes_87 (g : zG) (φ : Int → zMu → Prop) (v1 : Int) (v2 : Int) (v3 : Int) (μ : zMu) : Prop := zWP g zm_X11_comes (zmo g zm_X11_comes (zΦi φ)) 87 [(0, .ref 203), (1, .int (zJ v1)), (2, .int (zJ v2)), (3, .int (zJ v3))] [] 0 0 (zw μ)
theorem sg_X11_comes {g : zG} {φ : Int → zMu → Prop} {μ : zMu}
    (h : at_X11_comes_2 g φ 0 μ) : zOi g zm_X11_comes [.ref 203] μ φ := by
  refine zok_of (by decide +kernel) rfl ?_
  show zWP g zm_X11_comes (zmo g zm_X11_comes (zΦi φ)) 0 [(0, .ref 203)] [] 0 0 (zw μ)
  refine zw_iconst (pc := 0) (n := 0) (by decide +kernel) ?_
  refine zw_istore_n (pc := 1) (n := 1) (i := 1) (lv' := [(0, .ref 203), (1, .int (zJ 0))]) (by decide +kernel) rfl (Nat.le_of_ble_eq_true rfl) rfl ?_
  exact h
theorem sg_X11_comes_2 {g : zG} {φ : Int → zMu → Prop} {v1 : Int} {μ : zMu}
    (h : (zR v1) ∧ (zR (μ 203 22)) ∧ (((μ 203 22) ≤ v1 → zOi g zm_X11_firstOther [.ref 203] μ (fun x4 μ3 => (zR x4) ∧ ((¬ x4 = (-1) → (0 ≤ x4 ∧ x4 < 80) ∧ zOi g zm_X11_inverse [.ref 203, .int (zJ (μ3 214 x4.toNat))] μ3 (fun x8 μ7 => at_X11_comes_46 g φ x4 x8 0 μ7)) ∧ (x4 = (-1) → φ 0 μ3)))) ∧ (v1 < (μ 203 22) → zOv g zm_X11_lessens [.ref 203, .int (zJ v1)] μ (fun μ9 => at_X11_comes_2 g φ (v1 + 1) μ9)))) : at_X11_comes_2 g φ v1 μ := by
  obtain ⟨o1, o2, h⟩ := h
  refine zw_iload_n (pc := 2) (n := 1) (i := 1) 1 (by decide +kernel) rfl rfl ?_
  refine zw_aload_n (pc := 3) (n := 0) (i := 0) 0 (by decide +kernel) rfl rfl ?_
  refine zx_getI (pc := 4) zf_11_201 (by decide +kernel) rfl zc_203 ?_
  refine zw_icmp_ge (pc := 7) (off := 14) (tgt := 21) (by decide +kernel) (by decide) o1 o2 (fun hc => ?_) (fun hc => ?_)
  · replace h := h.1 hc
    refine zw_aload_n (pc := 21) (n := 0) (i := 0) 0 (by decide +kernel) rfl rfl ?_
    refine zx_callV (pc := 22) (As := []) h zi_X11_firstOther zii_X11_firstOther zie_X11_firstOther zl_11_208 (by decide +kernel) ⟨Nat.le_of_ble_eq_true rfl, Nat.le_of_ble_eq_true rfl⟩ rfl zc_203 (by decide) rfl rfl ⟨rfl, rfl⟩ ⟨Nat.zero_le _, Nat.zero_le _⟩ (zki (fun x4 μ3 h => ?_))
    obtain ⟨o5, h⟩ := h
    refine zw_istore_n (pc := 25) (n := 1) (i := 1) (lv' := [(0, .ref 203), (1, .int (zJ x4))]) (by decide +kernel) rfl (Nat.le_of_ble_eq_true rfl) rfl ?_
    refine zw_iload_n (pc := 26) (n := 1) (i := 1) 1 (by decide +kernel) rfl rfl ?_
    refine zw_iconst (pc := 27) (n := (-1)) (by decide +kernel) ?_
    refine zw_icmp_ne (pc := 28) (off := 5) (tgt := 33) (by decide +kernel) (by decide) o5 ⟨by decide, by decide⟩ (fun hc => ?_) (fun hc => ?_)
    · replace h := h.1 hc
      obtain ⟨o6, h⟩ := h
      refine zw_aload_n (pc := 33) (n := 0) (i := 0) 0 (by decide +kernel) rfl rfl ?_
      refine zw_aload_n (pc := 34) (n := 0) (i := 0) 0 (by decide +kernel) rfl rfl ?_
      refine zx_getR (pc := 35) (o := 11) (r := 214) zf_11_46 (by decide +kernel) rfl zc_203 rfl (by decide) rfl ?_
      refine zw_iload_n (pc := 38) (n := 1) (i := 1) 1 (by decide +kernel) rfl rfl ?_
      refine zx_iaload (pc := 39) (by decide +kernel) ⟨80, zc_214, o6.1, o6.2⟩ ?_
      refine zx_callV (pc := 40) (As := [.int (zJ (μ3 214 x4.toNat))]) h zi_X11_inverse zii_X11_inverse zie_X11_inverse zl_11_137 (by decide +kernel) ⟨Nat.le_of_ble_eq_true rfl, Nat.le_of_ble_eq_true rfl⟩ rfl zc_203 (by decide) rfl rfl ⟨rfl, rfl⟩ ⟨Nat.zero_le _, Nat.zero_le _⟩ (zki (fun x8 μ7 h => ?_))
      refine zw_istore_n (pc := 43) (n := 2) (i := 2) (lv' := [(0, .ref 203), (1, .int (zJ x4)), (2, .int (zJ x8))]) (by decide +kernel) rfl (Nat.le_of_ble_eq_true rfl) rfl ?_
      refine zw_iconst (pc := 44) (n := 0) (by decide +kernel) ?_
      refine zw_istore_n (pc := 45) (n := 3) (i := 3) (lv' := [(0, .ref 203), (1, .int (zJ x4)), (2, .int (zJ x8)), (3, .int (zJ 0))]) (by decide +kernel) rfl (Nat.le_of_ble_eq_true rfl) rfl ?_
      exact h
    · replace h := h.2 hc
      refine zw_iconst (pc := 31) (n := 0) (by decide +kernel) ?_
      exact zw_zret (pc := 32) (by decide +kernel) rfl (Nat.le_refl _) (Nat.le_refl _) (Or.inl rfl) ⟨_, _, rfl, rfl, h⟩
  · replace h := h.2 hc
    refine zw_aload_n (pc := 10) (n := 0) (i := 0) 0 (by decide +kernel) rfl rfl ?_
    refine zw_iload_n (pc := 11) (n := 1) (i := 1) 1 (by decide +kernel) rfl rfl ?_
    refine zx_callV (pc := 12) (As := [.int (zJ v1)]) h zi_X11_lessens zii_X11_lessens zie_X11_lessens zl_11_204 (by decide +kernel) ⟨Nat.le_of_ble_eq_true rfl, Nat.le_of_ble_eq_true rfl⟩ rfl zc_203 (by decide) rfl rfl ⟨rfl, rfl⟩ ⟨Nat.zero_le _, Nat.zero_le _⟩ (zkv (fun μ9 h => ?_))
    refine zw_iinc (pc := 15) (i := 1) (n := 1) (lv' := [(0, .ref 203), (1, .int (zJ (v1 + 1)))]) 1 (by decide +kernel) rfl rfl (Nat.le_of_ble_eq_true rfl) rfl ?_
    refine zw_goto (pc := 18) (off := (-16)) (tgt := 2) (by decide +kernel) (by decide) ?_
    exact h
theorem sg_X11_comes_46 {g : zG} {φ : Int → zMu → Prop} {v1 : Int} {v2 : Int} {v3 : Int} {μ : zMu}
    (h : (zR v3) ∧ ((80 ≤ v3 → at_X11_comes_87 g φ v1 v2 0 μ) ∧ (v3 < 80 → (0 ≤ v3 ∧ v3 < 80) ∧ (zR ((μ 214 v3.toNat) * v2)) ∧ (zR (μ 203 0)) ∧ ((μ 203 0) ≠ 0) ∧ (0 ≤ ((80 * (μ 203 22)) + v3) ∧ ((80 * (μ 203 22)) + v3) < 6400) ∧ at_X11_comes_46 g φ v1 v2 (v3 + 1) (zup μ 215 (Int.toNat ((80 * (μ 203 22)) + v3)) (((μ 214 v3.toNat) * v2).tmod (μ 203 0)))))) : at_X11_comes_46 g φ v1 v2 v3 μ := by
  obtain ⟨o1, h⟩ := h
  refine zw_iload_n (pc := 46) (n := 3) (i := 3) 3 (by decide +kernel) rfl rfl ?_
  refine zw_bipush (pc := 47) (n := 80) (by decide +kernel) (by decide +kernel) ?_
  refine zw_icmp_ge (pc := 49) (off := 36) (tgt := 85) (by decide +kernel) (by decide) o1 ⟨by decide, by decide⟩ (fun hc => ?_) (fun hc => ?_)
  · replace h := h.1 hc
    refine zw_iconst (pc := 85) (n := 0) (by decide +kernel) ?_
    refine zw_istore_n (pc := 86) (n := 3) (i := 3) (lv' := [(0, .ref 203), (1, .int (zJ v1)), (2, .int (zJ v2)), (3, .int (zJ 0))]) (by decide +kernel) rfl (Nat.le_of_ble_eq_true rfl) rfl ?_
    exact h
  · replace h := h.2 hc
    obtain ⟨o2, o3, o4, o5, o6, h⟩ := h
    refine zw_aload_n (pc := 52) (n := 0) (i := 0) 0 (by decide +kernel) rfl rfl ?_
    refine zx_getR (pc := 53) (o := 12) (r := 215) zf_11_49 (by decide +kernel) rfl zc_203 rfl (by decide) rfl ?_
    refine zw_bipush (pc := 56) (n := 80) (by decide +kernel) (by decide +kernel) ?_
    refine zw_aload_n (pc := 58) (n := 0) (i := 0) 0 (by decide +kernel) rfl rfl ?_
    refine zx_getI (pc := 59) zf_11_201 (by decide +kernel) rfl zc_203 ?_
    refine zw_imul (pc := 62) (by decide +kernel) ?_
    refine zw_iload_n (pc := 63) (n := 3) (i := 3) 3 (by decide +kernel) rfl rfl ?_
    refine zw_iadd (pc := 64) (by decide +kernel) ?_
    refine zw_aload_n (pc := 65) (n := 0) (i := 0) 0 (by decide +kernel) rfl rfl ?_
    refine zx_getR (pc := 66) (o := 11) (r := 214) zf_11_46 (by decide +kernel) rfl zc_203 rfl (by decide) rfl ?_
    refine zw_iload_n (pc := 69) (n := 3) (i := 3) 3 (by decide +kernel) rfl rfl ?_
    refine zx_iaload (pc := 70) (by decide +kernel) ⟨80, zc_214, o2.1, o2.2⟩ ?_
    refine zw_iload_n (pc := 71) (n := 2) (i := 2) 2 (by decide +kernel) rfl rfl ?_
    refine zw_imul (pc := 72) (by decide +kernel) ?_
    refine zw_aload_n (pc := 73) (n := 0) (i := 0) 0 (by decide +kernel) rfl rfl ?_
    refine zx_getI (pc := 74) zf_11_9 (by decide +kernel) rfl zc_203 ?_
    refine zw_irem (pc := 77) (by decide +kernel) o3 o4 o5 ?_
    refine zx_iastore (pc := 78) (by decide +kernel) ⟨6400, zc_215, o6.1, o6.2⟩ ?_
    refine zw_iinc (pc := 79) (i := 3) (n := 1) (lv' := [(0, .ref 203), (1, .int (zJ v1)), (2, .int (zJ v2)), (3, .int (zJ (v3 + 1)))]) 3 (by decide +kernel) rfl rfl (Nat.le_of_ble_eq_true rfl) rfl ?_
    refine zw_goto (pc := 82) (off := (-36)) (tgt := 46) (by decide +kernel) (by decide) ?_
    exact h
theorem sg_X11_comes_87 {g : zG} {φ : Int → zMu → Prop} {v1 : Int} {v2 : Int} {v3 : Int} {μ : zMu}
    (h : (zR v3) ∧ ((81 ≤ v3 → (0 ≤ (μ 203 22) ∧ (μ 203 22) < 80) ∧ φ 1 (zup (zup μ 217 (Int.toNat (μ 203 22)) v1) 203 22 (((zup μ 217 (Int.toNat (μ 203 22)) v1) 203 22) + 1))) ∧ (v3 < 81 → (0 ≤ v3 ∧ v3 < 81) ∧ (zR ((μ 218 v3.toNat) * v2)) ∧ (zR (μ 203 0)) ∧ ((μ 203 0) ≠ 0) ∧ (0 ≤ ((81 * (μ 203 22)) + v3) ∧ ((81 * (μ 203 22)) + v3) < 6480) ∧ at_X11_comes_87 g φ v1 v2 (v3 + 1) (zup μ 216 (Int.toNat ((81 * (μ 203 22)) + v3)) (((μ 218 v3.toNat) * v2).tmod (μ 203 0)))))) : at_X11_comes_87 g φ v1 v2 v3 μ := by
  obtain ⟨o1, h⟩ := h
  refine zw_iload_n (pc := 87) (n := 3) (i := 3) 3 (by decide +kernel) rfl rfl ?_
  refine zw_bipush (pc := 88) (n := 81) (by decide +kernel) (by decide +kernel) ?_
  refine zw_icmp_ge (pc := 90) (off := 36) (tgt := 126) (by decide +kernel) (by decide) o1 ⟨by decide, by decide⟩ (fun hc => ?_) (fun hc => ?_)
  · replace h := h.1 hc
    obtain ⟨o2, h⟩ := h
    refine zw_aload_n (pc := 126) (n := 0) (i := 0) 0 (by decide +kernel) rfl rfl ?_
    refine zx_getR (pc := 127) (o := 14) (r := 217) zf_11_55 (by decide +kernel) rfl zc_203 rfl (by decide) rfl ?_
    refine zw_aload_n (pc := 130) (n := 0) (i := 0) 0 (by decide +kernel) rfl rfl ?_
    refine zx_getI (pc := 131) zf_11_201 (by decide +kernel) rfl zc_203 ?_
    refine zw_iload_n (pc := 134) (n := 1) (i := 1) 1 (by decide +kernel) rfl rfl ?_
    refine zx_iastore (pc := 135) (by decide +kernel) ⟨80, zc_217, o2.1, o2.2⟩ ?_
    refine zw_aload_n (pc := 136) (n := 0) (i := 0) 0 (by decide +kernel) rfl rfl ?_
    refine zw_dup (pc := 137) (by decide +kernel) rfl ?_
    refine zx_getI (pc := 138) zf_11_201 (by decide +kernel) rfl zc_203 ?_
    refine zw_iconst (pc := 141) (n := 1) (by decide +kernel) ?_
    refine zw_iadd (pc := 142) (by decide +kernel) ?_
    refine zx_putI (pc := 143) zf_11_201 (by decide +kernel) rfl zc_203 ?_
    refine zw_iconst (pc := 146) (n := 1) (by decide +kernel) ?_
    exact zw_zret (pc := 147) (by decide +kernel) rfl (Nat.le_refl _) (Nat.le_refl _) (Or.inr rfl) ⟨_, _, rfl, rfl, h⟩
  · replace h := h.2 hc
    obtain ⟨o3, o4, o5, o6, o7, h⟩ := h
    refine zw_aload_n (pc := 93) (n := 0) (i := 0) 0 (by decide +kernel) rfl rfl ?_
    refine zx_getR (pc := 94) (o := 13) (r := 216) zf_11_52 (by decide +kernel) rfl zc_203 rfl (by decide) rfl ?_
    refine zw_bipush (pc := 97) (n := 81) (by decide +kernel) (by decide +kernel) ?_
    refine zw_aload_n (pc := 99) (n := 0) (i := 0) 0 (by decide +kernel) rfl rfl ?_
    refine zx_getI (pc := 100) zf_11_201 (by decide +kernel) rfl zc_203 ?_
    refine zw_imul (pc := 103) (by decide +kernel) ?_
    refine zw_iload_n (pc := 104) (n := 3) (i := 3) 3 (by decide +kernel) rfl rfl ?_
    refine zw_iadd (pc := 105) (by decide +kernel) ?_
    refine zw_aload_n (pc := 106) (n := 0) (i := 0) 0 (by decide +kernel) rfl rfl ?_
    refine zx_getR (pc := 107) (o := 15) (r := 218) zf_11_58 (by decide +kernel) rfl zc_203 rfl (by decide) rfl ?_
    refine zw_iload_n (pc := 110) (n := 3) (i := 3) 3 (by decide +kernel) rfl rfl ?_
    refine zx_iaload (pc := 111) (by decide +kernel) ⟨81, zc_218, o3.1, o3.2⟩ ?_
    refine zw_iload_n (pc := 112) (n := 2) (i := 2) 2 (by decide +kernel) rfl rfl ?_
    refine zw_imul (pc := 113) (by decide +kernel) ?_
    refine zw_aload_n (pc := 114) (n := 0) (i := 0) 0 (by decide +kernel) rfl rfl ?_
    refine zx_getI (pc := 115) zf_11_9 (by decide +kernel) rfl zc_203 ?_
    refine zw_irem (pc := 118) (by decide +kernel) o4 o5 o6 ?_
    refine zx_iastore (pc := 119) (by decide +kernel) ⟨6480, zc_216, o7.1, o7.2⟩ ?_
    refine zw_iinc (pc := 120) (i := 3) (n := 1) (lv' := [(0, .ref 203), (1, .int (zJ v1)), (2, .int (zJ v2)), (3, .int (zJ (v3 + 1)))]) 3 (by decide +kernel) rfl rfl (Nat.le_of_ble_eq_true rfl) rfl ?_
    refine zw_goto (pc := 123) (off := (-36)) (tgt := 87) (by decide +kernel) (by decide) ?_
    exact h
abbrev at_X11_lessens_19 (g : zG) (φ : zMu → Prop) (v1 : Int) (v2 : Int) (v3 : Int) (μ : zMu) : Prop := zWP g zm_X11_lessens (zmo g zm_X11_lessens (zΦv φ)) 19 [(0, .ref 203), (1, .int (zJ v1)), (2, .int (zJ v2)), (3, .int (zJ v3))] [] 0 0 (zw μ)
abbrev at_X11_lessens_66 (g : zG) (φ : zMu → Prop) (v1 : Int) (v2 : Int) (v3 : Int) (μ : zMu) : Prop := zWP g zm_X11_lessens (zmo g zm_X11_lessens (zΦv φ)) 66 [(0, .ref 203), (1, .int (zJ v1)), (2, .int (zJ v2)), (3, .int (zJ v3))] [] 0 0 (zw μ)
theorem sg_X11_lessens {g : zG} {φ : zMu → Prop} {v1 : Int} {μ : zMu}
    (h : (0 ≤ v1 ∧ v1 < 80) ∧ (0 ≤ (μ 217 v1.toNat) ∧ (μ 217 v1.toNat) < 80) ∧ at_X11_lessens_19 g φ v1 ((μ 203 0) - (μ 214 (Int.toNat (μ 217 v1.toNat)))) 0 μ) : zOv g zm_X11_lessens [.ref 203, .int (zJ v1)] μ φ := by
  refine zok_of (by decide +kernel) rfl ?_
  show zWP g zm_X11_lessens (zmo g zm_X11_lessens (zΦv φ)) 0 [(0, .ref 203), (1, .int (zJ v1))] [] 0 0 (zw μ)
  obtain ⟨o1, o2, h⟩ := h
  refine zw_aload_n (pc := 0) (n := 0) (i := 0) 0 (by decide +kernel) rfl rfl ?_
  refine zx_getI (pc := 1) zf_11_9 (by decide +kernel) rfl zc_203 ?_
  refine zw_aload_n (pc := 4) (n := 0) (i := 0) 0 (by decide +kernel) rfl rfl ?_
  refine zx_getR (pc := 5) (o := 11) (r := 214) zf_11_46 (by decide +kernel) rfl zc_203 rfl (by decide) rfl ?_
  refine zw_aload_n (pc := 8) (n := 0) (i := 0) 0 (by decide +kernel) rfl rfl ?_
  refine zx_getR (pc := 9) (o := 14) (r := 217) zf_11_55 (by decide +kernel) rfl zc_203 rfl (by decide) rfl ?_
  refine zw_iload_n (pc := 12) (n := 1) (i := 1) 1 (by decide +kernel) rfl rfl ?_
  refine zx_iaload (pc := 13) (by decide +kernel) ⟨80, zc_217, o1.1, o1.2⟩ ?_
  refine zx_iaload (pc := 14) (by decide +kernel) ⟨80, zc_214, o2.1, o2.2⟩ ?_
  refine zw_isub (pc := 15) (by decide +kernel) ?_
  refine zw_istore_n (pc := 16) (n := 2) (i := 2) (lv' := [(0, .ref 203), (1, .int (zJ v1)), (2, .int (zJ ((μ 203 0) - (μ 214 (Int.toNat (μ 217 v1.toNat))))))]) (by decide +kernel) rfl (Nat.le_of_ble_eq_true rfl) rfl ?_
  refine zw_iconst (pc := 17) (n := 0) (by decide +kernel) ?_
  refine zw_istore_n (pc := 18) (n := 3) (i := 3) (lv' := [(0, .ref 203), (1, .int (zJ v1)), (2, .int (zJ ((μ 203 0) - (μ 214 (Int.toNat (μ 217 v1.toNat)))))), (3, .int (zJ 0))]) (by decide +kernel) rfl (Nat.le_of_ble_eq_true rfl) rfl ?_
  exact h
theorem sg_X11_lessens_19 {g : zG} {φ : zMu → Prop} {v1 : Int} {v2 : Int} {v3 : Int} {μ : zMu}
    (h : (zR v3) ∧ (zR (μ 203 14)) ∧ (((μ 203 14) ≤ v3 → at_X11_lessens_66 g φ v1 v2 0 μ) ∧ (v3 < (μ 203 14) → (0 ≤ v3 ∧ v3 < 80) ∧ (0 ≤ ((80 * v1) + v3) ∧ ((80 * v1) + v3) < 6400) ∧ (zR ((μ 214 v3.toNat) + (v2 * (μ 215 (Int.toNat ((80 * v1) + v3)))))) ∧ (zR (μ 203 0)) ∧ ((μ 203 0) ≠ 0) ∧ at_X11_lessens_19 g φ v1 v2 (v3 + 1) (zup μ 214 v3.toNat (((μ 214 v3.toNat) + (v2 * (μ 215 (Int.toNat ((80 * v1) + v3))))).tmod (μ 203 0)))))) : at_X11_lessens_19 g φ v1 v2 v3 μ := by
  obtain ⟨o1, o2, h⟩ := h
  refine zw_iload_n (pc := 19) (n := 3) (i := 3) 3 (by decide +kernel) rfl rfl ?_
  refine zw_aload_n (pc := 20) (n := 0) (i := 0) 0 (by decide +kernel) rfl rfl ?_
  refine zx_getI (pc := 21) zf_11_189 (by decide +kernel) rfl zc_203 ?_
  refine zw_icmp_ge (pc := 24) (off := 40) (tgt := 64) (by decide +kernel) (by decide) o1 o2 (fun hc => ?_) (fun hc => ?_)
  · replace h := h.1 hc
    refine zw_iconst (pc := 64) (n := 0) (by decide +kernel) ?_
    refine zw_istore_n (pc := 65) (n := 3) (i := 3) (lv' := [(0, .ref 203), (1, .int (zJ v1)), (2, .int (zJ v2)), (3, .int (zJ 0))]) (by decide +kernel) rfl (Nat.le_of_ble_eq_true rfl) rfl ?_
    exact h
  · replace h := h.2 hc
    obtain ⟨o3, o4, o5, o6, o7, h⟩ := h
    refine zw_aload_n (pc := 27) (n := 0) (i := 0) 0 (by decide +kernel) rfl rfl ?_
    refine zx_getR (pc := 28) (o := 11) (r := 214) zf_11_46 (by decide +kernel) rfl zc_203 rfl (by decide) rfl ?_
    refine zw_iload_n (pc := 31) (n := 3) (i := 3) 3 (by decide +kernel) rfl rfl ?_
    refine zw_aload_n (pc := 32) (n := 0) (i := 0) 0 (by decide +kernel) rfl rfl ?_
    refine zx_getR (pc := 33) (o := 11) (r := 214) zf_11_46 (by decide +kernel) rfl zc_203 rfl (by decide) rfl ?_
    refine zw_iload_n (pc := 36) (n := 3) (i := 3) 3 (by decide +kernel) rfl rfl ?_
    refine zx_iaload (pc := 37) (by decide +kernel) ⟨80, zc_214, o3.1, o3.2⟩ ?_
    refine zw_iload_n (pc := 38) (n := 2) (i := 2) 2 (by decide +kernel) rfl rfl ?_
    refine zw_aload_n (pc := 39) (n := 0) (i := 0) 0 (by decide +kernel) rfl rfl ?_
    refine zx_getR (pc := 40) (o := 12) (r := 215) zf_11_49 (by decide +kernel) rfl zc_203 rfl (by decide) rfl ?_
    refine zw_bipush (pc := 43) (n := 80) (by decide +kernel) (by decide +kernel) ?_
    refine zw_iload_n (pc := 45) (n := 1) (i := 1) 1 (by decide +kernel) rfl rfl ?_
    refine zw_imul (pc := 46) (by decide +kernel) ?_
    refine zw_iload_n (pc := 47) (n := 3) (i := 3) 3 (by decide +kernel) rfl rfl ?_
    refine zw_iadd (pc := 48) (by decide +kernel) ?_
    refine zx_iaload (pc := 49) (by decide +kernel) ⟨6400, zc_215, o4.1, o4.2⟩ ?_
    refine zw_imul (pc := 50) (by decide +kernel) ?_
    refine zw_iadd (pc := 51) (by decide +kernel) ?_
    refine zw_aload_n (pc := 52) (n := 0) (i := 0) 0 (by decide +kernel) rfl rfl ?_
    refine zx_getI (pc := 53) zf_11_9 (by decide +kernel) rfl zc_203 ?_
    refine zw_irem (pc := 56) (by decide +kernel) o5 o6 o7 ?_
    refine zx_iastore (pc := 57) (by decide +kernel) ⟨80, zc_214, o3.1, o3.2⟩ ?_
    refine zw_iinc (pc := 58) (i := 3) (n := 1) (lv' := [(0, .ref 203), (1, .int (zJ v1)), (2, .int (zJ v2)), (3, .int (zJ (v3 + 1)))]) 3 (by decide +kernel) rfl rfl (Nat.le_of_ble_eq_true rfl) rfl ?_
    refine zw_goto (pc := 61) (off := (-42)) (tgt := 19) (by decide +kernel) (by decide) ?_
    exact h
theorem sg_X11_lessens_66 {g : zG} {φ : zMu → Prop} {v1 : Int} {v2 : Int} {v3 : Int} {μ : zMu}
    (h : (zR v3) ∧ ((81 ≤ v3 → φ μ) ∧ (v3 < 81 → (0 ≤ v3 ∧ v3 < 81) ∧ (0 ≤ ((81 * v1) + v3) ∧ ((81 * v1) + v3) < 6480) ∧ (zR ((μ 218 v3.toNat) + (v2 * (μ 216 (Int.toNat ((81 * v1) + v3)))))) ∧ (zR (μ 203 0)) ∧ ((μ 203 0) ≠ 0) ∧ at_X11_lessens_66 g φ v1 v2 (v3 + 1) (zup μ 218 v3.toNat (((μ 218 v3.toNat) + (v2 * (μ 216 (Int.toNat ((81 * v1) + v3))))).tmod (μ 203 0)))))) : at_X11_lessens_66 g φ v1 v2 v3 μ := by
  obtain ⟨o1, h⟩ := h
  refine zw_iload_n (pc := 66) (n := 3) (i := 3) 3 (by decide +kernel) rfl rfl ?_
  refine zw_bipush (pc := 67) (n := 81) (by decide +kernel) (by decide +kernel) ?_
  refine zw_icmp_ge (pc := 69) (off := 40) (tgt := 109) (by decide +kernel) (by decide) o1 ⟨by decide, by decide⟩ (fun hc => ?_) (fun hc => ?_)
  · replace h := h.1 hc
    exact zw_vret (pc := 109) (by decide +kernel) rfl (Nat.le_refl _) (Nat.le_refl _) ⟨_, rfl, rfl, h⟩
  · replace h := h.2 hc
    obtain ⟨o2, o3, o4, o5, o6, h⟩ := h
    refine zw_aload_n (pc := 72) (n := 0) (i := 0) 0 (by decide +kernel) rfl rfl ?_
    refine zx_getR (pc := 73) (o := 15) (r := 218) zf_11_58 (by decide +kernel) rfl zc_203 rfl (by decide) rfl ?_
    refine zw_iload_n (pc := 76) (n := 3) (i := 3) 3 (by decide +kernel) rfl rfl ?_
    refine zw_aload_n (pc := 77) (n := 0) (i := 0) 0 (by decide +kernel) rfl rfl ?_
    refine zx_getR (pc := 78) (o := 15) (r := 218) zf_11_58 (by decide +kernel) rfl zc_203 rfl (by decide) rfl ?_
    refine zw_iload_n (pc := 81) (n := 3) (i := 3) 3 (by decide +kernel) rfl rfl ?_
    refine zx_iaload (pc := 82) (by decide +kernel) ⟨81, zc_218, o2.1, o2.2⟩ ?_
    refine zw_iload_n (pc := 83) (n := 2) (i := 2) 2 (by decide +kernel) rfl rfl ?_
    refine zw_aload_n (pc := 84) (n := 0) (i := 0) 0 (by decide +kernel) rfl rfl ?_
    refine zx_getR (pc := 85) (o := 13) (r := 216) zf_11_52 (by decide +kernel) rfl zc_203 rfl (by decide) rfl ?_
    refine zw_bipush (pc := 88) (n := 81) (by decide +kernel) (by decide +kernel) ?_
    refine zw_iload_n (pc := 90) (n := 1) (i := 1) 1 (by decide +kernel) rfl rfl ?_
    refine zw_imul (pc := 91) (by decide +kernel) ?_
    refine zw_iload_n (pc := 92) (n := 3) (i := 3) 3 (by decide +kernel) rfl rfl ?_
    refine zw_iadd (pc := 93) (by decide +kernel) ?_
    refine zx_iaload (pc := 94) (by decide +kernel) ⟨6480, zc_216, o3.1, o3.2⟩ ?_
    refine zw_imul (pc := 95) (by decide +kernel) ?_
    refine zw_iadd (pc := 96) (by decide +kernel) ?_
    refine zw_aload_n (pc := 97) (n := 0) (i := 0) 0 (by decide +kernel) rfl rfl ?_
    refine zx_getI (pc := 98) zf_11_9 (by decide +kernel) rfl zc_203 ?_
    refine zw_irem (pc := 101) (by decide +kernel) o4 o5 o6 ?_
    refine zx_iastore (pc := 102) (by decide +kernel) ⟨81, zc_218, o2.1, o2.2⟩ ?_
    refine zw_iinc (pc := 103) (i := 3) (n := 1) (lv' := [(0, .ref 203), (1, .int (zJ v1)), (2, .int (zJ v2)), (3, .int (zJ (v3 + 1)))]) 3 (by decide +kernel) rfl rfl (Nat.le_of_ble_eq_true rfl) rfl ?_
    refine zw_goto (pc := 106) (off := (-40)) (tgt := 66) (by decide +kernel) (by decide) ?_
    exact h
abbrev at_X11_firstOther_2 (g : zG) (φ : Int → zMu → Prop) (v1 : Int) (μ : zMu) : Prop := zWP g zm_X11_firstOther (zmo g zm_X11_firstOther (zΦi φ)) 2 [(0, .ref 203), (1, .int (zJ v1))] [] 0 0 (zw μ)
theorem sg_X11_firstOther {g : zG} {φ : Int → zMu → Prop} {μ : zMu}
    (h : at_X11_firstOther_2 g φ 0 μ) : zOi g zm_X11_firstOther [.ref 203] μ φ := by
  refine zok_of (by decide +kernel) rfl ?_
  show zWP g zm_X11_firstOther (zmo g zm_X11_firstOther (zΦi φ)) 0 [(0, .ref 203)] [] 0 0 (zw μ)
  refine zw_iconst (pc := 0) (n := 0) (by decide +kernel) ?_
  refine zw_istore_n (pc := 1) (n := 1) (i := 1) (lv' := [(0, .ref 203), (1, .int (zJ 0))]) (by decide +kernel) rfl (Nat.le_of_ble_eq_true rfl) rfl ?_
  exact h
theorem sg_X11_firstOther_2 {g : zG} {φ : Int → zMu → Prop} {v1 : Int} {μ : zMu}
    (h : (zR v1) ∧ (zR (μ 203 14)) ∧ (((μ 203 14) ≤ v1 → φ (-1) μ) ∧ (v1 < (μ 203 14) → (0 ≤ v1 ∧ v1 < 80) ∧ (zR (μ 214 v1.toNat)) ∧ (((μ 214 v1.toNat) = 0 → at_X11_firstOther_2 g φ (v1 + 1) μ) ∧ (¬ (μ 214 v1.toNat) = 0 → φ v1 μ))))) : at_X11_firstOther_2 g φ v1 μ := by
  obtain ⟨o1, o2, h⟩ := h
  refine zw_iload_n (pc := 2) (n := 1) (i := 1) 1 (by decide +kernel) rfl rfl ?_
  refine zw_aload_n (pc := 3) (n := 0) (i := 0) 0 (by decide +kernel) rfl rfl ?_
  refine zx_getI (pc := 4) zf_11_189 (by decide +kernel) rfl zc_203 ?_
  refine zw_icmp_ge (pc := 7) (off := 20) (tgt := 27) (by decide +kernel) (by decide) o1 o2 (fun hc => ?_) (fun hc => ?_)
  · replace h := h.1 hc
    refine zw_iconst (pc := 27) (n := (-1)) (by decide +kernel) ?_
    exact zw_iret (pc := 28) (by decide +kernel) rfl (Nat.le_refl _) (Nat.le_refl _) ⟨_, _, rfl, rfl, h⟩
  · replace h := h.2 hc
    obtain ⟨o3, o4, h⟩ := h
    refine zw_aload_n (pc := 10) (n := 0) (i := 0) 0 (by decide +kernel) rfl rfl ?_
    refine zx_getR (pc := 11) (o := 11) (r := 214) zf_11_46 (by decide +kernel) rfl zc_203 rfl (by decide) rfl ?_
    refine zw_iload_n (pc := 14) (n := 1) (i := 1) 1 (by decide +kernel) rfl rfl ?_
    refine zx_iaload (pc := 15) (by decide +kernel) ⟨80, zc_214, o3.1, o3.2⟩ ?_
    refine zw_if_eq (pc := 16) (off := 5) (tgt := 21) (by decide +kernel) (by decide) o4 (fun hc => ?_) (fun hc => ?_)
    · replace h := h.1 hc
      refine zw_iinc (pc := 21) (i := 1) (n := 1) (lv' := [(0, .ref 203), (1, .int (zJ (v1 + 1)))]) 1 (by decide +kernel) rfl rfl (Nat.le_of_ble_eq_true rfl) rfl ?_
      refine zw_goto (pc := 24) (off := (-22)) (tgt := 2) (by decide +kernel) (by decide) ?_
      exact h
    · replace h := h.2 hc
      refine zw_iload_n (pc := 19) (n := 1) (i := 1) 1 (by decide +kernel) rfl rfl ?_
      exact zw_iret (pc := 20) (by decide +kernel) rfl (Nat.le_refl _) (Nat.le_refl _) ⟨_, _, rfl, rfl, h⟩
abbrev at_X11_equation_35 (g : zG) (φ : Int → zMu → Prop) (v1 : Int) (v2 : Int) (v3 : Int) (v4 : Int) (v5 : Int) (μ : zMu) : Prop := zWP g zm_X11_equation (zmo g zm_X11_equation (zΦi φ)) 35 [(0, .ref 203), (1, .int (zJ v1)), (2, .int (zJ v2)), (3, .int (zJ v3)), (4, .int (zJ v4)), (5, .int (zJ v5))] [] 0 0 (zw μ)
abbrev at_X11_equation_47 (g : zG) (φ : Int → zMu → Prop) (v1 : Int) (v2 : Int) (v3 : Int) (v4 : Int) (v5 : Int) (v6 : Int) (μ : zMu) : Prop := zWP g zm_X11_equation (zmo g zm_X11_equation (zΦi φ)) 47 [(0, .ref 203), (1, .int (zJ v1)), (2, .int (zJ v2)), (3, .int (zJ v3)), (4, .int (zJ v4)), (5, .int (zJ v5)), (6, .int (zJ v6))] [] 0 0 (zw μ)
theorem sg_X11_equation {g : zG} {φ : Int → zMu → Prop} {v1 : Int} {μ : zMu}
    (h : (zR v1) ∧ zOi g zm_X11_in [.long (zL v1), .long (zL 0), .long (zL 3)] μ (fun x3 μ2 => (zR x3) ∧ ((¬ x3 = 0 → (zR (μ2 203 4)) ∧ ((¬ (μ2 203 4) = 0 → at_X11_equation_35 g φ v1 (-5) 0 1 0 μ2) ∧ ((μ2 203 4) = 0 → φ (-11) μ2))) ∧ (x3 = 0 → φ (-1) μ2)))) : zOi g zm_X11_equation [.ref 203, .int (zJ v1)] μ φ := by
  refine zok_of (by decide +kernel) rfl ?_
  show zWP g zm_X11_equation (zmo g zm_X11_equation (zΦi φ)) 0 [(0, .ref 203), (1, .int (zJ v1))] [] 0 0 (zw μ)
  obtain ⟨o1, h⟩ := h
  refine zw_iload_n (pc := 0) (n := 1) (i := 1) 1 (by decide +kernel) rfl rfl ?_
  refine zw_i2l (pc := 1) (by decide +kernel) o1 ?_
  refine zw_lconst (pc := 2) (n := 0) (v := 0) (by decide +kernel) rfl ?_
  refine zw_ldc2 (pc := 3) (v := 3) (by decide +kernel) zk_11_238 ?_
  refine zx_callS (pc := 6) (As := [.long (zL v1), .long (zL 0), .long (zL 3)]) h zi_X11_in zis_X11_in zl_11_114 (by decide +kernel) ⟨Nat.le_of_ble_eq_true rfl, Nat.le_of_ble_eq_true rfl⟩ rfl rfl ⟨rfl, rfl⟩ ⟨Nat.zero_le _, Nat.zero_le _⟩ (zki (fun x3 μ2 h => ?_))
  obtain ⟨o4, h⟩ := h
  refine zw_if_ne (pc := 9) (off := 5) (tgt := 14) (by decide +kernel) (by decide) o4 (fun hc => ?_) (fun hc => ?_)
  · replace h := h.1 hc
    obtain ⟨o5, h⟩ := h
    refine zw_aload_n (pc := 14) (n := 0) (i := 0) 0 (by decide +kernel) rfl rfl ?_
    refine zx_getI (pc := 15) zf_11_128 (by decide +kernel) rfl zc_203 ?_
    refine zw_if_ne (pc := 18) (off := 6) (tgt := 24) (by decide +kernel) (by decide) o5 (fun hc => ?_) (fun hc => ?_)
    · replace h := h.1 hc
      refine zw_bipush (pc := 24) (n := (-5)) (by decide +kernel) (by decide +kernel) ?_
      refine zw_istore_n (pc := 26) (n := 2) (i := 2) (lv' := [(0, .ref 203), (1, .int (zJ v1)), (2, .int (zJ (-5)))]) (by decide +kernel) rfl (Nat.le_of_ble_eq_true rfl) rfl ?_
      refine zw_iconst (pc := 27) (n := 0) (by decide +kernel) ?_
      refine zw_istore_n (pc := 28) (n := 3) (i := 3) (lv' := [(0, .ref 203), (1, .int (zJ v1)), (2, .int (zJ (-5))), (3, .int (zJ 0))]) (by decide +kernel) rfl (Nat.le_of_ble_eq_true rfl) rfl ?_
      refine zw_iconst (pc := 29) (n := 1) (by decide +kernel) ?_
      refine zw_istore (pc := 30) (i := 4) (lv' := [(0, .ref 203), (1, .int (zJ v1)), (2, .int (zJ (-5))), (3, .int (zJ 0)), (4, .int (zJ 1))]) (by decide +kernel) (Nat.le_of_ble_eq_true rfl) rfl ?_
      refine zw_iconst (pc := 32) (n := 0) (by decide +kernel) ?_
      refine zw_istore (pc := 33) (i := 5) (lv' := [(0, .ref 203), (1, .int (zJ v1)), (2, .int (zJ (-5))), (3, .int (zJ 0)), (4, .int (zJ 1)), (5, .int (zJ 0))]) (by decide +kernel) (Nat.le_of_ble_eq_true rfl) rfl ?_
      exact h
    · replace h := h.2 hc
      refine zw_bipush (pc := 21) (n := (-11)) (by decide +kernel) (by decide +kernel) ?_
      exact zw_iret (pc := 23) (by decide +kernel) rfl (Nat.le_refl _) (Nat.le_refl _) ⟨_, _, rfl, rfl, h⟩
  · replace h := h.2 hc
    refine zw_iconst (pc := 12) (n := (-1)) (by decide +kernel) ?_
    exact zw_iret (pc := 13) (by decide +kernel) rfl (Nat.le_refl _) (Nat.le_refl _) ⟨_, _, rfl, rfl, h⟩
theorem sg_X11_equation_35 {g : zG} {φ : Int → zMu → Prop} {v1 : Int} {v2 : Int} {v3 : Int} {v4 : Int} {v5 : Int} {μ : zMu}
    (h : (zR v5) ∧ (zR (μ 203 4)) ∧ (((μ 203 4) < v5 → (zR v1) ∧ ((¬ v1 = 0 → ((¬ v1 = 1 → ((¬ v1 = 2 → φ v3 μ) ∧ (v1 = 2 → (zR v4) ∧ ((v4 = 0 → φ 0 μ) ∧ (¬ v4 = 0 → φ 1 μ))))) ∧ (v1 = 1 → φ v2 μ))) ∧ (v1 = 0 → φ (μ 203 4) μ))) ∧ (v5 ≤ (μ 203 4) → at_X11_equation_47 g φ v1 v2 v3 v4 v5 0 μ))) : at_X11_equation_35 g φ v1 v2 v3 v4 v5 μ := by
  obtain ⟨o1, o2, h⟩ := h
  refine zw_iload (pc := 35) (i := 5) 5 (by decide +kernel) rfl ?_
  refine zw_aload_n (pc := 37) (n := 0) (i := 0) 0 (by decide +kernel) rfl rfl ?_
  refine zx_getI (pc := 38) zf_11_128 (by decide +kernel) rfl zc_203 ?_
  refine zw_icmp_gt (pc := 41) (off := 99) (tgt := 140) (by decide +kernel) (by decide) o1 o2 (fun hc => ?_) (fun hc => ?_)
  · replace h := h.1 hc
    obtain ⟨o3, h⟩ := h
    refine zw_iload_n (pc := 140) (n := 1) (i := 1) 1 (by decide +kernel) rfl rfl ?_
    refine zw_if_ne (pc := 141) (off := 10) (tgt := 151) (by decide +kernel) (by decide) o3 (fun hc => ?_) (fun hc => ?_)
    · replace h := h.1 hc
      refine zw_iload_n (pc := 151) (n := 1) (i := 1) 1 (by decide +kernel) rfl rfl ?_
      refine zw_iconst (pc := 152) (n := 1) (by decide +kernel) ?_
      refine zw_icmp_ne (pc := 153) (off := 7) (tgt := 160) (by decide +kernel) (by decide) o3 ⟨by decide, by decide⟩ (fun hc => ?_) (fun hc => ?_)
      · replace h := h.1 hc
        refine zw_iload_n (pc := 160) (n := 1) (i := 1) 1 (by decide +kernel) rfl rfl ?_
        refine zw_iconst (pc := 161) (n := 2) (by decide +kernel) ?_
        refine zw_icmp_ne (pc := 162) (off := 16) (tgt := 178) (by decide +kernel) (by decide) o3 ⟨by decide, by decide⟩ (fun hc => ?_) (fun hc => ?_)
        · replace h := h.1 hc
          refine zw_iload_n (pc := 178) (n := 3) (i := 3) 3 (by decide +kernel) rfl rfl ?_
          exact zw_iret (pc := 179) (by decide +kernel) rfl (Nat.le_refl _) (Nat.le_refl _) ⟨_, _, rfl, rfl, h⟩
        · replace h := h.2 hc
          obtain ⟨o4, h⟩ := h
          refine zw_iload (pc := 165) (i := 4) 4 (by decide +kernel) rfl ?_
          refine zw_if_eq (pc := 167) (off := 7) (tgt := 174) (by decide +kernel) (by decide) o4 (fun hc => ?_) (fun hc => ?_)
          · replace h := h.1 hc
            refine zw_iconst (pc := 174) (n := 0) (by decide +kernel) ?_
            refine zw_goto (pc := 175) (off := 4) (tgt := 179) (by decide +kernel) (by decide) ?_
            exact zw_iret (pc := 179) (by decide +kernel) rfl (Nat.le_refl _) (Nat.le_refl _) ⟨_, _, rfl, rfl, h⟩
          · replace h := h.2 hc
            refine zw_iconst (pc := 170) (n := 1) (by decide +kernel) ?_
            refine zw_goto (pc := 171) (off := 8) (tgt := 179) (by decide +kernel) (by decide) ?_
            exact zw_iret (pc := 179) (by decide +kernel) rfl (Nat.le_refl _) (Nat.le_refl _) ⟨_, _, rfl, rfl, h⟩
      · replace h := h.2 hc
        refine zw_iload_n (pc := 156) (n := 2) (i := 2) 2 (by decide +kernel) rfl rfl ?_
        refine zw_goto (pc := 157) (off := 22) (tgt := 179) (by decide +kernel) (by decide) ?_
        exact zw_iret (pc := 179) (by decide +kernel) rfl (Nat.le_refl _) (Nat.le_refl _) ⟨_, _, rfl, rfl, h⟩
    · replace h := h.2 hc
      refine zw_aload_n (pc := 144) (n := 0) (i := 0) 0 (by decide +kernel) rfl rfl ?_
      refine zx_getI (pc := 145) zf_11_128 (by decide +kernel) rfl zc_203 ?_
      refine zw_goto (pc := 148) (off := 31) (tgt := 179) (by decide +kernel) (by decide) ?_
      exact zw_iret (pc := 179) (by decide +kernel) rfl (Nat.le_refl _) (Nat.le_refl _) ⟨_, _, rfl, rfl, h⟩
  · replace h := h.2 hc
    refine zw_iconst (pc := 44) (n := 0) (by decide +kernel) ?_
    refine zw_istore (pc := 45) (i := 6) (lv' := [(0, .ref 203), (1, .int (zJ v1)), (2, .int (zJ v2)), (3, .int (zJ v3)), (4, .int (zJ v4)), (5, .int (zJ v5)), (6, .int (zJ 0))]) (by decide +kernel) (Nat.le_of_ble_eq_true rfl) rfl ?_
    exact h
theorem sg_X11_equation_47 {g : zG} {φ : Int → zMu → Prop} {v1 : Int} {v2 : Int} {v3 : Int} {v4 : Int} {v5 : Int} {v6 : Int} {μ : zMu}
    (h : (zR v6) ∧ (zR (μ 203 4)) ∧ (((μ 203 4) < v6 → at_X11_equation_35 g φ v1 v2 v3 v4 (v5 + 1) μ) ∧ (v6 ≤ (μ 203 4) → zOi g zm_X11_termAt [.ref 203, .int (zJ v5), .int (zJ v6)] μ (fun x4 μ3 => (zR x4) ∧ ((x4 = 0 → zOi g zm_X11_termAt [.ref 203, .int (zJ v5), .int (zJ v6)] μ3 (fun x7 μ6 => (zR x7) ∧ ((x7 = 0 → zOi g zm_X11_termAt [.ref 203, .int (zJ v5), .int (zJ v6)] μ6 (fun x10 μ9 => zOi g zm_X11_termAt [.ref 203, .int (zJ v6), .int (zJ v5)] μ9 (fun x12 μ11 => (zR x10) ∧ (zR x12) ∧ ((¬ x10 = x12 → at_X11_equation_47 g φ v1 v2 (v3 + 0) (zand v4 0) v5 (v6 + 1) μ11) ∧ (x10 = x12 → at_X11_equation_47 g φ v1 v2 (v3 + 0) (zand v4 1) v5 (v6 + 1) μ11))))) ∧ (¬ x7 = 0 → zOi g zm_X11_termAt [.ref 203, .int (zJ v5), .int (zJ v6)] μ6 (fun x16 μ15 => zOi g zm_X11_termAt [.ref 203, .int (zJ v6), .int (zJ v5)] μ15 (fun x18 μ17 => (zR x16) ∧ (zR x18) ∧ ((¬ x16 = x18 → at_X11_equation_47 g φ v1 v2 (v3 + 1) (zand v4 0) v5 (v6 + 1) μ17) ∧ (x16 = x18 → at_X11_equation_47 g φ v1 v2 (v3 + 1) (zand v4 1) v5 (v6 + 1) μ17)))))))) ∧ (¬ x4 = 0 → zOi g zm_X11_termAt [.ref 203, .int (zJ v5), .int (zJ v6)] μ3 (fun x22 μ21 => (zR x22) ∧ ((x22 = 0 → zOi g zm_X11_termAt [.ref 203, .int (zJ v5), .int (zJ v6)] μ21 (fun x25 μ24 => zOi g zm_X11_termAt [.ref 203, .int (zJ v6), .int (zJ v5)] μ24 (fun x27 μ26 => (zR x25) ∧ (zR x27) ∧ ((¬ x25 = x27 → at_X11_equation_47 g φ v1 ((10 * v5) + v6) (v3 + 0) (zand v4 0) v5 (v6 + 1) μ26) ∧ (x25 = x27 → at_X11_equation_47 g φ v1 ((10 * v5) + v6) (v3 + 0) (zand v4 1) v5 (v6 + 1) μ26))))) ∧ (¬ x22 = 0 → zOi g zm_X11_termAt [.ref 203, .int (zJ v5), .int (zJ v6)] μ21 (fun x31 μ30 => zOi g zm_X11_termAt [.ref 203, .int (zJ v6), .int (zJ v5)] μ30 (fun x33 μ32 => (zR x31) ∧ (zR x33) ∧ ((¬ x31 = x33 → at_X11_equation_47 g φ v1 ((10 * v5) + v6) (v3 + 1) (zand v4 0) v5 (v6 + 1) μ32) ∧ (x31 = x33 → at_X11_equation_47 g φ v1 ((10 * v5) + v6) (v3 + 1) (zand v4 1) v5 (v6 + 1) μ32))))))))))))) : at_X11_equation_47 g φ v1 v2 v3 v4 v5 v6 μ := by
  obtain ⟨o1, o2, h⟩ := h
  refine zw_iload (pc := 47) (i := 6) 6 (by decide +kernel) rfl ?_
  refine zw_aload_n (pc := 49) (n := 0) (i := 0) 0 (by decide +kernel) rfl rfl ?_
  refine zx_getI (pc := 50) zf_11_128 (by decide +kernel) rfl zc_203 ?_
  refine zw_icmp_gt (pc := 53) (off := 81) (tgt := 134) (by decide +kernel) (by decide) o1 o2 (fun hc => ?_) (fun hc => ?_)
  · replace h := h.1 hc
    refine zw_iinc (pc := 134) (i := 5) (n := 1) (lv' := [(0, .ref 203), (1, .int (zJ v1)), (2, .int (zJ v2)), (3, .int (zJ v3)), (4, .int (zJ v4)), (5, .int (zJ (v5 + 1))), (6, .int (zJ v6))]) 5 (by decide +kernel) rfl rfl (Nat.le_of_ble_eq_true rfl) rfl ?_
    refine zw_goto (pc := 137) (off := (-102)) (tgt := 35) (by decide +kernel) (by decide) ?_
    exact zw_pick (lv' := [(0, .ref 203), (1, .int (zJ v1)), (2, .int (zJ v2)), (3, .int (zJ v3)), (4, .int (zJ v4)), (5, .int (zJ (v5 + 1)))]) [0, 1, 2, 3, 4, 5] rfl h
  · replace h := h.2 hc
    refine zw_aload_n (pc := 56) (n := 0) (i := 0) 0 (by decide +kernel) rfl rfl ?_
    refine zw_iload (pc := 57) (i := 5) 5 (by decide +kernel) rfl ?_
    refine zw_iload (pc := 59) (i := 6) 6 (by decide +kernel) rfl ?_
    refine zx_callV (pc := 61) (As := [.int (zJ v5), .int (zJ v6)]) h zi_X11_termAt zii_X11_termAt zie_X11_termAt zl_11_240 (by decide +kernel) ⟨Nat.le_of_ble_eq_true rfl, Nat.le_of_ble_eq_true rfl⟩ rfl zc_203 (by decide) rfl rfl ⟨rfl, rfl⟩ ⟨Nat.zero_le _, Nat.zero_le _⟩ (zki (fun x4 μ3 h => ?_))
    obtain ⟨o5, h⟩ := h
    refine zw_if_eq (pc := 64) (off := 14) (tgt := 78) (by decide +kernel) (by decide) o5 (fun hc => ?_) (fun hc => ?_)
    · replace h := h.1 hc
      refine zw_iload_n (pc := 78) (n := 2) (i := 2) 2 (by decide +kernel) rfl rfl ?_
      refine zw_istore_n (pc := 79) (n := 2) (i := 2) (lv' := [(0, .ref 203), (1, .int (zJ v1)), (2, .int (zJ v2)), (3, .int (zJ v3)), (4, .int (zJ v4)), (5, .int (zJ v5)), (6, .int (zJ v6))]) (by decide +kernel) rfl (Nat.le_of_ble_eq_true rfl) rfl ?_
      refine zw_iload_n (pc := 80) (n := 3) (i := 3) 3 (by decide +kernel) rfl rfl ?_
      refine zw_aload_n (pc := 81) (n := 0) (i := 0) 0 (by decide +kernel) rfl rfl ?_
      refine zw_iload (pc := 82) (i := 5) 5 (by decide +kernel) rfl ?_
      refine zw_iload (pc := 84) (i := 6) 6 (by decide +kernel) rfl ?_
      refine zx_callV (pc := 86) (As := [.int (zJ v5), .int (zJ v6)]) h zi_X11_termAt zii_X11_termAt zie_X11_termAt zl_11_240 (by decide +kernel) ⟨Nat.le_of_ble_eq_true rfl, Nat.le_of_ble_eq_true rfl⟩ rfl zc_203 (by decide) rfl rfl ⟨rfl, rfl⟩ ⟨Nat.zero_le _, Nat.zero_le _⟩ (zki (fun x7 μ6 h => ?_))
      obtain ⟨o8, h⟩ := h
      refine zw_if_eq (pc := 89) (off := 7) (tgt := 96) (by decide +kernel) (by decide) o8 (fun hc => ?_) (fun hc => ?_)
      · replace h := h.1 hc
        refine zw_iconst (pc := 96) (n := 0) (by decide +kernel) ?_
        refine zw_iadd (pc := 97) (by decide +kernel) ?_
        refine zw_istore_n (pc := 98) (n := 3) (i := 3) (lv' := [(0, .ref 203), (1, .int (zJ v1)), (2, .int (zJ v2)), (3, .int (zJ (v3 + 0))), (4, .int (zJ v4)), (5, .int (zJ v5)), (6, .int (zJ v6))]) (by decide +kernel) rfl (Nat.le_of_ble_eq_true rfl) rfl ?_
        refine zw_iload (pc := 99) (i := 4) 4 (by decide +kernel) rfl ?_
        refine zw_aload_n (pc := 101) (n := 0) (i := 0) 0 (by decide +kernel) rfl rfl ?_
        refine zw_iload (pc := 102) (i := 5) 5 (by decide +kernel) rfl ?_
        refine zw_iload (pc := 104) (i := 6) 6 (by decide +kernel) rfl ?_
        refine zx_callV (pc := 106) (As := [.int (zJ v5), .int (zJ v6)]) h zi_X11_termAt zii_X11_termAt zie_X11_termAt zl_11_240 (by decide +kernel) ⟨Nat.le_of_ble_eq_true rfl, Nat.le_of_ble_eq_true rfl⟩ rfl zc_203 (by decide) rfl rfl ⟨rfl, rfl⟩ ⟨Nat.zero_le _, Nat.zero_le _⟩ (zki (fun x10 μ9 h => ?_))
        refine zw_aload_n (pc := 109) (n := 0) (i := 0) 0 (by decide +kernel) rfl rfl ?_
        refine zw_iload (pc := 110) (i := 6) 6 (by decide +kernel) rfl ?_
        refine zw_iload (pc := 112) (i := 5) 5 (by decide +kernel) rfl ?_
        refine zx_callV (pc := 114) (As := [.int (zJ v6), .int (zJ v5)]) h zi_X11_termAt zii_X11_termAt zie_X11_termAt zl_11_240 (by decide +kernel) ⟨Nat.le_of_ble_eq_true rfl, Nat.le_of_ble_eq_true rfl⟩ rfl zc_203 (by decide) rfl rfl ⟨rfl, rfl⟩ ⟨Nat.zero_le _, Nat.zero_le _⟩ (zki (fun x12 μ11 h => ?_))
        obtain ⟨o13, o14, h⟩ := h
        refine zw_icmp_ne (pc := 117) (off := 7) (tgt := 124) (by decide +kernel) (by decide) o13 o14 (fun hc => ?_) (fun hc => ?_)
        · replace h := h.1 hc
          refine zw_iconst (pc := 124) (n := 0) (by decide +kernel) ?_
          refine zw_iand (pc := 125) (by decide +kernel) ?_
          refine zw_istore (pc := 126) (i := 4) (lv' := [(0, .ref 203), (1, .int (zJ v1)), (2, .int (zJ v2)), (3, .int (zJ (v3 + 0))), (4, .int (zJ (zand v4 0))), (5, .int (zJ v5)), (6, .int (zJ v6))]) (by decide +kernel) (Nat.le_of_ble_eq_true rfl) rfl ?_
          refine zw_iinc (pc := 128) (i := 6) (n := 1) (lv' := [(0, .ref 203), (1, .int (zJ v1)), (2, .int (zJ v2)), (3, .int (zJ (v3 + 0))), (4, .int (zJ (zand v4 0))), (5, .int (zJ v5)), (6, .int (zJ (v6 + 1)))]) 6 (by decide +kernel) rfl rfl (Nat.le_of_ble_eq_true rfl) rfl ?_
          refine zw_goto (pc := 131) (off := (-84)) (tgt := 47) (by decide +kernel) (by decide) ?_
          exact h
        · replace h := h.2 hc
          refine zw_iconst (pc := 120) (n := 1) (by decide +kernel) ?_
          refine zw_goto (pc := 121) (off := 4) (tgt := 125) (by decide +kernel) (by decide) ?_
          refine zw_iand (pc := 125) (by decide +kernel) ?_
          refine zw_istore (pc := 126) (i := 4) (lv' := [(0, .ref 203), (1, .int (zJ v1)), (2, .int (zJ v2)), (3, .int (zJ (v3 + 0))), (4, .int (zJ (zand v4 1))), (5, .int (zJ v5)), (6, .int (zJ v6))]) (by decide +kernel) (Nat.le_of_ble_eq_true rfl) rfl ?_
          refine zw_iinc (pc := 128) (i := 6) (n := 1) (lv' := [(0, .ref 203), (1, .int (zJ v1)), (2, .int (zJ v2)), (3, .int (zJ (v3 + 0))), (4, .int (zJ (zand v4 1))), (5, .int (zJ v5)), (6, .int (zJ (v6 + 1)))]) 6 (by decide +kernel) rfl rfl (Nat.le_of_ble_eq_true rfl) rfl ?_
          refine zw_goto (pc := 131) (off := (-84)) (tgt := 47) (by decide +kernel) (by decide) ?_
          exact h
      · replace h := h.2 hc
        refine zw_iconst (pc := 92) (n := 1) (by decide +kernel) ?_
        refine zw_goto (pc := 93) (off := 4) (tgt := 97) (by decide +kernel) (by decide) ?_
        refine zw_iadd (pc := 97) (by decide +kernel) ?_
        refine zw_istore_n (pc := 98) (n := 3) (i := 3) (lv' := [(0, .ref 203), (1, .int (zJ v1)), (2, .int (zJ v2)), (3, .int (zJ (v3 + 1))), (4, .int (zJ v4)), (5, .int (zJ v5)), (6, .int (zJ v6))]) (by decide +kernel) rfl (Nat.le_of_ble_eq_true rfl) rfl ?_
        refine zw_iload (pc := 99) (i := 4) 4 (by decide +kernel) rfl ?_
        refine zw_aload_n (pc := 101) (n := 0) (i := 0) 0 (by decide +kernel) rfl rfl ?_
        refine zw_iload (pc := 102) (i := 5) 5 (by decide +kernel) rfl ?_
        refine zw_iload (pc := 104) (i := 6) 6 (by decide +kernel) rfl ?_
        refine zx_callV (pc := 106) (As := [.int (zJ v5), .int (zJ v6)]) h zi_X11_termAt zii_X11_termAt zie_X11_termAt zl_11_240 (by decide +kernel) ⟨Nat.le_of_ble_eq_true rfl, Nat.le_of_ble_eq_true rfl⟩ rfl zc_203 (by decide) rfl rfl ⟨rfl, rfl⟩ ⟨Nat.zero_le _, Nat.zero_le _⟩ (zki (fun x16 μ15 h => ?_))
        refine zw_aload_n (pc := 109) (n := 0) (i := 0) 0 (by decide +kernel) rfl rfl ?_
        refine zw_iload (pc := 110) (i := 6) 6 (by decide +kernel) rfl ?_
        refine zw_iload (pc := 112) (i := 5) 5 (by decide +kernel) rfl ?_
        refine zx_callV (pc := 114) (As := [.int (zJ v6), .int (zJ v5)]) h zi_X11_termAt zii_X11_termAt zie_X11_termAt zl_11_240 (by decide +kernel) ⟨Nat.le_of_ble_eq_true rfl, Nat.le_of_ble_eq_true rfl⟩ rfl zc_203 (by decide) rfl rfl ⟨rfl, rfl⟩ ⟨Nat.zero_le _, Nat.zero_le _⟩ (zki (fun x18 μ17 h => ?_))
        obtain ⟨o19, o20, h⟩ := h
        refine zw_icmp_ne (pc := 117) (off := 7) (tgt := 124) (by decide +kernel) (by decide) o19 o20 (fun hc => ?_) (fun hc => ?_)
        · replace h := h.1 hc
          refine zw_iconst (pc := 124) (n := 0) (by decide +kernel) ?_
          refine zw_iand (pc := 125) (by decide +kernel) ?_
          refine zw_istore (pc := 126) (i := 4) (lv' := [(0, .ref 203), (1, .int (zJ v1)), (2, .int (zJ v2)), (3, .int (zJ (v3 + 1))), (4, .int (zJ (zand v4 0))), (5, .int (zJ v5)), (6, .int (zJ v6))]) (by decide +kernel) (Nat.le_of_ble_eq_true rfl) rfl ?_
          refine zw_iinc (pc := 128) (i := 6) (n := 1) (lv' := [(0, .ref 203), (1, .int (zJ v1)), (2, .int (zJ v2)), (3, .int (zJ (v3 + 1))), (4, .int (zJ (zand v4 0))), (5, .int (zJ v5)), (6, .int (zJ (v6 + 1)))]) 6 (by decide +kernel) rfl rfl (Nat.le_of_ble_eq_true rfl) rfl ?_
          refine zw_goto (pc := 131) (off := (-84)) (tgt := 47) (by decide +kernel) (by decide) ?_
          exact h
        · replace h := h.2 hc
          refine zw_iconst (pc := 120) (n := 1) (by decide +kernel) ?_
          refine zw_goto (pc := 121) (off := 4) (tgt := 125) (by decide +kernel) (by decide) ?_
          refine zw_iand (pc := 125) (by decide +kernel) ?_
          refine zw_istore (pc := 126) (i := 4) (lv' := [(0, .ref 203), (1, .int (zJ v1)), (2, .int (zJ v2)), (3, .int (zJ (v3 + 1))), (4, .int (zJ (zand v4 1))), (5, .int (zJ v5)), (6, .int (zJ v6))]) (by decide +kernel) (Nat.le_of_ble_eq_true rfl) rfl ?_
          refine zw_iinc (pc := 128) (i := 6) (n := 1) (lv' := [(0, .ref 203), (1, .int (zJ v1)), (2, .int (zJ v2)), (3, .int (zJ (v3 + 1))), (4, .int (zJ (zand v4 1))), (5, .int (zJ v5)), (6, .int (zJ (v6 + 1)))]) 6 (by decide +kernel) rfl rfl (Nat.le_of_ble_eq_true rfl) rfl ?_
          refine zw_goto (pc := 131) (off := (-84)) (tgt := 47) (by decide +kernel) (by decide) ?_
          exact h
    · replace h := h.2 hc
      refine zw_bipush (pc := 67) (n := 10) (by decide +kernel) (by decide +kernel) ?_
      refine zw_iload (pc := 69) (i := 5) 5 (by decide +kernel) rfl ?_
      refine zw_imul (pc := 71) (by decide +kernel) ?_
      refine zw_iload (pc := 72) (i := 6) 6 (by decide +kernel) rfl ?_
      refine zw_iadd (pc := 74) (by decide +kernel) ?_
      refine zw_goto (pc := 75) (off := 4) (tgt := 79) (by decide +kernel) (by decide) ?_
      refine zw_istore_n (pc := 79) (n := 2) (i := 2) (lv' := [(0, .ref 203), (1, .int (zJ v1)), (2, .int (zJ ((10 * v5) + v6))), (3, .int (zJ v3)), (4, .int (zJ v4)), (5, .int (zJ v5)), (6, .int (zJ v6))]) (by decide +kernel) rfl (Nat.le_of_ble_eq_true rfl) rfl ?_
      refine zw_iload_n (pc := 80) (n := 3) (i := 3) 3 (by decide +kernel) rfl rfl ?_
      refine zw_aload_n (pc := 81) (n := 0) (i := 0) 0 (by decide +kernel) rfl rfl ?_
      refine zw_iload (pc := 82) (i := 5) 5 (by decide +kernel) rfl ?_
      refine zw_iload (pc := 84) (i := 6) 6 (by decide +kernel) rfl ?_
      refine zx_callV (pc := 86) (As := [.int (zJ v5), .int (zJ v6)]) h zi_X11_termAt zii_X11_termAt zie_X11_termAt zl_11_240 (by decide +kernel) ⟨Nat.le_of_ble_eq_true rfl, Nat.le_of_ble_eq_true rfl⟩ rfl zc_203 (by decide) rfl rfl ⟨rfl, rfl⟩ ⟨Nat.zero_le _, Nat.zero_le _⟩ (zki (fun x22 μ21 h => ?_))
      obtain ⟨o23, h⟩ := h
      refine zw_if_eq (pc := 89) (off := 7) (tgt := 96) (by decide +kernel) (by decide) o23 (fun hc => ?_) (fun hc => ?_)
      · replace h := h.1 hc
        refine zw_iconst (pc := 96) (n := 0) (by decide +kernel) ?_
        refine zw_iadd (pc := 97) (by decide +kernel) ?_
        refine zw_istore_n (pc := 98) (n := 3) (i := 3) (lv' := [(0, .ref 203), (1, .int (zJ v1)), (2, .int (zJ ((10 * v5) + v6))), (3, .int (zJ (v3 + 0))), (4, .int (zJ v4)), (5, .int (zJ v5)), (6, .int (zJ v6))]) (by decide +kernel) rfl (Nat.le_of_ble_eq_true rfl) rfl ?_
        refine zw_iload (pc := 99) (i := 4) 4 (by decide +kernel) rfl ?_
        refine zw_aload_n (pc := 101) (n := 0) (i := 0) 0 (by decide +kernel) rfl rfl ?_
        refine zw_iload (pc := 102) (i := 5) 5 (by decide +kernel) rfl ?_
        refine zw_iload (pc := 104) (i := 6) 6 (by decide +kernel) rfl ?_
        refine zx_callV (pc := 106) (As := [.int (zJ v5), .int (zJ v6)]) h zi_X11_termAt zii_X11_termAt zie_X11_termAt zl_11_240 (by decide +kernel) ⟨Nat.le_of_ble_eq_true rfl, Nat.le_of_ble_eq_true rfl⟩ rfl zc_203 (by decide) rfl rfl ⟨rfl, rfl⟩ ⟨Nat.zero_le _, Nat.zero_le _⟩ (zki (fun x25 μ24 h => ?_))
        refine zw_aload_n (pc := 109) (n := 0) (i := 0) 0 (by decide +kernel) rfl rfl ?_
        refine zw_iload (pc := 110) (i := 6) 6 (by decide +kernel) rfl ?_
        refine zw_iload (pc := 112) (i := 5) 5 (by decide +kernel) rfl ?_
        refine zx_callV (pc := 114) (As := [.int (zJ v6), .int (zJ v5)]) h zi_X11_termAt zii_X11_termAt zie_X11_termAt zl_11_240 (by decide +kernel) ⟨Nat.le_of_ble_eq_true rfl, Nat.le_of_ble_eq_true rfl⟩ rfl zc_203 (by decide) rfl rfl ⟨rfl, rfl⟩ ⟨Nat.zero_le _, Nat.zero_le _⟩ (zki (fun x27 μ26 h => ?_))
        obtain ⟨o28, o29, h⟩ := h
        refine zw_icmp_ne (pc := 117) (off := 7) (tgt := 124) (by decide +kernel) (by decide) o28 o29 (fun hc => ?_) (fun hc => ?_)
        · replace h := h.1 hc
          refine zw_iconst (pc := 124) (n := 0) (by decide +kernel) ?_
          refine zw_iand (pc := 125) (by decide +kernel) ?_
          refine zw_istore (pc := 126) (i := 4) (lv' := [(0, .ref 203), (1, .int (zJ v1)), (2, .int (zJ ((10 * v5) + v6))), (3, .int (zJ (v3 + 0))), (4, .int (zJ (zand v4 0))), (5, .int (zJ v5)), (6, .int (zJ v6))]) (by decide +kernel) (Nat.le_of_ble_eq_true rfl) rfl ?_
          refine zw_iinc (pc := 128) (i := 6) (n := 1) (lv' := [(0, .ref 203), (1, .int (zJ v1)), (2, .int (zJ ((10 * v5) + v6))), (3, .int (zJ (v3 + 0))), (4, .int (zJ (zand v4 0))), (5, .int (zJ v5)), (6, .int (zJ (v6 + 1)))]) 6 (by decide +kernel) rfl rfl (Nat.le_of_ble_eq_true rfl) rfl ?_
          refine zw_goto (pc := 131) (off := (-84)) (tgt := 47) (by decide +kernel) (by decide) ?_
          exact h
        · replace h := h.2 hc
          refine zw_iconst (pc := 120) (n := 1) (by decide +kernel) ?_
          refine zw_goto (pc := 121) (off := 4) (tgt := 125) (by decide +kernel) (by decide) ?_
          refine zw_iand (pc := 125) (by decide +kernel) ?_
          refine zw_istore (pc := 126) (i := 4) (lv' := [(0, .ref 203), (1, .int (zJ v1)), (2, .int (zJ ((10 * v5) + v6))), (3, .int (zJ (v3 + 0))), (4, .int (zJ (zand v4 1))), (5, .int (zJ v5)), (6, .int (zJ v6))]) (by decide +kernel) (Nat.le_of_ble_eq_true rfl) rfl ?_
          refine zw_iinc (pc := 128) (i := 6) (n := 1) (lv' := [(0, .ref 203), (1, .int (zJ v1)), (2, .int (zJ ((10 * v5) + v6))), (3, .int (zJ (v3 + 0))), (4, .int (zJ (zand v4 1))), (5, .int (zJ v5)), (6, .int (zJ (v6 + 1)))]) 6 (by decide +kernel) rfl rfl (Nat.le_of_ble_eq_true rfl) rfl ?_
          refine zw_goto (pc := 131) (off := (-84)) (tgt := 47) (by decide +kernel) (by decide) ?_
          exact h
      · replace h := h.2 hc
        refine zw_iconst (pc := 92) (n := 1) (by decide +kernel) ?_
        refine zw_goto (pc := 93) (off := 4) (tgt := 97) (by decide +kernel) (by decide) ?_
        refine zw_iadd (pc := 97) (by decide +kernel) ?_
        refine zw_istore_n (pc := 98) (n := 3) (i := 3) (lv' := [(0, .ref 203), (1, .int (zJ v1)), (2, .int (zJ ((10 * v5) + v6))), (3, .int (zJ (v3 + 1))), (4, .int (zJ v4)), (5, .int (zJ v5)), (6, .int (zJ v6))]) (by decide +kernel) rfl (Nat.le_of_ble_eq_true rfl) rfl ?_
        refine zw_iload (pc := 99) (i := 4) 4 (by decide +kernel) rfl ?_
        refine zw_aload_n (pc := 101) (n := 0) (i := 0) 0 (by decide +kernel) rfl rfl ?_
        refine zw_iload (pc := 102) (i := 5) 5 (by decide +kernel) rfl ?_
        refine zw_iload (pc := 104) (i := 6) 6 (by decide +kernel) rfl ?_
        refine zx_callV (pc := 106) (As := [.int (zJ v5), .int (zJ v6)]) h zi_X11_termAt zii_X11_termAt zie_X11_termAt zl_11_240 (by decide +kernel) ⟨Nat.le_of_ble_eq_true rfl, Nat.le_of_ble_eq_true rfl⟩ rfl zc_203 (by decide) rfl rfl ⟨rfl, rfl⟩ ⟨Nat.zero_le _, Nat.zero_le _⟩ (zki (fun x31 μ30 h => ?_))
        refine zw_aload_n (pc := 109) (n := 0) (i := 0) 0 (by decide +kernel) rfl rfl ?_
        refine zw_iload (pc := 110) (i := 6) 6 (by decide +kernel) rfl ?_
        refine zw_iload (pc := 112) (i := 5) 5 (by decide +kernel) rfl ?_
        refine zx_callV (pc := 114) (As := [.int (zJ v6), .int (zJ v5)]) h zi_X11_termAt zii_X11_termAt zie_X11_termAt zl_11_240 (by decide +kernel) ⟨Nat.le_of_ble_eq_true rfl, Nat.le_of_ble_eq_true rfl⟩ rfl zc_203 (by decide) rfl rfl ⟨rfl, rfl⟩ ⟨Nat.zero_le _, Nat.zero_le _⟩ (zki (fun x33 μ32 h => ?_))
        obtain ⟨o34, o35, h⟩ := h
        refine zw_icmp_ne (pc := 117) (off := 7) (tgt := 124) (by decide +kernel) (by decide) o34 o35 (fun hc => ?_) (fun hc => ?_)
        · replace h := h.1 hc
          refine zw_iconst (pc := 124) (n := 0) (by decide +kernel) ?_
          refine zw_iand (pc := 125) (by decide +kernel) ?_
          refine zw_istore (pc := 126) (i := 4) (lv' := [(0, .ref 203), (1, .int (zJ v1)), (2, .int (zJ ((10 * v5) + v6))), (3, .int (zJ (v3 + 1))), (4, .int (zJ (zand v4 0))), (5, .int (zJ v5)), (6, .int (zJ v6))]) (by decide +kernel) (Nat.le_of_ble_eq_true rfl) rfl ?_
          refine zw_iinc (pc := 128) (i := 6) (n := 1) (lv' := [(0, .ref 203), (1, .int (zJ v1)), (2, .int (zJ ((10 * v5) + v6))), (3, .int (zJ (v3 + 1))), (4, .int (zJ (zand v4 0))), (5, .int (zJ v5)), (6, .int (zJ (v6 + 1)))]) 6 (by decide +kernel) rfl rfl (Nat.le_of_ble_eq_true rfl) rfl ?_
          refine zw_goto (pc := 131) (off := (-84)) (tgt := 47) (by decide +kernel) (by decide) ?_
          exact h
        · replace h := h.2 hc
          refine zw_iconst (pc := 120) (n := 1) (by decide +kernel) ?_
          refine zw_goto (pc := 121) (off := 4) (tgt := 125) (by decide +kernel) (by decide) ?_
          refine zw_iand (pc := 125) (by decide +kernel) ?_
          refine zw_istore (pc := 126) (i := 4) (lv' := [(0, .ref 203), (1, .int (zJ v1)), (2, .int (zJ ((10 * v5) + v6))), (3, .int (zJ (v3 + 1))), (4, .int (zJ (zand v4 1))), (5, .int (zJ v5)), (6, .int (zJ v6))]) (by decide +kernel) (Nat.le_of_ble_eq_true rfl) rfl ?_
          refine zw_iinc (pc := 128) (i := 6) (n := 1) (lv' := [(0, .ref 203), (1, .int (zJ v1)), (2, .int (zJ ((10 * v5) + v6))), (3, .int (zJ (v3 + 1))), (4, .int (zJ (zand v4 1))), (5, .int (zJ v5)), (6, .int (zJ (v6 + 1)))]) 6 (by decide +kernel) rfl rfl (Nat.le_of_ble_eq_true rfl) rfl ?_
          refine zw_goto (pc := 131) (off := (-84)) (tgt := 47) (by decide +kernel) (by decide) ?_
          exact h
