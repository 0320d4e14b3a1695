abbrev at_X11_keep_21 (g : zG) (φ : Int → zMu → Prop) (v1 : Int) (v2 : Int) (μ : zMu) : Prop := zWP g zm_X11_keep (zmo g zm_X11_keep (zΦi φ)) 21 [(0, .ref 203), (1, .int (zJ v1)), (2, .int (zJ v2))] [] 0 0 (zw μ)
abbrev at_X11_keep_82 (g : zG) (φ : Int → zMu → Prop) (v2 : Int) (v3 : Int) (μ : zMu) : Prop := zWP g zm_X11_keep (zmo g zm_X11_keep (zΦi φ)) 82 [(0, .ref 203), (2, .int (zJ v2)), (3, .int (zJ v3))] [] 0 0 (zw μ)
theorem sg_X11_keep {g : zG} {φ : Int → zMu → Prop} {v1 : Int} {μ : zMu}
    (h : zOi g zm_X11_isKept [.int (zJ v1)] μ (fun x2 μ1 => (zR x2) ∧ ((¬ x2 = 0 → (zR (μ1 203 4)) ∧ ((¬ (μ1 203 4) = 0 → at_X11_keep_21 g φ v1 0 μ1) ∧ ((μ1 203 4) = 0 → φ (-11) μ1))) ∧ (x2 = 0 → φ (-1) μ1)))) : zOi g zm_X11_keep [.ref 203, .int (zJ v1)] μ φ := by
  refine zok_of (by decide +kernel) rfl ?_
  show zWP g zm_X11_keep (zmo g zm_X11_keep (zΦi φ)) 0 [(0, .ref 203), (1, .int (zJ v1))] [] 0 0 (zw μ)
  refine zw_iload_n (pc := 0) (n := 1) (i := 1) 1 (by decide +kernel) rfl rfl ?_
  refine zx_callS (pc := 1) (As := [.int (zJ v1)]) h zi_X11_isKept zis_X11_isKept zl_11_269 (by decide +kernel) ⟨Nat.le_of_ble_eq_true rfl, Nat.le_of_ble_eq_true rfl⟩ rfl rfl ⟨rfl, rfl⟩ ⟨Nat.zero_le _, Nat.zero_le _⟩ (zki (fun x2 μ1 h => ?_))
  obtain ⟨o3, h⟩ := h
  refine zw_if_ne (pc := 4) (off := 5) (tgt := 9) (by decide +kernel) (by decide) o3 (fun hc => ?_) (fun hc => ?_)
  · replace h := h.1 hc
    obtain ⟨o4, h⟩ := h
    refine zw_aload_n (pc := 9) (n := 0) (i := 0) 0 (by decide +kernel) rfl rfl ?_
    refine zx_getI (pc := 10) zf_11_128 (by decide +kernel) rfl zc_203 ?_
    refine zw_if_ne (pc := 13) (off := 6) (tgt := 19) (by decide +kernel) (by decide) o4 (fun hc => ?_) (fun hc => ?_)
    · replace h := h.1 hc
      refine zw_iconst (pc := 19) (n := 0) (by decide +kernel) ?_
      refine zw_istore_n (pc := 20) (n := 2) (i := 2) (lv' := [(0, .ref 203), (1, .int (zJ v1)), (2, .int (zJ 0))]) (by decide +kernel) rfl (Nat.le_of_ble_eq_true rfl) rfl ?_
      exact h
    · replace h := h.2 hc
      refine zw_bipush (pc := 16) (n := (-11)) (by decide +kernel) (by decide +kernel) ?_
      exact zw_iret (pc := 18) (by decide +kernel) rfl (Nat.le_refl _) (Nat.le_refl _) ⟨_, _, rfl, rfl, h⟩
  · replace h := h.2 hc
    refine zw_iconst (pc := 7) (n := (-1)) (by decide +kernel) ?_
    exact zw_iret (pc := 8) (by decide +kernel) rfl (Nat.le_refl _) (Nat.le_refl _) ⟨_, _, rfl, rfl, h⟩
theorem sg_X11_keep_21 {g : zG} {φ : Int → zMu → Prop} {v1 : Int} {v2 : Int} {μ : zMu}
    (h : (zR v2) ∧ ((8 ≤ v2 → (0 ≤ (83 * v1) ∧ (83 * v1) < 664) ∧ (0 ≤ ((83 * v1) + 1) ∧ ((83 * v1) + 1) < 664) ∧ at_X11_keep_82 g φ (83 * v1) 0 (zup (zup μ 208 (Int.toNat (83 * v1)) (μ 203 0)) 208 (Int.toNat ((83 * v1) + 1)) ((zup μ 208 (Int.toNat (83 * v1)) (μ 203 0)) 203 4))) ∧ (v2 < 8 → (zR v1) ∧ ((v2 = v1 → at_X11_keep_21 g φ v1 (v2 + 1) μ) ∧ (¬ v2 = v1 → zOi g zm_X11_keptPrime [.ref 203, .int (zJ v2)] μ (fun x6 μ5 => (zR x6) ∧ (zR (μ5 203 0)) ∧ ((¬ x6 = (μ5 203 0) → at_X11_keep_21 g φ v1 (v2 + 1) μ5) ∧ (x6 = (μ5 203 0) → φ (-3) μ5)))))))) : at_X11_keep_21 g φ v1 v2 μ := by
  obtain ⟨o1, h⟩ := h
  refine zw_iload_n (pc := 21) (n := 2) (i := 2) 2 (by decide +kernel) rfl rfl ?_
  refine zw_bipush (pc := 22) (n := 8) (by decide +kernel) (by decide +kernel) ?_
  refine zw_icmp_ge (pc := 24) (off := 29) (tgt := 53) (by decide +kernel) (by decide) o1 ⟨by decide, by decide⟩ (fun hc => ?_) (fun hc => ?_)
  · replace h := h.1 hc
    obtain ⟨o2, o3, h⟩ := h
    refine zw_bipush (pc := 53) (n := 83) (by decide +kernel) (by decide +kernel) ?_
    refine zw_iload_n (pc := 55) (n := 1) (i := 1) 1 (by decide +kernel) rfl rfl ?_
    refine zw_imul (pc := 56) (by decide +kernel) ?_
    refine zw_istore_n (pc := 57) (n := 2) (i := 2) (lv' := [(0, .ref 203), (1, .int (zJ v1)), (2, .int (zJ (83 * v1)))]) (by decide +kernel) rfl (Nat.le_of_ble_eq_true rfl) rfl ?_
    refine zw_aload_n (pc := 58) (n := 0) (i := 0) 0 (by decide +kernel) rfl rfl ?_
    refine zx_getR (pc := 59) (o := 5) (r := 208) zf_11_28 (by decide +kernel) rfl zc_203 rfl (by decide) rfl ?_
    refine zw_iload_n (pc := 62) (n := 2) (i := 2) 2 (by decide +kernel) rfl rfl ?_
    refine zw_aload_n (pc := 63) (n := 0) (i := 0) 0 (by decide +kernel) rfl rfl ?_
    refine zx_getI (pc := 64) zf_11_9 (by decide +kernel) rfl zc_203 ?_
    refine zx_iastore (pc := 67) (by decide +kernel) ⟨664, zc_208, o2.1, o2.2⟩ ?_
    refine zw_aload_n (pc := 68) (n := 0) (i := 0) 0 (by decide +kernel) rfl rfl ?_
    refine zx_getR (pc := 69) (o := 5) (r := 208) zf_11_28 (by decide +kernel) rfl zc_203 rfl (by decide) rfl ?_
    refine zw_iload_n (pc := 72) (n := 2) (i := 2) 2 (by decide +kernel) rfl rfl ?_
    refine zw_iconst (pc := 73) (n := 1) (by decide +kernel) ?_
    refine zw_iadd (pc := 74) (by decide +kernel) ?_
    refine zw_aload_n (pc := 75) (n := 0) (i := 0) 0 (by decide +kernel) rfl rfl ?_
    refine zx_getI (pc := 76) zf_11_128 (by decide +kernel) rfl zc_203 ?_
    refine zx_iastore (pc := 79) (by decide +kernel) ⟨664, zc_208, o3.1, o3.2⟩ ?_
    refine zw_iconst (pc := 80) (n := 0) (by decide +kernel) ?_
    refine zw_istore_n (pc := 81) (n := 3) (i := 3) (lv' := [(0, .ref 203), (1, .int (zJ v1)), (2, .int (zJ (83 * v1))), (3, .int (zJ 0))]) (by decide +kernel) rfl (Nat.le_of_ble_eq_true rfl) rfl ?_
    exact zw_pick (lv' := [(0, .ref 203), (2, .int (zJ (83 * v1))), (3, .int (zJ 0))]) [0, 2, 3] rfl h
  · replace h := h.2 hc
    obtain ⟨o4, h⟩ := h
    refine zw_iload_n (pc := 27) (n := 2) (i := 2) 2 (by decide +kernel) rfl rfl ?_
    refine zw_iload_n (pc := 28) (n := 1) (i := 1) 1 (by decide +kernel) rfl rfl ?_
    refine zw_icmp_eq (pc := 29) (off := 18) (tgt := 47) (by decide +kernel) (by decide) o1 o4 (fun hc => ?_) (fun hc => ?_)
    · replace h := h.1 hc
      refine zw_iinc (pc := 47) (i := 2) (n := 1) (lv' := [(0, .ref 203), (1, .int (zJ v1)), (2, .int (zJ (v2 + 1)))]) 2 (by decide +kernel) rfl rfl (Nat.le_of_ble_eq_true rfl) rfl ?_
      refine zw_goto (pc := 50) (off := (-29)) (tgt := 21) (by decide +kernel) (by decide) ?_
      exact h
    · replace h := h.2 hc
      refine zw_aload_n (pc := 32) (n := 0) (i := 0) 0 (by decide +kernel) rfl rfl ?_
      refine zw_iload_n (pc := 33) (n := 2) (i := 2) 2 (by decide +kernel) rfl rfl ?_
      refine zx_callV (pc := 34) (As := [.int (zJ v2)]) h zi_X11_keptPrime zii_X11_keptPrime zie_X11_keptPrime zl_11_266 (by decide +kernel) ⟨Nat.le_of_ble_eq_true rfl, Nat.le_of_ble_eq_true rfl⟩ rfl zc_203 (by decide) rfl rfl ⟨rfl, rfl⟩ ⟨Nat.zero_le _, Nat.zero_le _⟩ (zki (fun x6 μ5 h => ?_))
      obtain ⟨o7, o8, h⟩ := h
      refine zw_aload_n (pc := 37) (n := 0) (i := 0) 0 (by decide +kernel) rfl rfl ?_
      refine zx_getI (pc := 38) zf_11_9 (by decide +kernel) rfl zc_203 ?_
      refine zw_icmp_ne (pc := 41) (off := 6) (tgt := 47) (by decide +kernel) (by decide) o7 o8 (fun hc => ?_) (fun hc => ?_)
      · replace h := h.1 hc
        refine zw_iinc (pc := 47) (i := 2) (n := 1) (lv' := [(0, .ref 203), (1, .int (zJ v1)), (2, .int (zJ (v2 + 1)))]) 2 (by decide +kernel) rfl rfl (Nat.le_of_ble_eq_true rfl) rfl ?_
        refine zw_goto (pc := 50) (off := (-29)) (tgt := 21) (by decide +kernel) (by decide) ?_
        exact h
      · replace h := h.2 hc
        refine zw_bipush (pc := 44) (n := (-3)) (by decide +kernel) (by decide +kernel) ?_
        exact zw_iret (pc := 46) (by decide +kernel) rfl (Nat.le_refl _) (Nat.le_refl _) ⟨_, _, rfl, rfl, h⟩
theorem sg_X11_keep_82 {g : zG} {φ : Int → zMu → Prop} {v2 : Int} {v3 : Int} {μ : zMu}
    (h : (zR v3) ∧ ((81 ≤ v3 → zOi g zm_X11_keptMany [.ref 203] μ (fun x3 μ2 => φ x3 μ2)) ∧ (v3 < 81 → (0 ≤ v3 ∧ v3 < 81) ∧ (0 ≤ ((v2 + 2) + v3) ∧ ((v2 + 2) + v3) < 664) ∧ at_X11_keep_82 g φ v2 (v3 + 1) (zup μ 208 (Int.toNat ((v2 + 2) + v3)) (μ 207 v3.toNat))))) : at_X11_keep_82 g φ v2 v3 μ := by
  obtain ⟨o1, h⟩ := h
  refine zw_iload_n (pc := 82) (n := 3) (i := 3) 2 (by decide +kernel) rfl rfl ?_
  refine zw_bipush (pc := 83) (n := 81) (by decide +kernel) (by decide +kernel) ?_
  refine zw_icmp_ge (pc := 85) (off := 25) (tgt := 110) (by decide +kernel) (by decide) o1 ⟨by decide, by decide⟩ (fun hc => ?_) (fun hc => ?_)
  · replace h := h.1 hc
    refine zw_aload_n (pc := 110) (n := 0) (i := 0) 0 (by decide +kernel) rfl rfl ?_
    refine zx_callV (pc := 111) (As := []) h zi_X11_keptMany zii_X11_keptMany zie_X11_keptMany zl_11_272 (by decide +kernel) ⟨Nat.le_of_ble_eq_true rfl, Nat.le_of_ble_eq_true rfl⟩ rfl zc_203 (by decide) rfl rfl ⟨rfl, rfl⟩ ⟨Nat.zero_le _, Nat.zero_le _⟩ (zki (fun x3 μ2 h => ?_))
    exact zw_iret (pc := 114) (by decide +kernel) rfl (Nat.le_refl _) (Nat.le_refl _) ⟨_, _, rfl, rfl, h⟩
  · replace h := h.2 hc
    obtain ⟨o4, o5, h⟩ := h
    refine zw_aload_n (pc := 88) (n := 0) (i := 0) 0 (by decide +kernel) rfl rfl ?_
    refine zx_getR (pc := 89) (o := 5) (r := 208) zf_11_28 (by decide +kernel) rfl zc_203 rfl (by decide) rfl ?_
    refine zw_iload_n (pc := 92) (n := 2) (i := 2) 1 (by decide +kernel) rfl rfl ?_
    refine zw_iconst (pc := 93) (n := 2) (by decide +kernel) ?_
    refine zw_iadd (pc := 94) (by decide +kernel) ?_
    refine zw_iload_n (pc := 95) (n := 3) (i := 3) 2 (by decide +kernel) rfl rfl ?_
    refine zw_iadd (pc := 96) (by decide +kernel) ?_
    refine zw_aload_n (pc := 97) (n := 0) (i := 0) 0 (by decide +kernel) rfl rfl ?_
    refine zx_getR (pc := 98) (o := 4) (r := 207) zf_11_25 (by decide +kernel) rfl zc_203 rfl (by decide) rfl ?_
    refine zw_iload_n (pc := 101) (n := 3) (i := 3) 2 (by decide +kernel) rfl rfl ?_
    refine zx_iaload (pc := 102) (by decide +kernel) ⟨81, zc_207, o4.1, o4.2⟩ ?_
    refine zx_iastore (pc := 103) (by decide +kernel) ⟨664, zc_208, o5.1, o5.2⟩ ?_
    refine zw_iinc (pc := 104) (i := 3) (n := 1) (lv' := [(0, .ref 203), (2, .int (zJ v2)), (3, .int (zJ (v3 + 1)))]) 2 (by decide +kernel) rfl rfl (Nat.le_of_ble_eq_true rfl) rfl ?_
    refine zw_goto (pc := 107) (off := (-25)) (tgt := 82) (by decide +kernel) (by decide) ?_
    exact h
theorem sg_X11_isKept {g : zG} {φ : Int → zMu → Prop} {v0 : Int} {μ : zMu}
    (h : (zR v0) ∧ zOi g zm_X11_in [.long (zL v0), .long (zL 0), .long (zL 7)] μ (fun x3 μ2 => (x3 = 0 ∨ x3 = 1) ∧ φ x3 μ2)) : zOi g zm_X11_isKept [.int (zJ v0)] μ φ := by
  refine zok_of (by decide +kernel) rfl ?_
  show zWP g zm_X11_isKept (zmo g zm_X11_isKept (zΦi φ)) 0 [(0, .int (zJ v0))] [] 0 0 (zw μ)
  obtain ⟨o1, h⟩ := h
  refine zw_iload_n (pc := 0) (n := 0) (i := 0) 0 (by decide +kernel) rfl rfl ?_
  refine zw_i2l (pc := 1) (by decide +kernel) o1 ?_
  refine zw_lconst (pc := 2) (n := 0) (v := 0) (by decide +kernel) rfl ?_
  refine zw_ldc2 (pc := 3) (v := 7) (by decide +kernel) zk_11_264 ?_
  refine zx_callS (pc := 6) (As := [.long (zL v0), .long (zL 0), .long (zL 7)]) h zi_X11_in zis_X11_in zl_11_114 (by decide +kernel) ⟨Nat.le_of_ble_eq_true rfl, Nat.le_of_ble_eq_true rfl⟩ rfl rfl ⟨rfl, rfl⟩ ⟨Nat.zero_le _, Nat.zero_le _⟩ (zki (fun x3 μ2 h => ?_))
  obtain ⟨o4, h⟩ := h
  exact zw_zret (pc := 9) (by decide +kernel) rfl (Nat.le_refl _) (Nat.le_refl _) o4 ⟨_, _, rfl, rfl, h⟩
theorem sg_X11_keptPrime {g : zG} {φ : Int → zMu → Prop} {v1 : Int} {μ : zMu}
    (h : (0 ≤ (83 * v1) ∧ (83 * v1) < 664) ∧ φ (μ 208 (Int.toNat (83 * v1))) μ) : zOi g zm_X11_keptPrime [.ref 203, .int (zJ v1)] μ φ := by
  refine zok_of (by decide +kernel) rfl ?_
  show zWP g zm_X11_keptPrime (zmo g zm_X11_keptPrime (zΦi φ)) 0 [(0, .ref 203), (1, .int (zJ v1))] [] 0 0 (zw μ)
  obtain ⟨o1, h⟩ := h
  refine zw_aload_n (pc := 0) (n := 0) (i := 0) 0 (by decide +kernel) rfl rfl ?_
  refine zx_getR (pc := 1) (o := 5) (r := 208) zf_11_28 (by decide +kernel) rfl zc_203 rfl (by decide) rfl ?_
  refine zw_bipush (pc := 4) (n := 83) (by decide +kernel) (by decide +kernel) ?_
  refine zw_iload_n (pc := 6) (n := 1) (i := 1) 1 (by decide +kernel) rfl rfl ?_
  refine zw_imul (pc := 7) (by decide +kernel) ?_
  refine zx_iaload (pc := 8) (by decide +kernel) ⟨664, zc_208, o1.1, o1.2⟩ ?_
  exact zw_iret (pc := 9) (by decide +kernel) rfl (Nat.le_refl _) (Nat.le_refl _) ⟨_, _, rfl, rfl, h⟩
abbrev at_X11_keptMany_4 (g : zG) (φ : Int → zMu → Prop) (v1 : Int) (v2 : Int) (μ : zMu) : Prop := zWP g zm_X11_keptMany (zmo g zm_X11_keptMany (zΦi φ)) 4 [(0, .ref 203), (1, .int (zJ v1)), (2, .int (zJ v2))] [] 0 0 (zw μ)
theorem sg_X11_keptMany {g : zG} {φ : Int → zMu → Prop} {μ : zMu}
    (h : at_X11_keptMany_4 g φ 0 0 μ) : zOi g zm_X11_keptMany [.ref 203] μ φ := by
  refine zok_of (by decide +kernel) rfl ?_
  show zWP g zm_X11_keptMany (zmo g zm_X11_keptMany (zΦi φ)) 0 [(0, .ref 203)] [] 0 0 (zw μ)
  refine zw_iconst (pc := 0) (n := 0) (by decide +kernel) ?_
  refine zw_istore_n (pc := 1) (n := 1) (i := 1) (lv' := [(0, .ref 203), (1, .int (zJ 0))]) (by decide +kernel) rfl (Nat.le_of_ble_eq_true rfl) rfl ?_
  refine zw_iconst (pc := 2) (n := 0) (by decide +kernel) ?_
  refine zw_istore_n (pc := 3) (n := 2) (i := 2) (lv' := [(0, .ref 203), (1, .int (zJ 0)), (2, .int (zJ 0))]) (by decide +kernel) rfl (Nat.le_of_ble_eq_true rfl) rfl ?_
  exact h
theorem sg_X11_keptMany_4 {g : zG} {φ : Int → zMu → Prop} {v1 : Int} {v2 : Int} {μ : zMu}
    (h : (zR v2) ∧ ((8 ≤ v2 → φ v1 μ) ∧ (v2 < 8 → zOi g zm_X11_keptPrime [.ref 203, .int (zJ v2)] μ (fun x3 μ2 => (zR x3) ∧ ((x3 ≤ 0 → at_X11_keptMany_4 g φ (v1 + 0) (v2 + 1) μ2) ∧ (0 < x3 → at_X11_keptMany_4 g φ (v1 + 1) (v2 + 1) μ2)))))) : at_X11_keptMany_4 g φ v1 v2 μ := by
  obtain ⟨o1, h⟩ := h
  refine zw_iload_n (pc := 4) (n := 2) (i := 2) 2 (by decide +kernel) rfl rfl ?_
  refine zw_bipush (pc := 5) (n := 8) (by decide +kernel) (by decide +kernel) ?_
  refine zw_icmp_ge (pc := 7) (off := 25) (tgt := 32) (by decide +kernel) (by decide) o1 ⟨by decide, by decide⟩ (fun hc => ?_) (fun hc => ?_)
  · replace h := h.1 hc
    refine zw_iload_n (pc := 32) (n := 1) (i := 1) 1 (by decide +kernel) rfl rfl ?_
    exact zw_iret (pc := 33) (by decide +kernel) rfl (Nat.le_refl _) (Nat.le_refl _) ⟨_, _, rfl, rfl, h⟩
  · replace h := h.2 hc
    refine zw_iload_n (pc := 10) (n := 1) (i := 1) 1 (by decide +kernel) rfl rfl ?_
    refine zw_aload_n (pc := 11) (n := 0) (i := 0) 0 (by decide +kernel) rfl rfl ?_
    refine zw_iload_n (pc := 12) (n := 2) (i := 2) 2 (by decide +kernel) rfl rfl ?_
    refine zx_callV (pc := 13) (As := [.int (zJ v2)]) h zi_X11_keptPrime zii_X11_keptPrime zie_X11_keptPrime zl_11_266 (by decide +kernel) ⟨Nat.le_of_ble_eq_true rfl, Nat.le_of_ble_eq_true rfl⟩ rfl zc_203 (by decide) rfl rfl ⟨rfl, rfl⟩ ⟨Nat.zero_le _, Nat.zero_le _⟩ (zki (fun x3 μ2 h => ?_))
    obtain ⟨o4, h⟩ := h
    refine zw_if_le (pc := 16) (off := 7) (tgt := 23) (by decide +kernel) (by decide) o4 (fun hc => ?_) (fun hc => ?_)
    · replace h := h.1 hc
      refine zw_iconst (pc := 23) (n := 0) (by decide +kernel) ?_
      refine zw_iadd (pc := 24) (by decide +kernel) ?_
      refine zw_istore_n (pc := 25) (n := 1) (i := 1) (lv' := [(0, .ref 203), (1, .int (zJ (v1 + 0))), (2, .int (zJ v2))]) (by decide +kernel) rfl (Nat.le_of_ble_eq_true rfl) rfl ?_
      refine zw_iinc (pc := 26) (i := 2) (n := 1) (lv' := [(0, .ref 203), (1, .int (zJ (v1 + 0))), (2, .int (zJ (v2 + 1)))]) 2 (by decide +kernel) rfl rfl (Nat.le_of_ble_eq_true rfl) rfl ?_
      refine zw_goto (pc := 29) (off := (-25)) (tgt := 4) (by decide +kernel) (by decide) ?_
      exact h
    · replace h := h.2 hc
      refine zw_iconst (pc := 19) (n := 1) (by decide +kernel) ?_
      refine zw_goto (pc := 20) (off := 4) (tgt := 24) (by decide +kernel) (by decide) ?_
      refine zw_iadd (pc := 24) (by decide +kernel) ?_
      refine zw_istore_n (pc := 25) (n := 1) (i := 1) (lv' := [(0, .ref 203), (1, .int (zJ (v1 + 1))), (2, .int (zJ v2))]) (by decide +kernel) rfl (Nat.le_of_ble_eq_true rfl) rfl ?_
      refine zw_iinc (pc := 26) (i := 2) (n := 1) (lv' := [(0, .ref 203), (1, .int (zJ (v1 + 1))), (2, .int (zJ (v2 + 1)))]) 2 (by decide +kernel) rfl rfl (Nat.le_of_ble_eq_true rfl) rfl ?_
      refine zw_goto (pc := 29) (off := (-25)) (tgt := 4) (by decide +kernel) (by decide) ?_
      exact h
theorem sg_X11_drop {g : zG} {φ : Int → zMu → Prop} {v1 : Int} {μ : zMu}
    (h : zOi g zm_X11_isKept [.int (zJ v1)] μ (fun x2 μ1 => (zR x2) ∧ ((¬ x2 = 0 → zOi g zm_X11_keptPrime [.ref 203, .int (zJ v1)] μ1 (fun x5 μ4 => (0 ≤ (83 * v1) ∧ (83 * v1) < 664) ∧ (zR x5) ∧ ((¬ x5 = 0 → φ x5 (zup μ4 208 (Int.toNat (83 * v1)) 0)) ∧ (x5 = 0 → φ (-11) (zup μ4 208 (Int.toNat (83 * v1)) 0))))) ∧ (x2 = 0 → φ (-1) μ1)))) : zOi g zm_X11_drop [.ref 203, .int (zJ v1)] μ φ := by
  refine zok_of (by decide +kernel) rfl ?_
  show zWP g zm_X11_drop (zmo g zm_X11_drop (zΦi φ)) 0 [(0, .ref 203), (1, .int (zJ v1))] [] 0 0 (zw μ)
  refine zw_iload_n (pc := 0) (n := 1) (i := 1) 1 (by decide +kernel) rfl rfl ?_
  refine zx_callS (pc := 1) (As := [.int (zJ v1)]) h zi_X11_isKept zis_X11_isKept zl_11_269 (by decide +kernel) ⟨Nat.le_of_ble_eq_true rfl, Nat.le_of_ble_eq_true rfl⟩ rfl rfl ⟨rfl, rfl⟩ ⟨Nat.zero_le _, Nat.zero_le _⟩ (zki (fun x2 μ1 h => ?_))
  obtain ⟨o3, h⟩ := h
  refine zw_if_ne (pc := 4) (off := 5) (tgt := 9) (by decide +kernel) (by decide) o3 (fun hc => ?_) (fun hc => ?_)
  · replace h := h.1 hc
    refine zw_aload_n (pc := 9) (n := 0) (i := 0) 0 (by decide +kernel) rfl rfl ?_
    refine zw_iload_n (pc := 10) (n := 1) (i := 1) 1 (by decide +kernel) rfl rfl ?_
    refine zx_callV (pc := 11) (As := [.int (zJ v1)]) h zi_X11_keptPrime zii_X11_keptPrime zie_X11_keptPrime zl_11_266 (by decide +kernel) ⟨Nat.le_of_ble_eq_true rfl, Nat.le_of_ble_eq_true rfl⟩ rfl zc_203 (by decide) rfl rfl ⟨rfl, rfl⟩ ⟨Nat.zero_le _, Nat.zero_le _⟩ (zki (fun x5 μ4 h => ?_))
    obtain ⟨o6, o7, h⟩ := h
    refine zw_istore_n (pc := 14) (n := 2) (i := 2) (lv' := [(0, .ref 203), (1, .int (zJ v1)), (2, .int (zJ x5))]) (by decide +kernel) rfl (Nat.le_of_ble_eq_true rfl) rfl ?_
    refine zw_aload_n (pc := 15) (n := 0) (i := 0) 0 (by decide +kernel) rfl rfl ?_
    refine zx_getR (pc := 16) (o := 5) (r := 208) zf_11_28 (by decide +kernel) rfl zc_203 rfl (by decide) rfl ?_
    refine zw_bipush (pc := 19) (n := 83) (by decide +kernel) (by decide +kernel) ?_
    refine zw_iload_n (pc := 21) (n := 1) (i := 1) 1 (by decide +kernel) rfl rfl ?_
    refine zw_imul (pc := 22) (by decide +kernel) ?_
    refine zw_iconst (pc := 23) (n := 0) (by decide +kernel) ?_
    refine zx_iastore (pc := 24) (by decide +kernel) ⟨664, zc_208, o6.1, o6.2⟩ ?_
    refine zw_iload_n (pc := 25) (n := 2) (i := 2) 2 (by decide +kernel) rfl rfl ?_
    refine zw_if_ne (pc := 26) (off := 8) (tgt := 34) (by decide +kernel) (by decide) o7 (fun hc => ?_) (fun hc => ?_)
    · replace h := h.1 hc
      refine zw_iload_n (pc := 34) (n := 2) (i := 2) 2 (by decide +kernel) rfl rfl ?_
      exact zw_iret (pc := 35) (by decide +kernel) rfl (Nat.le_refl _) (Nat.le_refl _) ⟨_, _, rfl, rfl, h⟩
    · replace h := h.2 hc
      refine zw_bipush (pc := 29) (n := (-11)) (by decide +kernel) (by decide +kernel) ?_
      refine zw_goto (pc := 31) (off := 4) (tgt := 35) (by decide +kernel) (by decide) ?_
      exact zw_iret (pc := 35) (by decide +kernel) rfl (Nat.le_refl _) (Nat.le_refl _) ⟨_, _, rfl, rfl, h⟩
  · replace h := h.2 hc
    refine zw_iconst (pc := 7) (n := (-1)) (by decide +kernel) ?_
    exact zw_iret (pc := 8) (by decide +kernel) rfl (Nat.le_refl _) (Nat.le_refl _) ⟨_, _, rfl, rfl, h⟩
abbrev at_X11_whole__4 (g : zG) (φ : Int → zMu → Prop) (v1 : Int) (v3 : Int) (μ : zMu) : Prop := zWP g zm_X11_whole_ (zmo g zm_X11_whole_ (zΦl φ)) 4 [(0, .ref 203), (1, .long (zL v1)), (3, .int (zJ v3))] [] 0 0 (zw μ)
theorem sg_X11_whole_ {g : zG} {φ : Int → zMu → Prop} {μ : zMu}
    (h : at_X11_whole__4 g φ 1 0 μ) : zOl g zm_X11_whole_ [.ref 203] μ φ := by
  refine zok_of (by decide +kernel) rfl ?_
  show zWP g zm_X11_whole_ (zmo g zm_X11_whole_ (zΦl φ)) 0 [(0, .ref 203)] [] 0 0 (zw μ)
  refine zw_lconst (pc := 0) (n := 1) (v := 1) (by decide +kernel) rfl ?_
  refine zw_lstore_n (pc := 1) (n := 1) (i := 1) (lv' := [(0, .ref 203), (1, .long (zL 1))]) (by decide +kernel) rfl (Nat.le_of_ble_eq_true rfl) rfl ?_
  refine zw_iconst (pc := 2) (n := 0) (by decide +kernel) ?_
  refine zw_istore_n (pc := 3) (n := 3) (i := 3) (lv' := [(0, .ref 203), (1, .long (zL 1)), (3, .int (zJ 0))]) (by decide +kernel) rfl (Nat.le_of_ble_eq_true rfl) rfl ?_
  exact h
theorem sg_X11_whole__4 {g : zG} {φ : Int → zMu → Prop} {v1 : Int} {v3 : Int} {μ : zMu}
    (h : (zR v3) ∧ ((8 ≤ v3 → zOi g zm_X11_keptMany [.ref 203] μ (fun x3 μ2 => (zR x3) ∧ ((¬ x3 = 0 → φ v1 μ2) ∧ (x3 = 0 → φ (-9223372036854775808) μ2)))) ∧ (v3 < 8 → zOi g zm_X11_keptPrime [.ref 203, .int (zJ v3)] μ (fun x6 μ5 => (zR x6) ∧ ((x6 ≤ 0 → at_X11_whole__4 g φ (v1 * 1) (v3 + 1) μ5) ∧ (0 < x6 → zOi g zm_X11_keptPrime [.ref 203, .int (zJ v3)] μ5 (fun x9 μ8 => (zR x9) ∧ at_X11_whole__4 g φ (v1 * x9) (v3 + 1) μ8))))))) : at_X11_whole__4 g φ v1 v3 μ := by
  obtain ⟨o1, h⟩ := h
  refine zw_iload_n (pc := 4) (n := 3) (i := 3) 2 (by decide +kernel) rfl rfl ?_
  refine zw_bipush (pc := 5) (n := 8) (by decide +kernel) (by decide +kernel) ?_
  refine zw_icmp_ge (pc := 7) (off := 30) (tgt := 37) (by decide +kernel) (by decide) o1 ⟨by decide, by decide⟩ (fun hc => ?_) (fun hc => ?_)
  · replace h := h.1 hc
    refine zw_aload_n (pc := 37) (n := 0) (i := 0) 0 (by decide +kernel) rfl rfl ?_
    refine zx_callV (pc := 38) (As := []) h zi_X11_keptMany zii_X11_keptMany zie_X11_keptMany zl_11_272 (by decide +kernel) ⟨Nat.le_of_ble_eq_true rfl, Nat.le_of_ble_eq_true rfl⟩ rfl zc_203 (by decide) rfl rfl ⟨rfl, rfl⟩ ⟨Nat.zero_le _, Nat.zero_le _⟩ (zki (fun x3 μ2 h => ?_))
    obtain ⟨o4, h⟩ := h
    refine zw_if_ne (pc := 41) (off := 9) (tgt := 50) (by decide +kernel) (by decide) o4 (fun hc => ?_) (fun hc => ?_)
    · replace h := h.1 hc
      refine zw_lload_n (pc := 50) (n := 1) (i := 1) 1 (by decide +kernel) rfl rfl ?_
      exact zw_lret (pc := 51) (by decide +kernel) rfl (Nat.le_refl _) (Nat.le_refl _) ⟨_, _, rfl, rfl, h⟩
    · replace h := h.2 hc
      refine zw_ldc2 (pc := 44) (v := (-9223372036854775808)) (by decide +kernel) zk_11_275 ?_
      refine zw_goto (pc := 47) (off := 4) (tgt := 51) (by decide +kernel) (by decide) ?_
      exact zw_lret (pc := 51) (by decide +kernel) rfl (Nat.le_refl _) (Nat.le_refl _) ⟨_, _, rfl, rfl, h⟩
  · replace h := h.2 hc
    refine zw_lload_n (pc := 10) (n := 1) (i := 1) 1 (by decide +kernel) rfl rfl ?_
    refine zw_aload_n (pc := 11) (n := 0) (i := 0) 0 (by decide +kernel) rfl rfl ?_
    refine zw_iload_n (pc := 12) (n := 3) (i := 3) 2 (by decide +kernel) rfl rfl ?_
    refine zx_callV (pc := 13) (As := [.int (zJ v3)]) h zi_X11_keptPrime zii_X11_keptPrime zie_X11_keptPrime zl_11_266 (by decide +kernel) ⟨Nat.le_of_ble_eq_true rfl, Nat.le_of_ble_eq_true rfl⟩ rfl zc_203 (by decide) rfl rfl ⟨rfl, rfl⟩ ⟨Nat.zero_le _, Nat.zero_le _⟩ (zki (fun x6 μ5 h => ?_))
    obtain ⟨o7, h⟩ := h
    refine zw_if_le (pc := 16) (off := 12) (tgt := 28) (by decide +kernel) (by decide) o7 (fun hc => ?_) (fun hc => ?_)
    · replace h := h.1 hc
      refine zw_lconst (pc := 28) (n := 1) (v := 1) (by decide +kernel) rfl ?_
      refine zw_lmul (pc := 29) (by decide +kernel) ?_
      refine zw_lstore_n (pc := 30) (n := 1) (i := 1) (lv' := [(0, .ref 203), (1, .long (zL (v1 * 1))), (3, .int (zJ v3))]) (by decide +kernel) rfl (Nat.le_of_ble_eq_true rfl) rfl ?_
      refine zw_iinc (pc := 31) (i := 3) (n := 1) (lv' := [(0, .ref 203), (1, .long (zL (v1 * 1))), (3, .int (zJ (v3 + 1)))]) 2 (by decide +kernel) rfl rfl (Nat.le_of_ble_eq_true rfl) rfl ?_
      refine zw_goto (pc := 34) (off := (-30)) (tgt := 4) (by decide +kernel) (by decide) ?_
      exact h
    · replace h := h.2 hc
      refine zw_aload_n (pc := 19) (n := 0) (i := 0) 0 (by decide +kernel) rfl rfl ?_
      refine zw_iload_n (pc := 20) (n := 3) (i := 3) 2 (by decide +kernel) rfl rfl ?_
      refine zx_callV (pc := 21) (As := [.int (zJ v3)]) h zi_X11_keptPrime zii_X11_keptPrime zie_X11_keptPrime zl_11_266 (by decide +kernel) ⟨Nat.le_of_ble_eq_true rfl, Nat.le_of_ble_eq_true rfl⟩ rfl zc_203 (by decide) rfl rfl ⟨rfl, rfl⟩ ⟨Nat.zero_le _, Nat.zero_le _⟩ (zki (fun x9 μ8 h => ?_))
      obtain ⟨o10, h⟩ := h
      refine zw_i2l (pc := 24) (by decide +kernel) o10 ?_
      refine zw_goto (pc := 25) (off := 4) (tgt := 29) (by decide +kernel) (by decide) ?_
      refine zw_lmul (pc := 29) (by decide +kernel) ?_
      refine zw_lstore_n (pc := 30) (n := 1) (i := 1) (lv' := [(0, .ref 203), (1, .long (zL (v1 * x9))), (3, .int (zJ v3))]) (by decide +kernel) rfl (Nat.le_of_ble_eq_true rfl) rfl ?_
      refine zw_iinc (pc := 31) (i := 3) (n := 1) (lv' := [(0, .ref 203), (1, .long (zL (v1 * x9))), (3, .int (zJ (v3 + 1)))]) 2 (by decide +kernel) rfl rfl (Nat.le_of_ble_eq_true rfl) rfl ?_
      refine zw_goto (pc := 34) (off := (-30)) (tgt := 4) (by decide +kernel) (by decide) ?_
      exact h
abbrev at_X11_joined_44 (g : zG) (φ : Int → zMu → Prop) (v1 : Int) (v2 : Int) (v3 : Int) (v4 : Int) (v6 : Int) (v8 : Int) (μ : zMu) : Prop := zWP g zm_X11_joined (zmo g zm_X11_joined (zΦl φ)) 44 [(0, .ref 203), (1, .int (zJ v1)), (2, .int (zJ v2)), (3, .int (zJ v3)), (4, .long (zL v4)), (6, .long (zL v6)), (8, .int (zJ v8))] [] 0 0 (zw μ)
abbrev at_X11_joined_88 (g : zG) (φ : Int → zMu → Prop) (v1 : Int) (v2 : Int) (v3 : Int) (v4 : Int) (v6 : Int) (v8 : Int) (v9 : Int) (v10 : Int) (v11 : Int) (μ : zMu) : Prop := zWP g zm_X11_joined (zmo g zm_X11_joined (zΦl φ)) 88 [(0, .ref 203), (1, .int (zJ v1)), (2, .int (zJ v2)), (3, .int (zJ v3)), (4, .long (zL v4)), (6, .long (zL v6)), (8, .int (zJ v8)), (9, .int (zJ v9)), (10, .int (zJ v10)), (11, .int (zJ v11))] [] 0 0 (zw μ)
theorem sg_X11_joined {g : zG} {φ : Int → zMu → Prop} {v1 : Int} {v2 : Int} {μ : zMu}
    (h : zOi g zm_X11_joinedDegree [.ref 203] μ (fun x2 μ1 => (zR x2) ∧ ((x2 < 0 → φ (-9223372036854775808) μ1) ∧ (0 ≤ x2 → (zR v1) ∧ zOi g zm_X11_in [.long (zL v1), .long (zL 0), .long (zL x2)] μ1 (fun x6 μ5 => (zR x6) ∧ ((x6 = 0 → φ (-9223372036854775808) μ5) ∧ (¬ x6 = 0 → (zR v2) ∧ zOi g zm_X11_in [.long (zL v2), .long (zL 0), .long (zL x2)] μ5 (fun x10 μ9 => (zR x10) ∧ ((¬ x10 = 0 → at_X11_joined_44 g φ v1 v2 x2 0 1 0 μ9) ∧ (x10 = 0 → φ (-9223372036854775808) μ9)))))))))) : zOl g zm_X11_joined [.ref 203, .int (zJ v1), .int (zJ v2)] μ φ := by
  refine zok_of (by decide +kernel) rfl ?_
  show zWP g zm_X11_joined (zmo g zm_X11_joined (zΦl φ)) 0 [(0, .ref 203), (1, .int (zJ v1)), (2, .int (zJ v2))] [] 0 0 (zw μ)
  refine zw_aload_n (pc := 0) (n := 0) (i := 0) 0 (by decide +kernel) rfl rfl ?_
  refine zx_callV (pc := 1) (As := []) h zi_X11_joinedDegree zii_X11_joinedDegree zie_X11_joinedDegree zl_11_277 (by decide +kernel) ⟨Nat.le_of_ble_eq_true rfl, Nat.le_of_ble_eq_true rfl⟩ rfl zc_203 (by decide) rfl rfl ⟨rfl, rfl⟩ ⟨Nat.zero_le _, Nat.zero_le _⟩ (zki (fun x2 μ1 h => ?_))
  obtain ⟨o3, h⟩ := h
  refine zw_istore_n (pc := 4) (n := 3) (i := 3) (lv' := [(0, .ref 203), (1, .int (zJ v1)), (2, .int (zJ v2)), (3, .int (zJ x2))]) (by decide +kernel) rfl (Nat.le_of_ble_eq_true rfl) rfl ?_
  refine zw_iload_n (pc := 5) (n := 3) (i := 3) 3 (by decide +kernel) rfl rfl ?_
  refine zw_if_lt (pc := 6) (off := 25) (tgt := 31) (by decide +kernel) (by decide) o3 (fun hc => ?_) (fun hc => ?_)
  · replace h := h.1 hc
    refine zw_ldc2 (pc := 31) (v := (-9223372036854775808)) (by decide +kernel) zk_11_275 ?_
    exact zw_lret (pc := 34) (by decide +kernel) rfl (Nat.le_refl _) (Nat.le_refl _) ⟨_, _, rfl, rfl, h⟩
  · replace h := h.2 hc
    obtain ⟨o4, h⟩ := h
    refine zw_iload_n (pc := 9) (n := 1) (i := 1) 1 (by decide +kernel) rfl rfl ?_
    refine zw_i2l (pc := 10) (by decide +kernel) o4 ?_
    refine zw_lconst (pc := 11) (n := 0) (v := 0) (by decide +kernel) rfl ?_
    refine zw_iload_n (pc := 12) (n := 3) (i := 3) 3 (by decide +kernel) rfl rfl ?_
    refine zw_i2l (pc := 13) (by decide +kernel) o3 ?_
    refine zx_callS (pc := 14) (As := [.long (zL v1), .long (zL 0), .long (zL x2)]) h zi_X11_in zis_X11_in zl_11_114 (by decide +kernel) ⟨Nat.le_of_ble_eq_true rfl, Nat.le_of_ble_eq_true rfl⟩ rfl rfl ⟨rfl, rfl⟩ ⟨Nat.zero_le _, Nat.zero_le _⟩ (zki (fun x6 μ5 h => ?_))
    obtain ⟨o7, h⟩ := h
    refine zw_if_eq (pc := 17) (off := 14) (tgt := 31) (by decide +kernel) (by decide) o7 (fun hc => ?_) (fun hc => ?_)
    · replace h := h.1 hc
      refine zw_ldc2 (pc := 31) (v := (-9223372036854775808)) (by decide +kernel) zk_11_275 ?_
      exact zw_lret (pc := 34) (by decide +kernel) rfl (Nat.le_refl _) (Nat.le_refl _) ⟨_, _, rfl, rfl, h⟩
    · replace h := h.2 hc
      obtain ⟨o8, h⟩ := h
      refine zw_iload_n (pc := 20) (n := 2) (i := 2) 2 (by decide +kernel) rfl rfl ?_
      refine zw_i2l (pc := 21) (by decide +kernel) o8 ?_
      refine zw_lconst (pc := 22) (n := 0) (v := 0) (by decide +kernel) rfl ?_
      refine zw_iload_n (pc := 23) (n := 3) (i := 3) 3 (by decide +kernel) rfl rfl ?_
      refine zw_i2l (pc := 24) (by decide +kernel) o3 ?_
      refine zx_callS (pc := 25) (As := [.long (zL v2), .long (zL 0), .long (zL x2)]) h zi_X11_in zis_X11_in zl_11_114 (by decide +kernel) ⟨Nat.le_of_ble_eq_true rfl, Nat.le_of_ble_eq_true rfl⟩ rfl rfl ⟨rfl, rfl⟩ ⟨Nat.zero_le _, Nat.zero_le _⟩ (zki (fun x10 μ9 h => ?_))
      obtain ⟨o11, h⟩ := h
      refine zw_if_ne (pc := 28) (off := 7) (tgt := 35) (by decide +kernel) (by decide) o11 (fun hc => ?_) (fun hc => ?_)
      · replace h := h.1 hc
        refine zw_lconst (pc := 35) (n := 0) (v := 0) (by decide +kernel) rfl ?_
        refine zw_lstore (pc := 36) (i := 4) (lv' := [(0, .ref 203), (1, .int (zJ v1)), (2, .int (zJ v2)), (3, .int (zJ x2)), (4, .long (zL 0))]) (by decide +kernel) (Nat.le_of_ble_eq_true rfl) rfl ?_
        refine zw_lconst (pc := 38) (n := 1) (v := 1) (by decide +kernel) rfl ?_
        refine zw_lstore (pc := 39) (i := 6) (lv' := [(0, .ref 203), (1, .int (zJ v1)), (2, .int (zJ v2)), (3, .int (zJ x2)), (4, .long (zL 0)), (6, .long (zL 1))]) (by decide +kernel) (Nat.le_of_ble_eq_true rfl) rfl ?_
        refine zw_iconst (pc := 41) (n := 0) (by decide +kernel) ?_
        refine zw_istore (pc := 42) (i := 8) (lv' := [(0, .ref 203), (1, .int (zJ v1)), (2, .int (zJ v2)), (3, .int (zJ x2)), (4, .long (zL 0)), (6, .long (zL 1)), (8, .int (zJ 0))]) (by decide +kernel) (Nat.le_of_ble_eq_true rfl) rfl ?_
        exact h
      · replace h := h.2 hc
        refine zw_ldc2 (pc := 31) (v := (-9223372036854775808)) (by decide +kernel) zk_11_275 ?_
        exact zw_lret (pc := 34) (by decide +kernel) rfl (Nat.le_refl _) (Nat.le_refl _) ⟨_, _, rfl, rfl, h⟩
theorem sg_X11_joined_44 {g : zG} {φ : Int → zMu → Prop} {v1 : Int} {v2 : Int} {v3 : Int} {v4 : Int} {v6 : Int} {v8 : Int} {μ : zMu}
    (h : (zR v8) ∧ ((8 ≤ v8 → (zR64 (2 * v4)) ∧ (zR64 v6) ∧ (zR (zcmp (2 * v4) v6)) ∧ ((0 < (zcmp (2 * v4) v6) → φ (v4 - v6) μ) ∧ ((zcmp (2 * v4) v6) ≤ 0 → φ v4 μ))) ∧ (v8 < 8 → zOi g zm_X11_keptPrime [.ref 203, .int (zJ v8)] μ (fun x6 μ5 => (zR x6) ∧ ((x6 ≤ 0 → at_X11_joined_44 g φ v1 v2 v3 v4 v6 (v8 + 1) μ5) ∧ (0 < x6 → zOi g zm_X11_place [.int (zJ v3), .int (zJ v1), .int (zJ v2)] μ5 (fun x9 μ8 => (0 ≤ (((83 * v8) + 2) + x9) ∧ (((83 * v8) + 2) + x9) < 664) ∧ at_X11_joined_88 g φ v1 v2 v3 v4 v6 v8 x6 (μ8 208 (Int.toNat (((83 * v8) + 2) + x9))) 0 μ8))))))) : at_X11_joined_44 g φ v1 v2 v3 v4 v6 v8 μ := by
  obtain ⟨o1, h⟩ := h
  refine zw_iload (pc := 44) (i := 8) 6 (by decide +kernel) rfl ?_
  refine zw_bipush (pc := 46) (n := 8) (by decide +kernel) (by decide +kernel) ?_
  refine zw_icmp_ge (pc := 48) (off := 87) (tgt := 135) (by decide +kernel) (by decide) o1 ⟨by decide, by decide⟩ (fun hc => ?_) (fun hc => ?_)
  · replace h := h.1 hc
    obtain ⟨o2, o3, o4, h⟩ := h
    refine zw_ldc2 (pc := 135) (v := 2) (by decide +kernel) zk_11_187 ?_
    refine zw_lload (pc := 138) (i := 4) 4 (by decide +kernel) rfl ?_
    refine zw_lmul (pc := 140) (by decide +kernel) ?_
    refine zw_lload (pc := 141) (i := 6) 5 (by decide +kernel) rfl ?_
    refine zw_lcmp (pc := 143) (by decide +kernel) o2 o3 ?_
    refine zw_if_gt (pc := 144) (off := 8) (tgt := 152) (by decide +kernel) (by decide) o4 (fun hc => ?_) (fun hc => ?_)
    · replace h := h.1 hc
      refine zw_lload (pc := 152) (i := 4) 4 (by decide +kernel) rfl ?_
      refine zw_lload (pc := 154) (i := 6) 5 (by decide +kernel) rfl ?_
      refine zw_lsub (pc := 156) (by decide +kernel) ?_
      exact zw_lret (pc := 157) (by decide +kernel) rfl (Nat.le_refl _) (Nat.le_refl _) ⟨_, _, rfl, rfl, h⟩
    · replace h := h.2 hc
      refine zw_lload (pc := 147) (i := 4) 4 (by decide +kernel) rfl ?_
      refine zw_goto (pc := 149) (off := 8) (tgt := 157) (by decide +kernel) (by decide) ?_
      exact zw_lret (pc := 157) (by decide +kernel) rfl (Nat.le_refl _) (Nat.le_refl _) ⟨_, _, rfl, rfl, h⟩
  · replace h := h.2 hc
    refine zw_aload_n (pc := 51) (n := 0) (i := 0) 0 (by decide +kernel) rfl rfl ?_
    refine zw_iload (pc := 52) (i := 8) 6 (by decide +kernel) rfl ?_
    refine zx_callV (pc := 54) (As := [.int (zJ v8)]) h zi_X11_keptPrime zii_X11_keptPrime zie_X11_keptPrime zl_11_266 (by decide +kernel) ⟨Nat.le_of_ble_eq_true rfl, Nat.le_of_ble_eq_true rfl⟩ rfl zc_203 (by decide) rfl rfl ⟨rfl, rfl⟩ ⟨Nat.zero_le _, Nat.zero_le _⟩ (zki (fun x6 μ5 h => ?_))
    obtain ⟨o7, h⟩ := h
    refine zw_istore (pc := 57) (i := 9) (lv' := [(0, .ref 203), (1, .int (zJ v1)), (2, .int (zJ v2)), (3, .int (zJ v3)), (4, .long (zL v4)), (6, .long (zL v6)), (8, .int (zJ v8)), (9, .int (zJ x6))]) (by decide +kernel) (Nat.le_of_ble_eq_true rfl) rfl ?_
    refine zw_iload (pc := 59) (i := 9) 7 (by decide +kernel) rfl ?_
    refine zw_if_le (pc := 61) (off := 68) (tgt := 129) (by decide +kernel) (by decide) o7 (fun hc => ?_) (fun hc => ?_)
    · replace h := h.1 hc
      refine zw_iinc (pc := 129) (i := 8) (n := 1) (lv' := [(0, .ref 203), (1, .int (zJ v1)), (2, .int (zJ v2)), (3, .int (zJ v3)), (4, .long (zL v4)), (6, .long (zL v6)), (8, .int (zJ (v8 + 1))), (9, .int (zJ x6))]) 6 (by decide +kernel) rfl rfl (Nat.le_of_ble_eq_true rfl) rfl ?_
      refine zw_goto (pc := 132) (off := (-88)) (tgt := 44) (by decide +kernel) (by decide) ?_
      exact zw_pick (lv' := [(0, .ref 203), (1, .int (zJ v1)), (2, .int (zJ v2)), (3, .int (zJ v3)), (4, .long (zL v4)), (6, .long (zL v6)), (8, .int (zJ (v8 + 1)))]) [0, 1, 2, 3, 4, 5, 6] rfl h
    · replace h := h.2 hc
      refine zw_aload_n (pc := 64) (n := 0) (i := 0) 0 (by decide +kernel) rfl rfl ?_
      refine zx_getR (pc := 65) (o := 5) (r := 208) zf_11_28 (by decide +kernel) rfl zc_203 rfl (by decide) rfl ?_
      refine zw_bipush (pc := 68) (n := 83) (by decide +kernel) (by decide +kernel) ?_
      refine zw_iload (pc := 70) (i := 8) 6 (by decide +kernel) rfl ?_
      refine zw_imul (pc := 72) (by decide +kernel) ?_
      refine zw_iconst (pc := 73) (n := 2) (by decide +kernel) ?_
      refine zw_iadd (pc := 74) (by decide +kernel) ?_
      refine zw_iload_n (pc := 75) (n := 3) (i := 3) 3 (by decide +kernel) rfl rfl ?_
      refine zw_iload_n (pc := 76) (n := 1) (i := 1) 1 (by decide +kernel) rfl rfl ?_
      refine zw_iload_n (pc := 77) (n := 2) (i := 2) 2 (by decide +kernel) rfl rfl ?_
      refine zx_callS (pc := 78) (As := [.int (zJ v3), .int (zJ v1), .int (zJ v2)]) h zi_X11_place zis_X11_place zl_11_218 (by decide +kernel) ⟨Nat.le_of_ble_eq_true rfl, Nat.le_of_ble_eq_true rfl⟩ rfl rfl ⟨rfl, rfl⟩ ⟨Nat.zero_le _, Nat.zero_le _⟩ (zki (fun x9 μ8 h => ?_))
      obtain ⟨o10, h⟩ := h
      refine zw_iadd (pc := 81) (by decide +kernel) ?_
      refine zx_iaload (pc := 82) (by decide +kernel) ⟨664, zc_208, o10.1, o10.2⟩ ?_
      refine zw_istore (pc := 83) (i := 10) (lv' := [(0, .ref 203), (1, .int (zJ v1)), (2, .int (zJ v2)), (3, .int (zJ v3)), (4, .long (zL v4)), (6, .long (zL v6)), (8, .int (zJ v8)), (9, .int (zJ x6)), (10, .int (zJ (μ8 208 (Int.toNat (((83 * v8) + 2) + x9)))))]) (by decide +kernel) (Nat.le_of_ble_eq_true rfl) rfl ?_
      refine zw_iconst (pc := 85) (n := 0) (by decide +kernel) ?_
      refine zw_istore (pc := 86) (i := 11) (lv' := [(0, .ref 203), (1, .int (zJ v1)), (2, .int (zJ v2)), (3, .int (zJ v3)), (4, .long (zL v4)), (6, .long (zL v6)), (8, .int (zJ v8)), (9, .int (zJ x6)), (10, .int (zJ (μ8 208 (Int.toNat (((83 * v8) + 2) + x9))))), (11, .int (zJ 0))]) (by decide +kernel) (Nat.le_of_ble_eq_true rfl) rfl ?_
      exact h
theorem sg_X11_joined_88 {g : zG} {φ : Int → zMu → Prop} {v1 : Int} {v2 : Int} {v3 : Int} {v4 : Int} {v6 : Int} {v8 : Int} {v9 : Int} {v10 : Int} {v11 : Int} {μ : zMu}
    (h : (zR v11) ∧ (zR v9) ∧ ((v9 ≤ v11 → at_X11_joined_44 g φ v1 v2 v3 v4 (v6 * v9) (v8 + 1) μ) ∧ (v11 < v9 → (zR64 v4) ∧ (zR64 v9) ∧ (v9 ≠ 0) ∧ (zR v10) ∧ (zR64 (v4.tmod v9)) ∧ (zR64 v10) ∧ (zR (zcmp (v4.tmod v9) v10)) ∧ (((zcmp (v4.tmod v9) v10) = 0 → at_X11_joined_44 g φ v1 v2 v3 v4 (v6 * v9) (v8 + 1) μ) ∧ (¬ (zcmp (v4.tmod v9) v10) = 0 → at_X11_joined_88 g φ v1 v2 v3 (v4 + v6) v6 v8 v9 v10 (v11 + 1) μ))))) : at_X11_joined_88 g φ v1 v2 v3 v4 v6 v8 v9 v10 v11 μ := by
  obtain ⟨o1, o2, h⟩ := h
  refine zw_iload (pc := 88) (i := 11) 9 (by decide +kernel) rfl ?_
  refine zw_iload (pc := 90) (i := 9) 7 (by decide +kernel) rfl ?_
  refine zw_icmp_ge (pc := 92) (off := 29) (tgt := 121) (by decide +kernel) (by decide) o1 o2 (fun hc => ?_) (fun hc => ?_)
  · replace h := h.1 hc
    refine zw_lload (pc := 121) (i := 6) 5 (by decide +kernel) rfl ?_
    refine zw_iload (pc := 123) (i := 9) 7 (by decide +kernel) rfl ?_
    refine zw_i2l (pc := 125) (by decide +kernel) o2 ?_
    refine zw_lmul (pc := 126) (by decide +kernel) ?_
    refine zw_lstore (pc := 127) (i := 6) (lv' := [(0, .ref 203), (1, .int (zJ v1)), (2, .int (zJ v2)), (3, .int (zJ v3)), (4, .long (zL v4)), (6, .long (zL (v6 * v9))), (8, .int (zJ v8)), (9, .int (zJ v9)), (10, .int (zJ v10)), (11, .int (zJ v11))]) (by decide +kernel) (Nat.le_of_ble_eq_true rfl) rfl ?_
    refine zw_iinc (pc := 129) (i := 8) (n := 1) (lv' := [(0, .ref 203), (1, .int (zJ v1)), (2, .int (zJ v2)), (3, .int (zJ v3)), (4, .long (zL v4)), (6, .long (zL (v6 * v9))), (8, .int (zJ (v8 + 1))), (9, .int (zJ v9)), (10, .int (zJ v10)), (11, .int (zJ v11))]) 6 (by decide +kernel) rfl rfl (Nat.le_of_ble_eq_true rfl) rfl ?_
    refine zw_goto (pc := 132) (off := (-88)) (tgt := 44) (by decide +kernel) (by decide) ?_
    exact zw_pick (lv' := [(0, .ref 203), (1, .int (zJ v1)), (2, .int (zJ v2)), (3, .int (zJ v3)), (4, .long (zL v4)), (6, .long (zL (v6 * v9))), (8, .int (zJ (v8 + 1)))]) [0, 1, 2, 3, 4, 5, 6] rfl h
  · replace h := h.2 hc
    obtain ⟨o3, o4, o5, o6, o7, o8, o9, h⟩ := h
    refine zw_lload (pc := 95) (i := 4) 4 (by decide +kernel) rfl ?_
    refine zw_iload (pc := 97) (i := 9) 7 (by decide +kernel) rfl ?_
    refine zw_i2l (pc := 99) (by decide +kernel) o2 ?_
    refine zw_lrem (pc := 100) (by decide +kernel) o3 o4 o5 ?_
    refine zw_iload (pc := 101) (i := 10) 8 (by decide +kernel) rfl ?_
    refine zw_i2l (pc := 103) (by decide +kernel) o6 ?_
    refine zw_lcmp (pc := 104) (by decide +kernel) o7 o8 ?_
    refine zw_if_eq (pc := 105) (off := 16) (tgt := 121) (by decide +kernel) (by decide) o9 (fun hc => ?_) (fun hc => ?_)
    · replace h := h.1 hc
      refine zw_lload (pc := 121) (i := 6) 5 (by decide +kernel) rfl ?_
      refine zw_iload (pc := 123) (i := 9) 7 (by decide +kernel) rfl ?_
      refine zw_i2l (pc := 125) (by decide +kernel) o2 ?_
      refine zw_lmul (pc := 126) (by decide +kernel) ?_
      refine zw_lstore (pc := 127) (i := 6) (lv' := [(0, .ref 203), (1, .int (zJ v1)), (2, .int (zJ v2)), (3, .int (zJ v3)), (4, .long (zL v4)), (6, .long (zL (v6 * v9))), (8, .int (zJ v8)), (9, .int (zJ v9)), (10, .int (zJ v10)), (11, .int (zJ v11))]) (by decide +kernel) (Nat.le_of_ble_eq_true rfl) rfl ?_
      refine zw_iinc (pc := 129) (i := 8) (n := 1) (lv' := [(0, .ref 203), (1, .int (zJ v1)), (2, .int (zJ v2)), (3, .int (zJ v3)), (4, .long (zL v4)), (6, .long (zL (v6 * v9))), (8, .int (zJ (v8 + 1))), (9, .int (zJ v9)), (10, .int (zJ v10)), (11, .int (zJ v11))]) 6 (by decide +kernel) rfl rfl (Nat.le_of_ble_eq_true rfl) rfl ?_
      refine zw_goto (pc := 132) (off := (-88)) (tgt := 44) (by decide +kernel) (by decide) ?_
      exact zw_pick (lv' := [(0, .ref 203), (1, .int (zJ v1)), (2, .int (zJ v2)), (3, .int (zJ v3)), (4, .long (zL v4)), (6, .long (zL (v6 * v9))), (8, .int (zJ (v8 + 1)))]) [0, 1, 2, 3, 4, 5, 6] rfl h
    · replace h := h.2 hc
      refine zw_lload (pc := 108) (i := 4) 4 (by decide +kernel) rfl ?_
      refine zw_lload (pc := 110) (i := 6) 5 (by decide +kernel) rfl ?_
      refine zw_ladd (pc := 112) (by decide +kernel) ?_
      refine zw_lstore (pc := 113) (i := 4) (lv' := [(0, .ref 203), (1, .int (zJ v1)), (2, .int (zJ v2)), (3, .int (zJ v3)), (4, .long (zL (v4 + v6))), (6, .long (zL v6)), (8, .int (zJ v8)), (9, .int (zJ v9)), (10, .int (zJ v10)), (11, .int (zJ v11))]) (by decide +kernel) (Nat.le_of_ble_eq_true rfl) rfl ?_
      refine zw_iinc (pc := 115) (i := 11) (n := 1) (lv' := [(0, .ref 203), (1, .int (zJ v1)), (2, .int (zJ v2)), (3, .int (zJ v3)), (4, .long (zL (v4 + v6))), (6, .long (zL v6)), (8, .int (zJ v8)), (9, .int (zJ v9)), (10, .int (zJ v10)), (11, .int (zJ (v11 + 1)))]) 9 (by decide +kernel) rfl rfl (Nat.le_of_ble_eq_true rfl) rfl ?_
      refine zw_goto (pc := 118) (off := (-30)) (tgt := 88) (by decide +kernel) (by decide) ?_
      exact h
abbrev at_X11_joinedDegree_6 (g : zG) (φ : Int → zMu → Prop) (v1 : Int) (v2 : Int) (v3 : Int) (μ : zMu) : Prop := zWP g zm_X11_joinedDegree (zmo g zm_X11_joinedDegree (zΦi φ)) 6 [(0, .ref 203), (1, .int (zJ v1)), (2, .int (zJ v2)), (3, .int (zJ v3))] [] 0 0 (zw μ)
theorem sg_X11_joinedDegree {g : zG} {φ : Int → zMu → Prop} {μ : zMu}
    (h : at_X11_joinedDegree_6 g φ (-1) 1 0 μ) : zOi g zm_X11_joinedDegree [.ref 203] μ φ := by
  refine zok_of (by decide +kernel) rfl ?_
  show zWP g zm_X11_joinedDegree (zmo g zm_X11_joinedDegree (zΦi φ)) 0 [(0, .ref 203)] [] 0 0 (zw μ)
  refine zw_iconst (pc := 0) (n := (-1)) (by decide +kernel) ?_
  refine zw_istore_n (pc := 1) (n := 1) (i := 1) (lv' := [(0, .ref 203), (1, .int (zJ (-1)))]) (by decide +kernel) rfl (Nat.le_of_ble_eq_true rfl) rfl ?_
  refine zw_iconst (pc := 2) (n := 1) (by decide +kernel) ?_
  refine zw_istore_n (pc := 3) (n := 2) (i := 2) (lv' := [(0, .ref 203), (1, .int (zJ (-1))), (2, .int (zJ 1))]) (by decide +kernel) rfl (Nat.le_of_ble_eq_true rfl) rfl ?_
  refine zw_iconst (pc := 4) (n := 0) (by decide +kernel) ?_
  refine zw_istore_n (pc := 5) (n := 3) (i := 3) (lv' := [(0, .ref 203), (1, .int (zJ (-1))), (2, .int (zJ 1)), (3, .int (zJ 0))]) (by decide +kernel) rfl (Nat.le_of_ble_eq_true rfl) rfl ?_
  exact h
theorem sg_X11_joinedDegree_6 {g : zG} {φ : Int → zMu → Prop} {v1 : Int} {v2 : Int} {v3 : Int} {μ : zMu}
    (h : (zR v3) ∧ ((8 ≤ v3 → (zR v2) ∧ ((v2 = 0 → φ (-1) μ) ∧ (¬ v2 = 0 → φ v1 μ))) ∧ (v3 < 8 → zOi g zm_X11_keptPrime [.ref 203, .int (zJ v3)] μ (fun x4 μ3 => (zR x4) ∧ ((x4 ≤ 0 → at_X11_joinedDegree_6 g φ v1 v2 (v3 + 1) μ3) ∧ (0 < x4 → (zR v1) ∧ ((v1 = (-1) → (0 ≤ ((83 * v3) + 1) ∧ ((83 * v3) + 1) < 664) ∧ at_X11_joinedDegree_6 g φ (μ3 208 (Int.toNat ((83 * v3) + 1))) (zand v2 1) (v3 + 1) μ3) ∧ (¬ v1 = (-1) → (0 ≤ ((83 * v3) + 1) ∧ ((83 * v3) + 1) < 664) ∧ (zR (μ3 208 (Int.toNat ((83 * v3) + 1)))) ∧ ((¬ v1 = (μ3 208 (Int.toNat ((83 * v3) + 1))) → at_X11_joinedDegree_6 g φ (μ3 208 (Int.toNat ((83 * v3) + 1))) (zand v2 0) (v3 + 1) μ3) ∧ (v1 = (μ3 208 (Int.toNat ((83 * v3) + 1))) → at_X11_joinedDegree_6 g φ (μ3 208 (Int.toNat ((83 * v3) + 1))) (zand v2 1) (v3 + 1) μ3)))))))))) : at_X11_joinedDegree_6 g φ v1 v2 v3 μ := by
  obtain ⟨o1, h⟩ := h
  refine zw_iload_n (pc := 6) (n := 3) (i := 3) 3 (by decide +kernel) rfl rfl ?_
  refine zw_bipush (pc := 7) (n := 8) (by decide +kernel) (by decide +kernel) ?_
  refine zw_icmp_ge (pc := 9) (off := 57) (tgt := 66) (by decide +kernel) (by decide) o1 ⟨by decide, by decide⟩ (fun hc => ?_) (fun hc => ?_)
  · replace h := h.1 hc
    obtain ⟨o2, h⟩ := h
    refine zw_iload_n (pc := 66) (n := 2) (i := 2) 2 (by decide +kernel) rfl rfl ?_
    refine zw_if_eq (pc := 67) (off := 7) (tgt := 74) (by decide +kernel) (by decide) o2 (fun hc => ?_) (fun hc => ?_)
    · replace h := h.1 hc
      refine zw_iconst (pc := 74) (n := (-1)) (by decide +kernel) ?_
      exact zw_iret (pc := 75) (by decide +kernel) rfl (Nat.le_refl _) (Nat.le_refl _) ⟨_, _, rfl, rfl, h⟩
    · replace h := h.2 hc
      refine zw_iload_n (pc := 70) (n := 1) (i := 1) 1 (by decide +kernel) rfl rfl ?_
      refine zw_goto (pc := 71) (off := 4) (tgt := 75) (by decide +kernel) (by decide) ?_
      exact zw_iret (pc := 75) (by decide +kernel) rfl (Nat.le_refl _) (Nat.le_refl _) ⟨_, _, rfl, rfl, h⟩
  · replace h := h.2 hc
    refine zw_aload_n (pc := 12) (n := 0) (i := 0) 0 (by decide +kernel) rfl rfl ?_
    refine zw_iload_n (pc := 13) (n := 3) (i := 3) 3 (by decide +kernel) rfl rfl ?_
    refine zx_callV (pc := 14) (As := [.int (zJ v3)]) h zi_X11_keptPrime zii_X11_keptPrime zie_X11_keptPrime zl_11_266 (by decide +kernel) ⟨Nat.le_of_ble_eq_true rfl, Nat.le_of_ble_eq_true rfl⟩ rfl zc_203 (by decide) rfl rfl ⟨rfl, rfl⟩ ⟨Nat.zero_le _, Nat.zero_le _⟩ (zki (fun x4 μ3 h => ?_))
    obtain ⟨o5, h⟩ := h
    refine zw_if_le (pc := 17) (off := 43) (tgt := 60) (by decide +kernel) (by decide) o5 (fun hc => ?_) (fun hc => ?_)
    · replace h := h.1 hc
      refine zw_iinc (pc := 60) (i := 3) (n := 1) (lv' := [(0, .ref 203), (1, .int (zJ v1)), (2, .int (zJ v2)), (3, .int (zJ (v3 + 1)))]) 3 (by decide +kernel) rfl rfl (Nat.le_of_ble_eq_true rfl) rfl ?_
      refine zw_goto (pc := 63) (off := (-57)) (tgt := 6) (by decide +kernel) (by decide) ?_
      exact h
    · replace h := h.2 hc
      obtain ⟨o6, h⟩ := h
      refine zw_iload_n (pc := 20) (n := 2) (i := 2) 2 (by decide +kernel) rfl rfl ?_
      refine zw_iload_n (pc := 21) (n := 1) (i := 1) 1 (by decide +kernel) rfl rfl ?_
      refine zw_iconst (pc := 22) (n := (-1)) (by decide +kernel) ?_
      refine zw_icmp_eq (pc := 23) (off := 18) (tgt := 41) (by decide +kernel) (by decide) o6 ⟨by decide, by decide⟩ (fun hc => ?_) (fun hc => ?_)
      · replace h := h.1 hc
        obtain ⟨o7, h⟩ := h
        refine zw_iconst (pc := 41) (n := 1) (by decide +kernel) ?_
        refine zw_goto (pc := 42) (off := 4) (tgt := 46) (by decide +kernel) (by decide) ?_
        refine zw_iand (pc := 46) (by decide +kernel) ?_
        refine zw_istore_n (pc := 47) (n := 2) (i := 2) (lv' := [(0, .ref 203), (1, .int (zJ v1)), (2, .int (zJ (zand v2 1))), (3, .int (zJ v3))]) (by decide +kernel) rfl (Nat.le_of_ble_eq_true rfl) rfl ?_
        refine zw_aload_n (pc := 48) (n := 0) (i := 0) 0 (by decide +kernel) rfl rfl ?_
        refine zx_getR (pc := 49) (o := 5) (r := 208) zf_11_28 (by decide +kernel) rfl zc_203 rfl (by decide) rfl ?_
        refine zw_bipush (pc := 52) (n := 83) (by decide +kernel) (by decide +kernel) ?_
        refine zw_iload_n (pc := 54) (n := 3) (i := 3) 3 (by decide +kernel) rfl rfl ?_
        refine zw_imul (pc := 55) (by decide +kernel) ?_
        refine zw_iconst (pc := 56) (n := 1) (by decide +kernel) ?_
        refine zw_iadd (pc := 57) (by decide +kernel) ?_
        refine zx_iaload (pc := 58) (by decide +kernel) ⟨664, zc_208, o7.1, o7.2⟩ ?_
        refine zw_istore_n (pc := 59) (n := 1) (i := 1) (lv' := [(0, .ref 203), (1, .int (zJ (μ3 208 (Int.toNat ((83 * v3) + 1))))), (2, .int (zJ (zand v2 1))), (3, .int (zJ v3))]) (by decide +kernel) rfl (Nat.le_of_ble_eq_true rfl) rfl ?_
        refine zw_iinc (pc := 60) (i := 3) (n := 1) (lv' := [(0, .ref 203), (1, .int (zJ (μ3 208 (Int.toNat ((83 * v3) + 1))))), (2, .int (zJ (zand v2 1))), (3, .int (zJ (v3 + 1)))]) 3 (by decide +kernel) rfl rfl (Nat.le_of_ble_eq_true rfl) rfl ?_
        refine zw_goto (pc := 63) (off := (-57)) (tgt := 6) (by decide +kernel) (by decide) ?_
        exact h
      · replace h := h.2 hc
        obtain ⟨o8, o9, h⟩ := h
        refine zw_iload_n (pc := 26) (n := 1) (i := 1) 1 (by decide +kernel) rfl rfl ?_
        refine zw_aload_n (pc := 27) (n := 0) (i := 0) 0 (by decide +kernel) rfl rfl ?_
        refine zx_getR (pc := 28) (o := 5) (r := 208) zf_11_28 (by decide +kernel) rfl zc_203 rfl (by decide) rfl ?_
        refine zw_bipush (pc := 31) (n := 83) (by decide +kernel) (by decide +kernel) ?_
        refine zw_iload_n (pc := 33) (n := 3) (i := 3) 3 (by decide +kernel) rfl rfl ?_
        refine zw_imul (pc := 34) (by decide +kernel) ?_
        refine zw_iconst (pc := 35) (n := 1) (by decide +kernel) ?_
        refine zw_iadd (pc := 36) (by decide +kernel) ?_
        refine zx_iaload (pc := 37) (by decide +kernel) ⟨664, zc_208, o8.1, o8.2⟩ ?_
        refine zw_icmp_ne (pc := 38) (off := 7) (tgt := 45) (by decide +kernel) (by decide) o6 o9 (fun hc => ?_) (fun hc => ?_)
        · replace h := h.1 hc
          refine zw_iconst (pc := 45) (n := 0) (by decide +kernel) ?_
          refine zw_iand (pc := 46) (by decide +kernel) ?_
          refine zw_istore_n (pc := 47) (n := 2) (i := 2) (lv' := [(0, .ref 203), (1, .int (zJ v1)), (2, .int (zJ (zand v2 0))), (3, .int (zJ v3))]) (by decide +kernel) rfl (Nat.le_of_ble_eq_true rfl) rfl ?_
          refine zw_aload_n (pc := 48) (n := 0) (i := 0) 0 (by decide +kernel) rfl rfl ?_
          refine zx_getR (pc := 49) (o := 5) (r := 208) zf_11_28 (by decide +kernel) rfl zc_203 rfl (by decide) rfl ?_
          refine zw_bipush (pc := 52) (n := 83) (by decide +kernel) (by decide +kernel) ?_
          refine zw_iload_n (pc := 54) (n := 3) (i := 3) 3 (by decide +kernel) rfl rfl ?_
          refine zw_imul (pc := 55) (by decide +kernel) ?_
          refine zw_iconst (pc := 56) (n := 1) (by decide +kernel) ?_
          refine zw_iadd (pc := 57) (by decide +kernel) ?_
          refine zx_iaload (pc := 58) (by decide +kernel) ⟨664, zc_208, o8.1, o8.2⟩ ?_
          refine zw_istore_n (pc := 59) (n := 1) (i := 1) (lv' := [(0, .ref 203), (1, .int (zJ (μ3 208 (Int.toNat ((83 * v3) + 1))))), (2, .int (zJ (zand v2 0))), (3, .int (zJ v3))]) (by decide +kernel) rfl (Nat.le_of_ble_eq_true rfl) rfl ?_
          refine zw_iinc (pc := 60) (i := 3) (n := 1) (lv' := [(0, .ref 203), (1, .int (zJ (μ3 208 (Int.toNat ((83 * v3) + 1))))), (2, .int (zJ (zand v2 0))), (3, .int (zJ (v3 + 1)))]) 3 (by decide +kernel) rfl rfl (Nat.le_of_ble_eq_true rfl) rfl ?_
          refine zw_goto (pc := 63) (off := (-57)) (tgt := 6) (by decide +kernel) (by decide) ?_
          exact h
        · replace h := h.2 hc
          refine zw_iconst (pc := 41) (n := 1) (by decide +kernel) ?_
          refine zw_goto (pc := 42) (off := 4) (tgt := 46) (by decide +kernel) (by decide) ?_
          refine zw_iand (pc := 46) (by decide +kernel) ?_
          refine zw_istore_n (pc := 47) (n := 2) (i := 2) (lv' := [(0, .ref 203), (1, .int (zJ v1)), (2, .int (zJ (zand v2 1))), (3, .int (zJ v3))]) (by decide +kernel) rfl (Nat.le_of_ble_eq_true rfl) rfl ?_
          refine zw_aload_n (pc := 48) (n := 0) (i := 0) 0 (by decide +kernel) rfl rfl ?_
          refine zx_getR (pc := 49) (o := 5) (r := 208) zf_11_28 (by decide +kernel) rfl zc_203 rfl (by decide) rfl ?_
          refine zw_bipush (pc := 52) (n := 83) (by decide +kernel) (by decide +kernel) ?_
          refine zw_iload_n (pc := 54) (n := 3) (i := 3) 3 (by decide +kernel) rfl rfl ?_
          refine zw_imul (pc := 55) (by decide +kernel) ?_
          refine zw_iconst (pc := 56) (n := 1) (by decide +kernel) ?_
          refine zw_iadd (pc := 57) (by decide +kernel) ?_
          refine zx_iaload (pc := 58) (by decide +kernel) ⟨664, zc_208, o8.1, o8.2⟩ ?_
          refine zw_istore_n (pc := 59) (n := 1) (i := 1) (lv' := [(0, .ref 203), (1, .int (zJ (μ3 208 (Int.toNat ((83 * v3) + 1))))), (2, .int (zJ (zand v2 1))), (3, .int (zJ v3))]) (by decide +kernel) rfl (Nat.le_of_ble_eq_true rfl) rfl ?_
          refine zw_iinc (pc := 60) (i := 3) (n := 1) (lv' := [(0, .ref 203), (1, .int (zJ (μ3 208 (Int.toNat ((83 * v3) + 1))))), (2, .int (zJ (zand v2 1))), (3, .int (zJ (v3 + 1)))]) 3 (by decide +kernel) rfl rfl (Nat.le_of_ble_eq_true rfl) rfl ?_
          refine zw_goto (pc := 63) (off := (-57)) (tgt := 6) (by decide +kernel) (by decide) ?_
          exact h
theorem sg_X11_feed {g : zG} {φ : Int → zMu → Prop} {v1 : Int} {μ : zMu}
    (h : (zR v1) ∧ zOi g zm_X11_in [.long (zL v1), .long (zL 1), .long (zL 127)] μ (fun x3 μ2 => (zR x3) ∧ ((¬ x3 = 0 → (zR (μ2 203 31)) ∧ ((¬ (μ2 203 31) = 100 → (0 ≤ (μ2 203 31) ∧ (μ2 203 31) < 100) ∧ φ ((zup (zup μ2 223 (Int.toNat (μ2 203 31)) v1) 203 31 (((zup μ2 223 (Int.toNat (μ2 203 31)) v1) 203 31) + 1)) 203 31) (zup (zup μ2 223 (Int.toNat (μ2 203 31)) v1) 203 31 (((zup μ2 223 (Int.toNat (μ2 203 31)) v1) 203 31) + 1))) ∧ ((μ2 203 31) = 100 → φ (-3) μ2))) ∧ (x3 = 0 → φ (-2) μ2)))) : zOi g zm_X11_feed [.ref 203, .int (zJ v1)] μ φ := by
  refine zok_of (by decide +kernel) rfl ?_
  show zWP g zm_X11_feed (zmo g zm_X11_feed (zΦi φ)) 0 [(0, .ref 203), (1, .int (zJ v1))] [] 0 0 (zw μ)
  obtain ⟨o1, h⟩ := h
  refine zw_iload_n (pc := 0) (n := 1) (i := 1) 1 (by decide +kernel) rfl rfl ?_
  refine zw_i2l (pc := 1) (by decide +kernel) o1 ?_
  refine zw_lconst (pc := 2) (n := 1) (v := 1) (by decide +kernel) rfl ?_
  refine zw_ldc2 (pc := 3) (v := 127) (by decide +kernel) zk_11_280 ?_
  refine zx_callS (pc := 6) (As := [.long (zL v1), .long (zL 1), .long (zL 127)]) h zi_X11_in zis_X11_in zl_11_114 (by decide +kernel) ⟨Nat.le_of_ble_eq_true rfl, Nat.le_of_ble_eq_true rfl⟩ rfl rfl ⟨rfl, rfl⟩ ⟨Nat.zero_le _, Nat.zero_le _⟩ (zki (fun x3 μ2 h => ?_))
  obtain ⟨o4, h⟩ := h
  refine zw_if_ne (pc := 9) (off := 6) (tgt := 15) (by decide +kernel) (by decide) o4 (fun hc => ?_) (fun hc => ?_)
  · replace h := h.1 hc
    obtain ⟨o5, h⟩ := h
    refine zw_aload_n (pc := 15) (n := 0) (i := 0) 0 (by decide +kernel) rfl rfl ?_
    refine zx_getI (pc := 16) zf_11_282 (by decide +kernel) rfl zc_203 ?_
    refine zw_bipush (pc := 19) (n := 100) (by decide +kernel) (by decide +kernel) ?_
    refine zw_icmp_ne (pc := 21) (off := 6) (tgt := 27) (by decide +kernel) (by decide) o5 ⟨by decide, by decide⟩ (fun hc => ?_) (fun hc => ?_)
    · replace h := h.1 hc
      obtain ⟨o6, h⟩ := h
      refine zw_aload_n (pc := 27) (n := 0) (i := 0) 0 (by decide +kernel) rfl rfl ?_
      refine zx_getR (pc := 28) (o := 20) (r := 223) zf_11_73 (by decide +kernel) rfl zc_203 rfl (by decide) rfl ?_
      refine zw_aload_n (pc := 31) (n := 0) (i := 0) 0 (by decide +kernel) rfl rfl ?_
      refine zx_getI (pc := 32) zf_11_282 (by decide +kernel) rfl zc_203 ?_
      refine zw_iload_n (pc := 35) (n := 1) (i := 1) 1 (by decide +kernel) rfl rfl ?_
      refine zx_iastore (pc := 36) (by decide +kernel) ⟨100, zc_223, o6.1, o6.2⟩ ?_
      refine zw_aload_n (pc := 37) (n := 0) (i := 0) 0 (by decide +kernel) rfl rfl ?_
      refine zw_dup (pc := 38) (by decide +kernel) rfl ?_
      refine zx_getI (pc := 39) zf_11_282 (by decide +kernel) rfl zc_203 ?_
      refine zw_iconst (pc := 42) (n := 1) (by decide +kernel) ?_
      refine zw_iadd (pc := 43) (by decide +kernel) ?_
      refine zx_putI (pc := 44) zf_11_282 (by decide +kernel) rfl zc_203 ?_
      refine zw_aload_n (pc := 47) (n := 0) (i := 0) 0 (by decide +kernel) rfl rfl ?_
      refine zx_getI (pc := 48) zf_11_282 (by decide +kernel) rfl zc_203 ?_
      exact zw_iret (pc := 51) (by decide +kernel) rfl (Nat.le_refl _) (Nat.le_refl _) ⟨_, _, rfl, rfl, h⟩
    · replace h := h.2 hc
      refine zw_bipush (pc := 24) (n := (-3)) (by decide +kernel) (by decide +kernel) ?_
      exact zw_iret (pc := 26) (by decide +kernel) rfl (Nat.le_refl _) (Nat.le_refl _) ⟨_, _, rfl, rfl, h⟩
  · replace h := h.2 hc
    refine zw_bipush (pc := 12) (n := (-2)) (by decide +kernel) (by decide +kernel) ?_
    exact zw_iret (pc := 14) (by decide +kernel) rfl (Nat.le_refl _) (Nat.le_refl _) ⟨_, _, rfl, rfl, h⟩
abbrev at_X11_deeds_13 (g : zG) (φ : Int → zMu → Prop) (v1 : Int) (v2 : Int) (μ : zMu) : Prop := zWP g zm_X11_deeds (zmo g zm_X11_deeds (zΦi φ)) 13 [(0, .ref 203), (1, .int (zJ v1)), (2, .int (zJ v2))] [] 0 0 (zw μ)
abbrev at_X11_deeds_91 (g : zG) (φ : Int → zMu → Prop) (v1 : Int) (v3 : Int) (v4 : Int) (μ : zMu) : Prop := zWP g zm_X11_deeds (zmo g zm_X11_deeds (zΦi φ)) 91 [(0, .ref 203), (1, .int (zJ v1)), (3, .int (zJ v3)), (4, .int (zJ v4))] [] 0 0 (zw μ)
theorem sg_X11_deeds {g : zG} {φ : Int → zMu → Prop} {μ : zMu}
    (h : zOi g zm_X11_readsDeed [.ref 203, .int (zJ 0)] (zup μ 203 32 0) (fun x2 μ1 => at_X11_deeds_13 g φ 0 x2 μ1)) : zOi g zm_X11_deeds [.ref 203] μ φ := by
  refine zok_of (by decide +kernel) rfl ?_
  show zWP g zm_X11_deeds (zmo g zm_X11_deeds (zΦi φ)) 0 [(0, .ref 203)] [] 0 0 (zw μ)
  refine zw_aload_n (pc := 0) (n := 0) (i := 0) 0 (by decide +kernel) rfl rfl ?_
  refine zw_iconst (pc := 1) (n := 0) (by decide +kernel) ?_
  refine zx_putI (pc := 2) zf_11_285 (by decide +kernel) rfl zc_203 ?_
  refine zw_iconst (pc := 5) (n := 0) (by decide +kernel) ?_
  refine zw_istore_n (pc := 6) (n := 1) (i := 1) (lv' := [(0, .ref 203), (1, .int (zJ 0))]) (by decide +kernel) rfl (Nat.le_of_ble_eq_true rfl) rfl ?_
  refine zw_aload_n (pc := 7) (n := 0) (i := 0) 0 (by decide +kernel) rfl rfl ?_
  refine zw_iconst (pc := 8) (n := 0) (by decide +kernel) ?_
  refine zx_callV (pc := 9) (As := [.int (zJ 0)]) h zi_X11_readsDeed zii_X11_readsDeed zie_X11_readsDeed zl_11_336 (by decide +kernel) ⟨Nat.le_of_ble_eq_true rfl, Nat.le_of_ble_eq_true rfl⟩ rfl zc_203 (by decide) rfl rfl ⟨rfl, rfl⟩ ⟨Nat.zero_le _, Nat.zero_le _⟩ (zki (fun x2 μ1 h => ?_))
  refine zw_istore_n (pc := 12) (n := 2) (i := 2) (lv' := [(0, .ref 203), (1, .int (zJ 0)), (2, .int (zJ x2))]) (by decide +kernel) rfl (Nat.le_of_ble_eq_true rfl) rfl ?_
  exact h
theorem sg_X11_deeds_13 {g : zG} {φ : Int → zMu → Prop} {v1 : Int} {v2 : Int} {μ : zMu}
    (h : (zR v2) ∧ ((v2 = 0 → (zR (μ 203 32)) ∧ (zR (μ 203 31)) ∧ ((¬ (μ 203 32) = (μ 203 31) → (zR (zand v2 0)) ∧ ((¬ (zand v2 0) = 0 → at_X11_deeds_91 g φ v1 0 0 (zup μ 203 31 0)) ∧ ((zand v2 0) = 0 → φ ((-100) - ((zup μ 203 31 0) 203 32)) (zup μ 203 31 0)))) ∧ ((μ 203 32) = (μ 203 31) → (zR (zand v2 1)) ∧ ((¬ (zand v2 1) = 0 → at_X11_deeds_91 g φ v1 0 0 (zup μ 203 31 0)) ∧ ((zand v2 1) = 0 → φ ((-100) - ((zup μ 203 31 0) 203 32)) (zup μ 203 31 0)))))) ∧ (¬ v2 = 0 → zOi g zm_X11_here [.ref 203] μ (fun x7 μ6 => (zR x7) ∧ ((¬ x7 = 59 → (zR (μ6 203 32)) ∧ (zR (μ6 203 31)) ∧ ((¬ (μ6 203 32) = (μ6 203 31) → (zR (zand v2 0)) ∧ ((¬ (zand v2 0) = 0 → at_X11_deeds_91 g φ v1 0 0 (zup μ6 203 31 0)) ∧ ((zand v2 0) = 0 → φ ((-100) - ((zup μ6 203 31 0) 203 32)) (zup μ6 203 31 0)))) ∧ ((μ6 203 32) = (μ6 203 31) → (zR (zand v2 1)) ∧ ((¬ (zand v2 1) = 0 → at_X11_deeds_91 g φ v1 0 0 (zup μ6 203 31 0)) ∧ ((zand v2 1) = 0 → φ ((-100) - ((zup μ6 203 31 0) 203 32)) (zup μ6 203 31 0)))))) ∧ (x7 = 59 → zOi g zm_X11_readsDeed [.ref 203, .int (zJ (5 * (v1 + 1)))] (zup μ6 203 32 ((μ6 203 32) + 1)) (fun x14 μ13 => at_X11_deeds_13 g φ (v1 + 1) x14 μ13))))))) : at_X11_deeds_13 g φ v1 v2 μ := by
  obtain ⟨o1, h⟩ := h
  refine zw_iload_n (pc := 13) (n := 2) (i := 2) 2 (by decide +kernel) rfl rfl ?_
  refine zw_if_eq (pc := 14) (off := 36) (tgt := 50) (by decide +kernel) (by decide) o1 (fun hc => ?_) (fun hc => ?_)
  · replace h := h.1 hc
    obtain ⟨o2, o3, h⟩ := h
    refine zw_iload_n (pc := 50) (n := 2) (i := 2) 2 (by decide +kernel) rfl rfl ?_
    refine zw_aload_n (pc := 51) (n := 0) (i := 0) 0 (by decide +kernel) rfl rfl ?_
    refine zx_getI (pc := 52) zf_11_285 (by decide +kernel) rfl zc_203 ?_
    refine zw_aload_n (pc := 55) (n := 0) (i := 0) 0 (by decide +kernel) rfl rfl ?_
    refine zx_getI (pc := 56) zf_11_282 (by decide +kernel) rfl zc_203 ?_
    refine zw_icmp_ne (pc := 59) (off := 7) (tgt := 66) (by decide +kernel) (by decide) o2 o3 (fun hc => ?_) (fun hc => ?_)
    · replace h := h.1 hc
      obtain ⟨o4, h⟩ := h
      refine zw_iconst (pc := 66) (n := 0) (by decide +kernel) ?_
      refine zw_iand (pc := 67) (by decide +kernel) ?_
      refine zw_istore_n (pc := 68) (n := 2) (i := 2) (lv' := [(0, .ref 203), (1, .int (zJ v1)), (2, .int (zJ (zand v2 0)))]) (by decide +kernel) rfl (Nat.le_of_ble_eq_true rfl) rfl ?_
      refine zw_aload_n (pc := 69) (n := 0) (i := 0) 0 (by decide +kernel) rfl rfl ?_
      refine zw_iconst (pc := 70) (n := 0) (by decide +kernel) ?_
      refine zx_putI (pc := 71) zf_11_282 (by decide +kernel) rfl zc_203 ?_
      refine zw_iload_n (pc := 74) (n := 2) (i := 2) 2 (by decide +kernel) rfl rfl ?_
      refine zw_if_ne (pc := 75) (off := 11) (tgt := 86) (by decide +kernel) (by decide) o4 (fun hc => ?_) (fun hc => ?_)
      · replace h := h.1 hc
        refine zw_iconst (pc := 86) (n := 0) (by decide +kernel) ?_
        refine zw_istore_n (pc := 87) (n := 3) (i := 3) (lv' := [(0, .ref 203), (1, .int (zJ v1)), (2, .int (zJ (zand v2 0))), (3, .int (zJ 0))]) (by decide +kernel) rfl (Nat.le_of_ble_eq_true rfl) rfl ?_
        refine zw_iconst (pc := 88) (n := 0) (by decide +kernel) ?_
        refine zw_istore (pc := 89) (i := 4) (lv' := [(0, .ref 203), (1, .int (zJ v1)), (2, .int (zJ (zand v2 0))), (3, .int (zJ 0)), (4, .int (zJ 0))]) (by decide +kernel) (Nat.le_of_ble_eq_true rfl) rfl ?_
        exact zw_pick (lv' := [(0, .ref 203), (1, .int (zJ v1)), (3, .int (zJ 0)), (4, .int (zJ 0))]) [0, 1, 3, 4] rfl h
      · replace h := h.2 hc
        refine zw_bipush (pc := 78) (n := (-100)) (by decide +kernel) (by decide +kernel) ?_
        refine zw_aload_n (pc := 80) (n := 0) (i := 0) 0 (by decide +kernel) rfl rfl ?_
        refine zx_getI (pc := 81) zf_11_285 (by decide +kernel) rfl zc_203 ?_
        refine zw_isub (pc := 84) (by decide +kernel) ?_
        exact zw_iret (pc := 85) (by decide +kernel) rfl (Nat.le_refl _) (Nat.le_refl _) ⟨_, _, rfl, rfl, h⟩
    · replace h := h.2 hc
      obtain ⟨o5, h⟩ := h
      refine zw_iconst (pc := 62) (n := 1) (by decide +kernel) ?_
      refine zw_goto (pc := 63) (off := 4) (tgt := 67) (by decide +kernel) (by decide) ?_
      refine zw_iand (pc := 67) (by decide +kernel) ?_
      refine zw_istore_n (pc := 68) (n := 2) (i := 2) (lv' := [(0, .ref 203), (1, .int (zJ v1)), (2, .int (zJ (zand v2 1)))]) (by decide +kernel) rfl (Nat.le_of_ble_eq_true rfl) rfl ?_
      refine zw_aload_n (pc := 69) (n := 0) (i := 0) 0 (by decide +kernel) rfl rfl ?_
      refine zw_iconst (pc := 70) (n := 0) (by decide +kernel) ?_
      refine zx_putI (pc := 71) zf_11_282 (by decide +kernel) rfl zc_203 ?_
      refine zw_iload_n (pc := 74) (n := 2) (i := 2) 2 (by decide +kernel) rfl rfl ?_
      refine zw_if_ne (pc := 75) (off := 11) (tgt := 86) (by decide +kernel) (by decide) o5 (fun hc => ?_) (fun hc => ?_)
      · replace h := h.1 hc
        refine zw_iconst (pc := 86) (n := 0) (by decide +kernel) ?_
        refine zw_istore_n (pc := 87) (n := 3) (i := 3) (lv' := [(0, .ref 203), (1, .int (zJ v1)), (2, .int (zJ (zand v2 1))), (3, .int (zJ 0))]) (by decide +kernel) rfl (Nat.le_of_ble_eq_true rfl) rfl ?_
        refine zw_iconst (pc := 88) (n := 0) (by decide +kernel) ?_
        refine zw_istore (pc := 89) (i := 4) (lv' := [(0, .ref 203), (1, .int (zJ v1)), (2, .int (zJ (zand v2 1))), (3, .int (zJ 0)), (4, .int (zJ 0))]) (by decide +kernel) (Nat.le_of_ble_eq_true rfl) rfl ?_
        exact zw_pick (lv' := [(0, .ref 203), (1, .int (zJ v1)), (3, .int (zJ 0)), (4, .int (zJ 0))]) [0, 1, 3, 4] rfl h
      · replace h := h.2 hc
        refine zw_bipush (pc := 78) (n := (-100)) (by decide +kernel) (by decide +kernel) ?_
        refine zw_aload_n (pc := 80) (n := 0) (i := 0) 0 (by decide +kernel) rfl rfl ?_
        refine zx_getI (pc := 81) zf_11_285 (by decide +kernel) rfl zc_203 ?_
        refine zw_isub (pc := 84) (by decide +kernel) ?_
        exact zw_iret (pc := 85) (by decide +kernel) rfl (Nat.le_refl _) (Nat.le_refl _) ⟨_, _, rfl, rfl, h⟩
  · replace h := h.2 hc
    refine zw_aload_n (pc := 17) (n := 0) (i := 0) 0 (by decide +kernel) rfl rfl ?_
    refine zx_callV (pc := 18) (As := []) h zi_X11_here zii_X11_here zie_X11_here zl_11_288 (by decide +kernel) ⟨Nat.le_of_ble_eq_true rfl, Nat.le_of_ble_eq_true rfl⟩ rfl zc_203 (by decide) rfl rfl ⟨rfl, rfl⟩ ⟨Nat.zero_le _, Nat.zero_le _⟩ (zki (fun x7 μ6 h => ?_))
    obtain ⟨o8, h⟩ := h
    refine zw_bipush (pc := 21) (n := 59) (by decide +kernel) (by decide +kernel) ?_
    refine zw_icmp_ne (pc := 23) (off := 27) (tgt := 50) (by decide +kernel) (by decide) o8 ⟨by decide, by decide⟩ (fun hc => ?_) (fun hc => ?_)
    · replace h := h.1 hc
      obtain ⟨o9, o10, h⟩ := h
      refine zw_iload_n (pc := 50) (n := 2) (i := 2) 2 (by decide +kernel) rfl rfl ?_
      refine zw_aload_n (pc := 51) (n := 0) (i := 0) 0 (by decide +kernel) rfl rfl ?_
      refine zx_getI (pc := 52) zf_11_285 (by decide +kernel) rfl zc_203 ?_
      refine zw_aload_n (pc := 55) (n := 0) (i := 0) 0 (by decide +kernel) rfl rfl ?_
      refine zx_getI (pc := 56) zf_11_282 (by decide +kernel) rfl zc_203 ?_
      refine zw_icmp_ne (pc := 59) (off := 7) (tgt := 66) (by decide +kernel) (by decide) o9 o10 (fun hc => ?_) (fun hc => ?_)
      · replace h := h.1 hc
        obtain ⟨o11, h⟩ := h
        refine zw_iconst (pc := 66) (n := 0) (by decide +kernel) ?_
        refine zw_iand (pc := 67) (by decide +kernel) ?_
        refine zw_istore_n (pc := 68) (n := 2) (i := 2) (lv' := [(0, .ref 203), (1, .int (zJ v1)), (2, .int (zJ (zand v2 0)))]) (by decide +kernel) rfl (Nat.le_of_ble_eq_true rfl) rfl ?_
        refine zw_aload_n (pc := 69) (n := 0) (i := 0) 0 (by decide +kernel) rfl rfl ?_
        refine zw_iconst (pc := 70) (n := 0) (by decide +kernel) ?_
        refine zx_putI (pc := 71) zf_11_282 (by decide +kernel) rfl zc_203 ?_
        refine zw_iload_n (pc := 74) (n := 2) (i := 2) 2 (by decide +kernel) rfl rfl ?_
        refine zw_if_ne (pc := 75) (off := 11) (tgt := 86) (by decide +kernel) (by decide) o11 (fun hc => ?_) (fun hc => ?_)
        · replace h := h.1 hc
          refine zw_iconst (pc := 86) (n := 0) (by decide +kernel) ?_
          refine zw_istore_n (pc := 87) (n := 3) (i := 3) (lv' := [(0, .ref 203), (1, .int (zJ v1)), (2, .int (zJ (zand v2 0))), (3, .int (zJ 0))]) (by decide +kernel) rfl (Nat.le_of_ble_eq_true rfl) rfl ?_
          refine zw_iconst (pc := 88) (n := 0) (by decide +kernel) ?_
          refine zw_istore (pc := 89) (i := 4) (lv' := [(0, .ref 203), (1, .int (zJ v1)), (2, .int (zJ (zand v2 0))), (3, .int (zJ 0)), (4, .int (zJ 0))]) (by decide +kernel) (Nat.le_of_ble_eq_true rfl) rfl ?_
          exact zw_pick (lv' := [(0, .ref 203), (1, .int (zJ v1)), (3, .int (zJ 0)), (4, .int (zJ 0))]) [0, 1, 3, 4] rfl h
        · replace h := h.2 hc
          refine zw_bipush (pc := 78) (n := (-100)) (by decide +kernel) (by decide +kernel) ?_
          refine zw_aload_n (pc := 80) (n := 0) (i := 0) 0 (by decide +kernel) rfl rfl ?_
          refine zx_getI (pc := 81) zf_11_285 (by decide +kernel) rfl zc_203 ?_
          refine zw_isub (pc := 84) (by decide +kernel) ?_
          exact zw_iret (pc := 85) (by decide +kernel) rfl (Nat.le_refl _) (Nat.le_refl _) ⟨_, _, rfl, rfl, h⟩
      · replace h := h.2 hc
        obtain ⟨o12, h⟩ := h
        refine zw_iconst (pc := 62) (n := 1) (by decide +kernel) ?_
        refine zw_goto (pc := 63) (off := 4) (tgt := 67) (by decide +kernel) (by decide) ?_
        refine zw_iand (pc := 67) (by decide +kernel) ?_
        refine zw_istore_n (pc := 68) (n := 2) (i := 2) (lv' := [(0, .ref 203), (1, .int (zJ v1)), (2, .int (zJ (zand v2 1)))]) (by decide +kernel) rfl (Nat.le_of_ble_eq_true rfl) rfl ?_
        refine zw_aload_n (pc := 69) (n := 0) (i := 0) 0 (by decide +kernel) rfl rfl ?_
        refine zw_iconst (pc := 70) (n := 0) (by decide +kernel) ?_
        refine zx_putI (pc := 71) zf_11_282 (by decide +kernel) rfl zc_203 ?_
        refine zw_iload_n (pc := 74) (n := 2) (i := 2) 2 (by decide +kernel) rfl rfl ?_
        refine zw_if_ne (pc := 75) (off := 11) (tgt := 86) (by decide +kernel) (by decide) o12 (fun hc => ?_) (fun hc => ?_)
        · replace h := h.1 hc
          refine zw_iconst (pc := 86) (n := 0) (by decide +kernel) ?_
          refine zw_istore_n (pc := 87) (n := 3) (i := 3) (lv' := [(0, .ref 203), (1, .int (zJ v1)), (2, .int (zJ (zand v2 1))), (3, .int (zJ 0))]) (by decide +kernel) rfl (Nat.le_of_ble_eq_true rfl) rfl ?_
          refine zw_iconst (pc := 88) (n := 0) (by decide +kernel) ?_
          refine zw_istore (pc := 89) (i := 4) (lv' := [(0, .ref 203), (1, .int (zJ v1)), (2, .int (zJ (zand v2 1))), (3, .int (zJ 0)), (4, .int (zJ 0))]) (by decide +kernel) (Nat.le_of_ble_eq_true rfl) rfl ?_
          exact zw_pick (lv' := [(0, .ref 203), (1, .int (zJ v1)), (3, .int (zJ 0)), (4, .int (zJ 0))]) [0, 1, 3, 4] rfl h
        · replace h := h.2 hc
          refine zw_bipush (pc := 78) (n := (-100)) (by decide +kernel) (by decide +kernel) ?_
          refine zw_aload_n (pc := 80) (n := 0) (i := 0) 0 (by decide +kernel) rfl rfl ?_
          refine zx_getI (pc := 81) zf_11_285 (by decide +kernel) rfl zc_203 ?_
          refine zw_isub (pc := 84) (by decide +kernel) ?_
          exact zw_iret (pc := 85) (by decide +kernel) rfl (Nat.le_refl _) (Nat.le_refl _) ⟨_, _, rfl, rfl, h⟩
    · replace h := h.2 hc
      refine zw_aload_n (pc := 26) (n := 0) (i := 0) 0 (by decide +kernel) rfl rfl ?_
      refine zw_dup (pc := 27) (by decide +kernel) rfl ?_
      refine zx_getI (pc := 28) zf_11_285 (by decide +kernel) rfl zc_203 ?_
      refine zw_iconst (pc := 31) (n := 1) (by decide +kernel) ?_
      refine zw_iadd (pc := 32) (by decide +kernel) ?_
      refine zx_putI (pc := 33) zf_11_285 (by decide +kernel) rfl zc_203 ?_
      refine zw_iinc (pc := 36) (i := 1) (n := 1) (lv' := [(0, .ref 203), (1, .int (zJ (v1 + 1))), (2, .int (zJ v2))]) 1 (by decide +kernel) rfl rfl (Nat.le_of_ble_eq_true rfl) rfl ?_
      refine zw_aload_n (pc := 39) (n := 0) (i := 0) 0 (by decide +kernel) rfl rfl ?_
      refine zw_iconst (pc := 40) (n := 5) (by decide +kernel) ?_
      refine zw_iload_n (pc := 41) (n := 1) (i := 1) 1 (by decide +kernel) rfl rfl ?_
      refine zw_imul (pc := 42) (by decide +kernel) ?_
      refine zx_callV (pc := 43) (As := [.int (zJ (5 * (v1 + 1)))]) h zi_X11_readsDeed zii_X11_readsDeed zie_X11_readsDeed zl_11_336 (by decide +kernel) ⟨Nat.le_of_ble_eq_true rfl, Nat.le_of_ble_eq_true rfl⟩ rfl zc_203 (by decide) rfl rfl ⟨rfl, rfl⟩ ⟨Nat.zero_le _, Nat.zero_le _⟩ (zki (fun x14 μ13 h => ?_))
      refine zw_istore_n (pc := 46) (n := 2) (i := 2) (lv' := [(0, .ref 203), (1, .int (zJ (v1 + 1))), (2, .int (zJ x14))]) (by decide +kernel) rfl (Nat.le_of_ble_eq_true rfl) rfl ?_
      refine zw_goto (pc := 47) (off := (-34)) (tgt := 13) (by decide +kernel) (by decide) ?_
      exact h
theorem sg_X11_deeds_91 {g : zG} {φ : Int → zMu → Prop} {v1 : Int} {v3 : Int} {v4 : Int} {μ : zMu}
    (h : (zR v4) ∧ (zR v1) ∧ ((v1 < v4 → φ v3 μ) ∧ (v4 ≤ v1 → zOi g zm_X11_does [.ref 203, .int (zJ (5 * v4))] μ (fun x4 μ3 => (zR x4) ∧ ((x4 < 0 → at_X11_deeds_91 g φ v1 (v3 + 0) (v4 + 1) μ3) ∧ (0 ≤ x4 → at_X11_deeds_91 g φ v1 (v3 + 1) (v4 + 1) μ3)))))) : at_X11_deeds_91 g φ v1 v3 v4 μ := by
  obtain ⟨o1, o2, h⟩ := h
  refine zw_iload (pc := 91) (i := 4) 3 (by decide +kernel) rfl ?_
  refine zw_iload_n (pc := 93) (n := 1) (i := 1) 1 (by decide +kernel) rfl rfl ?_
  refine zw_icmp_gt (pc := 94) (off := 28) (tgt := 122) (by decide +kernel) (by decide) o1 o2 (fun hc => ?_) (fun hc => ?_)
  · replace h := h.1 hc
    refine zw_iload_n (pc := 122) (n := 3) (i := 3) 2 (by decide +kernel) rfl rfl ?_
    exact zw_iret (pc := 123) (by decide +kernel) rfl (Nat.le_refl _) (Nat.le_refl _) ⟨_, _, rfl, rfl, h⟩
  · replace h := h.2 hc
    refine zw_iload_n (pc := 97) (n := 3) (i := 3) 2 (by decide +kernel) rfl rfl ?_
    refine zw_aload_n (pc := 98) (n := 0) (i := 0) 0 (by decide +kernel) rfl rfl ?_
    refine zw_iconst (pc := 99) (n := 5) (by decide +kernel) ?_
    refine zw_iload (pc := 100) (i := 4) 3 (by decide +kernel) rfl ?_
    refine zw_imul (pc := 102) (by decide +kernel) ?_
    refine zx_callV (pc := 103) (As := [.int (zJ (5 * v4))]) h zi_X11_does zii_X11_does zie_X11_does zl_11_339 (by decide +kernel) ⟨Nat.le_of_ble_eq_true rfl, Nat.le_of_ble_eq_true rfl⟩ rfl zc_203 (by decide) rfl rfl ⟨rfl, rfl⟩ ⟨Nat.zero_le _, Nat.zero_le _⟩ (zki (fun x4 μ3 h => ?_))
    obtain ⟨o5, h⟩ := h
    refine zw_if_lt (pc := 106) (off := 7) (tgt := 113) (by decide +kernel) (by decide) o5 (fun hc => ?_) (fun hc => ?_)
    · replace h := h.1 hc
      refine zw_iconst (pc := 113) (n := 0) (by decide +kernel) ?_
      refine zw_iadd (pc := 114) (by decide +kernel) ?_
      refine zw_istore_n (pc := 115) (n := 3) (i := 3) (lv' := [(0, .ref 203), (1, .int (zJ v1)), (3, .int (zJ (v3 + 0))), (4, .int (zJ v4))]) (by decide +kernel) rfl (Nat.le_of_ble_eq_true rfl) rfl ?_
      refine zw_iinc (pc := 116) (i := 4) (n := 1) (lv' := [(0, .ref 203), (1, .int (zJ v1)), (3, .int (zJ (v3 + 0))), (4, .int (zJ (v4 + 1)))]) 3 (by decide +kernel) rfl rfl (Nat.le_of_ble_eq_true rfl) rfl ?_
      refine zw_goto (pc := 119) (off := (-28)) (tgt := 91) (by decide +kernel) (by decide) ?_
      exact h
    · replace h := h.2 hc
      refine zw_iconst (pc := 109) (n := 1) (by decide +kernel) ?_
      refine zw_goto (pc := 110) (off := 4) (tgt := 114) (by decide +kernel) (by decide) ?_
      refine zw_iadd (pc := 114) (by decide +kernel) ?_
      refine zw_istore_n (pc := 115) (n := 3) (i := 3) (lv' := [(0, .ref 203), (1, .int (zJ v1)), (3, .int (zJ (v3 + 1))), (4, .int (zJ v4))]) (by decide +kernel) rfl (Nat.le_of_ble_eq_true rfl) rfl ?_
      refine zw_iinc (pc := 116) (i := 4) (n := 1) (lv' := [(0, .ref 203), (1, .int (zJ v1)), (3, .int (zJ (v3 + 1))), (4, .int (zJ (v4 + 1)))]) 3 (by decide +kernel) rfl rfl (Nat.le_of_ble_eq_true rfl) rfl ?_
      refine zw_goto (pc := 119) (off := (-28)) (tgt := 91) (by decide +kernel) (by decide) ?_
      exact h
abbrev at_X11_readsDeed_5 (g : zG) (φ : Int → zMu → Prop) (v1 : Int) (v2 : Int) (μ : zMu) : Prop := zWP g zm_X11_readsDeed (zmo g zm_X11_readsDeed (zΦi φ)) 5 [(0, .ref 203), (1, .int (zJ v1)), (2, .int (zJ v2))] [] 0 0 (zw μ)
abbrev at_X11_readsDeed_52 (g : zG) (φ : Int → zMu → Prop) (v1 : Int) (v3 : Int) (v4 : Int) (μ : zMu) : Prop := zWP g zm_X11_readsDeed (zmo g zm_X11_readsDeed (zΦi φ)) 52 [(0, .ref 203), (1, .int (zJ v1)), (3, .int (zJ v3)), (4, .int (zJ v4))] [] 0 0 (zw μ)
abbrev at_X11_readsDeed_134 (g : zG) (φ : Int → zMu → Prop) (v1 : Int) (v3 : Int) (v4 : Int) (v5 : Int) (v6 : Int) (v7 : Int) (μ : zMu) : Prop := zWP g zm_X11_readsDeed (zmo g zm_X11_readsDeed (zΦi φ)) 134 [(0, .ref 203), (1, .int (zJ v1)), (3, .int (zJ v3)), (4, .int (zJ v4)), (5, .int (zJ v5)), (6, .int (zJ v6)), (7, .int (zJ v7))] [] 0 0 (zw μ)
theorem sg_X11_readsDeed {g : zG} {φ : Int → zMu → Prop} {v1 : Int} {μ : zMu}
    (h : at_X11_readsDeed_5 g φ v1 (μ 203 32) μ) : zOi g zm_X11_readsDeed [.ref 203, .int (zJ v1)] μ φ := by
  refine zok_of (by decide +kernel) rfl ?_
  show zWP g zm_X11_readsDeed (zmo g zm_X11_readsDeed (zΦi φ)) 0 [(0, .ref 203), (1, .int (zJ v1))] [] 0 0 (zw μ)
  refine zw_aload_n (pc := 0) (n := 0) (i := 0) 0 (by decide +kernel) rfl rfl ?_
  refine zx_getI (pc := 1) zf_11_285 (by decide +kernel) rfl zc_203 ?_
  refine zw_istore_n (pc := 4) (n := 2) (i := 2) (lv' := [(0, .ref 203), (1, .int (zJ v1)), (2, .int (zJ (μ 203 32)))]) (by decide +kernel) rfl (Nat.le_of_ble_eq_true rfl) rfl ?_
  exact h
theorem sg_X11_readsDeed_5 {g : zG} {φ : Int → zMu → Prop} {v1 : Int} {v2 : Int} {μ : zMu}
    (h : zOi g zm_X11_isLetter [.ref 203] μ (fun x2 μ1 => (zR x2) ∧ ((x2 = 0 → zOi g zm_X11_wordFrom [.ref 203, .int (zJ v2)] μ1 (fun x5 μ4 => (zR x5) ∧ ((0 ≤ x5 → (0 ≤ v1 ∧ v1 < 500) ∧ at_X11_readsDeed_52 g φ v1 x5 0 (zup μ4 226 v1.toNat x5)) ∧ (x5 < 0 → φ 0 (zup μ4 203 32 v2))))) ∧ (¬ x2 = 0 → at_X11_readsDeed_5 g φ v1 v2 (zup μ1 203 32 ((μ1 203 32) + 1)))))) : at_X11_readsDeed_5 g φ v1 v2 μ := by
  refine zw_aload_n (pc := 5) (n := 0) (i := 0) 0 (by decide +kernel) rfl rfl ?_
  refine zx_callV (pc := 6) (As := []) h zi_X11_isLetter zii_X11_isLetter zie_X11_isLetter zl_11_299 (by decide +kernel) ⟨Nat.le_of_ble_eq_true rfl, Nat.le_of_ble_eq_true rfl⟩ rfl zc_203 (by decide) rfl rfl ⟨rfl, rfl⟩ ⟨Nat.zero_le _, Nat.zero_le _⟩ (zki (fun x2 μ1 h => ?_))
  obtain ⟨o3, h⟩ := h
  refine zw_if_eq (pc := 9) (off := 16) (tgt := 25) (by decide +kernel) (by decide) o3 (fun hc => ?_) (fun hc => ?_)
  · replace h := h.1 hc
    refine zw_aload_n (pc := 25) (n := 0) (i := 0) 0 (by decide +kernel) rfl rfl ?_
    refine zw_iload_n (pc := 26) (n := 2) (i := 2) 2 (by decide +kernel) rfl rfl ?_
    refine zx_callV (pc := 27) (As := [.int (zJ v2)]) h zi_X11_wordFrom zii_X11_wordFrom zie_X11_wordFrom zl_11_302 (by decide +kernel) ⟨Nat.le_of_ble_eq_true rfl, Nat.le_of_ble_eq_true rfl⟩ rfl zc_203 (by decide) rfl rfl ⟨rfl, rfl⟩ ⟨Nat.zero_le _, Nat.zero_le _⟩ (zki (fun x5 μ4 h => ?_))
    obtain ⟨o6, h⟩ := h
    refine zw_istore_n (pc := 30) (n := 3) (i := 3) (lv' := [(0, .ref 203), (1, .int (zJ v1)), (2, .int (zJ v2)), (3, .int (zJ x5))]) (by decide +kernel) rfl (Nat.le_of_ble_eq_true rfl) rfl ?_
    refine zw_iload_n (pc := 31) (n := 3) (i := 3) 3 (by decide +kernel) rfl rfl ?_
    refine zw_if_ge (pc := 32) (off := 10) (tgt := 42) (by decide +kernel) (by decide) o6 (fun hc => ?_) (fun hc => ?_)
    · replace h := h.1 hc
      obtain ⟨o7, h⟩ := h
      refine zw_aload_n (pc := 42) (n := 0) (i := 0) 0 (by decide +kernel) rfl rfl ?_
      refine zx_getR (pc := 43) (o := 23) (r := 226) zf_11_82 (by decide +kernel) rfl zc_203 rfl (by decide) rfl ?_
      refine zw_iload_n (pc := 46) (n := 1) (i := 1) 1 (by decide +kernel) rfl rfl ?_
      refine zw_iload_n (pc := 47) (n := 3) (i := 3) 3 (by decide +kernel) rfl rfl ?_
      refine zx_iastore (pc := 48) (by decide +kernel) ⟨500, zc_226, o7.1, o7.2⟩ ?_
      refine zw_iconst (pc := 49) (n := 0) (by decide +kernel) ?_
      refine zw_istore (pc := 50) (i := 4) (lv' := [(0, .ref 203), (1, .int (zJ v1)), (2, .int (zJ v2)), (3, .int (zJ x5)), (4, .int (zJ 0))]) (by decide +kernel) (Nat.le_of_ble_eq_true rfl) rfl ?_
      exact zw_pick (lv' := [(0, .ref 203), (1, .int (zJ v1)), (3, .int (zJ x5)), (4, .int (zJ 0))]) [0, 1, 3, 4] rfl h
    · replace h := h.2 hc
      refine zw_aload_n (pc := 35) (n := 0) (i := 0) 0 (by decide +kernel) rfl rfl ?_
      refine zw_iload_n (pc := 36) (n := 2) (i := 2) 2 (by decide +kernel) rfl rfl ?_
      refine zx_putI (pc := 37) zf_11_285 (by decide +kernel) rfl zc_203 ?_
      refine zw_iconst (pc := 40) (n := 0) (by decide +kernel) ?_
      exact zw_zret (pc := 41) (by decide +kernel) rfl (Nat.le_refl _) (Nat.le_refl _) (Or.inl rfl) ⟨_, _, rfl, rfl, h⟩
  · replace h := h.2 hc
    refine zw_aload_n (pc := 12) (n := 0) (i := 0) 0 (by decide +kernel) rfl rfl ?_
    refine zw_dup (pc := 13) (by decide +kernel) rfl ?_
    refine zx_getI (pc := 14) zf_11_285 (by decide +kernel) rfl zc_203 ?_
    refine zw_iconst (pc := 17) (n := 1) (by decide +kernel) ?_
    refine zw_iadd (pc := 18) (by decide +kernel) ?_
    refine zx_putI (pc := 19) zf_11_285 (by decide +kernel) rfl zc_203 ?_
    refine zw_goto (pc := 22) (off := (-17)) (tgt := 5) (by decide +kernel) (by decide) ?_
    exact h
theorem sg_X11_readsDeed_52 {g : zG} {φ : Int → zMu → Prop} {v1 : Int} {v3 : Int} {v4 : Int} {μ : zMu}
    (h : (0 ≤ v3 ∧ v3 < 9) ∧ (zR v4) ∧ (zR (μ 225 v3.toNat)) ∧ (((μ 225 v3.toNat) ≤ v4 → φ 1 μ) ∧ (v4 < (μ 225 v3.toNat) → zOi g zm_X11_here [.ref 203] μ (fun x5 μ4 => (zR x5) ∧ ((x5 = 32 → zOi g zm_X11_here [.ref 203] (zup μ4 203 32 ((μ4 203 32) + 1)) (fun x8 μ7 => (zR x8) ∧ ((¬ x8 = 45 → zOi g zm_X11_isFigure [.ref 203] (zup μ7 203 32 ((μ7 203 32) + 0)) (fun x11 μ10 => (zR x11) ∧ ((¬ x11 = 0 → at_X11_readsDeed_134 g φ v1 v3 v4 0 0 0 μ10) ∧ (x11 = 0 → φ 0 μ10)))) ∧ (x8 = 45 → zOi g zm_X11_isFigure [.ref 203] (zup μ7 203 32 ((μ7 203 32) + 1)) (fun x14 μ13 => (zR x14) ∧ ((¬ x14 = 0 → at_X11_readsDeed_134 g φ v1 v3 v4 1 0 0 μ13) ∧ (x14 = 0 → φ 0 μ13))))))) ∧ (¬ x5 = 32 → φ 0 μ4)))))) : at_X11_readsDeed_52 g φ v1 v3 v4 μ := by
  obtain ⟨o1, o2, o3, h⟩ := h
  refine zw_iload (pc := 52) (i := 4) 3 (by decide +kernel) rfl ?_
  refine zw_aload_n (pc := 54) (n := 0) (i := 0) 0 (by decide +kernel) rfl rfl ?_
  refine zx_getR (pc := 55) (o := 22) (r := 225) zf_11_79 (by decide +kernel) rfl zc_203 rfl (by decide) rfl ?_
  refine zw_iload_n (pc := 58) (n := 3) (i := 3) 2 (by decide +kernel) rfl rfl ?_
  refine zx_iaload (pc := 59) (by decide +kernel) ⟨9, zc_225, o1.1, o1.2⟩ ?_
  refine zw_icmp_ge (pc := 60) (off := 148) (tgt := 208) (by decide +kernel) (by decide) o2 o3 (fun hc => ?_) (fun hc => ?_)
  · replace h := h.1 hc
    refine zw_iconst (pc := 208) (n := 1) (by decide +kernel) ?_
    exact zw_zret (pc := 209) (by decide +kernel) rfl (Nat.le_refl _) (Nat.le_refl _) (Or.inr rfl) ⟨_, _, rfl, rfl, h⟩
  · replace h := h.2 hc
    refine zw_aload_n (pc := 63) (n := 0) (i := 0) 0 (by decide +kernel) rfl rfl ?_
    refine zx_callV (pc := 64) (As := []) h zi_X11_here zii_X11_here zie_X11_here zl_11_288 (by decide +kernel) ⟨Nat.le_of_ble_eq_true rfl, Nat.le_of_ble_eq_true rfl⟩ rfl zc_203 (by decide) rfl rfl ⟨rfl, rfl⟩ ⟨Nat.zero_le _, Nat.zero_le _⟩ (zki (fun x5 μ4 h => ?_))
    obtain ⟨o6, h⟩ := h
    refine zw_bipush (pc := 67) (n := 32) (by decide +kernel) (by decide +kernel) ?_
    refine zw_icmp_eq (pc := 69) (off := 5) (tgt := 74) (by decide +kernel) (by decide) o6 ⟨by decide, by decide⟩ (fun hc => ?_) (fun hc => ?_)
    · replace h := h.1 hc
      refine zw_aload_n (pc := 74) (n := 0) (i := 0) 0 (by decide +kernel) rfl rfl ?_
      refine zw_dup (pc := 75) (by decide +kernel) rfl ?_
      refine zx_getI (pc := 76) zf_11_285 (by decide +kernel) rfl zc_203 ?_
      refine zw_iconst (pc := 79) (n := 1) (by decide +kernel) ?_
      refine zw_iadd (pc := 80) (by decide +kernel) ?_
      refine zx_putI (pc := 81) zf_11_285 (by decide +kernel) rfl zc_203 ?_
      refine zw_aload_n (pc := 84) (n := 0) (i := 0) 0 (by decide +kernel) rfl rfl ?_
      refine zx_callV (pc := 85) (As := []) h zi_X11_here zii_X11_here zie_X11_here zl_11_288 (by decide +kernel) ⟨Nat.le_of_ble_eq_true rfl, Nat.le_of_ble_eq_true rfl⟩ rfl zc_203 (by decide) rfl rfl ⟨rfl, rfl⟩ ⟨Nat.zero_le _, Nat.zero_le _⟩ (zki (fun x8 μ7 h => ?_))
      obtain ⟨o9, h⟩ := h
      refine zw_bipush (pc := 88) (n := 45) (by decide +kernel) (by decide +kernel) ?_
      refine zw_icmp_ne (pc := 90) (off := 7) (tgt := 97) (by decide +kernel) (by decide) o9 ⟨by decide, by decide⟩ (fun hc => ?_) (fun hc => ?_)
      · replace h := h.1 hc
        refine zw_iconst (pc := 97) (n := 0) (by decide +kernel) ?_
        refine zw_istore (pc := 98) (i := 5) (lv' := [(0, .ref 203), (1, .int (zJ v1)), (3, .int (zJ v3)), (4, .int (zJ v4)), (5, .int (zJ 0))]) (by decide +kernel) (Nat.le_of_ble_eq_true rfl) rfl ?_
        refine zw_aload_n (pc := 100) (n := 0) (i := 0) 0 (by decide +kernel) rfl rfl ?_
        refine zw_dup (pc := 101) (by decide +kernel) rfl ?_
        refine zx_getI (pc := 102) zf_11_285 (by decide +kernel) rfl zc_203 ?_
        refine zw_iload (pc := 105) (i := 5) 4 (by decide +kernel) rfl ?_
        refine zw_if_eq (pc := 107) (off := 7) (tgt := 114) (by decide +kernel) (by decide) ⟨by decide, by decide⟩ (fun hc => ?_) (fun hc => absurd hc (by decide))
        refine zw_iconst (pc := 114) (n := 0) (by decide +kernel) ?_
        refine zw_iadd (pc := 115) (by decide +kernel) ?_
        refine zx_putI (pc := 116) zf_11_285 (by decide +kernel) rfl zc_203 ?_
        refine zw_aload_n (pc := 119) (n := 0) (i := 0) 0 (by decide +kernel) rfl rfl ?_
        refine zx_callV (pc := 120) (As := []) h zi_X11_isFigure zii_X11_isFigure zie_X11_isFigure zl_11_305 (by decide +kernel) ⟨Nat.le_of_ble_eq_true rfl, Nat.le_of_ble_eq_true rfl⟩ rfl zc_203 (by decide) rfl rfl ⟨rfl, rfl⟩ ⟨Nat.zero_le _, Nat.zero_le _⟩ (zki (fun x11 μ10 h => ?_))
        obtain ⟨o12, h⟩ := h
        refine zw_if_ne (pc := 123) (off := 5) (tgt := 128) (by decide +kernel) (by decide) o12 (fun hc => ?_) (fun hc => ?_)
        · replace h := h.1 hc
          refine zw_iconst (pc := 128) (n := 0) (by decide +kernel) ?_
          refine zw_istore (pc := 129) (i := 6) (lv' := [(0, .ref 203), (1, .int (zJ v1)), (3, .int (zJ v3)), (4, .int (zJ v4)), (5, .int (zJ 0)), (6, .int (zJ 0))]) (by decide +kernel) (Nat.le_of_ble_eq_true rfl) rfl ?_
          refine zw_iconst (pc := 131) (n := 0) (by decide +kernel) ?_
          refine zw_istore (pc := 132) (i := 7) (lv' := [(0, .ref 203), (1, .int (zJ v1)), (3, .int (zJ v3)), (4, .int (zJ v4)), (5, .int (zJ 0)), (6, .int (zJ 0)), (7, .int (zJ 0))]) (by decide +kernel) (Nat.le_of_ble_eq_true rfl) rfl ?_
          exact h
        · replace h := h.2 hc
          refine zw_iconst (pc := 126) (n := 0) (by decide +kernel) ?_
          exact zw_zret (pc := 127) (by decide +kernel) rfl (Nat.le_refl _) (Nat.le_refl _) (Or.inl rfl) ⟨_, _, rfl, rfl, h⟩
      · replace h := h.2 hc
        refine zw_iconst (pc := 93) (n := 1) (by decide +kernel) ?_
        refine zw_goto (pc := 94) (off := 4) (tgt := 98) (by decide +kernel) (by decide) ?_
        refine zw_istore (pc := 98) (i := 5) (lv' := [(0, .ref 203), (1, .int (zJ v1)), (3, .int (zJ v3)), (4, .int (zJ v4)), (5, .int (zJ 1))]) (by decide +kernel) (Nat.le_of_ble_eq_true rfl) rfl ?_
        refine zw_aload_n (pc := 100) (n := 0) (i := 0) 0 (by decide +kernel) rfl rfl ?_
        refine zw_dup (pc := 101) (by decide +kernel) rfl ?_
        refine zx_getI (pc := 102) zf_11_285 (by decide +kernel) rfl zc_203 ?_
        refine zw_iload (pc := 105) (i := 5) 4 (by decide +kernel) rfl ?_
        refine zw_if_eq (pc := 107) (off := 7) (tgt := 114) (by decide +kernel) (by decide) ⟨by decide, by decide⟩ (fun hc => absurd hc (by decide)) (fun hc => ?_)
        refine zw_iconst (pc := 110) (n := 1) (by decide +kernel) ?_
        refine zw_goto (pc := 111) (off := 4) (tgt := 115) (by decide +kernel) (by decide) ?_
        refine zw_iadd (pc := 115) (by decide +kernel) ?_
        refine zx_putI (pc := 116) zf_11_285 (by decide +kernel) rfl zc_203 ?_
        refine zw_aload_n (pc := 119) (n := 0) (i := 0) 0 (by decide +kernel) rfl rfl ?_
        refine zx_callV (pc := 120) (As := []) h zi_X11_isFigure zii_X11_isFigure zie_X11_isFigure zl_11_305 (by decide +kernel) ⟨Nat.le_of_ble_eq_true rfl, Nat.le_of_ble_eq_true rfl⟩ rfl zc_203 (by decide) rfl rfl ⟨rfl, rfl⟩ ⟨Nat.zero_le _, Nat.zero_le _⟩ (zki (fun x14 μ13 h => ?_))
        obtain ⟨o15, h⟩ := h
        refine zw_if_ne (pc := 123) (off := 5) (tgt := 128) (by decide +kernel) (by decide) o15 (fun hc => ?_) (fun hc => ?_)
        · replace h := h.1 hc
          refine zw_iconst (pc := 128) (n := 0) (by decide +kernel) ?_
          refine zw_istore (pc := 129) (i := 6) (lv' := [(0, .ref 203), (1, .int (zJ v1)), (3, .int (zJ v3)), (4, .int (zJ v4)), (5, .int (zJ 1)), (6, .int (zJ 0))]) (by decide +kernel) (Nat.le_of_ble_eq_true rfl) rfl ?_
          refine zw_iconst (pc := 131) (n := 0) (by decide +kernel) ?_
          refine zw_istore (pc := 132) (i := 7) (lv' := [(0, .ref 203), (1, .int (zJ v1)), (3, .int (zJ v3)), (4, .int (zJ v4)), (5, .int (zJ 1)), (6, .int (zJ 0)), (7, .int (zJ 0))]) (by decide +kernel) (Nat.le_of_ble_eq_true rfl) rfl ?_
          exact h
        · replace h := h.2 hc
          refine zw_iconst (pc := 126) (n := 0) (by decide +kernel) ?_
          exact zw_zret (pc := 127) (by decide +kernel) rfl (Nat.le_refl _) (Nat.le_refl _) (Or.inl rfl) ⟨_, _, rfl, rfl, h⟩
    · replace h := h.2 hc
      refine zw_iconst (pc := 72) (n := 0) (by decide +kernel) ?_
      exact zw_zret (pc := 73) (by decide +kernel) rfl (Nat.le_refl _) (Nat.le_refl _) (Or.inl rfl) ⟨_, _, rfl, rfl, h⟩
theorem sg_X11_readsDeed_134 {g : zG} {φ : Int → zMu → Prop} {v1 : Int} {v3 : Int} {v4 : Int} {v5 : Int} {v6 : Int} {v7 : Int} {μ : zMu}
    (h : (zR v7) ∧ ((3 ≤ v7 → (zR v5) ∧ ((v5 = 0 → (0 ≤ ((v1 + 1) + v4) ∧ ((v1 + 1) + v4) < 500) ∧ at_X11_readsDeed_52 g φ v1 v3 (v4 + 1) (zup μ 226 (Int.toNat ((v1 + 1) + v4)) v6)) ∧ (¬ v5 = 0 → (0 ≤ ((v1 + 1) + v4) ∧ ((v1 + 1) + v4) < 500) ∧ at_X11_readsDeed_52 g φ v1 v3 (v4 + 1) (zup μ 226 (Int.toNat ((v1 + 1) + v4)) (-v6))))) ∧ (v7 < 3 → zOi g zm_X11_isFigure [.ref 203] μ (fun x6 μ5 => (zR x6) ∧ ((x6 = 0 → (zR v5) ∧ ((v5 = 0 → (0 ≤ ((v1 + 1) + v4) ∧ ((v1 + 1) + v4) < 500) ∧ at_X11_readsDeed_52 g φ v1 v3 (v4 + 1) (zup μ5 226 (Int.toNat ((v1 + 1) + v4)) v6)) ∧ (¬ v5 = 0 → (0 ≤ ((v1 + 1) + v4) ∧ ((v1 + 1) + v4) < 500) ∧ at_X11_readsDeed_52 g φ v1 v3 (v4 + 1) (zup μ5 226 (Int.toNat ((v1 + 1) + v4)) (-v6))))) ∧ (¬ x6 = 0 → zOi g zm_X11_here [.ref 203] μ5 (fun x12 μ11 => at_X11_readsDeed_134 g φ v1 v3 v4 v5 (((10 * v6) + x12) - 48) (v7 + 1) (zup μ11 203 32 ((μ11 203 32) + 1))))))))) : at_X11_readsDeed_134 g φ v1 v3 v4 v5 v6 v7 μ := by
  obtain ⟨o1, h⟩ := h
  refine zw_iload (pc := 134) (i := 7) 6 (by decide +kernel) rfl ?_
  refine zw_iconst (pc := 136) (n := 3) (by decide +kernel) ?_
  refine zw_icmp_ge (pc := 137) (off := 41) (tgt := 178) (by decide +kernel) (by decide) o1 ⟨by decide, by decide⟩ (fun hc => ?_) (fun hc => ?_)
  · replace h := h.1 hc
    obtain ⟨o2, h⟩ := h
    refine zw_aload_n (pc := 178) (n := 0) (i := 0) 0 (by decide +kernel) rfl rfl ?_
    refine zx_getR (pc := 179) (o := 23) (r := 226) zf_11_82 (by decide +kernel) rfl zc_203 rfl (by decide) rfl ?_
    refine zw_iload_n (pc := 182) (n := 1) (i := 1) 1 (by decide +kernel) rfl rfl ?_
    refine zw_iconst (pc := 183) (n := 1) (by decide +kernel) ?_
    refine zw_iadd (pc := 184) (by decide +kernel) ?_
    refine zw_iload (pc := 185) (i := 4) 3 (by decide +kernel) rfl ?_
    refine zw_iadd (pc := 187) (by decide +kernel) ?_
    refine zw_iload (pc := 188) (i := 5) 4 (by decide +kernel) rfl ?_
    refine zw_if_eq (pc := 190) (off := 9) (tgt := 199) (by decide +kernel) (by decide) o2 (fun hc => ?_) (fun hc => ?_)
    · replace h := h.1 hc
      obtain ⟨o3, h⟩ := h
      refine zw_iload (pc := 199) (i := 6) 5 (by decide +kernel) rfl ?_
      refine zx_iastore (pc := 201) (by decide +kernel) ⟨500, zc_226, o3.1, o3.2⟩ ?_
      refine zw_iinc (pc := 202) (i := 4) (n := 1) (lv' := [(0, .ref 203), (1, .int (zJ v1)), (3, .int (zJ v3)), (4, .int (zJ (v4 + 1))), (5, .int (zJ v5)), (6, .int (zJ v6)), (7, .int (zJ v7))]) 3 (by decide +kernel) rfl rfl (Nat.le_of_ble_eq_true rfl) rfl ?_
      refine zw_goto (pc := 205) (off := (-153)) (tgt := 52) (by decide +kernel) (by decide) ?_
      exact zw_pick (lv' := [(0, .ref 203), (1, .int (zJ v1)), (3, .int (zJ v3)), (4, .int (zJ (v4 + 1)))]) [0, 1, 2, 3] rfl h
    · replace h := h.2 hc
      obtain ⟨o4, h⟩ := h
      refine zw_iload (pc := 193) (i := 6) 5 (by decide +kernel) rfl ?_
      refine zw_ineg (pc := 195) (by decide +kernel) ?_
      refine zw_goto (pc := 196) (off := 5) (tgt := 201) (by decide +kernel) (by decide) ?_
      refine zx_iastore (pc := 201) (by decide +kernel) ⟨500, zc_226, o4.1, o4.2⟩ ?_
      refine zw_iinc (pc := 202) (i := 4) (n := 1) (lv' := [(0, .ref 203), (1, .int (zJ v1)), (3, .int (zJ v3)), (4, .int (zJ (v4 + 1))), (5, .int (zJ v5)), (6, .int (zJ v6)), (7, .int (zJ v7))]) 3 (by decide +kernel) rfl rfl (Nat.le_of_ble_eq_true rfl) rfl ?_
      refine zw_goto (pc := 205) (off := (-153)) (tgt := 52) (by decide +kernel) (by decide) ?_
      exact zw_pick (lv' := [(0, .ref 203), (1, .int (zJ v1)), (3, .int (zJ v3)), (4, .int (zJ (v4 + 1)))]) [0, 1, 2, 3] rfl h
  · replace h := h.2 hc
    refine zw_aload_n (pc := 140) (n := 0) (i := 0) 0 (by decide +kernel) rfl rfl ?_
    refine zx_callV (pc := 141) (As := []) h zi_X11_isFigure zii_X11_isFigure zie_X11_isFigure zl_11_305 (by decide +kernel) ⟨Nat.le_of_ble_eq_true rfl, Nat.le_of_ble_eq_true rfl⟩ rfl zc_203 (by decide) rfl rfl ⟨rfl, rfl⟩ ⟨Nat.zero_le _, Nat.zero_le _⟩ (zki (fun x6 μ5 h => ?_))
    obtain ⟨o7, h⟩ := h
    refine zw_if_eq (pc := 144) (off := 34) (tgt := 178) (by decide +kernel) (by decide) o7 (fun hc => ?_) (fun hc => ?_)
    · replace h := h.1 hc
      obtain ⟨o8, h⟩ := h
      refine zw_aload_n (pc := 178) (n := 0) (i := 0) 0 (by decide +kernel) rfl rfl ?_
      refine zx_getR (pc := 179) (o := 23) (r := 226) zf_11_82 (by decide +kernel) rfl zc_203 rfl (by decide) rfl ?_
      refine zw_iload_n (pc := 182) (n := 1) (i := 1) 1 (by decide +kernel) rfl rfl ?_
      refine zw_iconst (pc := 183) (n := 1) (by decide +kernel) ?_
      refine zw_iadd (pc := 184) (by decide +kernel) ?_
      refine zw_iload (pc := 185) (i := 4) 3 (by decide +kernel) rfl ?_
      refine zw_iadd (pc := 187) (by decide +kernel) ?_
      refine zw_iload (pc := 188) (i := 5) 4 (by decide +kernel) rfl ?_
      refine zw_if_eq (pc := 190) (off := 9) (tgt := 199) (by decide +kernel) (by decide) o8 (fun hc => ?_) (fun hc => ?_)
      · replace h := h.1 hc
        obtain ⟨o9, h⟩ := h
        refine zw_iload (pc := 199) (i := 6) 5 (by decide +kernel) rfl ?_
        refine zx_iastore (pc := 201) (by decide +kernel) ⟨500, zc_226, o9.1, o9.2⟩ ?_
        refine zw_iinc (pc := 202) (i := 4) (n := 1) (lv' := [(0, .ref 203), (1, .int (zJ v1)), (3, .int (zJ v3)), (4, .int (zJ (v4 + 1))), (5, .int (zJ v5)), (6, .int (zJ v6)), (7, .int (zJ v7))]) 3 (by decide +kernel) rfl rfl (Nat.le_of_ble_eq_true rfl) rfl ?_
        refine zw_goto (pc := 205) (off := (-153)) (tgt := 52) (by decide +kernel) (by decide) ?_
        exact zw_pick (lv' := [(0, .ref 203), (1, .int (zJ v1)), (3, .int (zJ v3)), (4, .int (zJ (v4 + 1)))]) [0, 1, 2, 3] rfl h
      · replace h := h.2 hc
        obtain ⟨o10, h⟩ := h
        refine zw_iload (pc := 193) (i := 6) 5 (by decide +kernel) rfl ?_
        refine zw_ineg (pc := 195) (by decide +kernel) ?_
        refine zw_goto (pc := 196) (off := 5) (tgt := 201) (by decide +kernel) (by decide) ?_
        refine zx_iastore (pc := 201) (by decide +kernel) ⟨500, zc_226, o10.1, o10.2⟩ ?_
        refine zw_iinc (pc := 202) (i := 4) (n := 1) (lv' := [(0, .ref 203), (1, .int (zJ v1)), (3, .int (zJ v3)), (4, .int (zJ (v4 + 1))), (5, .int (zJ v5)), (6, .int (zJ v6)), (7, .int (zJ v7))]) 3 (by decide +kernel) rfl rfl (Nat.le_of_ble_eq_true rfl) rfl ?_
        refine zw_goto (pc := 205) (off := (-153)) (tgt := 52) (by decide +kernel) (by decide) ?_
        exact zw_pick (lv' := [(0, .ref 203), (1, .int (zJ v1)), (3, .int (zJ v3)), (4, .int (zJ (v4 + 1)))]) [0, 1, 2, 3] rfl h
    · replace h := h.2 hc
      refine zw_bipush (pc := 147) (n := 10) (by decide +kernel) (by decide +kernel) ?_
      refine zw_iload (pc := 149) (i := 6) 5 (by decide +kernel) rfl ?_
      refine zw_imul (pc := 151) (by decide +kernel) ?_
      refine zw_aload_n (pc := 152) (n := 0) (i := 0) 0 (by decide +kernel) rfl rfl ?_
      refine zx_callV (pc := 153) (As := []) h zi_X11_here zii_X11_here zie_X11_here zl_11_288 (by decide +kernel) ⟨Nat.le_of_ble_eq_true rfl, Nat.le_of_ble_eq_true rfl⟩ rfl zc_203 (by decide) rfl rfl ⟨rfl, rfl⟩ ⟨Nat.zero_le _, Nat.zero_le _⟩ (zki (fun x12 μ11 h => ?_))
      refine zw_iadd (pc := 156) (by decide +kernel) ?_
      refine zw_bipush (pc := 157) (n := 48) (by decide +kernel) (by decide +kernel) ?_
      refine zw_isub (pc := 159) (by decide +kernel) ?_
      refine zw_istore (pc := 160) (i := 6) (lv' := [(0, .ref 203), (1, .int (zJ v1)), (3, .int (zJ v3)), (4, .int (zJ v4)), (5, .int (zJ v5)), (6, .int (zJ (((10 * v6) + x12) - 48))), (7, .int (zJ v7))]) (by decide +kernel) (Nat.le_of_ble_eq_true rfl) rfl ?_
      refine zw_aload_n (pc := 162) (n := 0) (i := 0) 0 (by decide +kernel) rfl rfl ?_
      refine zw_dup (pc := 163) (by decide +kernel) rfl ?_
      refine zx_getI (pc := 164) zf_11_285 (by decide +kernel) rfl zc_203 ?_
      refine zw_iconst (pc := 167) (n := 1) (by decide +kernel) ?_
      refine zw_iadd (pc := 168) (by decide +kernel) ?_
      refine zx_putI (pc := 169) zf_11_285 (by decide +kernel) rfl zc_203 ?_
      refine zw_iinc (pc := 172) (i := 7) (n := 1) (lv' := [(0, .ref 203), (1, .int (zJ v1)), (3, .int (zJ v3)), (4, .int (zJ v4)), (5, .int (zJ v5)), (6, .int (zJ (((10 * v6) + x12) - 48))), (7, .int (zJ (v7 + 1)))]) 6 (by decide +kernel) rfl rfl (Nat.le_of_ble_eq_true rfl) rfl ?_
      refine zw_goto (pc := 175) (off := (-41)) (tgt := 134) (by decide +kernel) (by decide) ?_
      exact h
theorem sg_X11_isLetter {g : zG} {φ : Int → zMu → Prop} {μ : zMu}
    (h : zOi g zm_X11_here [.ref 203] μ (fun x2 μ1 => (zR x2) ∧ zOi g zm_X11_in [.long (zL x2), .long (zL 97), .long (zL 122)] μ1 (fun x5 μ4 => (x5 = 0 ∨ x5 = 1) ∧ φ x5 μ4))) : zOi g zm_X11_isLetter [.ref 203] μ φ := by
  refine zok_of (by decide +kernel) rfl ?_
  show zWP g zm_X11_isLetter (zmo g zm_X11_isLetter (zΦi φ)) 0 [(0, .ref 203)] [] 0 0 (zw μ)
  refine zw_aload_n (pc := 0) (n := 0) (i := 0) 0 (by decide +kernel) rfl rfl ?_
  refine zx_callV (pc := 1) (As := []) h zi_X11_here zii_X11_here zie_X11_here zl_11_288 (by decide +kernel) ⟨Nat.le_of_ble_eq_true rfl, Nat.le_of_ble_eq_true rfl⟩ rfl zc_203 (by decide) rfl rfl ⟨rfl, rfl⟩ ⟨Nat.zero_le _, Nat.zero_le _⟩ (zki (fun x2 μ1 h => ?_))
  obtain ⟨o3, h⟩ := h
  refine zw_i2l (pc := 4) (by decide +kernel) o3 ?_
  refine zw_ldc2 (pc := 5) (v := 97) (by decide +kernel) zk_11_295 ?_
  refine zw_ldc2 (pc := 8) (v := 122) (by decide +kernel) zk_11_297 ?_
  refine zx_callS (pc := 11) (As := [.long (zL x2), .long (zL 97), .long (zL 122)]) h zi_X11_in zis_X11_in zl_11_114 (by decide +kernel) ⟨Nat.le_of_ble_eq_true rfl, Nat.le_of_ble_eq_true rfl⟩ rfl rfl ⟨rfl, rfl⟩ ⟨Nat.zero_le _, Nat.zero_le _⟩ (zki (fun x5 μ4 h => ?_))
  obtain ⟨o6, h⟩ := h
  exact zw_zret (pc := 14) (by decide +kernel) rfl (Nat.le_refl _) (Nat.le_refl _) o6 ⟨_, _, rfl, rfl, h⟩
theorem sg_X11_here {g : zG} {φ : Int → zMu → Prop} {μ : zMu}
    (h : (zR (μ 203 32)) ∧ (zR (μ 203 31)) ∧ (((μ 203 31) ≤ (μ 203 32) → φ 0 μ) ∧ ((μ 203 32) < (μ 203 31) → (0 ≤ (μ 203 32) ∧ (μ 203 32) < 100) ∧ φ (μ 223 (Int.toNat (μ 203 32))) μ))) : zOi g zm_X11_here [.ref 203] μ φ := by
  refine zok_of (by decide +kernel) rfl ?_
  show zWP g zm_X11_here (zmo g zm_X11_here (zΦi φ)) 0 [(0, .ref 203)] [] 0 0 (zw μ)
  obtain ⟨o1, o2, h⟩ := h
  refine zw_aload_n (pc := 0) (n := 0) (i := 0) 0 (by decide +kernel) rfl rfl ?_
  refine zx_getI (pc := 1) zf_11_285 (by decide +kernel) rfl zc_203 ?_
  refine zw_aload_n (pc := 4) (n := 0) (i := 0) 0 (by decide +kernel) rfl rfl ?_
  refine zx_getI (pc := 5) zf_11_282 (by decide +kernel) rfl zc_203 ?_
  refine zw_icmp_ge (pc := 8) (off := 15) (tgt := 23) (by decide +kernel) (by decide) o1 o2 (fun hc => ?_) (fun hc => ?_)
  · replace h := h.1 hc
    refine zw_iconst (pc := 23) (n := 0) (by decide +kernel) ?_
    exact zw_iret (pc := 24) (by decide +kernel) rfl (Nat.le_refl _) (Nat.le_refl _) ⟨_, _, rfl, rfl, h⟩
  · replace h := h.2 hc
    obtain ⟨o3, h⟩ := h
    refine zw_aload_n (pc := 11) (n := 0) (i := 0) 0 (by decide +kernel) rfl rfl ?_
    refine zx_getR (pc := 12) (o := 20) (r := 223) zf_11_73 (by decide +kernel) rfl zc_203 rfl (by decide) rfl ?_
    refine zw_aload_n (pc := 15) (n := 0) (i := 0) 0 (by decide +kernel) rfl rfl ?_
    refine zx_getI (pc := 16) zf_11_285 (by decide +kernel) rfl zc_203 ?_
    refine zx_iaload (pc := 19) (by decide +kernel) ⟨100, zc_223, o3.1, o3.2⟩ ?_
    refine zw_goto (pc := 20) (off := 4) (tgt := 24) (by decide +kernel) (by decide) ?_
    exact zw_iret (pc := 24) (by decide +kernel) rfl (Nat.le_refl _) (Nat.le_refl _) ⟨_, _, rfl, rfl, h⟩
abbrev at_X11_wordFrom_4 (g : zG) (φ : Int → zMu → Prop) (v1 : Int) (v2 : Int) (v3 : Int) (μ : zMu) : Prop := zWP g zm_X11_wordFrom (zmo g zm_X11_wordFrom (zΦi φ)) 4 [(0, .ref 203), (1, .int (zJ v1)), (2, .int (zJ v2)), (3, .int (zJ v3))] [] 0 0 (zw μ)
abbrev at_X11_wordFrom_19 (g : zG) (φ : Int → zMu → Prop) (v1 : Int) (v2 : Int) (v3 : Int) (v4 : Int) (v5 : Int) (μ : zMu) : Prop := zWP g zm_X11_wordFrom (zmo g zm_X11_wordFrom (zΦi φ)) 19 [(0, .ref 203), (1, .int (zJ v1)), (2, .int (zJ v2)), (3, .int (zJ v3)), (4, .int (zJ v4)), (5, .int (zJ v5))] [] 0 0 (zw μ)
theorem sg_X11_wordFrom {g : zG} {φ : Int → zMu → Prop} {v1 : Int} {μ : zMu}
    (h : at_X11_wordFrom_4 g φ v1 0 0 μ) : zOi g zm_X11_wordFrom [.ref 203, .int (zJ v1)] μ φ := by
  refine zok_of (by decide +kernel) rfl ?_
  show zWP g zm_X11_wordFrom (zmo g zm_X11_wordFrom (zΦi φ)) 0 [(0, .ref 203), (1, .int (zJ v1))] [] 0 0 (zw μ)
  refine zw_iconst (pc := 0) (n := 0) (by decide +kernel) ?_
  refine zw_istore_n (pc := 1) (n := 2) (i := 2) (lv' := [(0, .ref 203), (1, .int (zJ v1)), (2, .int (zJ 0))]) (by decide +kernel) rfl (Nat.le_of_ble_eq_true rfl) rfl ?_
  refine zw_iconst (pc := 2) (n := 0) (by decide +kernel) ?_
  refine zw_istore_n (pc := 3) (n := 3) (i := 3) (lv' := [(0, .ref 203), (1, .int (zJ v1)), (2, .int (zJ 0)), (3, .int (zJ 0))]) (by decide +kernel) rfl (Nat.le_of_ble_eq_true rfl) rfl ?_
  exact h
theorem sg_X11_wordFrom_4 {g : zG} {φ : Int → zMu → Prop} {v1 : Int} {v2 : Int} {v3 : Int} {μ : zMu}
    (h : (zR v3) ∧ ((9 ≤ v3 → φ (-1) μ) ∧ (v3 < 9 → at_X11_wordFrom_19 g φ v1 v2 v3 0 1 μ))) : at_X11_wordFrom_4 g φ v1 v2 v3 μ := by
  obtain ⟨o1, h⟩ := h
  refine zw_iload_n (pc := 4) (n := 3) (i := 3) 3 (by decide +kernel) rfl rfl ?_
  refine zw_aload_n (pc := 5) (n := 0) (i := 0) 0 (by decide +kernel) rfl rfl ?_
  refine zx_getR (pc := 6) (o := 22) (r := 225) zf_11_79 (by decide +kernel) rfl zc_203 rfl (by decide) rfl ?_
  refine zx_alen (pc := 9) (n := 9) (by decide +kernel) zc_225 ?_
  refine zw_icmp_ge (pc := 10) (off := 102) (tgt := 112) (by decide +kernel) (by decide) o1 ⟨by decide, by decide⟩ (fun hc => ?_) (fun hc => ?_)
  · replace h := h.1 hc
    refine zw_iconst (pc := 112) (n := (-1)) (by decide +kernel) ?_
    exact zw_iret (pc := 113) (by decide +kernel) rfl (Nat.le_refl _) (Nat.le_refl _) ⟨_, _, rfl, rfl, h⟩
  · replace h := h.2 hc
    refine zw_iconst (pc := 13) (n := 0) (by decide +kernel) ?_
    refine zw_istore (pc := 14) (i := 4) (lv' := [(0, .ref 203), (1, .int (zJ v1)), (2, .int (zJ v2)), (3, .int (zJ v3)), (4, .int (zJ 0))]) (by decide +kernel) (Nat.le_of_ble_eq_true rfl) rfl ?_
    refine zw_iconst (pc := 16) (n := 1) (by decide +kernel) ?_
    refine zw_istore (pc := 17) (i := 5) (lv' := [(0, .ref 203), (1, .int (zJ v1)), (2, .int (zJ v2)), (3, .int (zJ v3)), (4, .int (zJ 0)), (5, .int (zJ 1))]) (by decide +kernel) (Nat.le_of_ble_eq_true rfl) rfl ?_
    exact h
theorem sg_X11_wordFrom_19 {g : zG} {φ : Int → zMu → Prop} {v1 : Int} {v2 : Int} {v3 : Int} {v4 : Int} {v5 : Int} {μ : zMu}
    (h : (0 ≤ (v2 + v4) ∧ (v2 + v4) < 47) ∧ (zR (μ 224 (Int.toNat (v2 + v4)))) ∧ (((μ 224 (Int.toNat (v2 + v4))) = 32 → (zR v5) ∧ ((v5 = 0 → at_X11_wordFrom_4 g φ v1 (v2 + (v4 + 1)) (v3 + 1) μ) ∧ (¬ v5 = 0 → (zR v4) ∧ (zR ((μ 203 32) - v1)) ∧ ((¬ v4 = ((μ 203 32) - v1) → at_X11_wordFrom_4 g φ v1 (v2 + (v4 + 1)) (v3 + 1) μ) ∧ (v4 = ((μ 203 32) - v1) → φ v3 μ))))) ∧ (¬ (μ 224 (Int.toNat (v2 + v4))) = 32 → (zR (v1 + v4)) ∧ (zR (μ 203 32)) ∧ (((μ 203 32) ≤ (v1 + v4) → at_X11_wordFrom_19 g φ v1 v2 v3 (v4 + 1) (zand v5 0) μ) ∧ ((v1 + v4) < (μ 203 32) → (0 ≤ (v1 + v4) ∧ (v1 + v4) < 100) ∧ (zR (μ 223 (Int.toNat (v1 + v4)))) ∧ ((¬ (μ 223 (Int.toNat (v1 + v4))) = (μ 224 (Int.toNat (v2 + v4))) → at_X11_wordFrom_19 g φ v1 v2 v3 (v4 + 1) (zand v5 0) μ) ∧ ((μ 223 (Int.toNat (v1 + v4))) = (μ 224 (Int.toNat (v2 + v4))) → at_X11_wordFrom_19 g φ v1 v2 v3 (v4 + 1) (zand v5 1) μ))))))) : at_X11_wordFrom_19 g φ v1 v2 v3 v4 v5 μ := by
  obtain ⟨o1, o2, h⟩ := h
  refine zw_aload_n (pc := 19) (n := 0) (i := 0) 0 (by decide +kernel) rfl rfl ?_
  refine zx_getR (pc := 20) (o := 21) (r := 224) zf_11_76 (by decide +kernel) rfl zc_203 rfl (by decide) rfl ?_
  refine zw_iload_n (pc := 23) (n := 2) (i := 2) 2 (by decide +kernel) rfl rfl ?_
  refine zw_iload (pc := 24) (i := 4) 4 (by decide +kernel) rfl ?_
  refine zw_iadd (pc := 26) (by decide +kernel) ?_
  refine zx_iaload (pc := 27) (by decide +kernel) ⟨47, zc_224, o1.1, o1.2⟩ ?_
  refine zw_bipush (pc := 28) (n := 32) (by decide +kernel) (by decide +kernel) ?_
  refine zw_icmp_eq (pc := 30) (off := 51) (tgt := 81) (by decide +kernel) (by decide) o2 ⟨by decide, by decide⟩ (fun hc => ?_) (fun hc => ?_)
  · replace h := h.1 hc
    obtain ⟨o3, h⟩ := h
    refine zw_iload (pc := 81) (i := 5) 5 (by decide +kernel) rfl ?_
    refine zw_if_eq (pc := 83) (off := 16) (tgt := 99) (by decide +kernel) (by decide) o3 (fun hc => ?_) (fun hc => ?_)
    · replace h := h.1 hc
      refine zw_iload_n (pc := 99) (n := 2) (i := 2) 2 (by decide +kernel) rfl rfl ?_
      refine zw_iload (pc := 100) (i := 4) 4 (by decide +kernel) rfl ?_
      refine zw_iconst (pc := 102) (n := 1) (by decide +kernel) ?_
      refine zw_iadd (pc := 103) (by decide +kernel) ?_
      refine zw_iadd (pc := 104) (by decide +kernel) ?_
      refine zw_istore_n (pc := 105) (n := 2) (i := 2) (lv' := [(0, .ref 203), (1, .int (zJ v1)), (2, .int (zJ (v2 + (v4 + 1)))), (3, .int (zJ v3)), (4, .int (zJ v4)), (5, .int (zJ v5))]) (by decide +kernel) rfl (Nat.le_of_ble_eq_true rfl) rfl ?_
      refine zw_iinc (pc := 106) (i := 3) (n := 1) (lv' := [(0, .ref 203), (1, .int (zJ v1)), (2, .int (zJ (v2 + (v4 + 1)))), (3, .int (zJ (v3 + 1))), (4, .int (zJ v4)), (5, .int (zJ v5))]) 3 (by decide +kernel) rfl rfl (Nat.le_of_ble_eq_true rfl) rfl ?_
      refine zw_goto (pc := 109) (off := (-105)) (tgt := 4) (by decide +kernel) (by decide) ?_
      exact zw_pick (lv' := [(0, .ref 203), (1, .int (zJ v1)), (2, .int (zJ (v2 + (v4 + 1)))), (3, .int (zJ (v3 + 1)))]) [0, 1, 2, 3] rfl h
    · replace h := h.2 hc
      obtain ⟨o4, o5, h⟩ := h
      refine zw_iload (pc := 86) (i := 4) 4 (by decide +kernel) rfl ?_
      refine zw_aload_n (pc := 88) (n := 0) (i := 0) 0 (by decide +kernel) rfl rfl ?_
      refine zx_getI (pc := 89) zf_11_285 (by decide +kernel) rfl zc_203 ?_
      refine zw_iload_n (pc := 92) (n := 1) (i := 1) 1 (by decide +kernel) rfl rfl ?_
      refine zw_isub (pc := 93) (by decide +kernel) ?_
      refine zw_icmp_ne (pc := 94) (off := 5) (tgt := 99) (by decide +kernel) (by decide) o4 o5 (fun hc => ?_) (fun hc => ?_)
      · replace h := h.1 hc
        refine zw_iload_n (pc := 99) (n := 2) (i := 2) 2 (by decide +kernel) rfl rfl ?_
        refine zw_iload (pc := 100) (i := 4) 4 (by decide +kernel) rfl ?_
        refine zw_iconst (pc := 102) (n := 1) (by decide +kernel) ?_
        refine zw_iadd (pc := 103) (by decide +kernel) ?_
        refine zw_iadd (pc := 104) (by decide +kernel) ?_
        refine zw_istore_n (pc := 105) (n := 2) (i := 2) (lv' := [(0, .ref 203), (1, .int (zJ v1)), (2, .int (zJ (v2 + (v4 + 1)))), (3, .int (zJ v3)), (4, .int (zJ v4)), (5, .int (zJ v5))]) (by decide +kernel) rfl (Nat.le_of_ble_eq_true rfl) rfl ?_
        refine zw_iinc (pc := 106) (i := 3) (n := 1) (lv' := [(0, .ref 203), (1, .int (zJ v1)), (2, .int (zJ (v2 + (v4 + 1)))), (3, .int (zJ (v3 + 1))), (4, .int (zJ v4)), (5, .int (zJ v5))]) 3 (by decide +kernel) rfl rfl (Nat.le_of_ble_eq_true rfl) rfl ?_
        refine zw_goto (pc := 109) (off := (-105)) (tgt := 4) (by decide +kernel) (by decide) ?_
        exact zw_pick (lv' := [(0, .ref 203), (1, .int (zJ v1)), (2, .int (zJ (v2 + (v4 + 1)))), (3, .int (zJ (v3 + 1)))]) [0, 1, 2, 3] rfl h
      · replace h := h.2 hc
        refine zw_iload_n (pc := 97) (n := 3) (i := 3) 3 (by decide +kernel) rfl rfl ?_
        exact zw_iret (pc := 98) (by decide +kernel) rfl (Nat.le_refl _) (Nat.le_refl _) ⟨_, _, rfl, rfl, h⟩
  · replace h := h.2 hc
    obtain ⟨o6, o7, h⟩ := h
    refine zw_iload (pc := 33) (i := 5) 5 (by decide +kernel) rfl ?_
    refine zw_iload_n (pc := 35) (n := 1) (i := 1) 1 (by decide +kernel) rfl rfl ?_
    refine zw_iload (pc := 36) (i := 4) 4 (by decide +kernel) rfl ?_
    refine zw_iadd (pc := 38) (by decide +kernel) ?_
    refine zw_aload_n (pc := 39) (n := 0) (i := 0) 0 (by decide +kernel) rfl rfl ?_
    refine zx_getI (pc := 40) zf_11_285 (by decide +kernel) rfl zc_203 ?_
    refine zw_icmp_ge (pc := 43) (off := 28) (tgt := 71) (by decide +kernel) (by decide) o6 o7 (fun hc => ?_) (fun hc => ?_)
    · replace h := h.1 hc
      refine zw_iconst (pc := 71) (n := 0) (by decide +kernel) ?_
      refine zw_iand (pc := 72) (by decide +kernel) ?_
      refine zw_istore (pc := 73) (i := 5) (lv' := [(0, .ref 203), (1, .int (zJ v1)), (2, .int (zJ v2)), (3, .int (zJ v3)), (4, .int (zJ v4)), (5, .int (zJ (zand v5 0)))]) (by decide +kernel) (Nat.le_of_ble_eq_true rfl) rfl ?_
      refine zw_iinc (pc := 75) (i := 4) (n := 1) (lv' := [(0, .ref 203), (1, .int (zJ v1)), (2, .int (zJ v2)), (3, .int (zJ v3)), (4, .int (zJ (v4 + 1))), (5, .int (zJ (zand v5 0)))]) 4 (by decide +kernel) rfl rfl (Nat.le_of_ble_eq_true rfl) rfl ?_
      refine zw_goto (pc := 78) (off := (-59)) (tgt := 19) (by decide +kernel) (by decide) ?_
      exact h
    · replace h := h.2 hc
      obtain ⟨o8, o9, h⟩ := h
      refine zw_aload_n (pc := 46) (n := 0) (i := 0) 0 (by decide +kernel) rfl rfl ?_
      refine zx_getR (pc := 47) (o := 20) (r := 223) zf_11_73 (by decide +kernel) rfl zc_203 rfl (by decide) rfl ?_
      refine zw_iload_n (pc := 50) (n := 1) (i := 1) 1 (by decide +kernel) rfl rfl ?_
      refine zw_iload (pc := 51) (i := 4) 4 (by decide +kernel) rfl ?_
      refine zw_iadd (pc := 53) (by decide +kernel) ?_
      refine zx_iaload (pc := 54) (by decide +kernel) ⟨100, zc_223, o8.1, o8.2⟩ ?_
      refine zw_aload_n (pc := 55) (n := 0) (i := 0) 0 (by decide +kernel) rfl rfl ?_
      refine zx_getR (pc := 56) (o := 21) (r := 224) zf_11_76 (by decide +kernel) rfl zc_203 rfl (by decide) rfl ?_
      refine zw_iload_n (pc := 59) (n := 2) (i := 2) 2 (by decide +kernel) rfl rfl ?_
      refine zw_iload (pc := 60) (i := 4) 4 (by decide +kernel) rfl ?_
      refine zw_iadd (pc := 62) (by decide +kernel) ?_
      refine zx_iaload (pc := 63) (by decide +kernel) ⟨47, zc_224, o1.1, o1.2⟩ ?_
      refine zw_icmp_ne (pc := 64) (off := 7) (tgt := 71) (by decide +kernel) (by decide) o9 o2 (fun hc => ?_) (fun hc => ?_)
      · replace h := h.1 hc
        refine zw_iconst (pc := 71) (n := 0) (by decide +kernel) ?_
        refine zw_iand (pc := 72) (by decide +kernel) ?_
        refine zw_istore (pc := 73) (i := 5) (lv' := [(0, .ref 203), (1, .int (zJ v1)), (2, .int (zJ v2)), (3, .int (zJ v3)), (4, .int (zJ v4)), (5, .int (zJ (zand v5 0)))]) (by decide +kernel) (Nat.le_of_ble_eq_true rfl) rfl ?_
        refine zw_iinc (pc := 75) (i := 4) (n := 1) (lv' := [(0, .ref 203), (1, .int (zJ v1)), (2, .int (zJ v2)), (3, .int (zJ v3)), (4, .int (zJ (v4 + 1))), (5, .int (zJ (zand v5 0)))]) 4 (by decide +kernel) rfl rfl (Nat.le_of_ble_eq_true rfl) rfl ?_
        refine zw_goto (pc := 78) (off := (-59)) (tgt := 19) (by decide +kernel) (by decide) ?_
        exact h
      · replace h := h.2 hc
        refine zw_iconst (pc := 67) (n := 1) (by decide +kernel) ?_
        refine zw_goto (pc := 68) (off := 4) (tgt := 72) (by decide +kernel) (by decide) ?_
        refine zw_iand (pc := 72) (by decide +kernel) ?_
        refine zw_istore (pc := 73) (i := 5) (lv' := [(0, .ref 203), (1, .int (zJ v1)), (2, .int (zJ v2)), (3, .int (zJ v3)), (4, .int (zJ v4)), (5, .int (zJ (zand v5 1)))]) (by decide +kernel) (Nat.le_of_ble_eq_true rfl) rfl ?_
        refine zw_iinc (pc := 75) (i := 4) (n := 1) (lv' := [(0, .ref 203), (1, .int (zJ v1)), (2, .int (zJ v2)), (3, .int (zJ v3)), (4, .int (zJ (v4 + 1))), (5, .int (zJ (zand v5 1)))]) 4 (by decide +kernel) rfl rfl (Nat.le_of_ble_eq_true rfl) rfl ?_
        refine zw_goto (pc := 78) (off := (-59)) (tgt := 19) (by decide +kernel) (by decide) ?_
        exact h
theorem sg_X11_isFigure {g : zG} {φ : Int → zMu → Prop} {μ : zMu}
    (h : zOi g zm_X11_here [.ref 203] μ (fun x2 μ1 => (zR x2) ∧ zOi g zm_X11_in [.long (zL x2), .long (zL 48), .long (zL 57)] μ1 (fun x5 μ4 => (x5 = 0 ∨ x5 = 1) ∧ φ x5 μ4))) : zOi g zm_X11_isFigure [.ref 203] μ φ := by
  refine zok_of (by decide +kernel) rfl ?_
  show zWP g zm_X11_isFigure (zmo g zm_X11_isFigure (zΦi φ)) 0 [(0, .ref 203)] [] 0 0 (zw μ)
  refine zw_aload_n (pc := 0) (n := 0) (i := 0) 0 (by decide +kernel) rfl rfl ?_
  refine zx_callV (pc := 1) (As := []) h zi_X11_here zii_X11_here zie_X11_here zl_11_288 (by decide +kernel) ⟨Nat.le_of_ble_eq_true rfl, Nat.le_of_ble_eq_true rfl⟩ rfl zc_203 (by decide) rfl rfl ⟨rfl, rfl⟩ ⟨Nat.zero_le _, Nat.zero_le _⟩ (zki (fun x2 μ1 h => ?_))
  obtain ⟨o3, h⟩ := h
  refine zw_i2l (pc := 4) (by decide +kernel) o3 ?_
  refine zw_ldc2 (pc := 5) (v := 48) (by decide +kernel) zk_11_291 ?_
  refine zw_ldc2 (pc := 8) (v := 57) (by decide +kernel) zk_11_293 ?_
  refine zx_callS (pc := 11) (As := [.long (zL x2), .long (zL 48), .long (zL 57)]) h zi_X11_in zis_X11_in zl_11_114 (by decide +kernel) ⟨Nat.le_of_ble_eq_true rfl, Nat.le_of_ble_eq_true rfl⟩ rfl rfl ⟨rfl, rfl⟩ ⟨Nat.zero_le _, Nat.zero_le _⟩ (zki (fun x5 μ4 h => ?_))
  obtain ⟨o6, h⟩ := h
  exact zw_zret (pc := 14) (by decide +kernel) rfl (Nat.le_refl _) (Nat.le_refl _) o6 ⟨_, _, rfl, rfl, h⟩
theorem sg_X11_does {g : zG} {φ : Int → zMu → Prop} {v1 : Int} {μ : zMu}
    (h : (0 ≤ (v1 + 1) ∧ (v1 + 1) < 500) ∧ (0 ≤ (v1 + 2) ∧ (v1 + 2) < 500) ∧ (0 ≤ (v1 + 3) ∧ (v1 + 3) < 500) ∧ (0 ≤ v1 ∧ v1 < 500) ∧ (zR (μ 226 v1.toNat)) ∧ (((μ 226 v1.toNat) < 0 ∨ 7 < (μ 226 v1.toNat) → zOi g zm_X11_keep [.ref 203, .int (zJ (μ 226 (Int.toNat (v1 + 1))))] μ (fun x7 μ6 => φ x7 μ6)) ∧ ((μ 226 v1.toNat) = 0 → zOi g zm_X11_prime [.ref 203, .int (zJ (μ 226 (Int.toNat (v1 + 1))))] μ (fun x10 μ9 => φ x10 μ9)) ∧ ((μ 226 v1.toNat) = 1 → zOi g zm_X11_j [.ref 203, .int (zJ (μ 226 (Int.toNat (v1 + 1)))), .int (zJ (μ 226 (Int.toNat (v1 + 2))))] μ (fun x12 μ11 => φ x12 μ11)) ∧ ((μ 226 v1.toNat) = 2 → zOi g zm_X11_sum [.ref 203, .int (zJ (μ 226 (Int.toNat (v1 + 1)))), .int (zJ (μ 226 (Int.toNat (v1 + 2)))), .int (zJ (μ 226 (Int.toNat (v1 + 3))))] μ (fun x14 μ13 => φ x14 μ13)) ∧ ((μ 226 v1.toNat) = 3 → zOi g zm_X11_times [.ref 203, .int (zJ (μ 226 (Int.toNat (v1 + 1)))), .int (zJ (μ 226 (Int.toNat (v1 + 2)))), .int (zJ (μ 226 (Int.toNat (v1 + 3))))] μ (fun x16 μ15 => φ x16 μ15)) ∧ ((μ 226 v1.toNat) = 4 → zOi g zm_X11_stretch [.ref 203, .int (zJ (μ 226 (Int.toNat (v1 + 1)))), .int (zJ (μ 226 (Int.toNat (v1 + 2)))), .int (zJ (μ 226 (Int.toNat (v1 + 3))))] μ (fun x18 μ17 => φ x18 μ17)) ∧ ((μ 226 v1.toNat) = 5 → zOi g zm_X11_over [.ref 203, .int (zJ (μ 226 (Int.toNat (v1 + 1)))), .int (zJ (μ 226 (Int.toNat (v1 + 2))))] μ (fun x20 μ19 => φ x20 μ19)) ∧ ((μ 226 v1.toNat) = 6 → zOi g zm_X11_power [.ref 203, .int (zJ (μ 226 (Int.toNat (v1 + 1)))), .int (zJ (μ 226 (Int.toNat (v1 + 2)))), .int (zJ (μ 226 (Int.toNat (v1 + 3))))] μ (fun x22 μ21 => φ x22 μ21)) ∧ ((μ 226 v1.toNat) = 7 → (0 ≤ (v1 + 4) ∧ (v1 + 4) < 500) ∧ zOi g zm_X11_find [.ref 203, .int (zJ (μ 226 (Int.toNat (v1 + 1)))), .int (zJ (μ 226 (Int.toNat (v1 + 2)))), .int (zJ (μ 226 (Int.toNat (v1 + 3)))), .int (zJ (μ 226 (Int.toNat (v1 + 4))))] μ (fun x25 μ24 => φ x25 μ24)))) : zOi g zm_X11_does [.ref 203, .int (zJ v1)] μ φ := by
  refine zok_of (by decide +kernel) rfl ?_
  show zWP g zm_X11_does (zmo g zm_X11_does (zΦi φ)) 0 [(0, .ref 203), (1, .int (zJ v1))] [] 0 0 (zw μ)
  obtain ⟨o1, o2, o3, o4, o5, h⟩ := h
  refine zw_aload_n (pc := 0) (n := 0) (i := 0) 0 (by decide +kernel) rfl rfl ?_
  refine zx_getR (pc := 1) (o := 23) (r := 226) zf_11_82 (by decide +kernel) rfl zc_203 rfl (by decide) rfl ?_
  refine zw_iload_n (pc := 4) (n := 1) (i := 1) 1 (by decide +kernel) rfl rfl ?_
  refine zw_iconst (pc := 5) (n := 1) (by decide +kernel) ?_
  refine zw_iadd (pc := 6) (by decide +kernel) ?_
  refine zx_iaload (pc := 7) (by decide +kernel) ⟨500, zc_226, o1.1, o1.2⟩ ?_
  refine zw_istore_n (pc := 8) (n := 2) (i := 2) (lv' := [(0, .ref 203), (1, .int (zJ v1)), (2, .int (zJ (μ 226 (Int.toNat (v1 + 1)))))]) (by decide +kernel) rfl (Nat.le_of_ble_eq_true rfl) rfl ?_
  refine zw_aload_n (pc := 9) (n := 0) (i := 0) 0 (by decide +kernel) rfl rfl ?_
  refine zx_getR (pc := 10) (o := 23) (r := 226) zf_11_82 (by decide +kernel) rfl zc_203 rfl (by decide) rfl ?_
  refine zw_iload_n (pc := 13) (n := 1) (i := 1) 1 (by decide +kernel) rfl rfl ?_
  refine zw_iconst (pc := 14) (n := 2) (by decide +kernel) ?_
  refine zw_iadd (pc := 15) (by decide +kernel) ?_
  refine zx_iaload (pc := 16) (by decide +kernel) ⟨500, zc_226, o2.1, o2.2⟩ ?_
  refine zw_istore_n (pc := 17) (n := 3) (i := 3) (lv' := [(0, .ref 203), (1, .int (zJ v1)), (2, .int (zJ (μ 226 (Int.toNat (v1 + 1))))), (3, .int (zJ (μ 226 (Int.toNat (v1 + 2)))))]) (by decide +kernel) rfl (Nat.le_of_ble_eq_true rfl) rfl ?_
  refine zw_aload_n (pc := 18) (n := 0) (i := 0) 0 (by decide +kernel) rfl rfl ?_
  refine zx_getR (pc := 19) (o := 23) (r := 226) zf_11_82 (by decide +kernel) rfl zc_203 rfl (by decide) rfl ?_
  refine zw_iload_n (pc := 22) (n := 1) (i := 1) 1 (by decide +kernel) rfl rfl ?_
  refine zw_iconst (pc := 23) (n := 3) (by decide +kernel) ?_
  refine zw_iadd (pc := 24) (by decide +kernel) ?_
  refine zx_iaload (pc := 25) (by decide +kernel) ⟨500, zc_226, o3.1, o3.2⟩ ?_
  refine zw_istore (pc := 26) (i := 4) (lv' := [(0, .ref 203), (1, .int (zJ v1)), (2, .int (zJ (μ 226 (Int.toNat (v1 + 1))))), (3, .int (zJ (μ 226 (Int.toNat (v1 + 2))))), (4, .int (zJ (μ 226 (Int.toNat (v1 + 3)))))]) (by decide +kernel) (Nat.le_of_ble_eq_true rfl) rfl ?_
  refine zw_aload_n (pc := 28) (n := 0) (i := 0) 0 (by decide +kernel) rfl rfl ?_
  refine zx_getR (pc := 29) (o := 23) (r := 226) zf_11_82 (by decide +kernel) rfl zc_203 rfl (by decide) rfl ?_
  refine zw_iload_n (pc := 32) (n := 1) (i := 1) 1 (by decide +kernel) rfl rfl ?_
  refine zx_iaload (pc := 33) (by decide +kernel) ⟨500, zc_226, o4.1, o4.2⟩ ?_
  by_cases e8 : (μ 226 v1.toNat) < 0 ∨ 7 < (μ 226 v1.toNat)
  · replace h := h.1 e8
    refine zw_swOut (pc := 34) (tgt := 153) (by decide +kernel : decode zm_X11_does.2.1 34 = .ok (.tableswitch 119 0 7 #[46, 52, 59, 68, 77, 86, 93, 102], 46)) o5 e8 (by decide) ?_
    refine zw_aload_n (pc := 153) (n := 0) (i := 0) 0 (by decide +kernel) rfl rfl ?_
    refine zw_iload_n (pc := 154) (n := 2) (i := 2) 2 (by decide +kernel) rfl rfl ?_
    refine zx_callV (pc := 155) (As := [.int (zJ (μ 226 (Int.toNat (v1 + 1))))]) h zi_X11_keep zii_X11_keep zie_X11_keep zl_11_333 (by decide +kernel) ⟨Nat.le_of_ble_eq_true rfl, Nat.le_of_ble_eq_true rfl⟩ rfl zc_203 (by decide) rfl rfl ⟨rfl, rfl⟩ ⟨Nat.zero_le _, Nat.zero_le _⟩ (zki (fun x7 μ6 h => ?_))
    exact zw_iret (pc := 158) (by decide +kernel) rfl (Nat.le_refl _) (Nat.le_refl _) ⟨_, _, rfl, rfl, h⟩
  · replace h := h.2
    rcases (show (μ 226 v1.toNat) = 0 ∨ (μ 226 v1.toNat) = 1 ∨ (μ 226 v1.toNat) = 2 ∨ (μ 226 v1.toNat) = 3 ∨ (μ 226 v1.toNat) = 4 ∨ (μ 226 v1.toNat) = 5 ∨ (μ 226 v1.toNat) = 6 ∨ (μ 226 v1.toNat) = 7 by omega) with e8 | e8 | e8 | e8 | e8 | e8 | e8 | e8
    · replace h := h.1 e8
      refine zw_swIn (pc := 34) (off := 46) (tgt := 80) (by decide +kernel : decode zm_X11_does.2.1 34 = .ok (.tableswitch 119 0 7 #[46, 52, 59, 68, 77, 86, 93, 102], 46)) o5 (by omega) (by omega) (by rw [e8]; rfl) (by decide) ?_
      refine zw_aload_n (pc := 80) (n := 0) (i := 0) 0 (by decide +kernel) rfl rfl ?_
      refine zw_iload_n (pc := 81) (n := 2) (i := 2) 2 (by decide +kernel) rfl rfl ?_
      refine zx_callV (pc := 82) (As := [.int (zJ (μ 226 (Int.toNat (v1 + 1))))]) h zi_X11_prime zii_X11_prime zie_X11_prime zl_11_308 (by decide +kernel) ⟨Nat.le_of_ble_eq_true rfl, Nat.le_of_ble_eq_true rfl⟩ rfl zc_203 (by decide) rfl rfl ⟨rfl, rfl⟩ ⟨Nat.zero_le _, Nat.zero_le _⟩ (zki (fun x10 μ9 h => ?_))
      exact zw_iret (pc := 85) (by decide +kernel) rfl (Nat.le_refl _) (Nat.le_refl _) ⟨_, _, rfl, rfl, h⟩
    · replace h := h.2.1 e8
      refine zw_swIn (pc := 34) (off := 52) (tgt := 86) (by decide +kernel : decode zm_X11_does.2.1 34 = .ok (.tableswitch 119 0 7 #[46, 52, 59, 68, 77, 86, 93, 102], 46)) o5 (by omega) (by omega) (by rw [e8]; rfl) (by decide) ?_
      refine zw_aload_n (pc := 86) (n := 0) (i := 0) 0 (by decide +kernel) rfl rfl ?_
      refine zw_iload_n (pc := 87) (n := 2) (i := 2) 2 (by decide +kernel) rfl rfl ?_
      refine zw_iload_n (pc := 88) (n := 3) (i := 3) 3 (by decide +kernel) rfl rfl ?_
      refine zx_callV (pc := 89) (As := [.int (zJ (μ 226 (Int.toNat (v1 + 1)))), .int (zJ (μ 226 (Int.toNat (v1 + 2))))]) h zi_X11_j zii_X11_j zie_X11_j zl_11_311 (by decide +kernel) ⟨Nat.le_of_ble_eq_true rfl, Nat.le_of_ble_eq_true rfl⟩ rfl zc_203 (by decide) rfl rfl ⟨rfl, rfl⟩ ⟨Nat.zero_le _, Nat.zero_le _⟩ (zki (fun x12 μ11 h => ?_))
      exact zw_iret (pc := 92) (by decide +kernel) rfl (Nat.le_refl _) (Nat.le_refl _) ⟨_, _, rfl, rfl, h⟩
    · replace h := h.2.2.1 e8
      refine zw_swIn (pc := 34) (off := 59) (tgt := 93) (by decide +kernel : decode zm_X11_does.2.1 34 = .ok (.tableswitch 119 0 7 #[46, 52, 59, 68, 77, 86, 93, 102], 46)) o5 (by omega) (by omega) (by rw [e8]; rfl) (by decide) ?_
      refine zw_aload_n (pc := 93) (n := 0) (i := 0) 0 (by decide +kernel) rfl rfl ?_
      refine zw_iload_n (pc := 94) (n := 2) (i := 2) 2 (by decide +kernel) rfl rfl ?_
      refine zw_iload_n (pc := 95) (n := 3) (i := 3) 3 (by decide +kernel) rfl rfl ?_
      refine zw_iload (pc := 96) (i := 4) 4 (by decide +kernel) rfl ?_
      refine zx_callV (pc := 98) (As := [.int (zJ (μ 226 (Int.toNat (v1 + 1)))), .int (zJ (μ 226 (Int.toNat (v1 + 2)))), .int (zJ (μ 226 (Int.toNat (v1 + 3))))]) h zi_X11_sum zii_X11_sum zie_X11_sum zl_11_314 (by decide +kernel) ⟨Nat.le_of_ble_eq_true rfl, Nat.le_of_ble_eq_true rfl⟩ rfl zc_203 (by decide) rfl rfl ⟨rfl, rfl⟩ ⟨Nat.zero_le _, Nat.zero_le _⟩ (zki (fun x14 μ13 h => ?_))
      exact zw_iret (pc := 101) (by decide +kernel) rfl (Nat.le_refl _) (Nat.le_refl _) ⟨_, _, rfl, rfl, h⟩
    · replace h := h.2.2.2.1 e8
      refine zw_swIn (pc := 34) (off := 68) (tgt := 102) (by decide +kernel : decode zm_X11_does.2.1 34 = .ok (.tableswitch 119 0 7 #[46, 52, 59, 68, 77, 86, 93, 102], 46)) o5 (by omega) (by omega) (by rw [e8]; rfl) (by decide) ?_
      refine zw_aload_n (pc := 102) (n := 0) (i := 0) 0 (by decide +kernel) rfl rfl ?_
      refine zw_iload_n (pc := 103) (n := 2) (i := 2) 2 (by decide +kernel) rfl rfl ?_
      refine zw_iload_n (pc := 104) (n := 3) (i := 3) 3 (by decide +kernel) rfl rfl ?_
      refine zw_iload (pc := 105) (i := 4) 4 (by decide +kernel) rfl ?_
      refine zx_callV (pc := 107) (As := [.int (zJ (μ 226 (Int.toNat (v1 + 1)))), .int (zJ (μ 226 (Int.toNat (v1 + 2)))), .int (zJ (μ 226 (Int.toNat (v1 + 3))))]) h zi_X11_times zii_X11_times zie_X11_times zl_11_317 (by decide +kernel) ⟨Nat.le_of_ble_eq_true rfl, Nat.le_of_ble_eq_true rfl⟩ rfl zc_203 (by decide) rfl rfl ⟨rfl, rfl⟩ ⟨Nat.zero_le _, Nat.zero_le _⟩ (zki (fun x16 μ15 h => ?_))
      exact zw_iret (pc := 110) (by decide +kernel) rfl (Nat.le_refl _) (Nat.le_refl _) ⟨_, _, rfl, rfl, h⟩
    · replace h := h.2.2.2.2.1 e8
      refine zw_swIn (pc := 34) (off := 77) (tgt := 111) (by decide +kernel : decode zm_X11_does.2.1 34 = .ok (.tableswitch 119 0 7 #[46, 52, 59, 68, 77, 86, 93, 102], 46)) o5 (by omega) (by omega) (by rw [e8]; rfl) (by decide) ?_
      refine zw_aload_n (pc := 111) (n := 0) (i := 0) 0 (by decide +kernel) rfl rfl ?_
      refine zw_iload_n (pc := 112) (n := 2) (i := 2) 2 (by decide +kernel) rfl rfl ?_
      refine zw_iload_n (pc := 113) (n := 3) (i := 3) 3 (by decide +kernel) rfl rfl ?_
      refine zw_iload (pc := 114) (i := 4) 4 (by decide +kernel) rfl ?_
      refine zx_callV (pc := 116) (As := [.int (zJ (μ 226 (Int.toNat (v1 + 1)))), .int (zJ (μ 226 (Int.toNat (v1 + 2)))), .int (zJ (μ 226 (Int.toNat (v1 + 3))))]) h zi_X11_stretch zii_X11_stretch zie_X11_stretch zl_11_320 (by decide +kernel) ⟨Nat.le_of_ble_eq_true rfl, Nat.le_of_ble_eq_true rfl⟩ rfl zc_203 (by decide) rfl rfl ⟨rfl, rfl⟩ ⟨Nat.zero_le _, Nat.zero_le _⟩ (zki (fun x18 μ17 h => ?_))
      exact zw_iret (pc := 119) (by decide +kernel) rfl (Nat.le_refl _) (Nat.le_refl _) ⟨_, _, rfl, rfl, h⟩
    · replace h := h.2.2.2.2.2.1 e8
      refine zw_swIn (pc := 34) (off := 86) (tgt := 120) (by decide +kernel : decode zm_X11_does.2.1 34 = .ok (.tableswitch 119 0 7 #[46, 52, 59, 68, 77, 86, 93, 102], 46)) o5 (by omega) (by omega) (by rw [e8]; rfl) (by decide) ?_
      refine zw_aload_n (pc := 120) (n := 0) (i := 0) 0 (by decide +kernel) rfl rfl ?_
      refine zw_iload_n (pc := 121) (n := 2) (i := 2) 2 (by decide +kernel) rfl rfl ?_
      refine zw_iload_n (pc := 122) (n := 3) (i := 3) 3 (by decide +kernel) rfl rfl ?_
      refine zx_callV (pc := 123) (As := [.int (zJ (μ 226 (Int.toNat (v1 + 1)))), .int (zJ (μ 226 (Int.toNat (v1 + 2))))]) h zi_X11_over zii_X11_over zie_X11_over zl_11_323 (by decide +kernel) ⟨Nat.le_of_ble_eq_true rfl, Nat.le_of_ble_eq_true rfl⟩ rfl zc_203 (by decide) rfl rfl ⟨rfl, rfl⟩ ⟨Nat.zero_le _, Nat.zero_le _⟩ (zki (fun x20 μ19 h => ?_))
      exact zw_iret (pc := 126) (by decide +kernel) rfl (Nat.le_refl _) (Nat.le_refl _) ⟨_, _, rfl, rfl, h⟩
    · replace h := h.2.2.2.2.2.2.1 e8
      refine zw_swIn (pc := 34) (off := 93) (tgt := 127) (by decide +kernel : decode zm_X11_does.2.1 34 = .ok (.tableswitch 119 0 7 #[46, 52, 59, 68, 77, 86, 93, 102], 46)) o5 (by omega) (by omega) (by rw [e8]; rfl) (by decide) ?_
      refine zw_aload_n (pc := 127) (n := 0) (i := 0) 0 (by decide +kernel) rfl rfl ?_
      refine zw_iload_n (pc := 128) (n := 2) (i := 2) 2 (by decide +kernel) rfl rfl ?_
      refine zw_iload_n (pc := 129) (n := 3) (i := 3) 3 (by decide +kernel) rfl rfl ?_
      refine zw_iload (pc := 130) (i := 4) 4 (by decide +kernel) rfl ?_
      refine zx_callV (pc := 132) (As := [.int (zJ (μ 226 (Int.toNat (v1 + 1)))), .int (zJ (μ 226 (Int.toNat (v1 + 2)))), .int (zJ (μ 226 (Int.toNat (v1 + 3))))]) h zi_X11_power zii_X11_power zie_X11_power zl_11_326 (by decide +kernel) ⟨Nat.le_of_ble_eq_true rfl, Nat.le_of_ble_eq_true rfl⟩ rfl zc_203 (by decide) rfl rfl ⟨rfl, rfl⟩ ⟨Nat.zero_le _, Nat.zero_le _⟩ (zki (fun x22 μ21 h => ?_))
      exact zw_iret (pc := 135) (by decide +kernel) rfl (Nat.le_refl _) (Nat.le_refl _) ⟨_, _, rfl, rfl, h⟩
    · replace h := h.2.2.2.2.2.2.2 e8
      refine zw_swIn (pc := 34) (off := 102) (tgt := 136) (by decide +kernel : decode zm_X11_does.2.1 34 = .ok (.tableswitch 119 0 7 #[46, 52, 59, 68, 77, 86, 93, 102], 46)) o5 (by omega) (by omega) (by rw [e8]; rfl) (by decide) ?_
      obtain ⟨o23, h⟩ := h
      refine zw_aload_n (pc := 136) (n := 0) (i := 0) 0 (by decide +kernel) rfl rfl ?_
      refine zw_iload_n (pc := 137) (n := 2) (i := 2) 2 (by decide +kernel) rfl rfl ?_
      refine zw_iload_n (pc := 138) (n := 3) (i := 3) 3 (by decide +kernel) rfl rfl ?_
      refine zw_iload (pc := 139) (i := 4) 4 (by decide +kernel) rfl ?_
      refine zw_aload_n (pc := 141) (n := 0) (i := 0) 0 (by decide +kernel) rfl rfl ?_
      refine zx_getR (pc := 142) (o := 23) (r := 226) zf_11_82 (by decide +kernel) rfl zc_203 rfl (by decide) rfl ?_
      refine zw_iload_n (pc := 145) (n := 1) (i := 1) 1 (by decide +kernel) rfl rfl ?_
      refine zw_iconst (pc := 146) (n := 4) (by decide +kernel) ?_
      refine zw_iadd (pc := 147) (by decide +kernel) ?_
      refine zx_iaload (pc := 148) (by decide +kernel) ⟨500, zc_226, o23.1, o23.2⟩ ?_
      refine zx_callV (pc := 149) (As := [.int (zJ (μ 226 (Int.toNat (v1 + 1)))), .int (zJ (μ 226 (Int.toNat (v1 + 2)))), .int (zJ (μ 226 (Int.toNat (v1 + 3)))), .int (zJ (μ 226 (Int.toNat (v1 + 4))))]) h zi_X11_find zii_X11_find zie_X11_find zl_11_329 (by decide +kernel) ⟨Nat.le_of_ble_eq_true rfl, Nat.le_of_ble_eq_true rfl⟩ rfl zc_203 (by decide) rfl rfl ⟨rfl, rfl⟩ ⟨Nat.zero_le _, Nat.zero_le _⟩ (zki (fun x25 μ24 h => ?_))
      exact zw_iret (pc := 152) (by decide +kernel) rfl (Nat.le_refl _) (Nat.le_refl _) ⟨_, _, rfl, rfl, h⟩
abbrev at_X11_read_12 (g : zG) (φ : Int → zMu → Prop) (v1 : Int) (μ : zMu) : Prop := zWP g zm_X11_read (zmo g zm_X11_read (zΦi φ)) 12 [(0, .ref 203), (1, .int (zJ v1))] [] 0 0 (zw μ)
abbrev at_X11_read_36 (g : zG) (φ : Int → zMu → Prop) (v1 : Int) (μ : zMu) : Prop := zWP g zm_X11_read (zmo g zm_X11_read (zΦi φ)) 36 [(0, .ref 203), (1, .int (zJ v1))] [] 0 0 (zw μ)
abbrev at_X11_read_113 (g : zG) (φ : Int → zMu → Prop) (v2 : Int) (μ : zMu) : Prop := zWP g zm_X11_read (zmo g zm_X11_read (zΦi φ)) 113 [(0, .ref 203), (2, .int (zJ v2))] [] 0 0 (zw μ)
abbrev at_X11_read_134 (g : zG) (φ : Int → zMu → Prop) (v2 : Int) (μ : zMu) : Prop := zWP g zm_X11_read (zmo g zm_X11_read (zΦi φ)) 134 [(0, .ref 203), (2, .int (zJ v2))] [] 0 0 (zw μ)
abbrev at_X11_read_144 (g : zG) (φ : Int → zMu → Prop) (v2 : Int) (v3 : Int) (μ : zMu) : Prop := zWP g zm_X11_read (zmo g zm_X11_read (zΦi φ)) 144 [(0, .ref 203), (2, .int (zJ v2)), (3, .int (zJ v3))] [] 0 0 (zw μ)
theorem sg_X11_read {g : zG} {φ : Int → zMu → Prop} {μ : zMu}
    (h : at_X11_read_12 g φ 0 (zup (zup μ 203 32 0) 203 37 1)) : zOi g zm_X11_read [.ref 203] μ φ := by
  refine zok_of (by decide +kernel) rfl ?_
  show zWP g zm_X11_read (zmo g zm_X11_read (zΦi φ)) 0 [(0, .ref 203)] [] 0 0 (zw μ)
  refine zw_aload_n (pc := 0) (n := 0) (i := 0) 0 (by decide +kernel) rfl rfl ?_
  refine zw_iconst (pc := 1) (n := 0) (by decide +kernel) ?_
  refine zx_putI (pc := 2) zf_11_285 (by decide +kernel) rfl zc_203 ?_
  refine zw_aload_n (pc := 5) (n := 0) (i := 0) 0 (by decide +kernel) rfl rfl ?_
  refine zw_iconst (pc := 6) (n := 1) (by decide +kernel) ?_
  refine zx_putI (pc := 7) zf_11_349 (by decide +kernel) rfl zc_203 ?_
  refine zw_iconst (pc := 10) (n := 0) (by decide +kernel) ?_
  refine zw_istore_n (pc := 11) (n := 1) (i := 1) (lv' := [(0, .ref 203), (1, .int (zJ 0))]) (by decide +kernel) rfl (Nat.le_of_ble_eq_true rfl) rfl ?_
  exact h
theorem sg_X11_read_12 {g : zG} {φ : Int → zMu → Prop} {v1 : Int} {μ : zMu}
    (h : (zR v1) ∧ ((81 ≤ v1 → zOi g zm_X11_readsTerm [.ref 203] μ (fun x3 μ2 => at_X11_read_36 g φ x3 μ2)) ∧ (v1 < 81 → (0 ≤ v1 ∧ v1 < 81) ∧ at_X11_read_12 g φ (v1 + 1) (zup μ 227 v1.toNat 0)))) : at_X11_read_12 g φ v1 μ := by
  obtain ⟨o1, h⟩ := h
  refine zw_iload_n (pc := 12) (n := 1) (i := 1) 1 (by decide +kernel) rfl rfl ?_
  refine zw_bipush (pc := 13) (n := 81) (by decide +kernel) (by decide +kernel) ?_
  refine zw_icmp_ge (pc := 15) (off := 16) (tgt := 31) (by decide +kernel) (by decide) o1 ⟨by decide, by decide⟩ (fun hc => ?_) (fun hc => ?_)
  · replace h := h.1 hc
    refine zw_aload_n (pc := 31) (n := 0) (i := 0) 0 (by decide +kernel) rfl rfl ?_
    refine zx_callV (pc := 32) (As := []) h zi_X11_readsTerm zii_X11_readsTerm zie_X11_readsTerm zl_11_355 (by decide +kernel) ⟨Nat.le_of_ble_eq_true rfl, Nat.le_of_ble_eq_true rfl⟩ rfl zc_203 (by decide) rfl rfl ⟨rfl, rfl⟩ ⟨Nat.zero_le _, Nat.zero_le _⟩ (zki (fun x3 μ2 h => ?_))
    refine zw_istore_n (pc := 35) (n := 1) (i := 1) (lv' := [(0, .ref 203), (1, .int (zJ x3))]) (by decide +kernel) rfl (Nat.le_of_ble_eq_true rfl) rfl ?_
    exact h
  · replace h := h.2 hc
    obtain ⟨o4, h⟩ := h
    refine zw_aload_n (pc := 18) (n := 0) (i := 0) 0 (by decide +kernel) rfl rfl ?_
    refine zx_getR (pc := 19) (o := 24) (r := 227) zf_11_85 (by decide +kernel) rfl zc_203 rfl (by decide) rfl ?_
    refine zw_iload_n (pc := 22) (n := 1) (i := 1) 1 (by decide +kernel) rfl rfl ?_
    refine zw_iconst (pc := 23) (n := 0) (by decide +kernel) ?_
    refine zx_iastore (pc := 24) (by decide +kernel) ⟨81, zc_227, o4.1, o4.2⟩ ?_
    refine zw_iinc (pc := 25) (i := 1) (n := 1) (lv' := [(0, .ref 203), (1, .int (zJ (v1 + 1)))]) 1 (by decide +kernel) rfl rfl (Nat.le_of_ble_eq_true rfl) rfl ?_
    refine zw_goto (pc := 28) (off := (-16)) (tgt := 12) (by decide +kernel) (by decide) ?_
    exact h
