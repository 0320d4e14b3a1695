theorem sg_X2_neighbourOf {g : zG} {φ : Int → zMu → Prop} {v1 : Int} {v2 : Int} {μ : zMu}
    (h : (0 ≤ ((8 * v1) + v2) ∧ ((8 * v1) + v2) < 1592) ∧ φ (μ 184 (Int.toNat ((8 * v1) + v2))) μ) : zOi g zm_X2_neighbourOf [.ref 182, .int (zJ v1), .int (zJ v2)] μ φ := by
  refine zok_of (by decide +kernel) rfl ?_
  show zWP g zm_X2_neighbourOf (zmo g zm_X2_neighbourOf (zΦi φ)) 0 [(0, .ref 182), (1, .int (zJ v1)), (2, .int (zJ v2))] [] 0 0 (zw μ)
  obtain ⟨o1, h⟩ := h
  refine zw_aload_n (pc := 0) (n := 0) (i := 0) 0 (by decide +kernel) rfl rfl ?_
  refine zx_getR (pc := 1) (o := 2) (r := 184) zf_2_15 (by decide +kernel) rfl zc_182 rfl (by decide) rfl ?_
  refine zw_bipush (pc := 4) (n := 8) (by decide +kernel) (by decide +kernel) ?_
  refine zw_iload_n (pc := 6) (n := 1) (i := 1) 1 (by decide +kernel) rfl rfl ?_
  refine zw_imul (pc := 7) (by decide +kernel) ?_
  refine zw_iload_n (pc := 8) (n := 2) (i := 2) 2 (by decide +kernel) rfl rfl ?_
  refine zw_iadd (pc := 9) (by decide +kernel) ?_
  refine zx_iaload (pc := 10) (by decide +kernel) ⟨1592, zc_184, o1.1, o1.2⟩ ?_
  exact zw_iret (pc := 11) (by decide +kernel) rfl (Nat.le_refl _) (Nat.le_refl _) ⟨_, _, rfl, rfl, h⟩
abbrev at_X2_walkFrom_27 (g : zG) (φ : Int → zMu → Prop) (v1 : Nat) (v3 : Int) (v4 : Int) (μ : zMu) : Prop := zWP g zm_X2_walkFrom (zmo g zm_X2_walkFrom (zΦi φ)) 27 [(0, .ref 182), (1, .ref v1), (3, .int (zJ v3)), (4, .int (zJ v4))] [] 0 0 (zw μ)
abbrev at_X2_walkFrom_63 (g : zG) (φ : Int → zMu → Prop) (v1 : Nat) (v3 : Int) (v4 : Int) (v5 : Int) (v6 : Int) (v7 : Int) (μ : zMu) : Prop := zWP g zm_X2_walkFrom (zmo g zm_X2_walkFrom (zΦi φ)) 63 [(0, .ref 182), (1, .ref v1), (3, .int (zJ v3)), (4, .int (zJ v4)), (5, .int (zJ v5)), (6, .int (zJ v6)), (7, .int (zJ v7))] [] 0 0 (zw μ)
theorem sg_X2_walkFrom {g : zG} {φ : Int → zMu → Prop} {v1 : Nat} {v2 : Int} {μ : zMu} (h_v1 : zS v1 0 5)
    (h : zOv g zm_J7_fill_53178 [.ref 186, .int (zJ (-1))] μ (fun μ1 => (0 ≤ v2 ∧ v2 < 199) ∧ at_X2_walkFrom_27 g φ v1 1 0 (zup (zup μ1 186 v2.toNat 0) 187 0 v2))) : zOi g zm_X2_walkFrom [.ref 182, .ref v1, .int (zJ v2)] μ φ := by
  refine zok_of (by decide +kernel) rfl ?_
  show zWP g zm_X2_walkFrom (zmo g zm_X2_walkFrom (zΦi φ)) 0 [(0, .ref 182), (1, .ref v1), (2, .int (zJ v2))] [] 0 0 (zw μ)
  refine zw_aload_n (pc := 0) (n := 0) (i := 0) 0 (by decide +kernel) rfl rfl ?_
  refine zx_getR (pc := 1) (o := 4) (r := 186) zf_2_21 (by decide +kernel) rfl zc_182 rfl (by decide) rfl ?_
  refine zw_iconst (pc := 4) (n := (-1)) (by decide +kernel) ?_
  refine zx_callS (pc := 5) (As := [.ref 186, .int (zJ (-1))]) h zi_J7_fill_53178 zis_J7_fill_53178 zl_2_27 (by decide +kernel) ⟨Nat.le_of_ble_eq_true rfl, Nat.le_of_ble_eq_true rfl⟩ rfl rfl ⟨rfl, rfl⟩ ⟨Nat.zero_le _, Nat.zero_le _⟩ (zkv (fun μ1 h => ?_))
  obtain ⟨o2, h⟩ := h
  refine zw_aload_n (pc := 8) (n := 0) (i := 0) 0 (by decide +kernel) rfl rfl ?_
  refine zx_getR (pc := 9) (o := 4) (r := 186) zf_2_21 (by decide +kernel) rfl zc_182 rfl (by decide) rfl ?_
  refine zw_iload_n (pc := 12) (n := 2) (i := 2) 2 (by decide +kernel) rfl rfl ?_
  refine zw_iconst (pc := 13) (n := 0) (by decide +kernel) ?_
  refine zx_iastore (pc := 14) (by decide +kernel) ⟨199, zc_186, o2.1, o2.2⟩ ?_
  refine zw_aload_n (pc := 15) (n := 0) (i := 0) 0 (by decide +kernel) rfl rfl ?_
  refine zx_getR (pc := 16) (o := 5) (r := 187) zf_2_24 (by decide +kernel) rfl zc_182 rfl (by decide) rfl ?_
  refine zw_iconst (pc := 19) (n := 0) (by decide +kernel) ?_
  refine zw_iload_n (pc := 20) (n := 2) (i := 2) 2 (by decide +kernel) rfl rfl ?_
  refine zx_iastore (pc := 21) (by decide +kernel) ⟨199, zc_187, by decide, by decide⟩ ?_
  refine zw_iconst (pc := 22) (n := 1) (by decide +kernel) ?_
  refine zw_istore_n (pc := 23) (n := 3) (i := 3) (lv' := [(0, .ref 182), (1, .ref v1), (2, .int (zJ v2)), (3, .int (zJ 1))]) (by decide +kernel) rfl (Nat.le_of_ble_eq_true rfl) rfl ?_
  refine zw_iconst (pc := 24) (n := 0) (by decide +kernel) ?_
  refine zw_istore (pc := 25) (i := 4) (lv' := [(0, .ref 182), (1, .ref v1), (2, .int (zJ v2)), (3, .int (zJ 1)), (4, .int (zJ 0))]) (by decide +kernel) (Nat.le_of_ble_eq_true rfl) rfl ?_
  exact zw_pick (lv' := [(0, .ref 182), (1, .ref v1), (3, .int (zJ 1)), (4, .int (zJ 0))]) [0, 1, 3, 4] rfl h
theorem sg_X2_walkFrom_27 {g : zG} {φ : Int → zMu → Prop} {v1 : Nat} {v3 : Int} {v4 : Int} {μ : zMu} (h_v1 : zS v1 0 5)
    (h : (zR v4) ∧ (zR v3) ∧ ((v3 ≤ v4 → φ v3 μ) ∧ (v4 < v3 → (zR (μ v1 0)) ∧ (((μ v1 0) ≤ v4 → φ v3 μ) ∧ (v4 < (μ v1 0) → (0 ≤ v4 ∧ v4 < 199) ∧ zOi g zm_X2_sizeOf [.ref 182, .ref v1, .int (zJ (μ 187 v4.toNat))] μ (fun x6 μ5 => at_X2_walkFrom_63 g φ v1 v3 v4 (μ 187 v4.toNat) x6 0 μ5)))))) : at_X2_walkFrom_27 g φ v1 v3 v4 μ := by
  obtain ⟨o1, o2, h⟩ := h
  refine zw_iload (pc := 27) (i := 4) 3 (by decide +kernel) rfl ?_
  refine zw_iload_n (pc := 29) (n := 3) (i := 3) 2 (by decide +kernel) rfl rfl ?_
  refine zw_icmp_ge (pc := 30) (off := 99) (tgt := 129) (by decide +kernel) (by decide) o1 o2 (fun hc => ?_) (fun hc => ?_)
  · replace h := h.1 hc
    refine zw_iload_n (pc := 129) (n := 3) (i := 3) 2 (by decide +kernel) rfl rfl ?_
    exact zw_iret (pc := 130) (by decide +kernel) rfl (Nat.le_refl _) (Nat.le_refl _) ⟨_, _, rfl, rfl, h⟩
  · replace h := h.2 hc
    obtain ⟨o3, h⟩ := h
    refine zw_iload (pc := 33) (i := 4) 3 (by decide +kernel) rfl ?_
    refine zw_aload_n (pc := 35) (n := 1) (i := 1) 1 (by decide +kernel) rfl rfl ?_
    refine zx_getI (pc := 36) zf_2_49 (by decide +kernel) rfl h_v1 ?_
    refine zw_icmp_ge (pc := 39) (off := 90) (tgt := 129) (by decide +kernel) (by decide) o1 o3 (fun hc => ?_) (fun hc => ?_)
    · replace h := h.1 hc
      refine zw_iload_n (pc := 129) (n := 3) (i := 3) 2 (by decide +kernel) rfl rfl ?_
      exact zw_iret (pc := 130) (by decide +kernel) rfl (Nat.le_refl _) (Nat.le_refl _) ⟨_, _, rfl, rfl, h⟩
    · replace h := h.2 hc
      obtain ⟨o4, h⟩ := h
      refine zw_aload_n (pc := 42) (n := 0) (i := 0) 0 (by decide +kernel) rfl rfl ?_
      refine zx_getR (pc := 43) (o := 5) (r := 187) zf_2_24 (by decide +kernel) rfl zc_182 rfl (by decide) rfl ?_
      refine zw_iload (pc := 46) (i := 4) 3 (by decide +kernel) rfl ?_
      refine zx_iaload (pc := 48) (by decide +kernel) ⟨199, zc_187, o4.1, o4.2⟩ ?_
      refine zw_istore (pc := 49) (i := 5) (lv' := [(0, .ref 182), (1, .ref v1), (3, .int (zJ v3)), (4, .int (zJ v4)), (5, .int (zJ (μ 187 v4.toNat)))]) (by decide +kernel) (Nat.le_of_ble_eq_true rfl) rfl ?_
      refine zw_aload_n (pc := 51) (n := 0) (i := 0) 0 (by decide +kernel) rfl rfl ?_
      refine zw_aload_n (pc := 52) (n := 1) (i := 1) 1 (by decide +kernel) rfl rfl ?_
      refine zw_iload (pc := 53) (i := 5) 4 (by decide +kernel) rfl ?_
      refine zx_callV (pc := 55) (As := [.ref v1, .int (zJ (μ 187 v4.toNat))]) h zi_X2_sizeOf zii_X2_sizeOf zie_X2_sizeOf zl_2_76 (by decide +kernel) ⟨Nat.le_of_ble_eq_true rfl, Nat.le_of_ble_eq_true rfl⟩ rfl zc_182 (by decide) rfl rfl ⟨rfl, rfl⟩ ⟨Nat.zero_le _, Nat.zero_le _⟩ (zki (fun x6 μ5 h => ?_))
      refine zw_istore (pc := 58) (i := 6) (lv' := [(0, .ref 182), (1, .ref v1), (3, .int (zJ v3)), (4, .int (zJ v4)), (5, .int (zJ (μ 187 v4.toNat))), (6, .int (zJ x6))]) (by decide +kernel) (Nat.le_of_ble_eq_true rfl) rfl ?_
      refine zw_iconst (pc := 60) (n := 0) (by decide +kernel) ?_
      refine zw_istore (pc := 61) (i := 7) (lv' := [(0, .ref 182), (1, .ref v1), (3, .int (zJ v3)), (4, .int (zJ v4)), (5, .int (zJ (μ 187 v4.toNat))), (6, .int (zJ x6)), (7, .int (zJ 0))]) (by decide +kernel) (Nat.le_of_ble_eq_true rfl) rfl ?_
      exact h
theorem sg_X2_walkFrom_63 {g : zG} {φ : Int → zMu → Prop} {v1 : Nat} {v3 : Int} {v4 : Int} {v5 : Int} {v6 : Int} {v7 : Int} {μ : zMu} (h_v1 : zS v1 0 5)
    (h : (zR v7) ∧ (zR v6) ∧ ((v6 ≤ v7 → at_X2_walkFrom_27 g φ v1 v3 (v4 + 1) μ) ∧ (v7 < v6 → zOi g zm_X2_neighbourOf [.ref 182, .int (zJ v5), .int (zJ v7)] μ (fun x4 μ3 => (0 ≤ x4 ∧ x4 < 199) ∧ (zR (μ3 186 x4.toNat)) ∧ ((0 ≤ (μ3 186 x4.toNat) → at_X2_walkFrom_63 g φ v1 v3 v4 v5 v6 (v7 + 1) μ3) ∧ ((μ3 186 x4.toNat) < 0 → (0 ≤ v5 ∧ v5 < 199) ∧ (0 ≤ v3 ∧ v3 < 199) ∧ at_X2_walkFrom_63 g φ v1 (v3 + 1) v4 v5 v6 (v7 + 1) (zup (zup μ3 186 x4.toNat ((μ3 186 v5.toNat) + 1)) 187 v3.toNat x4))))))) : at_X2_walkFrom_63 g φ v1 v3 v4 v5 v6 v7 μ := by
  obtain ⟨o1, o2, h⟩ := h
  refine zw_iload (pc := 63) (i := 7) 6 (by decide +kernel) rfl ?_
  refine zw_iload (pc := 65) (i := 6) 5 (by decide +kernel) rfl ?_
  refine zw_icmp_ge (pc := 67) (off := 56) (tgt := 123) (by decide +kernel) (by decide) o1 o2 (fun hc => ?_) (fun hc => ?_)
  · replace h := h.1 hc
    refine zw_iinc (pc := 123) (i := 4) (n := 1) (lv' := [(0, .ref 182), (1, .ref v1), (3, .int (zJ v3)), (4, .int (zJ (v4 + 1))), (5, .int (zJ v5)), (6, .int (zJ v6)), (7, .int (zJ v7))]) 3 (by decide +kernel) rfl rfl (Nat.le_of_ble_eq_true rfl) rfl ?_
    refine zw_goto (pc := 126) (off := (-99)) (tgt := 27) (by decide +kernel) (by decide) ?_
    exact zw_pick (lv' := [(0, .ref 182), (1, .ref v1), (3, .int (zJ v3)), (4, .int (zJ (v4 + 1)))]) [0, 1, 2, 3] rfl h
  · replace h := h.2 hc
    refine zw_aload_n (pc := 70) (n := 0) (i := 0) 0 (by decide +kernel) rfl rfl ?_
    refine zw_iload (pc := 71) (i := 5) 4 (by decide +kernel) rfl ?_
    refine zw_iload (pc := 73) (i := 7) 6 (by decide +kernel) rfl ?_
    refine zx_callV (pc := 75) (As := [.int (zJ v5), .int (zJ v7)]) h zi_X2_neighbourOf zii_X2_neighbourOf zie_X2_neighbourOf zl_2_80 (by decide +kernel) ⟨Nat.le_of_ble_eq_true rfl, Nat.le_of_ble_eq_true rfl⟩ rfl zc_182 (by decide) rfl rfl ⟨rfl, rfl⟩ ⟨Nat.zero_le _, Nat.zero_le _⟩ (zki (fun x4 μ3 h => ?_))
    obtain ⟨o5, o6, h⟩ := h
    refine zw_istore (pc := 78) (i := 8) (lv' := [(0, .ref 182), (1, .ref v1), (3, .int (zJ v3)), (4, .int (zJ v4)), (5, .int (zJ v5)), (6, .int (zJ v6)), (7, .int (zJ v7)), (8, .int (zJ x4))]) (by decide +kernel) (Nat.le_of_ble_eq_true rfl) rfl ?_
    refine zw_aload_n (pc := 80) (n := 0) (i := 0) 0 (by decide +kernel) rfl rfl ?_
    refine zx_getR (pc := 81) (o := 4) (r := 186) zf_2_21 (by decide +kernel) rfl zc_182 rfl (by decide) rfl ?_
    refine zw_iload (pc := 84) (i := 8) 7 (by decide +kernel) rfl ?_
    refine zx_iaload (pc := 86) (by decide +kernel) ⟨199, zc_186, o5.1, o5.2⟩ ?_
    refine zw_if_ge (pc := 87) (off := 30) (tgt := 117) (by decide +kernel) (by decide) o6 (fun hc => ?_) (fun hc => ?_)
    · replace h := h.1 hc
      refine zw_iinc (pc := 117) (i := 7) (n := 1) (lv' := [(0, .ref 182), (1, .ref v1), (3, .int (zJ v3)), (4, .int (zJ v4)), (5, .int (zJ v5)), (6, .int (zJ v6)), (7, .int (zJ (v7 + 1))), (8, .int (zJ x4))]) 6 (by decide +kernel) rfl rfl (Nat.le_of_ble_eq_true rfl) rfl ?_
      refine zw_goto (pc := 120) (off := (-57)) (tgt := 63) (by decide +kernel) (by decide) ?_
      exact zw_pick (lv' := [(0, .ref 182), (1, .ref v1), (3, .int (zJ v3)), (4, .int (zJ v4)), (5, .int (zJ v5)), (6, .int (zJ v6)), (7, .int (zJ (v7 + 1)))]) [0, 1, 2, 3, 4, 5, 6] rfl h
    · replace h := h.2 hc
      obtain ⟨o7, o8, h⟩ := h
      refine zw_aload_n (pc := 90) (n := 0) (i := 0) 0 (by decide +kernel) rfl rfl ?_
      refine zx_getR (pc := 91) (o := 4) (r := 186) zf_2_21 (by decide +kernel) rfl zc_182 rfl (by decide) rfl ?_
      refine zw_iload (pc := 94) (i := 8) 7 (by decide +kernel) rfl ?_
      refine zw_aload_n (pc := 96) (n := 0) (i := 0) 0 (by decide +kernel) rfl rfl ?_
      refine zx_getR (pc := 97) (o := 4) (r := 186) zf_2_21 (by decide +kernel) rfl zc_182 rfl (by decide) rfl ?_
      refine zw_iload (pc := 100) (i := 5) 4 (by decide +kernel) rfl ?_
      refine zx_iaload (pc := 102) (by decide +kernel) ⟨199, zc_186, o7.1, o7.2⟩ ?_
      refine zw_iconst (pc := 103) (n := 1) (by decide +kernel) ?_
      refine zw_iadd (pc := 104) (by decide +kernel) ?_
      refine zx_iastore (pc := 105) (by decide +kernel) ⟨199, zc_186, o5.1, o5.2⟩ ?_
      refine zw_aload_n (pc := 106) (n := 0) (i := 0) 0 (by decide +kernel) rfl rfl ?_
      refine zx_getR (pc := 107) (o := 5) (r := 187) zf_2_24 (by decide +kernel) rfl zc_182 rfl (by decide) rfl ?_
      refine zw_iload_n (pc := 110) (n := 3) (i := 3) 2 (by decide +kernel) rfl rfl ?_
      refine zw_iload (pc := 111) (i := 8) 7 (by decide +kernel) rfl ?_
      refine zx_iastore (pc := 113) (by decide +kernel) ⟨199, zc_187, o8.1, o8.2⟩ ?_
      refine zw_iinc (pc := 114) (i := 3) (n := 1) (lv' := [(0, .ref 182), (1, .ref v1), (3, .int (zJ (v3 + 1))), (4, .int (zJ v4)), (5, .int (zJ v5)), (6, .int (zJ v6)), (7, .int (zJ v7)), (8, .int (zJ x4))]) 2 (by decide +kernel) rfl rfl (Nat.le_of_ble_eq_true rfl) rfl ?_
      refine zw_iinc (pc := 117) (i := 7) (n := 1) (lv' := [(0, .ref 182), (1, .ref v1), (3, .int (zJ (v3 + 1))), (4, .int (zJ v4)), (5, .int (zJ v5)), (6, .int (zJ v6)), (7, .int (zJ (v7 + 1))), (8, .int (zJ x4))]) 6 (by decide +kernel) rfl rfl (Nat.le_of_ble_eq_true rfl) rfl ?_
      refine zw_goto (pc := 120) (off := (-57)) (tgt := 63) (by decide +kernel) (by decide) ?_
      exact zw_pick (lv' := [(0, .ref 182), (1, .ref v1), (3, .int (zJ (v3 + 1))), (4, .int (zJ v4)), (5, .int (zJ v5)), (6, .int (zJ v6)), (7, .int (zJ (v7 + 1)))]) [0, 1, 2, 3, 4, 5, 6] rfl h
theorem sg_X2_distanceTo {g : zG} {φ : Int → zMu → Prop} {v1 : Int} {μ : zMu}
    (h : (0 ≤ v1 ∧ v1 < 199) ∧ φ (μ 186 v1.toNat) μ) : zOi g zm_X2_distanceTo [.ref 182, .int (zJ v1)] μ φ := by
  refine zok_of (by decide +kernel) rfl ?_
  show zWP g zm_X2_distanceTo (zmo g zm_X2_distanceTo (zΦi φ)) 0 [(0, .ref 182), (1, .int (zJ v1))] [] 0 0 (zw μ)
  obtain ⟨o1, h⟩ := h
  refine zw_aload_n (pc := 0) (n := 0) (i := 0) 0 (by decide +kernel) rfl rfl ?_
  refine zx_getR (pc := 1) (o := 4) (r := 186) zf_2_21 (by decide +kernel) rfl zc_182 rfl (by decide) rfl ?_
  refine zw_iload_n (pc := 4) (n := 1) (i := 1) 1 (by decide +kernel) rfl rfl ?_
  refine zx_iaload (pc := 5) (by decide +kernel) ⟨199, zc_186, o1.1, o1.2⟩ ?_
  exact zw_iret (pc := 6) (by decide +kernel) rfl (Nat.le_refl _) (Nat.le_refl _) ⟨_, _, rfl, rfl, h⟩
abbrev at_X2_ownNeighbours_4 (g : zG) (φ : Int → zMu → Prop) (v1 : Nat) (v2 : Int) (v3 : Int) (μ : zMu) : Prop := zWP g zm_X2_ownNeighbours (zmo g zm_X2_ownNeighbours (zΦi φ)) 4 [(0, .ref 182), (1, .ref v1), (2, .int (zJ v2)), (3, .int (zJ v3))] [] 0 0 (zw μ)
theorem sg_X2_ownNeighbours {g : zG} {φ : Int → zMu → Prop} {v1 : Nat} {μ : zMu} (h_v1 : zS v1 0 5)
    (h : at_X2_ownNeighbours_4 g φ v1 0 0 μ) : zOi g zm_X2_ownNeighbours [.ref 182, .ref v1] μ φ := by
  refine zok_of (by decide +kernel) rfl ?_
  show zWP g zm_X2_ownNeighbours (zmo g zm_X2_ownNeighbours (zΦi φ)) 0 [(0, .ref 182), (1, .ref v1)] [] 0 0 (zw μ)
  refine zw_iconst (pc := 0) (n := 0) (by decide +kernel) ?_
  refine zw_istore_n (pc := 1) (n := 2) (i := 2) (lv' := [(0, .ref 182), (1, .ref v1), (2, .int (zJ 0))]) (by decide +kernel) rfl (Nat.le_of_ble_eq_true rfl) rfl ?_
  refine zw_iconst (pc := 2) (n := 0) (by decide +kernel) ?_
  refine zw_istore_n (pc := 3) (n := 3) (i := 3) (lv' := [(0, .ref 182), (1, .ref v1), (2, .int (zJ 0)), (3, .int (zJ 0))]) (by decide +kernel) rfl (Nat.le_of_ble_eq_true rfl) rfl ?_
  exact h
theorem sg_X2_ownNeighbours_4 {g : zG} {φ : Int → zMu → Prop} {v1 : Nat} {v2 : Int} {v3 : Int} {μ : zMu} (h_v1 : zS v1 0 5)
    (h : (zR v3) ∧ (zR (μ v1 0)) ∧ (((μ v1 0) ≤ v3 → φ v2 μ) ∧ (v3 < (μ v1 0) → zOi g zm_X2_isDegenerate [.ref 182, .ref v1, .int (zJ v3)] μ (fun x4 μ3 => (zR x4) ∧ ((¬ x4 = 0 → at_X2_ownNeighbours_4 g φ v1 v2 (v3 + 1) μ3) ∧ (x4 = 0 → zOi g zm_X3_valueOf [.ref (v1 + 2), .int (zJ v3), .int (zJ v3), .int (zJ (μ3 v1 0))] μ3 (fun x8 μ7 => (zR x8) ∧ ((¬ x8 = 0 → at_X2_ownNeighbours_4 g φ v1 v2 (v3 + 1) μ7) ∧ (x8 = 0 → at_X2_ownNeighbours_4 g φ v1 (v2 + 1) (v3 + 1) μ7))))))))) : at_X2_ownNeighbours_4 g φ v1 v2 v3 μ := by
  obtain ⟨o1, o2, h⟩ := h
  refine zw_iload_n (pc := 4) (n := 3) (i := 3) 3 (by decide +kernel) rfl rfl ?_
  refine zw_aload_n (pc := 5) (n := 1) (i := 1) 1 (by decide +kernel) rfl rfl ?_
  refine zx_getI (pc := 6) zf_2_49 (by decide +kernel) rfl h_v1 ?_
  refine zw_icmp_ge (pc := 9) (off := 37) (tgt := 46) (by decide +kernel) (by decide) o1 o2 (fun hc => ?_) (fun hc => ?_)
  · replace h := h.1 hc
    refine zw_iload_n (pc := 46) (n := 2) (i := 2) 2 (by decide +kernel) rfl rfl ?_
    exact zw_iret (pc := 47) (by decide +kernel) rfl (Nat.le_refl _) (Nat.le_refl _) ⟨_, _, rfl, rfl, h⟩
  · replace h := h.2 hc
    refine zw_aload_n (pc := 12) (n := 0) (i := 0) 0 (by decide +kernel) rfl rfl ?_
    refine zw_aload_n (pc := 13) (n := 1) (i := 1) 1 (by decide +kernel) rfl rfl ?_
    refine zw_iload_n (pc := 14) (n := 3) (i := 3) 3 (by decide +kernel) rfl rfl ?_
    refine zx_callV (pc := 15) (As := [.ref v1, .int (zJ v3)]) h zi_X2_isDegenerate zii_X2_isDegenerate zie_X2_isDegenerate zl_2_83 (by decide +kernel) ⟨Nat.le_of_ble_eq_true rfl, Nat.le_of_ble_eq_true rfl⟩ rfl zc_182 (by decide) rfl rfl ⟨rfl, rfl⟩ ⟨Nat.zero_le _, Nat.zero_le _⟩ (zki (fun x4 μ3 h => ?_))
    obtain ⟨o5, h⟩ := h
    refine zw_if_ne (pc := 18) (off := 22) (tgt := 40) (by decide +kernel) (by decide) o5 (fun hc => ?_) (fun hc => ?_)
    · replace h := h.1 hc
      refine zw_iinc (pc := 40) (i := 3) (n := 1) (lv' := [(0, .ref 182), (1, .ref v1), (2, .int (zJ v2)), (3, .int (zJ (v3 + 1)))]) 3 (by decide +kernel) rfl rfl (Nat.le_of_ble_eq_true rfl) rfl ?_
      refine zw_goto (pc := 43) (off := (-39)) (tgt := 4) (by decide +kernel) (by decide) ?_
      exact h
    · replace h := h.2 hc
      refine zw_aload_n (pc := 21) (n := 1) (i := 1) 1 (by decide +kernel) rfl rfl ?_
      have q6 : zS (v1 + 2) 3 2 := zq 1 h_v1 rfl
      refine zx_getR (pc := 22) (o := 2) (r := (v1 + 2)) zf_2_43 (by decide +kernel) rfl h_v1 rfl (by decide) rfl ?_
      refine zw_iload_n (pc := 25) (n := 3) (i := 3) 3 (by decide +kernel) rfl rfl ?_
      refine zw_iload_n (pc := 26) (n := 3) (i := 3) 3 (by decide +kernel) rfl rfl ?_
      refine zw_aload_n (pc := 27) (n := 1) (i := 1) 1 (by decide +kernel) rfl rfl ?_
      refine zx_getI (pc := 28) zf_2_49 (by decide +kernel) rfl h_v1 ?_
      refine zx_callV (pc := 31) (As := [.int (zJ v3), .int (zJ v3), .int (zJ (μ3 v1 0))]) h zi_X3_valueOf zii_X3_valueOf zie_X3_valueOf zl_2_87 (by decide +kernel) ⟨Nat.le_of_ble_eq_true rfl, Nat.le_of_ble_eq_true rfl⟩ rfl q6 (by decide) rfl rfl ⟨rfl, rfl⟩ ⟨Nat.zero_le _, Nat.zero_le _⟩ (zki (fun x8 μ7 h => ?_))
      obtain ⟨o9, h⟩ := h
      refine zw_if_ne (pc := 34) (off := 6) (tgt := 40) (by decide +kernel) (by decide) o9 (fun hc => ?_) (fun hc => ?_)
      · replace h := h.1 hc
        refine zw_iinc (pc := 40) (i := 3) (n := 1) (lv' := [(0, .ref 182), (1, .ref v1), (2, .int (zJ v2)), (3, .int (zJ (v3 + 1)))]) 3 (by decide +kernel) rfl rfl (Nat.le_of_ble_eq_true rfl) rfl ?_
        refine zw_goto (pc := 43) (off := (-39)) (tgt := 4) (by decide +kernel) (by decide) ?_
        exact h
      · replace h := h.2 hc
        refine zw_iinc (pc := 37) (i := 2) (n := 1) (lv' := [(0, .ref 182), (1, .ref v1), (2, .int (zJ (v2 + 1))), (3, .int (zJ v3))]) 2 (by decide +kernel) rfl rfl (Nat.le_of_ble_eq_true rfl) rfl ?_
        refine zw_iinc (pc := 40) (i := 3) (n := 1) (lv' := [(0, .ref 182), (1, .ref v1), (2, .int (zJ (v2 + 1))), (3, .int (zJ (v3 + 1)))]) 3 (by decide +kernel) rfl rfl (Nat.le_of_ble_eq_true rfl) rfl ?_
        refine zw_goto (pc := 43) (off := (-39)) (tgt := 4) (by decide +kernel) (by decide) ?_
        exact h
abbrev at_X2_degenerateValues_4 (g : zG) (φ : Int → zMu → Prop) (v1 : Nat) (v2 : Int) (v3 : Int) (μ : zMu) : Prop := zWP g zm_X2_degenerateValues (zmo g zm_X2_degenerateValues (zΦi φ)) 4 [(0, .ref 182), (1, .ref v1), (2, .int (zJ v2)), (3, .int (zJ v3))] [] 0 0 (zw μ)
theorem sg_X2_degenerateValues {g : zG} {φ : Int → zMu → Prop} {v1 : Nat} {μ : zMu} (h_v1 : zS v1 0 5)
    (h : at_X2_degenerateValues_4 g φ v1 0 0 μ) : zOi g zm_X2_degenerateValues [.ref 182, .ref v1] μ φ := by
  refine zok_of (by decide +kernel) rfl ?_
  show zWP g zm_X2_degenerateValues (zmo g zm_X2_degenerateValues (zΦi φ)) 0 [(0, .ref 182), (1, .ref v1)] [] 0 0 (zw μ)
  refine zw_iconst (pc := 0) (n := 0) (by decide +kernel) ?_
  refine zw_istore_n (pc := 1) (n := 2) (i := 2) (lv' := [(0, .ref 182), (1, .ref v1), (2, .int (zJ 0))]) (by decide +kernel) rfl (Nat.le_of_ble_eq_true rfl) rfl ?_
  refine zw_iconst (pc := 2) (n := 0) (by decide +kernel) ?_
  refine zw_istore_n (pc := 3) (n := 3) (i := 3) (lv' := [(0, .ref 182), (1, .ref v1), (2, .int (zJ 0)), (3, .int (zJ 0))]) (by decide +kernel) rfl (Nat.le_of_ble_eq_true rfl) rfl ?_
  exact h
theorem sg_X2_degenerateValues_4 {g : zG} {φ : Int → zMu → Prop} {v1 : Nat} {v2 : Int} {v3 : Int} {μ : zMu} (h_v1 : zS v1 0 5)
    (h : (zR v3) ∧ (zR (μ v1 0)) ∧ (((μ v1 0) ≤ v3 → φ v2 μ) ∧ (v3 < (μ v1 0) → zOi g zm_X2_isDegenerate [.ref 182, .ref v1, .int (zJ v3)] μ (fun x4 μ3 => (zR x4) ∧ ((x4 = 0 → at_X2_degenerateValues_4 g φ v1 v2 (v3 + 1) μ3) ∧ (¬ x4 = 0 → at_X2_degenerateValues_4 g φ v1 (v2 + 1) (v3 + 1) μ3)))))) : at_X2_degenerateValues_4 g φ v1 v2 v3 μ := by
  obtain ⟨o1, o2, h⟩ := h
  refine zw_iload_n (pc := 4) (n := 3) (i := 3) 3 (by decide +kernel) rfl rfl ?_
  refine zw_aload_n (pc := 5) (n := 1) (i := 1) 1 (by decide +kernel) rfl rfl ?_
  refine zx_getI (pc := 6) zf_2_49 (by decide +kernel) rfl h_v1 ?_
  refine zw_icmp_ge (pc := 9) (off := 21) (tgt := 30) (by decide +kernel) (by decide) o1 o2 (fun hc => ?_) (fun hc => ?_)
  · replace h := h.1 hc
    refine zw_iload_n (pc := 30) (n := 2) (i := 2) 2 (by decide +kernel) rfl rfl ?_
    exact zw_iret (pc := 31) (by decide +kernel) rfl (Nat.le_refl _) (Nat.le_refl _) ⟨_, _, rfl, rfl, h⟩
  · replace h := h.2 hc
    refine zw_aload_n (pc := 12) (n := 0) (i := 0) 0 (by decide +kernel) rfl rfl ?_
    refine zw_aload_n (pc := 13) (n := 1) (i := 1) 1 (by decide +kernel) rfl rfl ?_
    refine zw_iload_n (pc := 14) (n := 3) (i := 3) 3 (by decide +kernel) rfl rfl ?_
    refine zx_callV (pc := 15) (As := [.ref v1, .int (zJ v3)]) h zi_X2_isDegenerate zii_X2_isDegenerate zie_X2_isDegenerate zl_2_83 (by decide +kernel) ⟨Nat.le_of_ble_eq_true rfl, Nat.le_of_ble_eq_true rfl⟩ rfl zc_182 (by decide) rfl rfl ⟨rfl, rfl⟩ ⟨Nat.zero_le _, Nat.zero_le _⟩ (zki (fun x4 μ3 h => ?_))
    obtain ⟨o5, h⟩ := h
    refine zw_if_eq (pc := 18) (off := 6) (tgt := 24) (by decide +kernel) (by decide) o5 (fun hc => ?_) (fun hc => ?_)
    · replace h := h.1 hc
      refine zw_iinc (pc := 24) (i := 3) (n := 1) (lv' := [(0, .ref 182), (1, .ref v1), (2, .int (zJ v2)), (3, .int (zJ (v3 + 1)))]) 3 (by decide +kernel) rfl rfl (Nat.le_of_ble_eq_true rfl) rfl ?_
      refine zw_goto (pc := 27) (off := (-23)) (tgt := 4) (by decide +kernel) (by decide) ?_
      exact h
    · replace h := h.2 hc
      refine zw_iinc (pc := 21) (i := 2) (n := 1) (lv' := [(0, .ref 182), (1, .ref v1), (2, .int (zJ (v2 + 1))), (3, .int (zJ v3))]) 2 (by decide +kernel) rfl rfl (Nat.le_of_ble_eq_true rfl) rfl ?_
      refine zw_iinc (pc := 24) (i := 3) (n := 1) (lv' := [(0, .ref 182), (1, .ref v1), (2, .int (zJ (v2 + 1))), (3, .int (zJ (v3 + 1)))]) 3 (by decide +kernel) rfl rfl (Nat.le_of_ble_eq_true rfl) rfl ?_
      refine zw_goto (pc := 27) (off := (-23)) (tgt := 4) (by decide +kernel) (by decide) ?_
      exact h
abbrev at_X2_lonelyValues_4 (g : zG) (φ : Int → zMu → Prop) (v1 : Nat) (v2 : Int) (v3 : Int) (μ : zMu) : Prop := zWP g zm_X2_lonelyValues (zmo g zm_X2_lonelyValues (zΦi φ)) 4 [(0, .ref 182), (1, .ref v1), (2, .int (zJ v2)), (3, .int (zJ v3))] [] 0 0 (zw μ)
theorem sg_X2_lonelyValues {g : zG} {φ : Int → zMu → Prop} {v1 : Nat} {μ : zMu} (h_v1 : zS v1 0 5)
    (h : at_X2_lonelyValues_4 g φ v1 0 0 μ) : zOi g zm_X2_lonelyValues [.ref 182, .ref v1] μ φ := by
  refine zok_of (by decide +kernel) rfl ?_
  show zWP g zm_X2_lonelyValues (zmo g zm_X2_lonelyValues (zΦi φ)) 0 [(0, .ref 182), (1, .ref v1)] [] 0 0 (zw μ)
  refine zw_iconst (pc := 0) (n := 0) (by decide +kernel) ?_
  refine zw_istore_n (pc := 1) (n := 2) (i := 2) (lv' := [(0, .ref 182), (1, .ref v1), (2, .int (zJ 0))]) (by decide +kernel) rfl (Nat.le_of_ble_eq_true rfl) rfl ?_
  refine zw_iconst (pc := 2) (n := 0) (by decide +kernel) ?_
  refine zw_istore_n (pc := 3) (n := 3) (i := 3) (lv' := [(0, .ref 182), (1, .ref v1), (2, .int (zJ 0)), (3, .int (zJ 0))]) (by decide +kernel) rfl (Nat.le_of_ble_eq_true rfl) rfl ?_
  exact h
theorem sg_X2_lonelyValues_4 {g : zG} {φ : Int → zMu → Prop} {v1 : Nat} {v2 : Int} {v3 : Int} {μ : zMu} (h_v1 : zS v1 0 5)
    (h : (zR v3) ∧ (zR (μ v1 0)) ∧ (((μ v1 0) ≤ v3 → φ v2 μ) ∧ (v3 < (μ v1 0) → zOi g zm_X2_isDegenerate [.ref 182, .ref v1, .int (zJ v3)] μ (fun x4 μ3 => (zR x4) ∧ ((¬ x4 = 0 → at_X2_lonelyValues_4 g φ v1 v2 (v3 + 1) μ3) ∧ (x4 = 0 → zOi g zm_X2_sizeOf [.ref 182, .ref v1, .int (zJ v3)] μ3 (fun x7 μ6 => (zR x7) ∧ ((¬ x7 = 0 → at_X2_lonelyValues_4 g φ v1 v2 (v3 + 1) μ6) ∧ (x7 = 0 → at_X2_lonelyValues_4 g φ v1 (v2 + 1) (v3 + 1) μ6))))))))) : at_X2_lonelyValues_4 g φ v1 v2 v3 μ := by
  obtain ⟨o1, o2, h⟩ := h
  refine zw_iload_n (pc := 4) (n := 3) (i := 3) 3 (by decide +kernel) rfl rfl ?_
  refine zw_aload_n (pc := 5) (n := 1) (i := 1) 1 (by decide +kernel) rfl rfl ?_
  refine zx_getI (pc := 6) zf_2_49 (by decide +kernel) rfl h_v1 ?_
  refine zw_icmp_ge (pc := 9) (off := 30) (tgt := 39) (by decide +kernel) (by decide) o1 o2 (fun hc => ?_) (fun hc => ?_)
  · replace h := h.1 hc
    refine zw_iload_n (pc := 39) (n := 2) (i := 2) 2 (by decide +kernel) rfl rfl ?_
    exact zw_iret (pc := 40) (by decide +kernel) rfl (Nat.le_refl _) (Nat.le_refl _) ⟨_, _, rfl, rfl, h⟩
  · replace h := h.2 hc
    refine zw_aload_n (pc := 12) (n := 0) (i := 0) 0 (by decide +kernel) rfl rfl ?_
    refine zw_aload_n (pc := 13) (n := 1) (i := 1) 1 (by decide +kernel) rfl rfl ?_
    refine zw_iload_n (pc := 14) (n := 3) (i := 3) 3 (by decide +kernel) rfl rfl ?_
    refine zx_callV (pc := 15) (As := [.ref v1, .int (zJ v3)]) h zi_X2_isDegenerate zii_X2_isDegenerate zie_X2_isDegenerate zl_2_83 (by decide +kernel) ⟨Nat.le_of_ble_eq_true rfl, Nat.le_of_ble_eq_true rfl⟩ rfl zc_182 (by decide) rfl rfl ⟨rfl, rfl⟩ ⟨Nat.zero_le _, Nat.zero_le _⟩ (zki (fun x4 μ3 h => ?_))
    obtain ⟨o5, h⟩ := h
    refine zw_if_ne (pc := 18) (off := 15) (tgt := 33) (by decide +kernel) (by decide) o5 (fun hc => ?_) (fun hc => ?_)
    · replace h := h.1 hc
      refine zw_iinc (pc := 33) (i := 3) (n := 1) (lv' := [(0, .ref 182), (1, .ref v1), (2, .int (zJ v2)), (3, .int (zJ (v3 + 1)))]) 3 (by decide +kernel) rfl rfl (Nat.le_of_ble_eq_true rfl) rfl ?_
      refine zw_goto (pc := 36) (off := (-32)) (tgt := 4) (by decide +kernel) (by decide) ?_
      exact h
    · replace h := h.2 hc
      refine zw_aload_n (pc := 21) (n := 0) (i := 0) 0 (by decide +kernel) rfl rfl ?_
      refine zw_aload_n (pc := 22) (n := 1) (i := 1) 1 (by decide +kernel) rfl rfl ?_
      refine zw_iload_n (pc := 23) (n := 3) (i := 3) 3 (by decide +kernel) rfl rfl ?_
      refine zx_callV (pc := 24) (As := [.ref v1, .int (zJ v3)]) h zi_X2_sizeOf zii_X2_sizeOf zie_X2_sizeOf zl_2_76 (by decide +kernel) ⟨Nat.le_of_ble_eq_true rfl, Nat.le_of_ble_eq_true rfl⟩ rfl zc_182 (by decide) rfl rfl ⟨rfl, rfl⟩ ⟨Nat.zero_le _, Nat.zero_le _⟩ (zki (fun x7 μ6 h => ?_))
      obtain ⟨o8, h⟩ := h
      refine zw_if_ne (pc := 27) (off := 6) (tgt := 33) (by decide +kernel) (by decide) o8 (fun hc => ?_) (fun hc => ?_)
      · replace h := h.1 hc
        refine zw_iinc (pc := 33) (i := 3) (n := 1) (lv' := [(0, .ref 182), (1, .ref v1), (2, .int (zJ v2)), (3, .int (zJ (v3 + 1)))]) 3 (by decide +kernel) rfl rfl (Nat.le_of_ble_eq_true rfl) rfl ?_
        refine zw_goto (pc := 36) (off := (-32)) (tgt := 4) (by decide +kernel) (by decide) ?_
        exact h
      · replace h := h.2 hc
        refine zw_iinc (pc := 30) (i := 2) (n := 1) (lv' := [(0, .ref 182), (1, .ref v1), (2, .int (zJ (v2 + 1))), (3, .int (zJ v3))]) 2 (by decide +kernel) rfl rfl (Nat.le_of_ble_eq_true rfl) rfl ?_
        refine zw_iinc (pc := 33) (i := 3) (n := 1) (lv' := [(0, .ref 182), (1, .ref v1), (2, .int (zJ (v2 + 1))), (3, .int (zJ (v3 + 1)))]) 3 (by decide +kernel) rfl rfl (Nat.le_of_ble_eq_true rfl) rfl ?_
        refine zw_goto (pc := 36) (off := (-32)) (tgt := 4) (by decide +kernel) (by decide) ?_
        exact h
abbrev at_X2_greatestSize_4 (g : zG) (φ : Int → zMu → Prop) (v1 : Nat) (v2 : Int) (v3 : Int) (μ : zMu) : Prop := zWP g zm_X2_greatestSize (zmo g zm_X2_greatestSize (zΦi φ)) 4 [(0, .ref 182), (1, .ref v1), (2, .int (zJ v2)), (3, .int (zJ v3))] [] 0 0 (zw μ)
theorem sg_X2_greatestSize {g : zG} {φ : Int → zMu → Prop} {v1 : Nat} {μ : zMu} (h_v1 : zS v1 0 5)
    (h : at_X2_greatestSize_4 g φ v1 0 0 μ) : zOi g zm_X2_greatestSize [.ref 182, .ref v1] μ φ := by
  refine zok_of (by decide +kernel) rfl ?_
  show zWP g zm_X2_greatestSize (zmo g zm_X2_greatestSize (zΦi φ)) 0 [(0, .ref 182), (1, .ref v1)] [] 0 0 (zw μ)
  refine zw_iconst (pc := 0) (n := 0) (by decide +kernel) ?_
  refine zw_istore_n (pc := 1) (n := 2) (i := 2) (lv' := [(0, .ref 182), (1, .ref v1), (2, .int (zJ 0))]) (by decide +kernel) rfl (Nat.le_of_ble_eq_true rfl) rfl ?_
  refine zw_iconst (pc := 2) (n := 0) (by decide +kernel) ?_
  refine zw_istore_n (pc := 3) (n := 3) (i := 3) (lv' := [(0, .ref 182), (1, .ref v1), (2, .int (zJ 0)), (3, .int (zJ 0))]) (by decide +kernel) rfl (Nat.le_of_ble_eq_true rfl) rfl ?_
  exact h
theorem sg_X2_greatestSize_4 {g : zG} {φ : Int → zMu → Prop} {v1 : Nat} {v2 : Int} {v3 : Int} {μ : zMu} (h_v1 : zS v1 0 5)
    (h : (zR v3) ∧ (zR (μ v1 0)) ∧ (((μ v1 0) ≤ v3 → φ v2 μ) ∧ (v3 < (μ v1 0) → zOi g zm_X2_sizeOf [.ref 182, .ref v1, .int (zJ v3)] μ (fun x4 μ3 => (zR v2) ∧ (zR x4) ∧ at_X2_greatestSize_4 g φ v1 (max v2 x4) (v3 + 1) μ3)))) : at_X2_greatestSize_4 g φ v1 v2 v3 μ := by
  obtain ⟨o1, o2, h⟩ := h
  refine zw_iload_n (pc := 4) (n := 3) (i := 3) 3 (by decide +kernel) rfl rfl ?_
  refine zw_aload_n (pc := 5) (n := 1) (i := 1) 1 (by decide +kernel) rfl rfl ?_
  refine zx_getI (pc := 6) zf_2_49 (by decide +kernel) rfl h_v1 ?_
  refine zw_icmp_ge (pc := 9) (off := 20) (tgt := 29) (by decide +kernel) (by decide) o1 o2 (fun hc => ?_) (fun hc => ?_)
  · replace h := h.1 hc
    refine zw_iload_n (pc := 29) (n := 2) (i := 2) 2 (by decide +kernel) rfl rfl ?_
    exact zw_iret (pc := 30) (by decide +kernel) rfl (Nat.le_refl _) (Nat.le_refl _) ⟨_, _, rfl, rfl, h⟩
  · replace h := h.2 hc
    refine zw_iload_n (pc := 12) (n := 2) (i := 2) 2 (by decide +kernel) rfl rfl ?_
    refine zw_aload_n (pc := 13) (n := 0) (i := 0) 0 (by decide +kernel) rfl rfl ?_
    refine zw_aload_n (pc := 14) (n := 1) (i := 1) 1 (by decide +kernel) rfl rfl ?_
    refine zw_iload_n (pc := 15) (n := 3) (i := 3) 3 (by decide +kernel) rfl rfl ?_
    refine zx_callV (pc := 16) (As := [.ref v1, .int (zJ v3)]) h zi_X2_sizeOf zii_X2_sizeOf zie_X2_sizeOf zl_2_76 (by decide +kernel) ⟨Nat.le_of_ble_eq_true rfl, Nat.le_of_ble_eq_true rfl⟩ rfl zc_182 (by decide) rfl rfl ⟨rfl, rfl⟩ ⟨Nat.zero_le _, Nat.zero_le _⟩ (zki (fun x4 μ3 h => ?_))
    obtain ⟨o5, o6, h⟩ := h
    refine zw_max (pc := 19) zl_2_37 zb_maxS zb_mathI zb_maxC (by decide +kernel) ⟨Nat.le_of_ble_eq_true rfl, Nat.le_of_ble_eq_true rfl⟩ (Nat.zero_le _) (Nat.zero_le _) rfl o5 o6 ?_
    refine zw_istore_n (pc := 22) (n := 2) (i := 2) (lv' := [(0, .ref 182), (1, .ref v1), (2, .int (zJ (max v2 x4))), (3, .int (zJ v3))]) (by decide +kernel) rfl (Nat.le_of_ble_eq_true rfl) rfl ?_
    refine zw_iinc (pc := 23) (i := 3) (n := 1) (lv' := [(0, .ref 182), (1, .ref v1), (2, .int (zJ (max v2 x4))), (3, .int (zJ (v3 + 1)))]) 3 (by decide +kernel) rfl rfl (Nat.le_of_ble_eq_true rfl) rfl ?_
    refine zw_goto (pc := 26) (off := (-22)) (tgt := 4) (by decide +kernel) (by decide) ?_
    exact h
theorem sg_X7_makeInvariant {g : zG} {φ : zMu → Prop} {v1 : Nat} {v2 : Int} {v3 : Int} {μ : zMu} (h_v1 : zS v1 6 3)
    (h : zOv g zm_X7_fillEisenstein [.ref 69, .int (zJ v2), .int (zJ v3)] μ (fun μ1 => zOv g zm_X10_multiply [.ref 70, .ref 70, .ref 71, .int (zJ v2), .int (zJ v3)] μ1 (fun μ2 => zOv g zm_X10_multiply [.ref 71, .ref 70, .ref 72, .int (zJ v2), .int (zJ v3)] μ2 (fun μ3 => zOv g zm_X7_fillEulerProduct [.ref 69, .int (zJ v2), .int (zJ v3)] μ3 (fun μ4 => zOv g zm_X10_multiply [.ref 70, .ref 70, .ref 71, .int (zJ v2), .int (zJ v3)] μ4 (fun μ5 => zOv g zm_X10_multiply [.ref 71, .ref 70, .ref 73, .int (zJ v2), .int (zJ v3)] μ5 (fun μ6 => zOv g zm_X10_multiply [.ref 73, .ref 73, .ref 70, .int (zJ v2), .int (zJ v3)] μ6 (fun μ7 => zOv g zm_X10_multiply [.ref 70, .ref 70, .ref 71, .int (zJ v2), .int (zJ v3)] μ7 (fun μ8 => zOv g zm_X10_multiply [.ref 71, .ref 71, .ref 73, .int (zJ v2), .int (zJ v3)] μ8 (fun μ9 => zOv g zm_X7_invert [.ref 73, .ref 71, .int (zJ v2), .int (zJ v3)] μ9 (fun μ10 => zOv g zm_X10_multiply [.ref 72, .ref 71, .ref 70, .int (zJ v2), .int (zJ v3)] μ10 (fun μ11 => zOv g zm_X6_become [.ref v1, .int (zJ (-1)), .int (zJ v2), .ref 70] μ11 (fun μ12 => φ μ12))))))))))))) : zOv g zm_X7_makeInvariant [.ref 69, .ref v1, .int (zJ v2), .int (zJ v3)] μ φ := by
  refine zok_ofF (by decide +kernel) rfl ?_
  show zWP g zm_X7_makeInvariant (zmo g zm_X7_makeInvariant (zΦv φ)) 0 [(0, .ref 69), (1, .ref v1), (2, .int (zJ v2)), (3, .int (zJ v3))] [] 0 0 (zw μ)
  refine zw_aload_n (pc := 0) (n := 0) (i := 0) 0 (by decide +kernel) rfl rfl ?_
  refine zw_iload_n (pc := 1) (n := 2) (i := 2) 2 (by decide +kernel) rfl rfl ?_
  refine zw_iload_n (pc := 2) (n := 3) (i := 3) 3 (by decide +kernel) rfl rfl ?_
  refine zx_callV (pc := 3) (As := [.int (zJ v2), .int (zJ v3)]) h zi_X7_fillEisenstein zii_X7_fillEisenstein zie_X7_fillEisenstein zl_7_77 (by decide +kernel) ⟨Nat.le_of_ble_eq_true rfl, Nat.le_of_ble_eq_true rfl⟩ rfl zc_69 (by decide) rfl rfl ⟨rfl, rfl⟩ ⟨Nat.zero_le _, Nat.zero_le _⟩ (zkv (fun μ1 h => ?_))
  refine zw_aload_n (pc := 6) (n := 0) (i := 0) 0 (by decide +kernel) rfl rfl ?_
  refine zx_getR (pc := 7) (o := 1) (r := 70) zf_7_9 (by decide +kernel) rfl zc_69 rfl (by decide) rfl ?_
  refine zw_aload_n (pc := 10) (n := 0) (i := 0) 0 (by decide +kernel) rfl rfl ?_
  refine zx_getR (pc := 11) (o := 1) (r := 70) zf_7_9 (by decide +kernel) rfl zc_69 rfl (by decide) rfl ?_
  refine zw_aload_n (pc := 14) (n := 0) (i := 0) 0 (by decide +kernel) rfl rfl ?_
  refine zx_getR (pc := 15) (o := 2) (r := 71) zf_7_15 (by decide +kernel) rfl zc_69 rfl (by decide) rfl ?_
  refine zw_iload_n (pc := 18) (n := 2) (i := 2) 2 (by decide +kernel) rfl rfl ?_
  refine zw_iload_n (pc := 19) (n := 3) (i := 3) 3 (by decide +kernel) rfl rfl ?_
  refine zx_callSN (pc := 20) (As := [.ref 70, .ref 70, .ref 71, .int (zJ v2), .int (zJ v3)]) h zi_X10_multiply zis_X10_multiply zn_7_57 (by decide +kernel) ⟨Nat.le_of_ble_eq_true rfl, Nat.le_of_ble_eq_true rfl⟩ rfl rfl ⟨rfl, rfl⟩ ⟨Nat.zero_le _, Nat.zero_le _⟩ (zkv (fun μ2 h => ?_))
  refine zw_aload_n (pc := 23) (n := 0) (i := 0) 0 (by decide +kernel) rfl rfl ?_
  refine zx_getR (pc := 24) (o := 2) (r := 71) zf_7_15 (by decide +kernel) rfl zc_69 rfl (by decide) rfl ?_
  refine zw_aload_n (pc := 27) (n := 0) (i := 0) 0 (by decide +kernel) rfl rfl ?_
  refine zx_getR (pc := 28) (o := 1) (r := 70) zf_7_9 (by decide +kernel) rfl zc_69 rfl (by decide) rfl ?_
  refine zw_aload_n (pc := 31) (n := 0) (i := 0) 0 (by decide +kernel) rfl rfl ?_
  refine zx_getR (pc := 32) (o := 3) (r := 72) zf_7_18 (by decide +kernel) rfl zc_69 rfl (by decide) rfl ?_
  refine zw_iload_n (pc := 35) (n := 2) (i := 2) 2 (by decide +kernel) rfl rfl ?_
  refine zw_iload_n (pc := 36) (n := 3) (i := 3) 3 (by decide +kernel) rfl rfl ?_
  refine zx_callSN (pc := 37) (As := [.ref 71, .ref 70, .ref 72, .int (zJ v2), .int (zJ v3)]) h zi_X10_multiply zis_X10_multiply zn_7_57 (by decide +kernel) ⟨Nat.le_of_ble_eq_true rfl, Nat.le_of_ble_eq_true rfl⟩ rfl rfl ⟨rfl, rfl⟩ ⟨Nat.zero_le _, Nat.zero_le _⟩ (zkv (fun μ3 h => ?_))
  refine zw_aload_n (pc := 40) (n := 0) (i := 0) 0 (by decide +kernel) rfl rfl ?_
  refine zw_iload_n (pc := 41) (n := 2) (i := 2) 2 (by decide +kernel) rfl rfl ?_
  refine zw_iload_n (pc := 42) (n := 3) (i := 3) 3 (by decide +kernel) rfl rfl ?_
  refine zx_callV (pc := 43) (As := [.int (zJ v2), .int (zJ v3)]) h zi_X7_fillEulerProduct zii_X7_fillEulerProduct zie_X7_fillEulerProduct zl_7_81 (by decide +kernel) ⟨Nat.le_of_ble_eq_true rfl, Nat.le_of_ble_eq_true rfl⟩ rfl zc_69 (by decide) rfl rfl ⟨rfl, rfl⟩ ⟨Nat.zero_le _, Nat.zero_le _⟩ (zkv (fun μ4 h => ?_))
  refine zw_aload_n (pc := 46) (n := 0) (i := 0) 0 (by decide +kernel) rfl rfl ?_
  refine zx_getR (pc := 47) (o := 1) (r := 70) zf_7_9 (by decide +kernel) rfl zc_69 rfl (by decide) rfl ?_
  refine zw_aload_n (pc := 50) (n := 0) (i := 0) 0 (by decide +kernel) rfl rfl ?_
  refine zx_getR (pc := 51) (o := 1) (r := 70) zf_7_9 (by decide +kernel) rfl zc_69 rfl (by decide) rfl ?_
  refine zw_aload_n (pc := 54) (n := 0) (i := 0) 0 (by decide +kernel) rfl rfl ?_
  refine zx_getR (pc := 55) (o := 2) (r := 71) zf_7_15 (by decide +kernel) rfl zc_69 rfl (by decide) rfl ?_
  refine zw_iload_n (pc := 58) (n := 2) (i := 2) 2 (by decide +kernel) rfl rfl ?_
  refine zw_iload_n (pc := 59) (n := 3) (i := 3) 3 (by decide +kernel) rfl rfl ?_
  refine zx_callSN (pc := 60) (As := [.ref 70, .ref 70, .ref 71, .int (zJ v2), .int (zJ v3)]) h zi_X10_multiply zis_X10_multiply zn_7_57 (by decide +kernel) ⟨Nat.le_of_ble_eq_true rfl, Nat.le_of_ble_eq_true rfl⟩ rfl rfl ⟨rfl, rfl⟩ ⟨Nat.zero_le _, Nat.zero_le _⟩ (zkv (fun μ5 h => ?_))
  refine zw_aload_n (pc := 63) (n := 0) (i := 0) 0 (by decide +kernel) rfl rfl ?_
  refine zx_getR (pc := 64) (o := 2) (r := 71) zf_7_15 (by decide +kernel) rfl zc_69 rfl (by decide) rfl ?_
  refine zw_aload_n (pc := 67) (n := 0) (i := 0) 0 (by decide +kernel) rfl rfl ?_
  refine zx_getR (pc := 68) (o := 1) (r := 70) zf_7_9 (by decide +kernel) rfl zc_69 rfl (by decide) rfl ?_
  refine zw_aload_n (pc := 71) (n := 0) (i := 0) 0 (by decide +kernel) rfl rfl ?_
  refine zx_getR (pc := 72) (o := 4) (r := 73) zf_7_21 (by decide +kernel) rfl zc_69 rfl (by decide) rfl ?_
  refine zw_iload_n (pc := 75) (n := 2) (i := 2) 2 (by decide +kernel) rfl rfl ?_
  refine zw_iload_n (pc := 76) (n := 3) (i := 3) 3 (by decide +kernel) rfl rfl ?_
  refine zx_callSN (pc := 77) (As := [.ref 71, .ref 70, .ref 73, .int (zJ v2), .int (zJ v3)]) h zi_X10_multiply zis_X10_multiply zn_7_57 (by decide +kernel) ⟨Nat.le_of_ble_eq_true rfl, Nat.le_of_ble_eq_true rfl⟩ rfl rfl ⟨rfl, rfl⟩ ⟨Nat.zero_le _, Nat.zero_le _⟩ (zkv (fun μ6 h => ?_))
  refine zw_aload_n (pc := 80) (n := 0) (i := 0) 0 (by decide +kernel) rfl rfl ?_
  refine zx_getR (pc := 81) (o := 4) (r := 73) zf_7_21 (by decide +kernel) rfl zc_69 rfl (by decide) rfl ?_
  refine zw_aload_n (pc := 84) (n := 0) (i := 0) 0 (by decide +kernel) rfl rfl ?_
  refine zx_getR (pc := 85) (o := 4) (r := 73) zf_7_21 (by decide +kernel) rfl zc_69 rfl (by decide) rfl ?_
  refine zw_aload_n (pc := 88) (n := 0) (i := 0) 0 (by decide +kernel) rfl rfl ?_
  refine zx_getR (pc := 89) (o := 1) (r := 70) zf_7_9 (by decide +kernel) rfl zc_69 rfl (by decide) rfl ?_
  refine zw_iload_n (pc := 92) (n := 2) (i := 2) 2 (by decide +kernel) rfl rfl ?_
  refine zw_iload_n (pc := 93) (n := 3) (i := 3) 3 (by decide +kernel) rfl rfl ?_
  refine zx_callSN (pc := 94) (As := [.ref 73, .ref 73, .ref 70, .int (zJ v2), .int (zJ v3)]) h zi_X10_multiply zis_X10_multiply zn_7_57 (by decide +kernel) ⟨Nat.le_of_ble_eq_true rfl, Nat.le_of_ble_eq_true rfl⟩ rfl rfl ⟨rfl, rfl⟩ ⟨Nat.zero_le _, Nat.zero_le _⟩ (zkv (fun μ7 h => ?_))
  refine zw_aload_n (pc := 97) (n := 0) (i := 0) 0 (by decide +kernel) rfl rfl ?_
  refine zx_getR (pc := 98) (o := 1) (r := 70) zf_7_9 (by decide +kernel) rfl zc_69 rfl (by decide) rfl ?_
  refine zw_aload_n (pc := 101) (n := 0) (i := 0) 0 (by decide +kernel) rfl rfl ?_
  refine zx_getR (pc := 102) (o := 1) (r := 70) zf_7_9 (by decide +kernel) rfl zc_69 rfl (by decide) rfl ?_
  refine zw_aload_n (pc := 105) (n := 0) (i := 0) 0 (by decide +kernel) rfl rfl ?_
  refine zx_getR (pc := 106) (o := 2) (r := 71) zf_7_15 (by decide +kernel) rfl zc_69 rfl (by decide) rfl ?_
  refine zw_iload_n (pc := 109) (n := 2) (i := 2) 2 (by decide +kernel) rfl rfl ?_
  refine zw_iload_n (pc := 110) (n := 3) (i := 3) 3 (by decide +kernel) rfl rfl ?_
  refine zx_callSN (pc := 111) (As := [.ref 70, .ref 70, .ref 71, .int (zJ v2), .int (zJ v3)]) h zi_X10_multiply zis_X10_multiply zn_7_57 (by decide +kernel) ⟨Nat.le_of_ble_eq_true rfl, Nat.le_of_ble_eq_true rfl⟩ rfl rfl ⟨rfl, rfl⟩ ⟨Nat.zero_le _, Nat.zero_le _⟩ (zkv (fun μ8 h => ?_))
  refine zw_aload_n (pc := 114) (n := 0) (i := 0) 0 (by decide +kernel) rfl rfl ?_
  refine zx_getR (pc := 115) (o := 2) (r := 71) zf_7_15 (by decide +kernel) rfl zc_69 rfl (by decide) rfl ?_
  refine zw_aload_n (pc := 118) (n := 0) (i := 0) 0 (by decide +kernel) rfl rfl ?_
  refine zx_getR (pc := 119) (o := 2) (r := 71) zf_7_15 (by decide +kernel) rfl zc_69 rfl (by decide) rfl ?_
  refine zw_aload_n (pc := 122) (n := 0) (i := 0) 0 (by decide +kernel) rfl rfl ?_
  refine zx_getR (pc := 123) (o := 4) (r := 73) zf_7_21 (by decide +kernel) rfl zc_69 rfl (by decide) rfl ?_
  refine zw_iload_n (pc := 126) (n := 2) (i := 2) 2 (by decide +kernel) rfl rfl ?_
  refine zw_iload_n (pc := 127) (n := 3) (i := 3) 3 (by decide +kernel) rfl rfl ?_
  refine zx_callSN (pc := 128) (As := [.ref 71, .ref 71, .ref 73, .int (zJ v2), .int (zJ v3)]) h zi_X10_multiply zis_X10_multiply zn_7_57 (by decide +kernel) ⟨Nat.le_of_ble_eq_true rfl, Nat.le_of_ble_eq_true rfl⟩ rfl rfl ⟨rfl, rfl⟩ ⟨Nat.zero_le _, Nat.zero_le _⟩ (zkv (fun μ9 h => ?_))
  refine zw_aload_n (pc := 131) (n := 0) (i := 0) 0 (by decide +kernel) rfl rfl ?_
  refine zx_getR (pc := 132) (o := 4) (r := 73) zf_7_21 (by decide +kernel) rfl zc_69 rfl (by decide) rfl ?_
  refine zw_aload_n (pc := 135) (n := 0) (i := 0) 0 (by decide +kernel) rfl rfl ?_
  refine zx_getR (pc := 136) (o := 2) (r := 71) zf_7_15 (by decide +kernel) rfl zc_69 rfl (by decide) rfl ?_
  refine zw_iload_n (pc := 139) (n := 2) (i := 2) 2 (by decide +kernel) rfl rfl ?_
  refine zw_iload_n (pc := 140) (n := 3) (i := 3) 3 (by decide +kernel) rfl rfl ?_
  refine zx_callS (pc := 141) (As := [.ref 73, .ref 71, .int (zJ v2), .int (zJ v3)]) h zi_X7_invert zis_X7_invert zl_7_67 (by decide +kernel) ⟨Nat.le_of_ble_eq_true rfl, Nat.le_of_ble_eq_true rfl⟩ rfl rfl ⟨rfl, rfl⟩ ⟨Nat.zero_le _, Nat.zero_le _⟩ (zkv (fun μ10 h => ?_))
  refine zw_aload_n (pc := 144) (n := 0) (i := 0) 0 (by decide +kernel) rfl rfl ?_
  refine zx_getR (pc := 145) (o := 3) (r := 72) zf_7_18 (by decide +kernel) rfl zc_69 rfl (by decide) rfl ?_
  refine zw_aload_n (pc := 148) (n := 0) (i := 0) 0 (by decide +kernel) rfl rfl ?_
  refine zx_getR (pc := 149) (o := 2) (r := 71) zf_7_15 (by decide +kernel) rfl zc_69 rfl (by decide) rfl ?_
  refine zw_aload_n (pc := 152) (n := 0) (i := 0) 0 (by decide +kernel) rfl rfl ?_
  refine zx_getR (pc := 153) (o := 1) (r := 70) zf_7_9 (by decide +kernel) rfl zc_69 rfl (by decide) rfl ?_
  refine zw_iload_n (pc := 156) (n := 2) (i := 2) 2 (by decide +kernel) rfl rfl ?_
  refine zw_iload_n (pc := 157) (n := 3) (i := 3) 3 (by decide +kernel) rfl rfl ?_
  refine zx_callSN (pc := 158) (As := [.ref 72, .ref 71, .ref 70, .int (zJ v2), .int (zJ v3)]) h zi_X10_multiply zis_X10_multiply zn_7_57 (by decide +kernel) ⟨Nat.le_of_ble_eq_true rfl, Nat.le_of_ble_eq_true rfl⟩ rfl rfl ⟨rfl, rfl⟩ ⟨Nat.zero_le _, Nat.zero_le _⟩ (zkv (fun μ11 h => ?_))
  refine zw_aload_n (pc := 161) (n := 1) (i := 1) 1 (by decide +kernel) rfl rfl ?_
  refine zw_iconst (pc := 162) (n := (-1)) (by decide +kernel) ?_
  refine zw_iload_n (pc := 163) (n := 2) (i := 2) 2 (by decide +kernel) rfl rfl ?_
  refine zw_aload_n (pc := 164) (n := 0) (i := 0) 0 (by decide +kernel) rfl rfl ?_
  refine zx_getR (pc := 165) (o := 1) (r := 70) zf_7_9 (by decide +kernel) rfl zc_69 rfl (by decide) rfl ?_
  refine zx_callV (pc := 168) (As := [.int (zJ (-1)), .int (zJ v2), .ref 70]) h zi_X6_become zii_X6_become zie_X6_become zl_7_30 (by decide +kernel) ⟨Nat.le_of_ble_eq_true rfl, Nat.le_of_ble_eq_true rfl⟩ rfl h_v1 (by decide) rfl rfl ⟨rfl, rfl⟩ ⟨Nat.zero_le _, Nat.zero_le _⟩ (zkv (fun μ12 h => ?_))
  exact zw_vret (pc := 171) (by decide +kernel) rfl (Nat.le_refl _) (Nat.le_refl _) ⟨_, rfl, rfl, h⟩
abbrev at_X7_fillEisenstein_10 (g : zG) (φ : zMu → Prop) (v1 : Int) (v2 : Int) (v3 : Int) (μ : zMu) : Prop := zWP g zm_X7_fillEisenstein (zmo g zm_X7_fillEisenstein (zΦv φ)) 10 [(0, .ref 69), (1, .int (zJ v1)), (2, .int (zJ v2)), (3, .int (zJ v3))] [] 0 0 (zw μ)
abbrev at_X7_fillEisenstein_31 (g : zG) (φ : zMu → Prop) (v1 : Int) (v2 : Int) (v3 : Int) (v4 : Int) (v5 : Int) (μ : zMu) : Prop := zWP g zm_X7_fillEisenstein (zmo g zm_X7_fillEisenstein (zΦv φ)) 31 [(0, .ref 69), (1, .int (zJ v1)), (2, .int (zJ v2)), (3, .int (zJ v3)), (4, .int (zJ v4)), (5, .int (zJ v5))] [] 0 0 (zw μ)
theorem sg_X7_fillEisenstein {g : zG} {φ : zMu → Prop} {v1 : Int} {v2 : Int} {μ : zMu}
    (h : zOv g zm_J7_fill_53178 [.ref 70, .int (zJ 0)] μ (fun μ1 => at_X7_fillEisenstein_10 g φ v1 v2 1 μ1)) : zOv g zm_X7_fillEisenstein [.ref 69, .int (zJ v1), .int (zJ v2)] μ φ := by
  refine zok_ofF (by decide +kernel) rfl ?_
  show zWP g zm_X7_fillEisenstein (zmo g zm_X7_fillEisenstein (zΦv φ)) 0 [(0, .ref 69), (1, .int (zJ v1)), (2, .int (zJ v2))] [] 0 0 (zw μ)
  refine zw_aload_n (pc := 0) (n := 0) (i := 0) 0 (by decide +kernel) rfl rfl ?_
  refine zx_getR (pc := 1) (o := 1) (r := 70) zf_7_9 (by decide +kernel) rfl zc_69 rfl (by decide) rfl ?_
  refine zw_iconst (pc := 4) (n := 0) (by decide +kernel) ?_
  refine zx_callS (pc := 5) (As := [.ref 70, .int (zJ 0)]) h zi_J7_fill_53178 zis_J7_fill_53178 zl_7_61 (by decide +kernel) ⟨Nat.le_of_ble_eq_true rfl, Nat.le_of_ble_eq_true rfl⟩ rfl rfl ⟨rfl, rfl⟩ ⟨Nat.zero_le _, Nat.zero_le _⟩ (zkv (fun μ1 h => ?_))
  refine zw_iconst (pc := 8) (n := 1) (by decide +kernel) ?_
  refine zw_istore_n (pc := 9) (n := 3) (i := 3) (lv' := [(0, .ref 69), (1, .int (zJ v1)), (2, .int (zJ v2)), (3, .int (zJ 1))]) (by decide +kernel) rfl (Nat.le_of_ble_eq_true rfl) rfl ?_
  exact h
theorem sg_X7_fillEisenstein_10 {g : zG} {φ : zMu → Prop} {v1 : Int} {v2 : Int} {v3 : Int} {μ : zMu}
    (h : (zR v3) ∧ (zR v1) ∧ ((v1 ≤ v3 → φ (zup μ 70 0 1)) ∧ (v3 < v1 → (zR (((240 * v3) * v3) * v3)) ∧ (zR v2) ∧ (v2 ≠ 0) ∧ at_X7_fillEisenstein_31 g φ v1 v2 v3 ((((240 * v3) * v3) * v3).tmod v2) v3 μ))) : at_X7_fillEisenstein_10 g φ v1 v2 v3 μ := by
  obtain ⟨o1, o2, h⟩ := h
  refine zw_iload_n (pc := 10) (n := 3) (i := 3) 3 (by decide +kernel) rfl rfl ?_
  refine zw_iload_n (pc := 11) (n := 1) (i := 1) 1 (by decide +kernel) rfl rfl ?_
  refine zw_icmp_ge (pc := 12) (off := 59) (tgt := 71) (by decide +kernel) (by decide) o1 o2 (fun hc => ?_) (fun hc => ?_)
  · replace h := h.1 hc
    refine zw_aload_n (pc := 71) (n := 0) (i := 0) 0 (by decide +kernel) rfl rfl ?_
    refine zx_getR (pc := 72) (o := 1) (r := 70) zf_7_9 (by decide +kernel) rfl zc_69 rfl (by decide) rfl ?_
    refine zw_iconst (pc := 75) (n := 0) (by decide +kernel) ?_
    refine zw_iconst (pc := 76) (n := 1) (by decide +kernel) ?_
    refine zx_iastore (pc := 77) (by decide +kernel) ⟨80, zc_70, by decide, by decide⟩ ?_
    exact zw_vret (pc := 78) (by decide +kernel) rfl (Nat.le_refl _) (Nat.le_refl _) ⟨_, rfl, rfl, h⟩
  · replace h := h.2 hc
    obtain ⟨o3, o4, o5, h⟩ := h
    refine zw_sipush (pc := 15) (n := 240) (by decide +kernel) (by decide +kernel) ?_
    refine zw_iload_n (pc := 18) (n := 3) (i := 3) 3 (by decide +kernel) rfl rfl ?_
    refine zw_imul (pc := 19) (by decide +kernel) ?_
    refine zw_iload_n (pc := 20) (n := 3) (i := 3) 3 (by decide +kernel) rfl rfl ?_
    refine zw_imul (pc := 21) (by decide +kernel) ?_
    refine zw_iload_n (pc := 22) (n := 3) (i := 3) 3 (by decide +kernel) rfl rfl ?_
    refine zw_imul (pc := 23) (by decide +kernel) ?_
    refine zw_iload_n (pc := 24) (n := 2) (i := 2) 2 (by decide +kernel) rfl rfl ?_
    refine zw_irem (pc := 25) (by decide +kernel) o3 o4 o5 ?_
    refine zw_istore (pc := 26) (i := 4) (lv' := [(0, .ref 69), (1, .int (zJ v1)), (2, .int (zJ v2)), (3, .int (zJ v3)), (4, .int (zJ ((((240 * v3) * v3) * v3).tmod v2)))]) (by decide +kernel) (Nat.le_of_ble_eq_true rfl) rfl ?_
    refine zw_iload_n (pc := 28) (n := 3) (i := 3) 3 (by decide +kernel) rfl rfl ?_
    refine zw_istore (pc := 29) (i := 5) (lv' := [(0, .ref 69), (1, .int (zJ v1)), (2, .int (zJ v2)), (3, .int (zJ v3)), (4, .int (zJ ((((240 * v3) * v3) * v3).tmod v2))), (5, .int (zJ v3))]) (by decide +kernel) (Nat.le_of_ble_eq_true rfl) rfl ?_
    exact h
theorem sg_X7_fillEisenstein_31 {g : zG} {φ : zMu → Prop} {v1 : Int} {v2 : Int} {v3 : Int} {v4 : Int} {v5 : Int} {μ : zMu}
    (h : (zR v5) ∧ (zR v1) ∧ ((v1 ≤ v5 → at_X7_fillEisenstein_10 g φ v1 v2 (v3 + 1) μ) ∧ (v5 < v1 → (0 ≤ v5 ∧ v5 < 80) ∧ (zR ((μ 70 v5.toNat) + v4)) ∧ (zR v2) ∧ (v2 ≠ 0) ∧ at_X7_fillEisenstein_31 g φ v1 v2 v3 v4 (v5 + v3) (zup μ 70 v5.toNat (((μ 70 v5.toNat) + v4).tmod v2))))) : at_X7_fillEisenstein_31 g φ v1 v2 v3 v4 v5 μ := by
  obtain ⟨o1, o2, h⟩ := h
  refine zw_iload (pc := 31) (i := 5) 5 (by decide +kernel) rfl ?_
  refine zw_iload_n (pc := 33) (n := 1) (i := 1) 1 (by decide +kernel) rfl rfl ?_
  refine zw_icmp_ge (pc := 34) (off := 31) (tgt := 65) (by decide +kernel) (by decide) o1 o2 (fun hc => ?_) (fun hc => ?_)
  · replace h := h.1 hc
    refine zw_iinc (pc := 65) (i := 3) (n := 1) (lv' := [(0, .ref 69), (1, .int (zJ v1)), (2, .int (zJ v2)), (3, .int (zJ (v3 + 1))), (4, .int (zJ v4)), (5, .int (zJ v5))]) 3 (by decide +kernel) rfl rfl (Nat.le_of_ble_eq_true rfl) rfl ?_
    refine zw_goto (pc := 68) (off := (-58)) (tgt := 10) (by decide +kernel) (by decide) ?_
    exact zw_pick (lv' := [(0, .ref 69), (1, .int (zJ v1)), (2, .int (zJ v2)), (3, .int (zJ (v3 + 1)))]) [0, 1, 2, 3] rfl h
  · replace h := h.2 hc
    obtain ⟨o3, o4, o5, o6, h⟩ := h
    refine zw_aload_n (pc := 37) (n := 0) (i := 0) 0 (by decide +kernel) rfl rfl ?_
    refine zx_getR (pc := 38) (o := 1) (r := 70) zf_7_9 (by decide +kernel) rfl zc_69 rfl (by decide) rfl ?_
    refine zw_iload (pc := 41) (i := 5) 5 (by decide +kernel) rfl ?_
    refine zw_aload_n (pc := 43) (n := 0) (i := 0) 0 (by decide +kernel) rfl rfl ?_
    refine zx_getR (pc := 44) (o := 1) (r := 70) zf_7_9 (by decide +kernel) rfl zc_69 rfl (by decide) rfl ?_
    refine zw_iload (pc := 47) (i := 5) 5 (by decide +kernel) rfl ?_
    refine zx_iaload (pc := 49) (by decide +kernel) ⟨80, zc_70, o3.1, o3.2⟩ ?_
    refine zw_iload (pc := 50) (i := 4) 4 (by decide +kernel) rfl ?_
    refine zw_iadd (pc := 52) (by decide +kernel) ?_
    refine zw_iload_n (pc := 53) (n := 2) (i := 2) 2 (by decide +kernel) rfl rfl ?_
    refine zw_irem (pc := 54) (by decide +kernel) o4 o5 o6 ?_
    refine zx_iastore (pc := 55) (by decide +kernel) ⟨80, zc_70, o3.1, o3.2⟩ ?_
    refine zw_iload (pc := 56) (i := 5) 5 (by decide +kernel) rfl ?_
    refine zw_iload_n (pc := 58) (n := 3) (i := 3) 3 (by decide +kernel) rfl rfl ?_
    refine zw_iadd (pc := 59) (by decide +kernel) ?_
    refine zw_istore (pc := 60) (i := 5) (lv' := [(0, .ref 69), (1, .int (zJ v1)), (2, .int (zJ v2)), (3, .int (zJ v3)), (4, .int (zJ v4)), (5, .int (zJ (v5 + v3)))]) (by decide +kernel) (Nat.le_of_ble_eq_true rfl) rfl ?_
    refine zw_goto (pc := 62) (off := (-31)) (tgt := 31) (by decide +kernel) (by decide) ?_
    exact h
abbrev at_X7_fillEulerProduct_17 (g : zG) (φ : zMu → Prop) (v1 : Int) (v2 : Int) (v3 : Int) (μ : zMu) : Prop := zWP g zm_X7_fillEulerProduct (zmo g zm_X7_fillEulerProduct (zΦv φ)) 17 [(0, .ref 69), (1, .int (zJ v1)), (2, .int (zJ v2)), (3, .int (zJ v3))] [] 0 0 (zw μ)
abbrev at_X7_fillEulerProduct_27 (g : zG) (φ : zMu → Prop) (v1 : Int) (v2 : Int) (v3 : Int) (v4 : Int) (μ : zMu) : Prop := zWP g zm_X7_fillEulerProduct (zmo g zm_X7_fillEulerProduct (zΦv φ)) 27 [(0, .ref 69), (1, .int (zJ v1)), (2, .int (zJ v2)), (3, .int (zJ v3)), (4, .int (zJ v4))] [] 0 0 (zw μ)
theorem sg_X7_fillEulerProduct {g : zG} {φ : zMu → Prop} {v1 : Int} {v2 : Int} {μ : zMu}
    (h : zOv g zm_J7_fill_53178 [.ref 70, .int (zJ 0)] μ (fun μ1 => at_X7_fillEulerProduct_17 g φ v1 v2 1 (zup μ1 70 0 1))) : zOv g zm_X7_fillEulerProduct [.ref 69, .int (zJ v1), .int (zJ v2)] μ φ := by
  refine zok_ofF (by decide +kernel) rfl ?_
  show zWP g zm_X7_fillEulerProduct (zmo g zm_X7_fillEulerProduct (zΦv φ)) 0 [(0, .ref 69), (1, .int (zJ v1)), (2, .int (zJ v2))] [] 0 0 (zw μ)
  refine zw_aload_n (pc := 0) (n := 0) (i := 0) 0 (by decide +kernel) rfl rfl ?_
  refine zx_getR (pc := 1) (o := 1) (r := 70) zf_7_9 (by decide +kernel) rfl zc_69 rfl (by decide) rfl ?_
  refine zw_iconst (pc := 4) (n := 0) (by decide +kernel) ?_
  refine zx_callS (pc := 5) (As := [.ref 70, .int (zJ 0)]) h zi_J7_fill_53178 zis_J7_fill_53178 zl_7_61 (by decide +kernel) ⟨Nat.le_of_ble_eq_true rfl, Nat.le_of_ble_eq_true rfl⟩ rfl rfl ⟨rfl, rfl⟩ ⟨Nat.zero_le _, Nat.zero_le _⟩ (zkv (fun μ1 h => ?_))
  refine zw_aload_n (pc := 8) (n := 0) (i := 0) 0 (by decide +kernel) rfl rfl ?_
  refine zx_getR (pc := 9) (o := 1) (r := 70) zf_7_9 (by decide +kernel) rfl zc_69 rfl (by decide) rfl ?_
  refine zw_iconst (pc := 12) (n := 0) (by decide +kernel) ?_
  refine zw_iconst (pc := 13) (n := 1) (by decide +kernel) ?_
  refine zx_iastore (pc := 14) (by decide +kernel) ⟨80, zc_70, by decide, by decide⟩ ?_
  refine zw_iconst (pc := 15) (n := 1) (by decide +kernel) ?_
  refine zw_istore_n (pc := 16) (n := 3) (i := 3) (lv' := [(0, .ref 69), (1, .int (zJ v1)), (2, .int (zJ v2)), (3, .int (zJ 1))]) (by decide +kernel) rfl (Nat.le_of_ble_eq_true rfl) rfl ?_
  exact h
theorem sg_X7_fillEulerProduct_17 {g : zG} {φ : zMu → Prop} {v1 : Int} {v2 : Int} {v3 : Int} {μ : zMu}
    (h : (zR v3) ∧ (zR v1) ∧ ((v1 ≤ v3 → φ μ) ∧ (v3 < v1 → at_X7_fillEulerProduct_27 g φ v1 v2 v3 (v1 - 1) μ))) : at_X7_fillEulerProduct_17 g φ v1 v2 v3 μ := by
  obtain ⟨o1, o2, h⟩ := h
  refine zw_iload_n (pc := 17) (n := 3) (i := 3) 3 (by decide +kernel) rfl rfl ?_
  refine zw_iload_n (pc := 18) (n := 1) (i := 1) 1 (by decide +kernel) rfl rfl ?_
  refine zw_icmp_ge (pc := 19) (off := 54) (tgt := 73) (by decide +kernel) (by decide) o1 o2 (fun hc => ?_) (fun hc => ?_)
  · replace h := h.1 hc
    exact zw_vret (pc := 73) (by decide +kernel) rfl (Nat.le_refl _) (Nat.le_refl _) ⟨_, rfl, rfl, h⟩
  · replace h := h.2 hc
    refine zw_iload_n (pc := 22) (n := 1) (i := 1) 1 (by decide +kernel) rfl rfl ?_
    refine zw_iconst (pc := 23) (n := 1) (by decide +kernel) ?_
    refine zw_isub (pc := 24) (by decide +kernel) ?_
    refine zw_istore (pc := 25) (i := 4) (lv' := [(0, .ref 69), (1, .int (zJ v1)), (2, .int (zJ v2)), (3, .int (zJ v3)), (4, .int (zJ (v1 - 1)))]) (by decide +kernel) (Nat.le_of_ble_eq_true rfl) rfl ?_
    exact h
theorem sg_X7_fillEulerProduct_27 {g : zG} {φ : zMu → Prop} {v1 : Int} {v2 : Int} {v3 : Int} {v4 : Int} {μ : zMu}
    (h : (zR v4) ∧ (zR v3) ∧ ((v4 < v3 → at_X7_fillEulerProduct_17 g φ v1 v2 (v3 + 1) μ) ∧ (v3 ≤ v4 → (0 ≤ v4 ∧ v4 < 80) ∧ (0 ≤ (v4 - v3) ∧ (v4 - v3) < 80) ∧ (zR (((μ 70 v4.toNat) + v2) - (μ 70 (Int.toNat (v4 - v3))))) ∧ (zR v2) ∧ (v2 ≠ 0) ∧ at_X7_fillEulerProduct_27 g φ v1 v2 v3 (v4 + (-1)) (zup μ 70 v4.toNat ((((μ 70 v4.toNat) + v2) - (μ 70 (Int.toNat (v4 - v3)))).tmod v2))))) : at_X7_fillEulerProduct_27 g φ v1 v2 v3 v4 μ := by
  obtain ⟨o1, o2, h⟩ := h
  refine zw_iload (pc := 27) (i := 4) 4 (by decide +kernel) rfl ?_
  refine zw_iload_n (pc := 29) (n := 3) (i := 3) 3 (by decide +kernel) rfl rfl ?_
  refine zw_icmp_lt (pc := 30) (off := 37) (tgt := 67) (by decide +kernel) (by decide) o1 o2 (fun hc => ?_) (fun hc => ?_)
  · replace h := h.1 hc
    refine zw_iinc (pc := 67) (i := 3) (n := 1) (lv' := [(0, .ref 69), (1, .int (zJ v1)), (2, .int (zJ v2)), (3, .int (zJ (v3 + 1))), (4, .int (zJ v4))]) 3 (by decide +kernel) rfl rfl (Nat.le_of_ble_eq_true rfl) rfl ?_
    refine zw_goto (pc := 70) (off := (-53)) (tgt := 17) (by decide +kernel) (by decide) ?_
    exact zw_pick (lv' := [(0, .ref 69), (1, .int (zJ v1)), (2, .int (zJ v2)), (3, .int (zJ (v3 + 1)))]) [0, 1, 2, 3] rfl h
  · replace h := h.2 hc
    obtain ⟨o3, o4, o5, o6, o7, h⟩ := h
    refine zw_aload_n (pc := 33) (n := 0) (i := 0) 0 (by decide +kernel) rfl rfl ?_
    refine zx_getR (pc := 34) (o := 1) (r := 70) zf_7_9 (by decide +kernel) rfl zc_69 rfl (by decide) rfl ?_
    refine zw_iload (pc := 37) (i := 4) 4 (by decide +kernel) rfl ?_
    refine zw_aload_n (pc := 39) (n := 0) (i := 0) 0 (by decide +kernel) rfl rfl ?_
    refine zx_getR (pc := 40) (o := 1) (r := 70) zf_7_9 (by decide +kernel) rfl zc_69 rfl (by decide) rfl ?_
    refine zw_iload (pc := 43) (i := 4) 4 (by decide +kernel) rfl ?_
    refine zx_iaload (pc := 45) (by decide +kernel) ⟨80, zc_70, o3.1, o3.2⟩ ?_
    refine zw_iload_n (pc := 46) (n := 2) (i := 2) 2 (by decide +kernel) rfl rfl ?_
    refine zw_iadd (pc := 47) (by decide +kernel) ?_
    refine zw_aload_n (pc := 48) (n := 0) (i := 0) 0 (by decide +kernel) rfl rfl ?_
    refine zx_getR (pc := 49) (o := 1) (r := 70) zf_7_9 (by decide +kernel) rfl zc_69 rfl (by decide) rfl ?_
    refine zw_iload (pc := 52) (i := 4) 4 (by decide +kernel) rfl ?_
    refine zw_iload_n (pc := 54) (n := 3) (i := 3) 3 (by decide +kernel) rfl rfl ?_
    refine zw_isub (pc := 55) (by decide +kernel) ?_
    refine zx_iaload (pc := 56) (by decide +kernel) ⟨80, zc_70, o4.1, o4.2⟩ ?_
    refine zw_isub (pc := 57) (by decide +kernel) ?_
    refine zw_iload_n (pc := 58) (n := 2) (i := 2) 2 (by decide +kernel) rfl rfl ?_
    refine zw_irem (pc := 59) (by decide +kernel) o5 o6 o7 ?_
    refine zx_iastore (pc := 60) (by decide +kernel) ⟨80, zc_70, o3.1, o3.2⟩ ?_
    refine zw_iinc (pc := 61) (i := 4) (n := (-1)) (lv' := [(0, .ref 69), (1, .int (zJ v1)), (2, .int (zJ v2)), (3, .int (zJ v3)), (4, .int (zJ (v4 + (-1))))]) 4 (by decide +kernel) rfl rfl (Nat.le_of_ble_eq_true rfl) rfl ?_
    refine zw_goto (pc := 64) (off := (-37)) (tgt := 27) (by decide +kernel) (by decide) ?_
    exact h
abbrev at_X7_invert_17 (g : zG) (φ : zMu → Prop) (v0 : Nat) (v1 : Nat) (v2 : Int) (v3 : Int) (v4 : Int) (v5 : Int) (μ : zMu) : Prop := zWP g zm_X7_invert (zmo g zm_X7_invert (zΦv φ)) 17 [(0, .ref v0), (1, .ref v1), (2, .int (zJ v2)), (3, .int (zJ v3)), (4, .int (zJ v4)), (5, .int (zJ v5))] [] 0 0 (zw μ)
abbrev at_X7_invert_29 (g : zG) (φ : zMu → Prop) (v0 : Nat) (v1 : Nat) (v2 : Int) (v3 : Int) (v4 : Int) (v5 : Int) (v6 : Int) (v7 : Int) (μ : zMu) : Prop := zWP g zm_X7_invert (zmo g zm_X7_invert (zΦv φ)) 29 [(0, .ref v0), (1, .ref v1), (2, .int (zJ v2)), (3, .int (zJ v3)), (4, .int (zJ v4)), (5, .int (zJ v5)), (6, .int (zJ v6)), (7, .int (zJ v7))] [] 0 0 (zw μ)
theorem sg_X7_invert {g : zG} {φ : zMu → Prop} {v0 : Nat} {v1 : Nat} {v2 : Int} {v3 : Int} {μ : zMu}
    (h : (zIx v0 0) ∧ zOi g zm_X10_inverse [.int (zJ (μ v0 0)), .int (zJ v3)] μ (fun x3 μ2 => (zIx v1 0) ∧ at_X7_invert_17 g φ v0 v1 v2 v3 x3 1 (zup μ2 v1 0 x3))) : zOv g zm_X7_invert [.ref v0, .ref v1, .int (zJ v2), .int (zJ v3)] μ φ := by
  refine zok_ofF (by decide +kernel) rfl ?_
  show zWP g zm_X7_invert (zmo g zm_X7_invert (zΦv φ)) 0 [(0, .ref v0), (1, .ref v1), (2, .int (zJ v2)), (3, .int (zJ v3))] [] 0 0 (zw μ)
  obtain ⟨o1, h⟩ := h
  refine zw_aload_n (pc := 0) (n := 0) (i := 0) 0 (by decide +kernel) rfl rfl ?_
  refine zw_iconst (pc := 1) (n := 0) (by decide +kernel) ?_
  refine zx_iaload (pc := 2) (by decide +kernel) o1 ?_
  refine zw_iload_n (pc := 3) (n := 3) (i := 3) 3 (by decide +kernel) rfl rfl ?_
  refine zx_callSN (pc := 4) (As := [.int (zJ (μ v0 0)), .int (zJ v3)]) h zi_X10_inverse zis_X10_inverse zn_7_84 (by decide +kernel) ⟨Nat.le_of_ble_eq_true rfl, Nat.le_of_ble_eq_true rfl⟩ rfl rfl ⟨rfl, rfl⟩ ⟨Nat.zero_le _, Nat.zero_le _⟩ (zki (fun x3 μ2 h => ?_))
  obtain ⟨o4, h⟩ := h
  refine zw_istore (pc := 7) (i := 4) (lv' := [(0, .ref v0), (1, .ref v1), (2, .int (zJ v2)), (3, .int (zJ v3)), (4, .int (zJ x3))]) (by decide +kernel) (Nat.le_of_ble_eq_true rfl) rfl ?_
  refine zw_aload_n (pc := 9) (n := 1) (i := 1) 1 (by decide +kernel) rfl rfl ?_
  refine zw_iconst (pc := 10) (n := 0) (by decide +kernel) ?_
  refine zw_iload (pc := 11) (i := 4) 4 (by decide +kernel) rfl ?_
  refine zx_iastore (pc := 13) (by decide +kernel) o4 ?_
  refine zw_iconst (pc := 14) (n := 1) (by decide +kernel) ?_
  refine zw_istore (pc := 15) (i := 5) (lv' := [(0, .ref v0), (1, .ref v1), (2, .int (zJ v2)), (3, .int (zJ v3)), (4, .int (zJ x3)), (5, .int (zJ 1))]) (by decide +kernel) (Nat.le_of_ble_eq_true rfl) rfl ?_
  exact h
theorem sg_X7_invert_17 {g : zG} {φ : zMu → Prop} {v0 : Nat} {v1 : Nat} {v2 : Int} {v3 : Int} {v4 : Int} {v5 : Int} {μ : zMu}
    (h : (zR v5) ∧ (zR v2) ∧ ((v2 ≤ v5 → φ μ) ∧ (v5 < v2 → at_X7_invert_29 g φ v0 v1 v2 v3 v4 v5 0 1 μ))) : at_X7_invert_17 g φ v0 v1 v2 v3 v4 v5 μ := by
  obtain ⟨o1, o2, h⟩ := h
  refine zw_iload (pc := 17) (i := 5) 5 (by decide +kernel) rfl ?_
  refine zw_iload_n (pc := 19) (n := 2) (i := 2) 2 (by decide +kernel) rfl rfl ?_
  refine zw_icmp_ge (pc := 20) (off := 60) (tgt := 80) (by decide +kernel) (by decide) o1 o2 (fun hc => ?_) (fun hc => ?_)
  · replace h := h.1 hc
    exact zw_vret (pc := 80) (by decide +kernel) rfl (Nat.le_refl _) (Nat.le_refl _) ⟨_, rfl, rfl, h⟩
  · replace h := h.2 hc
    refine zw_iconst (pc := 23) (n := 0) (by decide +kernel) ?_
    refine zw_istore (pc := 24) (i := 6) (lv' := [(0, .ref v0), (1, .ref v1), (2, .int (zJ v2)), (3, .int (zJ v3)), (4, .int (zJ v4)), (5, .int (zJ v5)), (6, .int (zJ 0))]) (by decide +kernel) (Nat.le_of_ble_eq_true rfl) rfl ?_
    refine zw_iconst (pc := 26) (n := 1) (by decide +kernel) ?_
    refine zw_istore (pc := 27) (i := 7) (lv' := [(0, .ref v0), (1, .ref v1), (2, .int (zJ v2)), (3, .int (zJ v3)), (4, .int (zJ v4)), (5, .int (zJ v5)), (6, .int (zJ 0)), (7, .int (zJ 1))]) (by decide +kernel) (Nat.le_of_ble_eq_true rfl) rfl ?_
    exact h
theorem sg_X7_invert_29 {g : zG} {φ : zMu → Prop} {v0 : Nat} {v1 : Nat} {v2 : Int} {v3 : Int} {v4 : Int} {v5 : Int} {v6 : Int} {v7 : Int} {μ : zMu}
    (h : (zR v7) ∧ (zR v5) ∧ ((v5 < v7 → (zR v6) ∧ (zR v3) ∧ (v3 ≠ 0) ∧ (zR ((v3 - (v6.tmod v3)) * v4)) ∧ (zIx v1 v5) ∧ at_X7_invert_17 g φ v0 v1 v2 v3 v4 (v5 + 1) (zup μ v1 v5.toNat (((v3 - (v6.tmod v3)) * v4).tmod v3))) ∧ (v7 ≤ v5 → (zIx v0 v7) ∧ (zIx v1 (v5 - v7)) ∧ at_X7_invert_29 g φ v0 v1 v2 v3 v4 v5 (v6 + ((μ v0 v7.toNat) * (μ v1 (Int.toNat (v5 - v7))))) (v7 + 1) μ))) : at_X7_invert_29 g φ v0 v1 v2 v3 v4 v5 v6 v7 μ := by
  obtain ⟨o1, o2, h⟩ := h
  refine zw_iload (pc := 29) (i := 7) 7 (by decide +kernel) rfl ?_
  refine zw_iload (pc := 31) (i := 5) 5 (by decide +kernel) rfl ?_
  refine zw_icmp_gt (pc := 33) (off := 26) (tgt := 59) (by decide +kernel) (by decide) o1 o2 (fun hc => ?_) (fun hc => ?_)
  · replace h := h.1 hc
    obtain ⟨o3, o4, o5, o6, o7, h⟩ := h
    refine zw_aload_n (pc := 59) (n := 1) (i := 1) 1 (by decide +kernel) rfl rfl ?_
    refine zw_iload (pc := 60) (i := 5) 5 (by decide +kernel) rfl ?_
    refine zw_iload_n (pc := 62) (n := 3) (i := 3) 3 (by decide +kernel) rfl rfl ?_
    refine zw_iload (pc := 63) (i := 6) 6 (by decide +kernel) rfl ?_
    refine zw_iload_n (pc := 65) (n := 3) (i := 3) 3 (by decide +kernel) rfl rfl ?_
    refine zw_irem (pc := 66) (by decide +kernel) o3 o4 o5 ?_
    refine zw_isub (pc := 67) (by decide +kernel) ?_
    refine zw_iload (pc := 68) (i := 4) 4 (by decide +kernel) rfl ?_
    refine zw_imul (pc := 70) (by decide +kernel) ?_
    refine zw_iload_n (pc := 71) (n := 3) (i := 3) 3 (by decide +kernel) rfl rfl ?_
    refine zw_irem (pc := 72) (by decide +kernel) o6 o4 o5 ?_
    refine zx_iastore (pc := 73) (by decide +kernel) o7 ?_
    refine zw_iinc (pc := 74) (i := 5) (n := 1) (lv' := [(0, .ref v0), (1, .ref v1), (2, .int (zJ v2)), (3, .int (zJ v3)), (4, .int (zJ v4)), (5, .int (zJ (v5 + 1))), (6, .int (zJ v6)), (7, .int (zJ v7))]) 5 (by decide +kernel) rfl rfl (Nat.le_of_ble_eq_true rfl) rfl ?_
    refine zw_goto (pc := 77) (off := (-60)) (tgt := 17) (by decide +kernel) (by decide) ?_
    exact zw_pick (lv' := [(0, .ref v0), (1, .ref v1), (2, .int (zJ v2)), (3, .int (zJ v3)), (4, .int (zJ v4)), (5, .int (zJ (v5 + 1)))]) [0, 1, 2, 3, 4, 5] rfl h
  · replace h := h.2 hc
    obtain ⟨o8, o9, h⟩ := h
    refine zw_iload (pc := 36) (i := 6) 6 (by decide +kernel) rfl ?_
    refine zw_aload_n (pc := 38) (n := 0) (i := 0) 0 (by decide +kernel) rfl rfl ?_
    refine zw_iload (pc := 39) (i := 7) 7 (by decide +kernel) rfl ?_
    refine zx_iaload (pc := 41) (by decide +kernel) o8 ?_
    refine zw_aload_n (pc := 42) (n := 1) (i := 1) 1 (by decide +kernel) rfl rfl ?_
    refine zw_iload (pc := 43) (i := 5) 5 (by decide +kernel) rfl ?_
    refine zw_iload (pc := 45) (i := 7) 7 (by decide +kernel) rfl ?_
    refine zw_isub (pc := 47) (by decide +kernel) ?_
    refine zx_iaload (pc := 48) (by decide +kernel) o9 ?_
    refine zw_imul (pc := 49) (by decide +kernel) ?_
    refine zw_iadd (pc := 50) (by decide +kernel) ?_
    refine zw_istore (pc := 51) (i := 6) (lv' := [(0, .ref v0), (1, .ref v1), (2, .int (zJ v2)), (3, .int (zJ v3)), (4, .int (zJ v4)), (5, .int (zJ v5)), (6, .int (zJ (v6 + ((μ v0 v7.toNat) * (μ v1 (Int.toNat (v5 - v7))))))), (7, .int (zJ v7))]) (by decide +kernel) (Nat.le_of_ble_eq_true rfl) rfl ?_
    refine zw_iinc (pc := 53) (i := 7) (n := 1) (lv' := [(0, .ref v0), (1, .ref v1), (2, .int (zJ v2)), (3, .int (zJ v3)), (4, .int (zJ v4)), (5, .int (zJ v5)), (6, .int (zJ (v6 + ((μ v0 v7.toNat) * (μ v1 (Int.toNat (v5 - v7))))))), (7, .int (zJ (v7 + 1)))]) 7 (by decide +kernel) rfl rfl (Nat.le_of_ble_eq_true rfl) rfl ?_
    refine zw_goto (pc := 56) (off := (-27)) (tgt := 29) (by decide +kernel) (by decide) ?_
    exact h
abbrev at_X7_reduce_3 (g : zG) (φ : zMu → Prop) (v1 : Nat) (v2 : Nat) (v3 : Int) (v4 : Int) (v5 : Int) (v6 : Int) (μ : zMu) : Prop := zWP g zm_X7_reduce (zmo g zm_X7_reduce (zΦv φ)) 3 [(0, .ref 69), (1, .ref v1), (2, .ref v2), (3, .int (zJ v3)), (4, .int (zJ v4)), (5, .int (zJ v5)), (6, .int (zJ v6))] [] 0 0 (zw μ)
theorem sg_X7_reduce {g : zG} {φ : zMu → Prop} {v1 : Nat} {v2 : Nat} {v3 : Int} {v4 : Int} {v5 : Int} {μ : zMu} (h_v2 : zS v2 6 3)
    (h : at_X7_reduce_3 g φ v1 v2 v3 v4 v5 0 μ) : zOv g zm_X7_reduce [.ref 69, .ref v1, .ref v2, .int (zJ v3), .int (zJ v4), .int (zJ v5)] μ φ := by
  refine zok_ofF (by decide +kernel) rfl ?_
  show zWP g zm_X7_reduce (zmo g zm_X7_reduce (zΦv φ)) 0 [(0, .ref 69), (1, .ref v1), (2, .ref v2), (3, .int (zJ v3)), (4, .int (zJ v4)), (5, .int (zJ v5))] [] 0 0 (zw μ)
  refine zw_iconst (pc := 0) (n := 0) (by decide +kernel) ?_
  refine zw_istore (pc := 1) (i := 6) (lv' := [(0, .ref 69), (1, .ref v1), (2, .ref v2), (3, .int (zJ v3)), (4, .int (zJ v4)), (5, .int (zJ v5)), (6, .int (zJ 0))]) (by decide +kernel) (Nat.le_of_ble_eq_true rfl) rfl ?_
  exact h
theorem sg_X7_reduce_3 {g : zG} {φ : zMu → Prop} {v1 : Nat} {v2 : Nat} {v3 : Int} {v4 : Int} {v5 : Int} {v6 : Int} {μ : zMu} (h_v2 : zS v2 6 3)
    (h : (zR v6) ∧ (zR v4) ∧ ((v4 ≤ v6 → zOv g zm_X6_become [.ref v2, .int (zJ v3), .int (zJ v4), .ref 70] μ (fun μ3 => φ μ3)) ∧ (v6 < v4 → (zIx v1 v6) ∧ zOi g zm_J9_floorMod_7cf53 [.int (zJ (μ v1 v6.toNat)), .int (zJ v5)] μ (fun x6 μ5 => (0 ≤ v6 ∧ v6 < 80) ∧ at_X7_reduce_3 g φ v1 v2 v3 v4 v5 (v6 + 1) (zup μ5 70 v6.toNat x6))))) : at_X7_reduce_3 g φ v1 v2 v3 v4 v5 v6 μ := by
  obtain ⟨o1, o2, h⟩ := h
  refine zw_iload (pc := 3) (i := 6) 6 (by decide +kernel) rfl ?_
  refine zw_iload (pc := 5) (i := 4) 4 (by decide +kernel) rfl ?_
  refine zw_icmp_ge (pc := 7) (off := 25) (tgt := 32) (by decide +kernel) (by decide) o1 o2 (fun hc => ?_) (fun hc => ?_)
  · replace h := h.1 hc
    refine zw_aload_n (pc := 32) (n := 2) (i := 2) 2 (by decide +kernel) rfl rfl ?_
    refine zw_iload_n (pc := 33) (n := 3) (i := 3) 3 (by decide +kernel) rfl rfl ?_
    refine zw_iload (pc := 34) (i := 4) 4 (by decide +kernel) rfl ?_
    refine zw_aload_n (pc := 36) (n := 0) (i := 0) 0 (by decide +kernel) rfl rfl ?_
    refine zx_getR (pc := 37) (o := 1) (r := 70) zf_7_9 (by decide +kernel) rfl zc_69 rfl (by decide) rfl ?_
    refine zx_callV (pc := 40) (As := [.int (zJ v3), .int (zJ v4), .ref 70]) h zi_X6_become zii_X6_become zie_X6_become zl_7_30 (by decide +kernel) ⟨Nat.le_of_ble_eq_true rfl, Nat.le_of_ble_eq_true rfl⟩ rfl h_v2 (by decide) rfl rfl ⟨rfl, rfl⟩ ⟨Nat.zero_le _, Nat.zero_le _⟩ (zkv (fun μ3 h => ?_))
    exact zw_vret (pc := 43) (by decide +kernel) rfl (Nat.le_refl _) (Nat.le_refl _) ⟨_, rfl, rfl, h⟩
  · replace h := h.2 hc
    obtain ⟨o4, h⟩ := h
    refine zw_aload_n (pc := 10) (n := 0) (i := 0) 0 (by decide +kernel) rfl rfl ?_
    refine zx_getR (pc := 11) (o := 1) (r := 70) zf_7_9 (by decide +kernel) rfl zc_69 rfl (by decide) rfl ?_
    refine zw_iload (pc := 14) (i := 6) 6 (by decide +kernel) rfl ?_
    refine zw_aload_n (pc := 16) (n := 1) (i := 1) 1 (by decide +kernel) rfl rfl ?_
    refine zw_iload (pc := 17) (i := 6) 6 (by decide +kernel) rfl ?_
    refine zx_iaload (pc := 19) (by decide +kernel) o4 ?_
    refine zw_iload (pc := 20) (i := 5) 5 (by decide +kernel) rfl ?_
    refine zx_callS (pc := 22) (As := [.int (zJ (μ v1 v6.toNat)), .int (zJ v5)]) h zi_J9_floorMod_7cf53 zis_J9_floorMod_7cf53 zl_7_24 (by decide +kernel) ⟨Nat.le_of_ble_eq_true rfl, Nat.le_of_ble_eq_true rfl⟩ rfl rfl ⟨rfl, rfl⟩ ⟨Nat.zero_le _, Nat.zero_le _⟩ (zki (fun x6 μ5 h => ?_))
    obtain ⟨o7, h⟩ := h
    refine zx_iastore (pc := 25) (by decide +kernel) ⟨80, zc_70, o7.1, o7.2⟩ ?_
    refine zw_iinc (pc := 26) (i := 6) (n := 1) (lv' := [(0, .ref 69), (1, .ref v1), (2, .ref v2), (3, .int (zJ v3)), (4, .int (zJ v4)), (5, .int (zJ v5)), (6, .int (zJ (v6 + 1)))]) 6 (by decide +kernel) rfl rfl (Nat.le_of_ble_eq_true rfl) rfl ?_
    refine zw_goto (pc := 29) (off := (-26)) (tgt := 3) (by decide +kernel) (by decide) ?_
    exact h
abbrev at_X7_add_34 (g : zG) (φ : zMu → Prop) (v1 : Nat) (v2 : Nat) (v3 : Nat) (v4 : Int) (v5 : Int) (v6 : Int) (v7 : Int) (μ : zMu) : Prop := zWP g zm_X7_add (zmo g zm_X7_add (zΦv φ)) 34 [(0, .ref 69), (1, .ref v1), (2, .ref v2), (3, .ref v3), (4, .int (zJ v4)), (5, .int (zJ v5)), (6, .int (zJ v6)), (7, .int (zJ v7))] [] 0 0 (zw μ)
theorem sg_X7_add {g : zG} {φ : zMu → Prop} {v1 : Nat} {v2 : Nat} {v3 : Nat} {v4 : Int} {μ : zMu} (h_v1 : zS v1 6 3) (h_v2 : zS v2 6 3) (h_v3 : zS v3 6 3)
    (h : (zR (μ v1 1)) ∧ (zR (μ v2 1)) ∧ zOi g zm_X6_last [.ref v1] μ (fun x4 μ3 => zOi g zm_X6_last [.ref v2] μ3 (fun x6 μ5 => (zR x4) ∧ (zR x6) ∧ at_X7_add_34 g φ v1 v2 v3 v4 (min (μ v1 1) (μ v2 1)) (((min x4 x6) - (min (μ v1 1) (μ v2 1))) + 1) 0 μ5))) : zOv g zm_X7_add [.ref 69, .ref v1, .ref v2, .ref v3, .int (zJ v4)] μ φ := by
  refine zok_ofF (by decide +kernel) rfl ?_
  show zWP g zm_X7_add (zmo g zm_X7_add (zΦv φ)) 0 [(0, .ref 69), (1, .ref v1), (2, .ref v2), (3, .ref v3), (4, .int (zJ v4))] [] 0 0 (zw μ)
  obtain ⟨o1, o2, h⟩ := h
  refine zw_aload_n (pc := 0) (n := 1) (i := 1) 1 (by decide +kernel) rfl rfl ?_
  refine zx_getI (pc := 1) zf_7_36 (by decide +kernel) rfl h_v1 ?_
  refine zw_aload_n (pc := 4) (n := 2) (i := 2) 2 (by decide +kernel) rfl rfl ?_
  refine zx_getI (pc := 5) zf_7_36 (by decide +kernel) rfl h_v2 ?_
  refine zw_min (pc := 8) zl_7_40 zb_minS zb_mathI zb_minC (by decide +kernel) ⟨Nat.le_of_ble_eq_true rfl, Nat.le_of_ble_eq_true rfl⟩ (Nat.zero_le _) (Nat.zero_le _) rfl o1 o2 ?_
  refine zw_istore (pc := 11) (i := 5) (lv' := [(0, .ref 69), (1, .ref v1), (2, .ref v2), (3, .ref v3), (4, .int (zJ v4)), (5, .int (zJ (min (μ v1 1) (μ v2 1))))]) (by decide +kernel) (Nat.le_of_ble_eq_true rfl) rfl ?_
  refine zw_aload_n (pc := 13) (n := 1) (i := 1) 1 (by decide +kernel) rfl rfl ?_
  refine zx_callV (pc := 14) (As := []) h zi_X6_last zii_X6_last zie_X6_last zl_7_43 (by decide +kernel) ⟨Nat.le_of_ble_eq_true rfl, Nat.le_of_ble_eq_true rfl⟩ rfl h_v1 (by decide) rfl rfl ⟨rfl, rfl⟩ ⟨Nat.zero_le _, Nat.zero_le _⟩ (zki (fun x4 μ3 h => ?_))
  refine zw_aload_n (pc := 17) (n := 2) (i := 2) 2 (by decide +kernel) rfl rfl ?_
  refine zx_callV (pc := 18) (As := []) h zi_X6_last zii_X6_last zie_X6_last zl_7_43 (by decide +kernel) ⟨Nat.le_of_ble_eq_true rfl, Nat.le_of_ble_eq_true rfl⟩ rfl h_v2 (by decide) rfl rfl ⟨rfl, rfl⟩ ⟨Nat.zero_le _, Nat.zero_le _⟩ (zki (fun x6 μ5 h => ?_))
  obtain ⟨o7, o8, h⟩ := h
  refine zw_min (pc := 21) zl_7_40 zb_minS zb_mathI zb_minC (by decide +kernel) ⟨Nat.le_of_ble_eq_true rfl, Nat.le_of_ble_eq_true rfl⟩ (Nat.zero_le _) (Nat.zero_le _) rfl o7 o8 ?_
  refine zw_iload (pc := 24) (i := 5) 5 (by decide +kernel) rfl ?_
  refine zw_isub (pc := 26) (by decide +kernel) ?_
  refine zw_iconst (pc := 27) (n := 1) (by decide +kernel) ?_
  refine zw_iadd (pc := 28) (by decide +kernel) ?_
  refine zw_istore (pc := 29) (i := 6) (lv' := [(0, .ref 69), (1, .ref v1), (2, .ref v2), (3, .ref v3), (4, .int (zJ v4)), (5, .int (zJ (min (μ v1 1) (μ v2 1)))), (6, .int (zJ (((min x4 x6) - (min (μ v1 1) (μ v2 1))) + 1)))]) (by decide +kernel) (Nat.le_of_ble_eq_true rfl) rfl ?_
  refine zw_iconst (pc := 31) (n := 0) (by decide +kernel) ?_
  refine zw_istore (pc := 32) (i := 7) (lv' := [(0, .ref 69), (1, .ref v1), (2, .ref v2), (3, .ref v3), (4, .int (zJ v4)), (5, .int (zJ (min (μ v1 1) (μ v2 1)))), (6, .int (zJ (((min x4 x6) - (min (μ v1 1) (μ v2 1))) + 1))), (7, .int (zJ 0))]) (by decide +kernel) (Nat.le_of_ble_eq_true rfl) rfl ?_
  exact h
theorem sg_X7_add_34 {g : zG} {φ : zMu → Prop} {v1 : Nat} {v2 : Nat} {v3 : Nat} {v4 : Int} {v5 : Int} {v6 : Int} {v7 : Int} {μ : zMu} (h_v1 : zS v1 6 3) (h_v2 : zS v2 6 3) (h_v3 : zS v3 6 3)
    (h : (zR v7) ∧ (zR v6) ∧ ((v6 ≤ v7 → zOv g zm_X6_become [.ref v3, .int (zJ v5), .int (zJ v6), .ref 70] μ (fun μ3 => φ μ3)) ∧ (v7 < v6 → zOi g zm_X6_valueOf [.ref v1, .int (zJ (v5 + v7))] μ (fun x5 μ4 => zOi g zm_X6_valueOf [.ref v2, .int (zJ (v5 + v7))] μ4 (fun x7 μ6 => (zR (x5 + x7)) ∧ (zR v4) ∧ (v4 ≠ 0) ∧ (0 ≤ v7 ∧ v7 < 80) ∧ at_X7_add_34 g φ v1 v2 v3 v4 v5 v6 (v7 + 1) (zup μ6 70 v7.toNat ((x5 + x7).tmod v4))))))) : at_X7_add_34 g φ v1 v2 v3 v4 v5 v6 v7 μ := by
  obtain ⟨o1, o2, h⟩ := h
  refine zw_iload (pc := 34) (i := 7) 7 (by decide +kernel) rfl ?_
  refine zw_iload (pc := 36) (i := 6) 6 (by decide +kernel) rfl ?_
  refine zw_icmp_ge (pc := 38) (off := 38) (tgt := 76) (by decide +kernel) (by decide) o1 o2 (fun hc => ?_) (fun hc => ?_)
  · replace h := h.1 hc
    refine zw_aload_n (pc := 76) (n := 3) (i := 3) 3 (by decide +kernel) rfl rfl ?_
    refine zw_iload (pc := 77) (i := 5) 5 (by decide +kernel) rfl ?_
    refine zw_iload (pc := 79) (i := 6) 6 (by decide +kernel) rfl ?_
    refine zw_aload_n (pc := 81) (n := 0) (i := 0) 0 (by decide +kernel) rfl rfl ?_
    refine zx_getR (pc := 82) (o := 1) (r := 70) zf_7_9 (by decide +kernel) rfl zc_69 rfl (by decide) rfl ?_
    refine zx_callV (pc := 85) (As := [.int (zJ v5), .int (zJ v6), .ref 70]) h zi_X6_become zii_X6_become zie_X6_become zl_7_30 (by decide +kernel) ⟨Nat.le_of_ble_eq_true rfl, Nat.le_of_ble_eq_true rfl⟩ rfl h_v3 (by decide) rfl rfl ⟨rfl, rfl⟩ ⟨Nat.zero_le _, Nat.zero_le _⟩ (zkv (fun μ3 h => ?_))
    exact zw_vret (pc := 88) (by decide +kernel) rfl (Nat.le_refl _) (Nat.le_refl _) ⟨_, rfl, rfl, h⟩
  · replace h := h.2 hc
    refine zw_aload_n (pc := 41) (n := 0) (i := 0) 0 (by decide +kernel) rfl rfl ?_
    refine zx_getR (pc := 42) (o := 1) (r := 70) zf_7_9 (by decide +kernel) rfl zc_69 rfl (by decide) rfl ?_
    refine zw_iload (pc := 45) (i := 7) 7 (by decide +kernel) rfl ?_
    refine zw_aload_n (pc := 47) (n := 1) (i := 1) 1 (by decide +kernel) rfl rfl ?_
    refine zw_iload (pc := 48) (i := 5) 5 (by decide +kernel) rfl ?_
    refine zw_iload (pc := 50) (i := 7) 7 (by decide +kernel) rfl ?_
    refine zw_iadd (pc := 52) (by decide +kernel) ?_
    refine zx_callV (pc := 53) (As := [.int (zJ (v5 + v7))]) h zi_X6_valueOf zii_X6_valueOf zie_X6_valueOf zl_7_47 (by decide +kernel) ⟨Nat.le_of_ble_eq_true rfl, Nat.le_of_ble_eq_true rfl⟩ rfl h_v1 (by decide) rfl rfl ⟨rfl, rfl⟩ ⟨Nat.zero_le _, Nat.zero_le _⟩ (zki (fun x5 μ4 h => ?_))
    refine zw_aload_n (pc := 56) (n := 2) (i := 2) 2 (by decide +kernel) rfl rfl ?_
    refine zw_iload (pc := 57) (i := 5) 5 (by decide +kernel) rfl ?_
    refine zw_iload (pc := 59) (i := 7) 7 (by decide +kernel) rfl ?_
    refine zw_iadd (pc := 61) (by decide +kernel) ?_
    refine zx_callV (pc := 62) (As := [.int (zJ (v5 + v7))]) h zi_X6_valueOf zii_X6_valueOf zie_X6_valueOf zl_7_47 (by decide +kernel) ⟨Nat.le_of_ble_eq_true rfl, Nat.le_of_ble_eq_true rfl⟩ rfl h_v2 (by decide) rfl rfl ⟨rfl, rfl⟩ ⟨Nat.zero_le _, Nat.zero_le _⟩ (zki (fun x7 μ6 h => ?_))
    obtain ⟨o8, o9, o10, o11, h⟩ := h
    refine zw_iadd (pc := 65) (by decide +kernel) ?_
    refine zw_iload (pc := 66) (i := 4) 4 (by decide +kernel) rfl ?_
    refine zw_irem (pc := 68) (by decide +kernel) o8 o9 o10 ?_
    refine zx_iastore (pc := 69) (by decide +kernel) ⟨80, zc_70, o11.1, o11.2⟩ ?_
    refine zw_iinc (pc := 70) (i := 7) (n := 1) (lv' := [(0, .ref 69), (1, .ref v1), (2, .ref v2), (3, .ref v3), (4, .int (zJ v4)), (5, .int (zJ v5)), (6, .int (zJ v6)), (7, .int (zJ (v7 + 1)))]) 7 (by decide +kernel) rfl rfl (Nat.le_of_ble_eq_true rfl) rfl ?_
    refine zw_goto (pc := 73) (off := (-39)) (tgt := 34) (by decide +kernel) (by decide) ?_
    exact h
theorem sg_X7_makeProduct {g : zG} {φ : zMu → Prop} {v1 : Nat} {v2 : Nat} {v3 : Nat} {v4 : Int} {μ : zMu} (h_v1 : zS v1 6 3) (h_v2 : zS v2 6 3) (h_v3 : zS v3 6 3)
    (h : (zR (μ v1 2)) ∧ (zR (μ v2 2)) ∧ zOv g zm_X10_multiply [.ref (v1 + 1), .ref (v2 + 1), .ref 70, .int (zJ (min (μ v1 2) (μ v2 2))), .int (zJ v4)] μ (fun μ5 => zOv g zm_X6_become [.ref v3, .int (zJ ((μ5 v1 1) + (μ5 v2 1))), .int (zJ (min (μ v1 2) (μ v2 2))), .ref 70] μ5 (fun μ6 => φ μ6))) : zOv g zm_X7_makeProduct [.ref 69, .ref v1, .ref v2, .ref v3, .int (zJ v4)] μ φ := by
  refine zok_ofF (by decide +kernel) rfl ?_
  show zWP g zm_X7_makeProduct (zmo g zm_X7_makeProduct (zΦv φ)) 0 [(0, .ref 69), (1, .ref v1), (2, .ref v2), (3, .ref v3), (4, .int (zJ v4))] [] 0 0 (zw μ)
  obtain ⟨o1, o2, h⟩ := h
  refine zw_aload_n (pc := 0) (n := 1) (i := 1) 1 (by decide +kernel) rfl rfl ?_
  refine zx_getI (pc := 1) zf_7_51 (by decide +kernel) rfl h_v1 ?_
  refine zw_aload_n (pc := 4) (n := 2) (i := 2) 2 (by decide +kernel) rfl rfl ?_
  refine zx_getI (pc := 5) zf_7_51 (by decide +kernel) rfl h_v2 ?_
  refine zw_min (pc := 8) zl_7_40 zb_minS zb_mathI zb_minC (by decide +kernel) ⟨Nat.le_of_ble_eq_true rfl, Nat.le_of_ble_eq_true rfl⟩ (Nat.zero_le _) (Nat.zero_le _) rfl o1 o2 ?_
  refine zw_istore (pc := 11) (i := 5) (lv' := [(0, .ref 69), (1, .ref v1), (2, .ref v2), (3, .ref v3), (4, .int (zJ v4)), (5, .int (zJ (min (μ v1 2) (μ v2 2))))]) (by decide +kernel) (Nat.le_of_ble_eq_true rfl) rfl ?_
  refine zw_aload_n (pc := 13) (n := 1) (i := 1) 1 (by decide +kernel) rfl rfl ?_
  have q3 : zS (v1 + 1) 12 80 := zq 0 h_v1 rfl
  refine zx_getR (pc := 14) (o := 1) (r := (v1 + 1)) zf_7_54 (by decide +kernel) rfl h_v1 rfl (by decide) rfl ?_
  refine zw_aload_n (pc := 17) (n := 2) (i := 2) 2 (by decide +kernel) rfl rfl ?_
  have q4 : zS (v2 + 1) 12 80 := zq 0 h_v2 rfl
  refine zx_getR (pc := 18) (o := 1) (r := (v2 + 1)) zf_7_54 (by decide +kernel) rfl h_v2 rfl (by decide) rfl ?_
  refine zw_aload_n (pc := 21) (n := 0) (i := 0) 0 (by decide +kernel) rfl rfl ?_
  refine zx_getR (pc := 22) (o := 1) (r := 70) zf_7_9 (by decide +kernel) rfl zc_69 rfl (by decide) rfl ?_
  refine zw_iload (pc := 25) (i := 5) 5 (by decide +kernel) rfl ?_
  refine zw_iload (pc := 27) (i := 4) 4 (by decide +kernel) rfl ?_
  refine zx_callSN (pc := 29) (As := [.ref (v1 + 1), .ref (v2 + 1), .ref 70, .int (zJ (min (μ v1 2) (μ v2 2))), .int (zJ v4)]) h zi_X10_multiply zis_X10_multiply zn_7_57 (by decide +kernel) ⟨Nat.le_of_ble_eq_true rfl, Nat.le_of_ble_eq_true rfl⟩ rfl rfl ⟨rfl, rfl⟩ ⟨Nat.zero_le _, Nat.zero_le _⟩ (zkv (fun μ5 h => ?_))
  refine zw_aload_n (pc := 32) (n := 3) (i := 3) 3 (by decide +kernel) rfl rfl ?_
  refine zw_aload_n (pc := 33) (n := 1) (i := 1) 1 (by decide +kernel) rfl rfl ?_
  refine zx_getI (pc := 34) zf_7_36 (by decide +kernel) rfl h_v1 ?_
  refine zw_aload_n (pc := 37) (n := 2) (i := 2) 2 (by decide +kernel) rfl rfl ?_
  refine zx_getI (pc := 38) zf_7_36 (by decide +kernel) rfl h_v2 ?_
  refine zw_iadd (pc := 41) (by decide +kernel) ?_
  refine zw_iload (pc := 42) (i := 5) 5 (by decide +kernel) rfl ?_
  refine zw_aload_n (pc := 44) (n := 0) (i := 0) 0 (by decide +kernel) rfl rfl ?_
  refine zx_getR (pc := 45) (o := 1) (r := 70) zf_7_9 (by decide +kernel) rfl zc_69 rfl (by decide) rfl ?_
  refine zx_callV (pc := 48) (As := [.int (zJ ((μ5 v1 1) + (μ5 v2 1))), .int (zJ (min (μ v1 2) (μ v2 2))), .ref 70]) h zi_X6_become zii_X6_become zie_X6_become zl_7_30 (by decide +kernel) ⟨Nat.le_of_ble_eq_true rfl, Nat.le_of_ble_eq_true rfl⟩ rfl h_v3 (by decide) rfl rfl ⟨rfl, rfl⟩ ⟨Nat.zero_le _, Nat.zero_le _⟩ (zkv (fun μ6 h => ?_))
  exact zw_vret (pc := 51) (by decide +kernel) rfl (Nat.le_refl _) (Nat.le_refl _) ⟨_, rfl, rfl, h⟩
abbrev at_X7_widen_24 (g : zG) (φ : zMu → Prop) (v1 : Nat) (v2 : Int) (v3 : Nat) (v4 : Int) (v5 : Int) (μ : zMu) : Prop := zWP g zm_X7_widen (zmo g zm_X7_widen (zΦv φ)) 24 [(0, .ref 69), (1, .ref v1), (2, .int (zJ v2)), (3, .ref v3), (4, .int (zJ v4)), (5, .int (zJ v5))] [] 0 0 (zw μ)
theorem sg_X7_widen {g : zG} {φ : zMu → Prop} {v1 : Nat} {v2 : Int} {v3 : Nat} {μ : zMu} (h_v1 : zS v1 6 3) (h_v3 : zS v3 6 3)
    (h : (zR ((μ v1 2) * v2)) ∧ zOv g zm_J7_fill_53178 [.ref 70, .int (zJ 0)] μ (fun μ2 => at_X7_widen_24 g φ v1 v2 v3 (min ((μ v1 2) * v2) 80) 0 μ2)) : zOv g zm_X7_widen [.ref 69, .ref v1, .int (zJ v2), .ref v3] μ φ := by
  refine zok_ofF (by decide +kernel) rfl ?_
  show zWP g zm_X7_widen (zmo g zm_X7_widen (zΦv φ)) 0 [(0, .ref 69), (1, .ref v1), (2, .int (zJ v2)), (3, .ref v3)] [] 0 0 (zw μ)
  obtain ⟨o1, h⟩ := h
  refine zw_aload_n (pc := 0) (n := 1) (i := 1) 1 (by decide +kernel) rfl rfl ?_
  refine zx_getI (pc := 1) zf_7_51 (by decide +kernel) rfl h_v1 ?_
  refine zw_iload_n (pc := 4) (n := 2) (i := 2) 2 (by decide +kernel) rfl rfl ?_
  refine zw_imul (pc := 5) (by decide +kernel) ?_
  refine zw_bipush (pc := 6) (n := 80) (by decide +kernel) (by decide +kernel) ?_
  refine zw_min (pc := 8) zl_7_40 zb_minS zb_mathI zb_minC (by decide +kernel) ⟨Nat.le_of_ble_eq_true rfl, Nat.le_of_ble_eq_true rfl⟩ (Nat.zero_le _) (Nat.zero_le _) rfl o1 ⟨by decide, by decide⟩ ?_
  refine zw_istore (pc := 11) (i := 4) (lv' := [(0, .ref 69), (1, .ref v1), (2, .int (zJ v2)), (3, .ref v3), (4, .int (zJ (min ((μ v1 2) * v2) 80)))]) (by decide +kernel) (Nat.le_of_ble_eq_true rfl) rfl ?_
  refine zw_aload_n (pc := 13) (n := 0) (i := 0) 0 (by decide +kernel) rfl rfl ?_
  refine zx_getR (pc := 14) (o := 1) (r := 70) zf_7_9 (by decide +kernel) rfl zc_69 rfl (by decide) rfl ?_
  refine zw_iconst (pc := 17) (n := 0) (by decide +kernel) ?_
  refine zx_callS (pc := 18) (As := [.ref 70, .int (zJ 0)]) h zi_J7_fill_53178 zis_J7_fill_53178 zl_7_61 (by decide +kernel) ⟨Nat.le_of_ble_eq_true rfl, Nat.le_of_ble_eq_true rfl⟩ rfl rfl ⟨rfl, rfl⟩ ⟨Nat.zero_le _, Nat.zero_le _⟩ (zkv (fun μ2 h => ?_))
  refine zw_iconst (pc := 21) (n := 0) (by decide +kernel) ?_
  refine zw_istore (pc := 22) (i := 5) (lv' := [(0, .ref 69), (1, .ref v1), (2, .int (zJ v2)), (3, .ref v3), (4, .int (zJ (min ((μ v1 2) * v2) 80))), (5, .int (zJ 0))]) (by decide +kernel) (Nat.le_of_ble_eq_true rfl) rfl ?_
  exact h
theorem sg_X7_widen_24 {g : zG} {φ : zMu → Prop} {v1 : Nat} {v2 : Int} {v3 : Nat} {v4 : Int} {v5 : Int} {μ : zMu} (h_v1 : zS v1 6 3) (h_v3 : zS v3 6 3)
    (h : (zR (v5 * v2)) ∧ (zR v4) ∧ ((v4 ≤ (v5 * v2) → zOv g zm_X6_become [.ref v3, .int (zJ ((μ v1 1) * v2)), .int (zJ v4), .ref 70] μ (fun μ3 => φ μ3)) ∧ ((v5 * v2) < v4 → (0 ≤ v5 ∧ v5 < 80) ∧ (0 ≤ (v5 * v2) ∧ (v5 * v2) < 80) ∧ at_X7_widen_24 g φ v1 v2 v3 v4 (v5 + 1) (zup μ 70 (Int.toNat (v5 * v2)) (μ (v1 + 1) v5.toNat))))) : at_X7_widen_24 g φ v1 v2 v3 v4 v5 μ := by
  obtain ⟨o1, o2, h⟩ := h
  refine zw_iload (pc := 24) (i := 5) 5 (by decide +kernel) rfl ?_
  refine zw_iload_n (pc := 26) (n := 2) (i := 2) 2 (by decide +kernel) rfl rfl ?_
  refine zw_imul (pc := 27) (by decide +kernel) ?_
  refine zw_iload (pc := 28) (i := 4) 4 (by decide +kernel) rfl ?_
  refine zw_icmp_ge (pc := 30) (off := 25) (tgt := 55) (by decide +kernel) (by decide) o1 o2 (fun hc => ?_) (fun hc => ?_)
  · replace h := h.1 hc
    refine zw_aload_n (pc := 55) (n := 3) (i := 3) 3 (by decide +kernel) rfl rfl ?_
    refine zw_aload_n (pc := 56) (n := 1) (i := 1) 1 (by decide +kernel) rfl rfl ?_
    refine zx_getI (pc := 57) zf_7_36 (by decide +kernel) rfl h_v1 ?_
    refine zw_iload_n (pc := 60) (n := 2) (i := 2) 2 (by decide +kernel) rfl rfl ?_
    refine zw_imul (pc := 61) (by decide +kernel) ?_
    refine zw_iload (pc := 62) (i := 4) 4 (by decide +kernel) rfl ?_
    refine zw_aload_n (pc := 64) (n := 0) (i := 0) 0 (by decide +kernel) rfl rfl ?_
    refine zx_getR (pc := 65) (o := 1) (r := 70) zf_7_9 (by decide +kernel) rfl zc_69 rfl (by decide) rfl ?_
    refine zx_callV (pc := 68) (As := [.int (zJ ((μ v1 1) * v2)), .int (zJ v4), .ref 70]) h zi_X6_become zii_X6_become zie_X6_become zl_7_30 (by decide +kernel) ⟨Nat.le_of_ble_eq_true rfl, Nat.le_of_ble_eq_true rfl⟩ rfl h_v3 (by decide) rfl rfl ⟨rfl, rfl⟩ ⟨Nat.zero_le _, Nat.zero_le _⟩ (zkv (fun μ3 h => ?_))
    exact zw_vret (pc := 71) (by decide +kernel) rfl (Nat.le_refl _) (Nat.le_refl _) ⟨_, rfl, rfl, h⟩
  · replace h := h.2 hc
    obtain ⟨o5, o6, h⟩ := h
    refine zw_aload_n (pc := 33) (n := 0) (i := 0) 0 (by decide +kernel) rfl rfl ?_
    refine zx_getR (pc := 34) (o := 1) (r := 70) zf_7_9 (by decide +kernel) rfl zc_69 rfl (by decide) rfl ?_
    refine zw_iload (pc := 37) (i := 5) 5 (by decide +kernel) rfl ?_
    refine zw_iload_n (pc := 39) (n := 2) (i := 2) 2 (by decide +kernel) rfl rfl ?_
    refine zw_imul (pc := 40) (by decide +kernel) ?_
    refine zw_aload_n (pc := 41) (n := 1) (i := 1) 1 (by decide +kernel) rfl rfl ?_
    have q4 : zS (v1 + 1) 12 80 := zq 0 h_v1 rfl
    refine zx_getR (pc := 42) (o := 1) (r := (v1 + 1)) zf_7_54 (by decide +kernel) rfl h_v1 rfl (by decide) rfl ?_
    refine zw_iload (pc := 45) (i := 5) 5 (by decide +kernel) rfl ?_
    refine zx_iaload (pc := 47) (by decide +kernel) ⟨80, q4, o5.1, o5.2⟩ ?_
    refine zx_iastore (pc := 48) (by decide +kernel) ⟨80, zc_70, o6.1, o6.2⟩ ?_
    refine zw_iinc (pc := 49) (i := 5) (n := 1) (lv' := [(0, .ref 69), (1, .ref v1), (2, .int (zJ v2)), (3, .ref v3), (4, .int (zJ v4)), (5, .int (zJ (v5 + 1)))]) 5 (by decide +kernel) rfl rfl (Nat.le_of_ble_eq_true rfl) rfl ?_
    refine zw_goto (pc := 52) (off := (-28)) (tgt := 24) (by decide +kernel) (by decide) ?_
    exact h
theorem sg_X7_makeReciprocal {g : zG} {φ : zMu → Prop} {v1 : Nat} {v2 : Nat} {v3 : Int} {μ : zMu} (h_v1 : zS v1 6 3) (h_v2 : zS v2 6 3)
    (h : zOv g zm_X7_invert [.ref (v1 + 1), .ref 70, .int (zJ (μ v1 2)), .int (zJ v3)] μ (fun μ2 => zOv g zm_X6_become [.ref v2, .int (zJ (-(μ2 v1 1))), .int (zJ (μ2 v1 2)), .ref 70] μ2 (fun μ3 => φ μ3))) : zOv g zm_X7_makeReciprocal [.ref 69, .ref v1, .ref v2, .int (zJ v3)] μ φ := by
  refine zok_ofF (by decide +kernel) rfl ?_
  show zWP g zm_X7_makeReciprocal (zmo g zm_X7_makeReciprocal (zΦv φ)) 0 [(0, .ref 69), (1, .ref v1), (2, .ref v2), (3, .int (zJ v3))] [] 0 0 (zw μ)
  refine zw_aload_n (pc := 0) (n := 1) (i := 1) 1 (by decide +kernel) rfl rfl ?_
  have q1 : zS (v1 + 1) 12 80 := zq 0 h_v1 rfl
  refine zx_getR (pc := 1) (o := 1) (r := (v1 + 1)) zf_7_54 (by decide +kernel) rfl h_v1 rfl (by decide) rfl ?_
  refine zw_aload_n (pc := 4) (n := 0) (i := 0) 0 (by decide +kernel) rfl rfl ?_
  refine zx_getR (pc := 5) (o := 1) (r := 70) zf_7_9 (by decide +kernel) rfl zc_69 rfl (by decide) rfl ?_
  refine zw_aload_n (pc := 8) (n := 1) (i := 1) 1 (by decide +kernel) rfl rfl ?_
  refine zx_getI (pc := 9) zf_7_51 (by decide +kernel) rfl h_v1 ?_
  refine zw_iload_n (pc := 12) (n := 3) (i := 3) 3 (by decide +kernel) rfl rfl ?_
  refine zx_callS (pc := 13) (As := [.ref (v1 + 1), .ref 70, .int (zJ (μ v1 2)), .int (zJ v3)]) h zi_X7_invert zis_X7_invert zl_7_67 (by decide +kernel) ⟨Nat.le_of_ble_eq_true rfl, Nat.le_of_ble_eq_true rfl⟩ rfl rfl ⟨rfl, rfl⟩ ⟨Nat.zero_le _, Nat.zero_le _⟩ (zkv (fun μ2 h => ?_))
  refine zw_aload_n (pc := 16) (n := 2) (i := 2) 2 (by decide +kernel) rfl rfl ?_
  refine zw_aload_n (pc := 17) (n := 1) (i := 1) 1 (by decide +kernel) rfl rfl ?_
  refine zx_getI (pc := 18) zf_7_36 (by decide +kernel) rfl h_v1 ?_
  refine zw_ineg (pc := 21) (by decide +kernel) ?_
  refine zw_aload_n (pc := 22) (n := 1) (i := 1) 1 (by decide +kernel) rfl rfl ?_
  refine zx_getI (pc := 23) zf_7_51 (by decide +kernel) rfl h_v1 ?_
  refine zw_aload_n (pc := 26) (n := 0) (i := 0) 0 (by decide +kernel) rfl rfl ?_
  refine zx_getR (pc := 27) (o := 1) (r := 70) zf_7_9 (by decide +kernel) rfl zc_69 rfl (by decide) rfl ?_
  refine zx_callV (pc := 30) (As := [.int (zJ (-(μ2 v1 1))), .int (zJ (μ2 v1 2)), .ref 70]) h zi_X6_become zii_X6_become zie_X6_become zl_7_30 (by decide +kernel) ⟨Nat.le_of_ble_eq_true rfl, Nat.le_of_ble_eq_true rfl⟩ rfl h_v2 (by decide) rfl rfl ⟨rfl, rfl⟩ ⟨Nat.zero_le _, Nat.zero_le _⟩ (zkv (fun μ3 h => ?_))
  exact zw_vret (pc := 33) (by decide +kernel) rfl (Nat.le_refl _) (Nat.le_refl _) ⟨_, rfl, rfl, h⟩
abbrev at_X7_makePower_18 (g : zG) (φ : zMu → Prop) (v1 : Nat) (v2 : Int) (v3 : Nat) (v4 : Int) (v5 : Int) (μ : zMu) : Prop := zWP g zm_X7_makePower (zmo g zm_X7_makePower (zΦv φ)) 18 [(0, .ref 69), (1, .ref v1), (2, .int (zJ v2)), (3, .ref v3), (4, .int (zJ v4)), (5, .int (zJ v5))] [] 0 0 (zw μ)
theorem sg_X7_makePower {g : zG} {φ : zMu → Prop} {v1 : Nat} {v2 : Int} {v3 : Nat} {v4 : Int} {μ : zMu} (h_v1 : zS v1 6 3) (h_v3 : zS v3 6 3)
    (h : zOv g zm_J7_fill_53178 [.ref 70, .int (zJ 0)] μ (fun μ1 => at_X7_makePower_18 g φ v1 v2 v3 v4 0 (zup μ1 70 0 1))) : zOv g zm_X7_makePower [.ref 69, .ref v1, .int (zJ v2), .ref v3, .int (zJ v4)] μ φ := by
  refine zok_ofF (by decide +kernel) rfl ?_
  show zWP g zm_X7_makePower (zmo g zm_X7_makePower (zΦv φ)) 0 [(0, .ref 69), (1, .ref v1), (2, .int (zJ v2)), (3, .ref v3), (4, .int (zJ v4))] [] 0 0 (zw μ)
  refine zw_aload_n (pc := 0) (n := 0) (i := 0) 0 (by decide +kernel) rfl rfl ?_
  refine zx_getR (pc := 1) (o := 1) (r := 70) zf_7_9 (by decide +kernel) rfl zc_69 rfl (by decide) rfl ?_
  refine zw_iconst (pc := 4) (n := 0) (by decide +kernel) ?_
  refine zx_callS (pc := 5) (As := [.ref 70, .int (zJ 0)]) h zi_J7_fill_53178 zis_J7_fill_53178 zl_7_61 (by decide +kernel) ⟨Nat.le_of_ble_eq_true rfl, Nat.le_of_ble_eq_true rfl⟩ rfl rfl ⟨rfl, rfl⟩ ⟨Nat.zero_le _, Nat.zero_le _⟩ (zkv (fun μ1 h => ?_))
  refine zw_aload_n (pc := 8) (n := 0) (i := 0) 0 (by decide +kernel) rfl rfl ?_
  refine zx_getR (pc := 9) (o := 1) (r := 70) zf_7_9 (by decide +kernel) rfl zc_69 rfl (by decide) rfl ?_
  refine zw_iconst (pc := 12) (n := 0) (by decide +kernel) ?_
  refine zw_iconst (pc := 13) (n := 1) (by decide +kernel) ?_
  refine zx_iastore (pc := 14) (by decide +kernel) ⟨80, zc_70, by decide, by decide⟩ ?_
  refine zw_iconst (pc := 15) (n := 0) (by decide +kernel) ?_
  refine zw_istore (pc := 16) (i := 5) (lv' := [(0, .ref 69), (1, .ref v1), (2, .int (zJ v2)), (3, .ref v3), (4, .int (zJ v4)), (5, .int (zJ 0))]) (by decide +kernel) (Nat.le_of_ble_eq_true rfl) rfl ?_
  exact h
theorem sg_X7_makePower_18 {g : zG} {φ : zMu → Prop} {v1 : Nat} {v2 : Int} {v3 : Nat} {v4 : Int} {v5 : Int} {μ : zMu} (h_v1 : zS v1 6 3) (h_v3 : zS v3 6 3)
    (h : (zR v5) ∧ (zR v2) ∧ ((v2 ≤ v5 → zOv g zm_X6_become [.ref v3, .int (zJ ((μ v1 1) * v2)), .int (zJ (μ v1 2)), .ref 70] μ (fun μ3 => φ μ3)) ∧ (v5 < v2 → zOv g zm_X10_multiply [.ref 70, .ref (v1 + 1), .ref 71, .int (zJ (μ v1 2)), .int (zJ v4)] μ (fun μ5 => (0 ≤ (0 : Int) ∧ 0 ≤ (0 : Int) ∧ 0 ≤ (80 : Int) ∧ (0 : Int) + 80 ≤ 80 ∧ (0 : Int) + 80 ≤ 80) ∧ at_X7_makePower_18 g φ v1 v2 v3 v4 (v5 + 1) (zcp μ5 71 0 70 0 80))))) : at_X7_makePower_18 g φ v1 v2 v3 v4 v5 μ := by
  obtain ⟨o1, o2, h⟩ := h
  refine zw_iload (pc := 18) (i := 5) 5 (by decide +kernel) rfl ?_
  refine zw_iload_n (pc := 20) (n := 2) (i := 2) 2 (by decide +kernel) rfl rfl ?_
  refine zw_icmp_ge (pc := 21) (off := 45) (tgt := 66) (by decide +kernel) (by decide) o1 o2 (fun hc => ?_) (fun hc => ?_)
  · replace h := h.1 hc
    refine zw_aload_n (pc := 66) (n := 3) (i := 3) 3 (by decide +kernel) rfl rfl ?_
    refine zw_aload_n (pc := 67) (n := 1) (i := 1) 1 (by decide +kernel) rfl rfl ?_
    refine zx_getI (pc := 68) zf_7_36 (by decide +kernel) rfl h_v1 ?_
    refine zw_iload_n (pc := 71) (n := 2) (i := 2) 2 (by decide +kernel) rfl rfl ?_
    refine zw_imul (pc := 72) (by decide +kernel) ?_
    refine zw_aload_n (pc := 73) (n := 1) (i := 1) 1 (by decide +kernel) rfl rfl ?_
    refine zx_getI (pc := 74) zf_7_51 (by decide +kernel) rfl h_v1 ?_
    refine zw_aload_n (pc := 77) (n := 0) (i := 0) 0 (by decide +kernel) rfl rfl ?_
    refine zx_getR (pc := 78) (o := 1) (r := 70) zf_7_9 (by decide +kernel) rfl zc_69 rfl (by decide) rfl ?_
    refine zx_callV (pc := 81) (As := [.int (zJ ((μ v1 1) * v2)), .int (zJ (μ v1 2)), .ref 70]) h zi_X6_become zii_X6_become zie_X6_become zl_7_30 (by decide +kernel) ⟨Nat.le_of_ble_eq_true rfl, Nat.le_of_ble_eq_true rfl⟩ rfl h_v3 (by decide) rfl rfl ⟨rfl, rfl⟩ ⟨Nat.zero_le _, Nat.zero_le _⟩ (zkv (fun μ3 h => ?_))
    exact zw_vret (pc := 84) (by decide +kernel) rfl (Nat.le_refl _) (Nat.le_refl _) ⟨_, rfl, rfl, h⟩
  · replace h := h.2 hc
    refine zw_aload_n (pc := 24) (n := 0) (i := 0) 0 (by decide +kernel) rfl rfl ?_
    refine zx_getR (pc := 25) (o := 1) (r := 70) zf_7_9 (by decide +kernel) rfl zc_69 rfl (by decide) rfl ?_
    refine zw_aload_n (pc := 28) (n := 1) (i := 1) 1 (by decide +kernel) rfl rfl ?_
    have q4 : zS (v1 + 1) 12 80 := zq 0 h_v1 rfl
    refine zx_getR (pc := 29) (o := 1) (r := (v1 + 1)) zf_7_54 (by decide +kernel) rfl h_v1 rfl (by decide) rfl ?_
    refine zw_aload_n (pc := 32) (n := 0) (i := 0) 0 (by decide +kernel) rfl rfl ?_
    refine zx_getR (pc := 33) (o := 2) (r := 71) zf_7_15 (by decide +kernel) rfl zc_69 rfl (by decide) rfl ?_
    refine zw_aload_n (pc := 36) (n := 1) (i := 1) 1 (by decide +kernel) rfl rfl ?_
    refine zx_getI (pc := 37) zf_7_51 (by decide +kernel) rfl h_v1 ?_
    refine zw_iload (pc := 40) (i := 4) 4 (by decide +kernel) rfl ?_
    refine zx_callSN (pc := 42) (As := [.ref 70, .ref (v1 + 1), .ref 71, .int (zJ (μ v1 2)), .int (zJ v4)]) h zi_X10_multiply zis_X10_multiply zn_7_57 (by decide +kernel) ⟨Nat.le_of_ble_eq_true rfl, Nat.le_of_ble_eq_true rfl⟩ rfl rfl ⟨rfl, rfl⟩ ⟨Nat.zero_le _, Nat.zero_le _⟩ (zkv (fun μ5 h => ?_))
    obtain ⟨o6, h⟩ := h
    refine zw_aload_n (pc := 45) (n := 0) (i := 0) 0 (by decide +kernel) rfl rfl ?_
    refine zx_getR (pc := 46) (o := 2) (r := 71) zf_7_15 (by decide +kernel) rfl zc_69 rfl (by decide) rfl ?_
    refine zw_iconst (pc := 49) (n := 0) (by decide +kernel) ?_
    refine zw_aload_n (pc := 50) (n := 0) (i := 0) 0 (by decide +kernel) rfl rfl ?_
    refine zx_getR (pc := 51) (o := 1) (r := 70) zf_7_9 (by decide +kernel) rfl zc_69 rfl (by decide) rfl ?_
    refine zw_iconst (pc := 54) (n := 0) (by decide +kernel) ?_
    refine zw_bipush (pc := 55) (n := 80) (by decide +kernel) (by decide +kernel) ?_
    refine zx_copy (pc := 57) zl_7_71 zb_cpN zb_cpS zb_cpI (by decide +kernel) ⟨Nat.le_of_ble_eq_true rfl, by decide +kernel⟩ rfl ⟨80, 80, zc_71, zc_70, o6⟩ ?_
    refine zw_iinc (pc := 60) (i := 5) (n := 1) (lv' := [(0, .ref 69), (1, .ref v1), (2, .int (zJ v2)), (3, .ref v3), (4, .int (zJ v4)), (5, .int (zJ (v5 + 1)))]) 5 (by decide +kernel) rfl rfl (Nat.le_of_ble_eq_true rfl) rfl ?_
    refine zw_goto (pc := 63) (off := (-45)) (tgt := 18) (by decide +kernel) (by decide) ?_
    exact h
abbrev at_X0_startAnew_15 (g : zG) (φ : zMu → Prop) (c : Nat) (v2 : Int) (μ : zMu) : Prop := zWP g zm_X0_startAnew (zmo g zm_X0_startAnew (zΦv φ)) 15 [(0, .ref c), (2, .int (zJ v2))] [] 0 0 (zw μ)
theorem sg_X0_startAnew {g : zG} {φ : zMu → Prop} {c : Nat} {v1 : Int} {μ : zMu} (h_c : zS c 0 5)
    (h : at_X0_startAnew_15 g φ c 0 (zup (zup μ c 0 v1) (c + 2) 1 0)) : zOv g zm_X0_startAnew [.ref c, .int (zJ v1)] μ φ := by
  refine zok_of (by decide +kernel) rfl ?_
  show zWP g zm_X0_startAnew (zmo g zm_X0_startAnew (zΦv φ)) 0 [(0, .ref c), (1, .int (zJ v1))] [] 0 0 (zw μ)
  refine zw_aload_n (pc := 0) (n := 0) (i := 0) 0 (by decide +kernel) rfl rfl ?_
  refine zw_iload_n (pc := 1) (n := 1) (i := 1) 1 (by decide +kernel) rfl rfl ?_
  refine zx_putI (pc := 2) zf_0_9 (by decide +kernel) rfl h_c ?_
  refine zw_aload_n (pc := 5) (n := 0) (i := 0) 0 (by decide +kernel) rfl rfl ?_
  have q1 : zS (c + 2) 3 2 := zq 1 h_c rfl
  refine zx_getR (pc := 6) (o := 2) (r := (c + 2)) zf_0_24 (by decide +kernel) rfl h_c rfl (by decide) rfl ?_
  refine zw_iconst (pc := 9) (n := 0) (by decide +kernel) ?_
  refine zx_putI (pc := 10) zf_0_37 (by decide +kernel) rfl q1 ?_
  refine zw_iconst (pc := 13) (n := 0) (by decide +kernel) ?_
  refine zw_istore_n (pc := 14) (n := 2) (i := 2) (lv' := [(0, .ref c), (1, .int (zJ v1)), (2, .int (zJ 0))]) (by decide +kernel) rfl (Nat.le_of_ble_eq_true rfl) rfl ?_
  exact zw_pick (lv' := [(0, .ref c), (2, .int (zJ 0))]) [0, 2] rfl h
theorem sg_X0_startAnew_15 {g : zG} {φ : zMu → Prop} {c : Nat} {v2 : Int} {μ : zMu} (h_c : zS c 0 5)
    (h : (zR v2) ∧ ((6 ≤ v2 → φ μ) ∧ (v2 < 6 → (0 ≤ v2 ∧ v2 < 6) ∧ at_X0_startAnew_15 g φ c (v2 + 1) (zup μ (c + 6 + 2 * v2.toNat) 2 0)))) : at_X0_startAnew_15 g φ c v2 μ := by
  obtain ⟨o1, h⟩ := h
  refine zw_iload_n (pc := 15) (n := 2) (i := 2) 1 (by decide +kernel) rfl rfl ?_
  refine zw_bipush (pc := 16) (n := 6) (by decide +kernel) (by decide +kernel) ?_
  refine zw_icmp_ge (pc := 18) (off := 19) (tgt := 37) (by decide +kernel) (by decide) o1 ⟨by decide, by decide⟩ (fun hc => ?_) (fun hc => ?_)
  · replace h := h.1 hc
    exact zw_vret (pc := 37) (by decide +kernel) rfl (Nat.le_refl _) (Nat.le_refl _) ⟨_, rfl, rfl, h⟩
  · replace h := h.2 hc
    obtain ⟨o3, h⟩ := h
    refine zw_aload_n (pc := 21) (n := 0) (i := 0) 0 (by decide +kernel) rfl rfl ?_
    have q2 : zS (c + 1) 14 6 := zq 0 h_c rfl
    refine zx_getR (pc := 22) (o := 1) (r := (c + 1)) zf_0_17 (by decide +kernel) rfl h_c rfl (by decide) rfl ?_
    refine zw_iload_n (pc := 25) (n := 2) (i := 2) 1 (by decide +kernel) rfl rfl ?_
    have q4 : zS (c + 6 + 2 * v2.toNat) 6 3 := zS_cast (zqe_14 (j := v2.toNat) q2 (by omega)) (by show (c + 1) + 5 + 2 * v2.toNat = (c + 6 + 2 * v2.toNat); omega)
    refine zx_aaload (pc := 26) (k := 14) (r := (c + 6 + 2 * v2.toNat)) (by decide +kernel) (by decide) ⟨6, q2, o3.1, o3.2⟩ (by show (c + 1) + 5 + 2 * v2.toNat = (c + 6 + 2 * v2.toNat); omega) ?_
    refine zw_iconst (pc := 27) (n := 0) (by decide +kernel) ?_
    refine zx_putI (pc := 28) zf_0_40 (by decide +kernel) rfl q4 ?_
    refine zw_iinc (pc := 31) (i := 2) (n := 1) (lv' := [(0, .ref c), (2, .int (zJ (v2 + 1)))]) 1 (by decide +kernel) rfl rfl (Nat.le_of_ble_eq_true rfl) rfl ?_
    refine zw_goto (pc := 34) (off := (-19)) (tgt := 15) (by decide +kernel) (by decide) ?_
    exact h
abbrev at_X0_placeOf_2 (g : zG) (φ : Int → zMu → Prop) (c : Nat) (v1 : Int) (v2 : Int) (μ : zMu) : Prop := zWP g zm_X0_placeOf (zmo g zm_X0_placeOf (zΦi φ)) 2 [(0, .ref c), (1, .int (zJ v1)), (2, .int (zJ v2))] [] 0 0 (zw μ)
theorem sg_X0_placeOf {g : zG} {φ : Int → zMu → Prop} {c : Nat} {v1 : Int} {μ : zMu} (h_c : zS c 0 5)
    (h : at_X0_placeOf_2 g φ c v1 0 μ) : zOi g zm_X0_placeOf [.ref c, .int (zJ v1)] μ φ := by
  refine zok_of (by decide +kernel) rfl ?_
  show zWP g zm_X0_placeOf (zmo g zm_X0_placeOf (zΦi φ)) 0 [(0, .ref c), (1, .int (zJ v1))] [] 0 0 (zw μ)
  refine zw_iconst (pc := 0) (n := 0) (by decide +kernel) ?_
  refine zw_istore_n (pc := 1) (n := 2) (i := 2) (lv' := [(0, .ref c), (1, .int (zJ v1)), (2, .int (zJ 0))]) (by decide +kernel) rfl (Nat.le_of_ble_eq_true rfl) rfl ?_
  exact h
theorem sg_X0_placeOf_2 {g : zG} {φ : Int → zMu → Prop} {c : Nat} {v1 : Int} {v2 : Int} {μ : zMu} (h_c : zS c 0 5)
    (h : (zR v2) ∧ ((8 ≤ v2 → φ (-1) μ) ∧ (v2 < 8 → (0 ≤ v2 ∧ v2 < 8) ∧ zOi g zm_X3_isMissing [.ref (c + 18 + 2 * v2.toNat)] μ (fun x6 μ5 => (zR x6) ∧ ((¬ x6 = 0 → at_X0_placeOf_2 g φ c v1 (v2 + 1) μ5) ∧ (x6 = 0 → (zR (μ5 (c + 5) v2.toNat)) ∧ (zR v1) ∧ ((¬ (μ5 (c + 5) v2.toNat) = v1 → at_X0_placeOf_2 g φ c v1 (v2 + 1) μ5) ∧ ((μ5 (c + 5) v2.toNat) = v1 → φ v2 μ5)))))))) : at_X0_placeOf_2 g φ c v1 v2 μ := by
  obtain ⟨o1, h⟩ := h
  refine zw_iload_n (pc := 2) (n := 2) (i := 2) 2 (by decide +kernel) rfl rfl ?_
  refine zw_bipush (pc := 3) (n := 8) (by decide +kernel) (by decide +kernel) ?_
  refine zw_icmp_ge (pc := 5) (off := 33) (tgt := 38) (by decide +kernel) (by decide) o1 ⟨by decide, by decide⟩ (fun hc => ?_) (fun hc => ?_)
  · replace h := h.1 hc
    refine zw_iconst (pc := 38) (n := (-1)) (by decide +kernel) ?_
    exact zw_iret (pc := 39) (by decide +kernel) rfl (Nat.le_refl _) (Nat.le_refl _) ⟨_, _, rfl, rfl, h⟩
  · replace h := h.2 hc
    obtain ⟨o3, h⟩ := h
    refine zw_aload_n (pc := 8) (n := 0) (i := 0) 0 (by decide +kernel) rfl rfl ?_
    have q2 : zS (c + 4) 13 8 := zq 2 h_c rfl
    refine zx_getR (pc := 9) (o := 4) (r := (c + 4)) zf_0_28 (by decide +kernel) rfl h_c rfl (by decide) rfl ?_
    refine zw_iload_n (pc := 12) (n := 2) (i := 2) 2 (by decide +kernel) rfl rfl ?_
    have q4 : zS (c + 18 + 2 * v2.toNat) 3 2 := zS_cast (zqe_13 (j := v2.toNat) q2 (by omega)) (by show (c + 4) + 14 + 2 * v2.toNat = (c + 18 + 2 * v2.toNat); omega)
    refine zx_aaload (pc := 13) (k := 13) (r := (c + 18 + 2 * v2.toNat)) (by decide +kernel) (by decide) ⟨8, q2, o3.1, o3.2⟩ (by show (c + 4) + 14 + 2 * v2.toNat = (c + 18 + 2 * v2.toNat); omega) ?_
    refine zx_callV (pc := 14) (As := []) h zi_X3_isMissing zii_X3_isMissing zie_X3_isMissing zl_0_54 (by decide +kernel) ⟨Nat.le_of_ble_eq_true rfl, Nat.le_of_ble_eq_true rfl⟩ rfl q4 (by decide) rfl rfl ⟨rfl, rfl⟩ ⟨Nat.zero_le _, Nat.zero_le _⟩ (zki (fun x6 μ5 h => ?_))
    obtain ⟨o7, h⟩ := h
    refine zw_if_ne (pc := 17) (off := 15) (tgt := 32) (by decide +kernel) (by decide) o7 (fun hc => ?_) (fun hc => ?_)
    · replace h := h.1 hc
      refine zw_iinc (pc := 32) (i := 2) (n := 1) (lv' := [(0, .ref c), (1, .int (zJ v1)), (2, .int (zJ (v2 + 1)))]) 2 (by decide +kernel) rfl rfl (Nat.le_of_ble_eq_true rfl) rfl ?_
      refine zw_goto (pc := 35) (off := (-33)) (tgt := 2) (by decide +kernel) (by decide) ?_
      exact h
    · replace h := h.2 hc
      obtain ⟨o9, o10, h⟩ := h
      refine zw_aload_n (pc := 20) (n := 0) (i := 0) 0 (by decide +kernel) rfl rfl ?_
      have q8 : zS (c + 5) 12 8 := zq 3 h_c rfl
      refine zx_getR (pc := 21) (o := 5) (r := (c + 5)) zf_0_32 (by decide +kernel) rfl h_c rfl (by decide) rfl ?_
      refine zw_iload_n (pc := 24) (n := 2) (i := 2) 2 (by decide +kernel) rfl rfl ?_
      refine zx_iaload (pc := 25) (by decide +kernel) ⟨8, q8, o3.1, o3.2⟩ ?_
      refine zw_iload_n (pc := 26) (n := 1) (i := 1) 1 (by decide +kernel) rfl rfl ?_
      refine zw_icmp_ne (pc := 27) (off := 5) (tgt := 32) (by decide +kernel) (by decide) o9 o10 (fun hc => ?_) (fun hc => ?_)
      · replace h := h.1 hc
        refine zw_iinc (pc := 32) (i := 2) (n := 1) (lv' := [(0, .ref c), (1, .int (zJ v1)), (2, .int (zJ (v2 + 1)))]) 2 (by decide +kernel) rfl rfl (Nat.le_of_ble_eq_true rfl) rfl ?_
        refine zw_goto (pc := 35) (off := (-33)) (tgt := 2) (by decide +kernel) (by decide) ?_
        exact h
      · replace h := h.2 hc
        refine zw_iload_n (pc := 30) (n := 2) (i := 2) 2 (by decide +kernel) rfl rfl ?_
        exact zw_iret (pc := 31) (by decide +kernel) rfl (Nat.le_refl _) (Nat.le_refl _) ⟨_, _, rfl, rfl, h⟩
abbrev at_X0_keptCount_4 (g : zG) (φ : Int → zMu → Prop) (c : Nat) (v1 : Int) (v2 : Int) (μ : zMu) : Prop := zWP g zm_X0_keptCount (zmo g zm_X0_keptCount (zΦi φ)) 4 [(0, .ref c), (1, .int (zJ v1)), (2, .int (zJ v2))] [] 0 0 (zw μ)
theorem sg_X0_keptCount {g : zG} {φ : Int → zMu → Prop} {c : Nat} {μ : zMu} (h_c : zS c 0 5)
    (h : at_X0_keptCount_4 g φ c 0 0 μ) : zOi g zm_X0_keptCount [.ref c] μ φ := by
  refine zok_of (by decide +kernel) rfl ?_
  show zWP g zm_X0_keptCount (zmo g zm_X0_keptCount (zΦi φ)) 0 [(0, .ref c)] [] 0 0 (zw μ)
  refine zw_iconst (pc := 0) (n := 0) (by decide +kernel) ?_
  refine zw_istore_n (pc := 1) (n := 1) (i := 1) (lv' := [(0, .ref c), (1, .int (zJ 0))]) (by decide +kernel) rfl (Nat.le_of_ble_eq_true rfl) rfl ?_
  refine zw_iconst (pc := 2) (n := 0) (by decide +kernel) ?_
  refine zw_istore_n (pc := 3) (n := 2) (i := 2) (lv' := [(0, .ref c), (1, .int (zJ 0)), (2, .int (zJ 0))]) (by decide +kernel) rfl (Nat.le_of_ble_eq_true rfl) rfl ?_
  exact h
theorem sg_X0_keptCount_4 {g : zG} {φ : Int → zMu → Prop} {c : Nat} {v1 : Int} {v2 : Int} {μ : zMu} (h_c : zS c 0 5)
    (h : (zR v2) ∧ ((8 ≤ v2 → φ v1 μ) ∧ (v2 < 8 → (0 ≤ v2 ∧ v2 < 8) ∧ zOi g zm_X3_isMissing [.ref (c + 18 + 2 * v2.toNat)] μ (fun x6 μ5 => (zR x6) ∧ ((¬ x6 = 0 → at_X0_keptCount_4 g φ c v1 (v2 + 1) μ5) ∧ (x6 = 0 → at_X0_keptCount_4 g φ c (v1 + 1) (v2 + 1) μ5)))))) : at_X0_keptCount_4 g φ c v1 v2 μ := by
  obtain ⟨o1, h⟩ := h
  refine zw_iload_n (pc := 4) (n := 2) (i := 2) 2 (by decide +kernel) rfl rfl ?_
  refine zw_bipush (pc := 5) (n := 8) (by decide +kernel) (by decide +kernel) ?_
  refine zw_icmp_ge (pc := 7) (off := 24) (tgt := 31) (by decide +kernel) (by decide) o1 ⟨by decide, by decide⟩ (fun hc => ?_) (fun hc => ?_)
  · replace h := h.1 hc
    refine zw_iload_n (pc := 31) (n := 1) (i := 1) 1 (by decide +kernel) rfl rfl ?_
    exact zw_iret (pc := 32) (by decide +kernel) rfl (Nat.le_refl _) (Nat.le_refl _) ⟨_, _, rfl, rfl, h⟩
  · replace h := h.2 hc
    obtain ⟨o3, h⟩ := h
    refine zw_aload_n (pc := 10) (n := 0) (i := 0) 0 (by decide +kernel) rfl rfl ?_
    have q2 : zS (c + 4) 13 8 := zq 2 h_c rfl
    refine zx_getR (pc := 11) (o := 4) (r := (c + 4)) zf_0_28 (by decide +kernel) rfl h_c rfl (by decide) rfl ?_
    refine zw_iload_n (pc := 14) (n := 2) (i := 2) 2 (by decide +kernel) rfl rfl ?_
    have q4 : zS (c + 18 + 2 * v2.toNat) 3 2 := zS_cast (zqe_13 (j := v2.toNat) q2 (by omega)) (by show (c + 4) + 14 + 2 * v2.toNat = (c + 18 + 2 * v2.toNat); omega)
    refine zx_aaload (pc := 15) (k := 13) (r := (c + 18 + 2 * v2.toNat)) (by decide +kernel) (by decide) ⟨8, q2, o3.1, o3.2⟩ (by show (c + 4) + 14 + 2 * v2.toNat = (c + 18 + 2 * v2.toNat); omega) ?_
    refine zx_callV (pc := 16) (As := []) h zi_X3_isMissing zii_X3_isMissing zie_X3_isMissing zl_0_54 (by decide +kernel) ⟨Nat.le_of_ble_eq_true rfl, Nat.le_of_ble_eq_true rfl⟩ rfl q4 (by decide) rfl rfl ⟨rfl, rfl⟩ ⟨Nat.zero_le _, Nat.zero_le _⟩ (zki (fun x6 μ5 h => ?_))
    obtain ⟨o7, h⟩ := h
    refine zw_if_ne (pc := 19) (off := 6) (tgt := 25) (by decide +kernel) (by decide) o7 (fun hc => ?_) (fun hc => ?_)
    · replace h := h.1 hc
      refine zw_iinc (pc := 25) (i := 2) (n := 1) (lv' := [(0, .ref c), (1, .int (zJ v1)), (2, .int (zJ (v2 + 1)))]) 2 (by decide +kernel) rfl rfl (Nat.le_of_ble_eq_true rfl) rfl ?_
      refine zw_goto (pc := 28) (off := (-24)) (tgt := 4) (by decide +kernel) (by decide) ?_
      exact h
    · replace h := h.2 hc
      refine zw_iinc (pc := 22) (i := 1) (n := 1) (lv' := [(0, .ref c), (1, .int (zJ (v1 + 1))), (2, .int (zJ v2))]) 1 (by decide +kernel) rfl rfl (Nat.le_of_ble_eq_true rfl) rfl ?_
      refine zw_iinc (pc := 25) (i := 2) (n := 1) (lv' := [(0, .ref c), (1, .int (zJ (v1 + 1))), (2, .int (zJ (v2 + 1)))]) 2 (by decide +kernel) rfl rfl (Nat.le_of_ble_eq_true rfl) rfl ?_
      refine zw_goto (pc := 28) (off := (-24)) (tgt := 4) (by decide +kernel) (by decide) ?_
      exact h
abbrev at_X0_commonDegree_4 (g : zG) (φ : Int → zMu → Prop) (c : Nat) (v1 : Int) (v2 : Int) (μ : zMu) : Prop := zWP g zm_X0_commonDegree (zmo g zm_X0_commonDegree (zΦi φ)) 4 [(0, .ref c), (1, .int (zJ v1)), (2, .int (zJ v2))] [] 0 0 (zw μ)
theorem sg_X0_commonDegree {g : zG} {φ : Int → zMu → Prop} {c : Nat} {μ : zMu} (h_c : zS c 0 5)
    (h : at_X0_commonDegree_4 g φ c 0 0 μ) : zOi g zm_X0_commonDegree [.ref c] μ φ := by
  refine zok_of (by decide +kernel) rfl ?_
  show zWP g zm_X0_commonDegree (zmo g zm_X0_commonDegree (zΦi φ)) 0 [(0, .ref c)] [] 0 0 (zw μ)
  refine zw_iconst (pc := 0) (n := 0) (by decide +kernel) ?_
  refine zw_istore_n (pc := 1) (n := 1) (i := 1) (lv' := [(0, .ref c), (1, .int (zJ 0))]) (by decide +kernel) rfl (Nat.le_of_ble_eq_true rfl) rfl ?_
  refine zw_iconst (pc := 2) (n := 0) (by decide +kernel) ?_
  refine zw_istore_n (pc := 3) (n := 2) (i := 2) (lv' := [(0, .ref c), (1, .int (zJ 0)), (2, .int (zJ 0))]) (by decide +kernel) rfl (Nat.le_of_ble_eq_true rfl) rfl ?_
  exact h
theorem sg_X0_commonDegree_4 {g : zG} {φ : Int → zMu → Prop} {c : Nat} {v1 : Int} {v2 : Int} {μ : zMu} (h_c : zS c 0 5)
    (h : (zR v2) ∧ ((8 ≤ v2 → φ v1 μ) ∧ (v2 < 8 → (0 ≤ v2 ∧ v2 < 8) ∧ zOi g zm_X3_isMissing [.ref (c + 18 + 2 * v2.toNat)] μ (fun x6 μ5 => (zR x6) ∧ ((¬ x6 = 0 → at_X0_commonDegree_4 g φ c v1 (v2 + 1) μ5) ∧ (x6 = 0 → (zR v1) ∧ ((v1 = 0 → at_X0_commonDegree_4 g φ c (μ5 (c + 18 + 2 * v2.toNat) 1) (v2 + 1) μ5) ∧ (¬ v1 = 0 → (zR (μ5 (c + 18 + 2 * v2.toNat) 1)) ∧ (((μ5 (c + 18 + 2 * v2.toNat) 1) = v1 → at_X0_commonDegree_4 g φ c (μ5 (c + 18 + 2 * v2.toNat) 1) (v2 + 1) μ5) ∧ (¬ (μ5 (c + 18 + 2 * v2.toNat) 1) = v1 → φ 0 μ5)))))))))) : at_X0_commonDegree_4 g φ c v1 v2 μ := by
  obtain ⟨o1, h⟩ := h
  refine zw_iload_n (pc := 4) (n := 2) (i := 2) 2 (by decide +kernel) rfl rfl ?_
  refine zw_bipush (pc := 5) (n := 8) (by decide +kernel) (by decide +kernel) ?_
  refine zw_icmp_ge (pc := 7) (off := 50) (tgt := 57) (by decide +kernel) (by decide) o1 ⟨by decide, by decide⟩ (fun hc => ?_) (fun hc => ?_)
  · replace h := h.1 hc
    refine zw_iload_n (pc := 57) (n := 1) (i := 1) 1 (by decide +kernel) rfl rfl ?_
    exact zw_iret (pc := 58) (by decide +kernel) rfl (Nat.le_refl _) (Nat.le_refl _) ⟨_, _, rfl, rfl, h⟩
  · replace h := h.2 hc
    obtain ⟨o3, h⟩ := h
    refine zw_aload_n (pc := 10) (n := 0) (i := 0) 0 (by decide +kernel) rfl rfl ?_
    have q2 : zS (c + 4) 13 8 := zq 2 h_c rfl
    refine zx_getR (pc := 11) (o := 4) (r := (c + 4)) zf_0_28 (by decide +kernel) rfl h_c rfl (by decide) rfl ?_
    refine zw_iload_n (pc := 14) (n := 2) (i := 2) 2 (by decide +kernel) rfl rfl ?_
    have q4 : zS (c + 18 + 2 * v2.toNat) 3 2 := zS_cast (zqe_13 (j := v2.toNat) q2 (by omega)) (by show (c + 4) + 14 + 2 * v2.toNat = (c + 18 + 2 * v2.toNat); omega)
    refine zx_aaload (pc := 15) (k := 13) (r := (c + 18 + 2 * v2.toNat)) (by decide +kernel) (by decide) ⟨8, q2, o3.1, o3.2⟩ (by show (c + 4) + 14 + 2 * v2.toNat = (c + 18 + 2 * v2.toNat); omega) ?_
    refine zx_callV (pc := 16) (As := []) h zi_X3_isMissing zii_X3_isMissing zie_X3_isMissing zl_0_54 (by decide +kernel) ⟨Nat.le_of_ble_eq_true rfl, Nat.le_of_ble_eq_true rfl⟩ rfl q4 (by decide) rfl rfl ⟨rfl, rfl⟩ ⟨Nat.zero_le _, Nat.zero_le _⟩ (zki (fun x6 μ5 h => ?_))
    obtain ⟨o7, h⟩ := h
    refine zw_if_ne (pc := 19) (off := 32) (tgt := 51) (by decide +kernel) (by decide) o7 (fun hc => ?_) (fun hc => ?_)
    · replace h := h.1 hc
      refine zw_iinc (pc := 51) (i := 2) (n := 1) (lv' := [(0, .ref c), (1, .int (zJ v1)), (2, .int (zJ (v2 + 1)))]) 2 (by decide +kernel) rfl rfl (Nat.le_of_ble_eq_true rfl) rfl ?_
      refine zw_goto (pc := 54) (off := (-50)) (tgt := 4) (by decide +kernel) (by decide) ?_
      exact h
    · replace h := h.2 hc
      obtain ⟨o8, h⟩ := h
      refine zw_iload_n (pc := 22) (n := 1) (i := 1) 1 (by decide +kernel) rfl rfl ?_
      refine zw_if_eq (pc := 23) (off := 18) (tgt := 41) (by decide +kernel) (by decide) o8 (fun hc => ?_) (fun hc => ?_)
      · replace h := h.1 hc
        refine zw_aload_n (pc := 41) (n := 0) (i := 0) 0 (by decide +kernel) rfl rfl ?_
        have q9 : zS (c + 4) 13 8 := zq 2 h_c rfl
        refine zx_getR (pc := 42) (o := 4) (r := (c + 4)) zf_0_28 (by decide +kernel) rfl h_c rfl (by decide) rfl ?_
        refine zw_iload_n (pc := 45) (n := 2) (i := 2) 2 (by decide +kernel) rfl rfl ?_
        have q10 : zS (c + 18 + 2 * v2.toNat) 3 2 := zS_cast (zqe_13 (j := v2.toNat) q9 (by omega)) (by show (c + 4) + 14 + 2 * v2.toNat = (c + 18 + 2 * v2.toNat); omega)
        refine zx_aaload (pc := 46) (k := 13) (r := (c + 18 + 2 * v2.toNat)) (by decide +kernel) (by decide) ⟨8, q9, o3.1, o3.2⟩ (by show (c + 4) + 14 + 2 * v2.toNat = (c + 18 + 2 * v2.toNat); omega) ?_
        refine zx_getI (pc := 47) zf_0_37 (by decide +kernel) rfl q10 ?_
        refine zw_istore_n (pc := 50) (n := 1) (i := 1) (lv' := [(0, .ref c), (1, .int (zJ (μ5 (c + 18 + 2 * v2.toNat) 1))), (2, .int (zJ v2))]) (by decide +kernel) rfl (Nat.le_of_ble_eq_true rfl) rfl ?_
        refine zw_iinc (pc := 51) (i := 2) (n := 1) (lv' := [(0, .ref c), (1, .int (zJ (μ5 (c + 18 + 2 * v2.toNat) 1))), (2, .int (zJ (v2 + 1)))]) 2 (by decide +kernel) rfl rfl (Nat.le_of_ble_eq_true rfl) rfl ?_
        refine zw_goto (pc := 54) (off := (-50)) (tgt := 4) (by decide +kernel) (by decide) ?_
        exact h
      · replace h := h.2 hc
        obtain ⟨o13, h⟩ := h
        refine zw_aload_n (pc := 26) (n := 0) (i := 0) 0 (by decide +kernel) rfl rfl ?_
        have q11 : zS (c + 4) 13 8 := zq 2 h_c rfl
        refine zx_getR (pc := 27) (o := 4) (r := (c + 4)) zf_0_28 (by decide +kernel) rfl h_c rfl (by decide) rfl ?_
        refine zw_iload_n (pc := 30) (n := 2) (i := 2) 2 (by decide +kernel) rfl rfl ?_
        have q12 : zS (c + 18 + 2 * v2.toNat) 3 2 := zS_cast (zqe_13 (j := v2.toNat) q11 (by omega)) (by show (c + 4) + 14 + 2 * v2.toNat = (c + 18 + 2 * v2.toNat); omega)
        refine zx_aaload (pc := 31) (k := 13) (r := (c + 18 + 2 * v2.toNat)) (by decide +kernel) (by decide) ⟨8, q11, o3.1, o3.2⟩ (by show (c + 4) + 14 + 2 * v2.toNat = (c + 18 + 2 * v2.toNat); omega) ?_
        refine zx_getI (pc := 32) zf_0_37 (by decide +kernel) rfl q12 ?_
        refine zw_iload_n (pc := 35) (n := 1) (i := 1) 1 (by decide +kernel) rfl rfl ?_
        refine zw_icmp_eq (pc := 36) (off := 5) (tgt := 41) (by decide +kernel) (by decide) o13 o8 (fun hc => ?_) (fun hc => ?_)
        · replace h := h.1 hc
          refine zw_aload_n (pc := 41) (n := 0) (i := 0) 0 (by decide +kernel) rfl rfl ?_
          have q14 : zS (c + 4) 13 8 := zq 2 h_c rfl
          refine zx_getR (pc := 42) (o := 4) (r := (c + 4)) zf_0_28 (by decide +kernel) rfl h_c rfl (by decide) rfl ?_
          refine zw_iload_n (pc := 45) (n := 2) (i := 2) 2 (by decide +kernel) rfl rfl ?_
          have q15 : zS (c + 18 + 2 * v2.toNat) 3 2 := zS_cast (zqe_13 (j := v2.toNat) q14 (by omega)) (by show (c + 4) + 14 + 2 * v2.toNat = (c + 18 + 2 * v2.toNat); omega)
          refine zx_aaload (pc := 46) (k := 13) (r := (c + 18 + 2 * v2.toNat)) (by decide +kernel) (by decide) ⟨8, q14, o3.1, o3.2⟩ (by show (c + 4) + 14 + 2 * v2.toNat = (c + 18 + 2 * v2.toNat); omega) ?_
          refine zx_getI (pc := 47) zf_0_37 (by decide +kernel) rfl q15 ?_
          refine zw_istore_n (pc := 50) (n := 1) (i := 1) (lv' := [(0, .ref c), (1, .int (zJ (μ5 (c + 18 + 2 * v2.toNat) 1))), (2, .int (zJ v2))]) (by decide +kernel) rfl (Nat.le_of_ble_eq_true rfl) rfl ?_
          refine zw_iinc (pc := 51) (i := 2) (n := 1) (lv' := [(0, .ref c), (1, .int (zJ (μ5 (c + 18 + 2 * v2.toNat) 1))), (2, .int (zJ (v2 + 1)))]) 2 (by decide +kernel) rfl rfl (Nat.le_of_ble_eq_true rfl) rfl ?_
          refine zw_goto (pc := 54) (off := (-50)) (tgt := 4) (by decide +kernel) (by decide) ?_
          exact h
        · replace h := h.2 hc
          refine zw_iconst (pc := 39) (n := 0) (by decide +kernel) ?_
          exact zw_iret (pc := 40) (by decide +kernel) rfl (Nat.le_refl _) (Nat.le_refl _) ⟨_, _, rfl, rfl, h⟩
abbrev at_X0_joinAt_8 (g : zG) (φ : Int → zMu → Prop) (c : Nat) (v1 : Int) (v2 : Int) (v4 : Int) (v6 : Int) (μ : zMu) : Prop := zWP g zm_X0_joinAt (zmo g zm_X0_joinAt (zΦl φ)) 8 [(0, .ref c), (1, .int (zJ v1)), (2, .long (zL v2)), (4, .long (zL v4)), (6, .int (zJ v6))] [] 0 0 (zw μ)
theorem sg_X0_joinAt {g : zG} {φ : Int → zMu → Prop} {c : Nat} {v1 : Int} {μ : zMu} (h_c : zS c 0 5)
    (h : at_X0_joinAt_8 g φ c v1 1 0 0 μ) : zOl g zm_X0_joinAt [.ref c, .int (zJ v1)] μ φ := by
  refine zok_of (by decide +kernel) rfl ?_
  show zWP g zm_X0_joinAt (zmo g zm_X0_joinAt (zΦl φ)) 0 [(0, .ref c), (1, .int (zJ v1))] [] 0 0 (zw μ)
  refine zw_lconst (pc := 0) (n := 1) (v := 1) (by decide +kernel) rfl ?_
  refine zw_lstore_n (pc := 1) (n := 2) (i := 2) (lv' := [(0, .ref c), (1, .int (zJ v1)), (2, .long (zL 1))]) (by decide +kernel) rfl (Nat.le_of_ble_eq_true rfl) rfl ?_
  refine zw_lconst (pc := 2) (n := 0) (v := 0) (by decide +kernel) rfl ?_
  refine zw_lstore (pc := 3) (i := 4) (lv' := [(0, .ref c), (1, .int (zJ v1)), (2, .long (zL 1)), (4, .long (zL 0))]) (by decide +kernel) (Nat.le_of_ble_eq_true rfl) rfl ?_
  refine zw_iconst (pc := 5) (n := 0) (by decide +kernel) ?_
  refine zw_istore (pc := 6) (i := 6) (lv' := [(0, .ref c), (1, .int (zJ v1)), (2, .long (zL 1)), (4, .long (zL 0)), (6, .int (zJ 0))]) (by decide +kernel) (Nat.le_of_ble_eq_true rfl) rfl ?_
  exact h
theorem sg_X0_joinAt_8 {g : zG} {φ : Int → zMu → Prop} {c : Nat} {v1 : Int} {v2 : Int} {v4 : Int} {v6 : Int} {μ : zMu} (h_c : zS c 0 5)
    (h : (zR v6) ∧ ((8 ≤ v6 → (zR64 (2 * v4)) ∧ (zR64 v2) ∧ (zR (zcmp (2 * v4) v2)) ∧ (((zcmp (2 * v4) v2) ≤ 0 → φ v4 μ) ∧ (0 < (zcmp (2 * v4) v2) → φ (v4 - v2) μ))) ∧ (v6 < 8 → (0 ≤ v6 ∧ v6 < 8) ∧ zOi g zm_X3_isMissing [.ref (c + 18 + 2 * v6.toNat)] μ (fun x9 μ8 => (zR x9) ∧ ((¬ x9 = 0 → at_X0_joinAt_8 g φ c v1 v2 v4 (v6 + 1) μ8) ∧ (x9 = 0 → (0 ≤ v1 ∧ v1 < 81) ∧ (zR (μ8 (c + 5) v6.toNat)) ∧ (zR64 v4) ∧ (zR64 (μ8 (c + 5) v6.toNat)) ∧ ((μ8 (c + 5) v6.toNat) ≠ 0) ∧ (zR (((μ8 ((c + 18 + 2 * v6.toNat) + 1) v1.toNat) + (μ8 (c + 5) v6.toNat)) - (v4.tmod (μ8 (c + 5) v6.toNat)))) ∧ (zR64 v2) ∧ zOi g zm_X10_inverse [.int (zJ (v2.tmod (μ8 (c + 5) v6.toNat))), .int (zJ (μ8 (c + 5) v6.toNat))] μ8 (fun x23 μ22 => (zR (((((μ8 ((c + 18 + 2 * v6.toNat) + 1) v1.toNat) + (μ8 (c + 5) v6.toNat)) - (v4.tmod (μ8 (c + 5) v6.toNat))).tmod (μ8 (c + 5) v6.toNat)) * x23)) ∧ (zR ((((((μ8 ((c + 18 + 2 * v6.toNat) + 1) v1.toNat) + (μ8 (c + 5) v6.toNat)) - (v4.tmod (μ8 (c + 5) v6.toNat))).tmod (μ8 (c + 5) v6.toNat)) * x23).tmod (μ8 (c + 5) v6.toNat))) ∧ at_X0_joinAt_8 g φ c v1 (v2 * (μ8 (c + 5) v6.toNat)) (v4 + (v2 * ((((((μ8 ((c + 18 + 2 * v6.toNat) + 1) v1.toNat) + (μ8 (c + 5) v6.toNat)) - (v4.tmod (μ8 (c + 5) v6.toNat))).tmod (μ8 (c + 5) v6.toNat)) * x23).tmod (μ8 (c + 5) v6.toNat)))) (v6 + 1) μ22))))))) : at_X0_joinAt_8 g φ c v1 v2 v4 v6 μ := by
  obtain ⟨o1, h⟩ := h
  refine zw_iload (pc := 8) (i := 6) 4 (by decide +kernel) rfl ?_
  refine zw_bipush (pc := 10) (n := 8) (by decide +kernel) (by decide +kernel) ?_
  refine zw_icmp_ge (pc := 12) (off := 94) (tgt := 106) (by decide +kernel) (by decide) o1 ⟨by decide, by decide⟩ (fun hc => ?_) (fun hc => ?_)
  · replace h := h.1 hc
    obtain ⟨o2, o3, o4, h⟩ := h
    refine zw_ldc2 (pc := 106) (v := 2) (by decide +kernel) zk_0_62 ?_
    refine zw_lload (pc := 109) (i := 4) 3 (by decide +kernel) rfl ?_
    refine zw_lmul (pc := 111) (by decide +kernel) ?_
    refine zw_lload_n (pc := 112) (n := 2) (i := 2) 2 (by decide +kernel) rfl rfl ?_
    refine zw_lcmp (pc := 113) (by decide +kernel) o2 o3 ?_
    refine zw_if_le (pc := 114) (off := 10) (tgt := 124) (by decide +kernel) (by decide) o4 (fun hc => ?_) (fun hc => ?_)
    · replace h := h.1 hc
      refine zw_lload (pc := 124) (i := 4) 3 (by decide +kernel) rfl ?_
      exact zw_lret (pc := 126) (by decide +kernel) rfl (Nat.le_refl _) (Nat.le_refl _) ⟨_, _, rfl, rfl, h⟩
    · replace h := h.2 hc
      refine zw_lload (pc := 117) (i := 4) 3 (by decide +kernel) rfl ?_
      refine zw_lload_n (pc := 119) (n := 2) (i := 2) 2 (by decide +kernel) rfl rfl ?_
      refine zw_lsub (pc := 120) (by decide +kernel) ?_
      refine zw_goto (pc := 121) (off := 5) (tgt := 126) (by decide +kernel) (by decide) ?_
      exact zw_lret (pc := 126) (by decide +kernel) rfl (Nat.le_refl _) (Nat.le_refl _) ⟨_, _, rfl, rfl, h⟩
  · replace h := h.2 hc
    obtain ⟨o6, h⟩ := h
    refine zw_aload_n (pc := 15) (n := 0) (i := 0) 0 (by decide +kernel) rfl rfl ?_
    have q5 : zS (c + 4) 13 8 := zq 2 h_c rfl
    refine zx_getR (pc := 16) (o := 4) (r := (c + 4)) zf_0_28 (by decide +kernel) rfl h_c rfl (by decide) rfl ?_
    refine zw_iload (pc := 19) (i := 6) 4 (by decide +kernel) rfl ?_
    have q7 : zS (c + 18 + 2 * v6.toNat) 3 2 := zS_cast (zqe_13 (j := v6.toNat) q5 (by omega)) (by show (c + 4) + 14 + 2 * v6.toNat = (c + 18 + 2 * v6.toNat); omega)
    refine zx_aaload (pc := 21) (k := 13) (r := (c + 18 + 2 * v6.toNat)) (by decide +kernel) (by decide) ⟨8, q5, o6.1, o6.2⟩ (by show (c + 4) + 14 + 2 * v6.toNat = (c + 18 + 2 * v6.toNat); omega) ?_
    refine zx_callV (pc := 22) (As := []) h zi_X3_isMissing zii_X3_isMissing zie_X3_isMissing zl_0_54 (by decide +kernel) ⟨Nat.le_of_ble_eq_true rfl, Nat.le_of_ble_eq_true rfl⟩ rfl q7 (by decide) rfl rfl ⟨rfl, rfl⟩ ⟨Nat.zero_le _, Nat.zero_le _⟩ (zki (fun x9 μ8 h => ?_))
    obtain ⟨o10, h⟩ := h
    refine zw_if_ne (pc := 25) (off := 75) (tgt := 100) (by decide +kernel) (by decide) o10 (fun hc => ?_) (fun hc => ?_)
    · replace h := h.1 hc
      refine zw_iinc (pc := 100) (i := 6) (n := 1) (lv' := [(0, .ref c), (1, .int (zJ v1)), (2, .long (zL v2)), (4, .long (zL v4)), (6, .int (zJ (v6 + 1)))]) 4 (by decide +kernel) rfl rfl (Nat.le_of_ble_eq_true rfl) rfl ?_
      refine zw_goto (pc := 103) (off := (-95)) (tgt := 8) (by decide +kernel) (by decide) ?_
      exact h
    · replace h := h.2 hc
      obtain ⟨o15, o16, o17, o18, o19, o20, o21, h⟩ := h
      refine zw_aload_n (pc := 28) (n := 0) (i := 0) 0 (by decide +kernel) rfl rfl ?_
      have q11 : zS (c + 5) 12 8 := zq 3 h_c rfl
      refine zx_getR (pc := 29) (o := 5) (r := (c + 5)) zf_0_32 (by decide +kernel) rfl h_c rfl (by decide) rfl ?_
      refine zw_iload (pc := 32) (i := 6) 4 (by decide +kernel) rfl ?_
      refine zx_iaload (pc := 34) (by decide +kernel) ⟨8, q11, o6.1, o6.2⟩ ?_
      refine zw_istore (pc := 35) (i := 7) (lv' := [(0, .ref c), (1, .int (zJ v1)), (2, .long (zL v2)), (4, .long (zL v4)), (6, .int (zJ v6)), (7, .int (zJ (μ8 (c + 5) v6.toNat)))]) (by decide +kernel) (Nat.le_of_ble_eq_true rfl) rfl ?_
      refine zw_aload_n (pc := 37) (n := 0) (i := 0) 0 (by decide +kernel) rfl rfl ?_
      have q12 : zS (c + 4) 13 8 := zq 2 h_c rfl
      refine zx_getR (pc := 38) (o := 4) (r := (c + 4)) zf_0_28 (by decide +kernel) rfl h_c rfl (by decide) rfl ?_
      refine zw_iload (pc := 41) (i := 6) 4 (by decide +kernel) rfl ?_
      have q13 : zS (c + 18 + 2 * v6.toNat) 3 2 := zS_cast (zqe_13 (j := v6.toNat) q12 (by omega)) (by show (c + 4) + 14 + 2 * v6.toNat = (c + 18 + 2 * v6.toNat); omega)
      refine zx_aaload (pc := 43) (k := 13) (r := (c + 18 + 2 * v6.toNat)) (by decide +kernel) (by decide) ⟨8, q12, o6.1, o6.2⟩ (by show (c + 4) + 14 + 2 * v6.toNat = (c + 18 + 2 * v6.toNat); omega) ?_
      have q14 : zS ((c + 18 + 2 * v6.toNat) + 1) 12 81 := zq 0 q13 rfl
      refine zx_getR (pc := 44) (o := 1) (r := ((c + 18 + 2 * v6.toNat) + 1)) zf_0_55 (by decide +kernel) rfl q13 rfl (by decide) rfl ?_
      refine zw_iload_n (pc := 47) (n := 1) (i := 1) 1 (by decide +kernel) rfl rfl ?_
      refine zx_iaload (pc := 48) (by decide +kernel) ⟨81, q14, o15.1, o15.2⟩ ?_
      refine zw_iload (pc := 49) (i := 7) 5 (by decide +kernel) rfl ?_
      refine zw_iadd (pc := 51) (by decide +kernel) ?_
      refine zw_lload (pc := 52) (i := 4) 3 (by decide +kernel) rfl ?_
      refine zw_iload (pc := 54) (i := 7) 5 (by decide +kernel) rfl ?_
      refine zw_i2l (pc := 56) (by decide +kernel) o16 ?_
      refine zw_lrem (pc := 57) (by decide +kernel) o17 o18 o19 ?_
      refine zw_l2i (pc := 58) (by decide +kernel) ?_
      refine zw_isub (pc := 59) (by decide +kernel) ?_
      refine zw_iload (pc := 60) (i := 7) 5 (by decide +kernel) rfl ?_
      refine zw_irem (pc := 62) (by decide +kernel) o20 o16 o19 ?_
      refine zw_istore (pc := 63) (i := 8) (lv' := [(0, .ref c), (1, .int (zJ v1)), (2, .long (zL v2)), (4, .long (zL v4)), (6, .int (zJ v6)), (7, .int (zJ (μ8 (c + 5) v6.toNat))), (8, .int (zJ ((((μ8 ((c + 18 + 2 * v6.toNat) + 1) v1.toNat) + (μ8 (c + 5) v6.toNat)) - (v4.tmod (μ8 (c + 5) v6.toNat))).tmod (μ8 (c + 5) v6.toNat))))]) (by decide +kernel) (Nat.le_of_ble_eq_true rfl) rfl ?_
      refine zw_iload (pc := 65) (i := 8) 6 (by decide +kernel) rfl ?_
      refine zw_lload_n (pc := 67) (n := 2) (i := 2) 2 (by decide +kernel) rfl rfl ?_
      refine zw_iload (pc := 68) (i := 7) 5 (by decide +kernel) rfl ?_
      refine zw_i2l (pc := 70) (by decide +kernel) o16 ?_
      refine zw_lrem (pc := 71) (by decide +kernel) o21 o18 o19 ?_
      refine zw_l2i (pc := 72) (by decide +kernel) ?_
      refine zw_iload (pc := 73) (i := 7) 5 (by decide +kernel) rfl ?_
      refine zx_callSN (pc := 75) (As := [.int (zJ (v2.tmod (μ8 (c + 5) v6.toNat))), .int (zJ (μ8 (c + 5) v6.toNat))]) h zi_X10_inverse zis_X10_inverse zn_0_58 (by decide +kernel) ⟨Nat.le_of_ble_eq_true rfl, Nat.le_of_ble_eq_true rfl⟩ rfl rfl ⟨rfl, rfl⟩ ⟨Nat.zero_le _, Nat.zero_le _⟩ (zki (fun x23 μ22 h => ?_))
      obtain ⟨o24, o25, h⟩ := h
      refine zw_imul (pc := 78) (by decide +kernel) ?_
      refine zw_iload (pc := 79) (i := 7) 5 (by decide +kernel) rfl ?_
      refine zw_irem (pc := 81) (by decide +kernel) o24 o16 o19 ?_
      refine zw_istore (pc := 82) (i := 9) (lv' := [(0, .ref c), (1, .int (zJ v1)), (2, .long (zL v2)), (4, .long (zL v4)), (6, .int (zJ v6)), (7, .int (zJ (μ8 (c + 5) v6.toNat))), (8, .int (zJ ((((μ8 ((c + 18 + 2 * v6.toNat) + 1) v1.toNat) + (μ8 (c + 5) v6.toNat)) - (v4.tmod (μ8 (c + 5) v6.toNat))).tmod (μ8 (c + 5) v6.toNat)))), (9, .int (zJ ((((((μ8 ((c + 18 + 2 * v6.toNat) + 1) v1.toNat) + (μ8 (c + 5) v6.toNat)) - (v4.tmod (μ8 (c + 5) v6.toNat))).tmod (μ8 (c + 5) v6.toNat)) * x23).tmod (μ8 (c + 5) v6.toNat))))]) (by decide +kernel) (Nat.le_of_ble_eq_true rfl) rfl ?_
      refine zw_lload (pc := 84) (i := 4) 3 (by decide +kernel) rfl ?_
      refine zw_lload_n (pc := 86) (n := 2) (i := 2) 2 (by decide +kernel) rfl rfl ?_
      refine zw_iload (pc := 87) (i := 9) 7 (by decide +kernel) rfl ?_
      refine zw_i2l (pc := 89) (by decide +kernel) o25 ?_
      refine zw_lmul (pc := 90) (by decide +kernel) ?_
      refine zw_ladd (pc := 91) (by decide +kernel) ?_
      refine zw_lstore (pc := 92) (i := 4) (lv' := [(0, .ref c), (1, .int (zJ v1)), (2, .long (zL v2)), (4, .long (zL (v4 + (v2 * ((((((μ8 ((c + 18 + 2 * v6.toNat) + 1) v1.toNat) + (μ8 (c + 5) v6.toNat)) - (v4.tmod (μ8 (c + 5) v6.toNat))).tmod (μ8 (c + 5) v6.toNat)) * x23).tmod (μ8 (c + 5) v6.toNat)))))), (6, .int (zJ v6)), (7, .int (zJ (μ8 (c + 5) v6.toNat))), (8, .int (zJ ((((μ8 ((c + 18 + 2 * v6.toNat) + 1) v1.toNat) + (μ8 (c + 5) v6.toNat)) - (v4.tmod (μ8 (c + 5) v6.toNat))).tmod (μ8 (c + 5) v6.toNat)))), (9, .int (zJ ((((((μ8 ((c + 18 + 2 * v6.toNat) + 1) v1.toNat) + (μ8 (c + 5) v6.toNat)) - (v4.tmod (μ8 (c + 5) v6.toNat))).tmod (μ8 (c + 5) v6.toNat)) * x23).tmod (μ8 (c + 5) v6.toNat))))]) (by decide +kernel) (Nat.le_of_ble_eq_true rfl) rfl ?_
      refine zw_lload_n (pc := 94) (n := 2) (i := 2) 2 (by decide +kernel) rfl rfl ?_
      refine zw_iload (pc := 95) (i := 7) 5 (by decide +kernel) rfl ?_
      refine zw_i2l (pc := 97) (by decide +kernel) o16 ?_
      refine zw_lmul (pc := 98) (by decide +kernel) ?_
      refine zw_lstore_n (pc := 99) (n := 2) (i := 2) (lv' := [(0, .ref c), (1, .int (zJ v1)), (2, .long (zL (v2 * (μ8 (c + 5) v6.toNat)))), (4, .long (zL (v4 + (v2 * ((((((μ8 ((c + 18 + 2 * v6.toNat) + 1) v1.toNat) + (μ8 (c + 5) v6.toNat)) - (v4.tmod (μ8 (c + 5) v6.toNat))).tmod (μ8 (c + 5) v6.toNat)) * x23).tmod (μ8 (c + 5) v6.toNat)))))), (6, .int (zJ v6)), (7, .int (zJ (μ8 (c + 5) v6.toNat))), (8, .int (zJ ((((μ8 ((c + 18 + 2 * v6.toNat) + 1) v1.toNat) + (μ8 (c + 5) v6.toNat)) - (v4.tmod (μ8 (c + 5) v6.toNat))).tmod (μ8 (c + 5) v6.toNat)))), (9, .int (zJ ((((((μ8 ((c + 18 + 2 * v6.toNat) + 1) v1.toNat) + (μ8 (c + 5) v6.toNat)) - (v4.tmod (μ8 (c + 5) v6.toNat))).tmod (μ8 (c + 5) v6.toNat)) * x23).tmod (μ8 (c + 5) v6.toNat))))]) (by decide +kernel) rfl (Nat.le_of_ble_eq_true rfl) rfl ?_
      refine zw_iinc (pc := 100) (i := 6) (n := 1) (lv' := [(0, .ref c), (1, .int (zJ v1)), (2, .long (zL (v2 * (μ8 (c + 5) v6.toNat)))), (4, .long (zL (v4 + (v2 * ((((((μ8 ((c + 18 + 2 * v6.toNat) + 1) v1.toNat) + (μ8 (c + 5) v6.toNat)) - (v4.tmod (μ8 (c + 5) v6.toNat))).tmod (μ8 (c + 5) v6.toNat)) * x23).tmod (μ8 (c + 5) v6.toNat)))))), (6, .int (zJ (v6 + 1))), (7, .int (zJ (μ8 (c + 5) v6.toNat))), (8, .int (zJ ((((μ8 ((c + 18 + 2 * v6.toNat) + 1) v1.toNat) + (μ8 (c + 5) v6.toNat)) - (v4.tmod (μ8 (c + 5) v6.toNat))).tmod (μ8 (c + 5) v6.toNat)))), (9, .int (zJ ((((((μ8 ((c + 18 + 2 * v6.toNat) + 1) v1.toNat) + (μ8 (c + 5) v6.toNat)) - (v4.tmod (μ8 (c + 5) v6.toNat))).tmod (μ8 (c + 5) v6.toNat)) * x23).tmod (μ8 (c + 5) v6.toNat))))]) 4 (by decide +kernel) rfl rfl (Nat.le_of_ble_eq_true rfl) rfl ?_
      refine zw_goto (pc := 103) (off := (-95)) (tgt := 8) (by decide +kernel) (by decide) ?_
      exact zw_pick (lv' := [(0, .ref c), (1, .int (zJ v1)), (2, .long (zL (v2 * (μ8 (c + 5) v6.toNat)))), (4, .long (zL (v4 + (v2 * ((((((μ8 ((c + 18 + 2 * v6.toNat) + 1) v1.toNat) + (μ8 (c + 5) v6.toNat)) - (v4.tmod (μ8 (c + 5) v6.toNat))).tmod (μ8 (c + 5) v6.toNat)) * x23).tmod (μ8 (c + 5) v6.toNat)))))), (6, .int (zJ (v6 + 1)))]) [0, 1, 2, 3, 4] rfl h
abbrev at_X0_keptProduct_4 (g : zG) (φ : Int → zMu → Prop) (c : Nat) (v1 : Int) (v3 : Int) (μ : zMu) : Prop := zWP g zm_X0_keptProduct (zmo g zm_X0_keptProduct (zΦl φ)) 4 [(0, .ref c), (1, .long (zL v1)), (3, .int (zJ v3))] [] 0 0 (zw μ)
theorem sg_X0_keptProduct {g : zG} {φ : Int → zMu → Prop} {c : Nat} {μ : zMu} (h_c : zS c 0 5)
    (h : at_X0_keptProduct_4 g φ c 1 0 μ) : zOl g zm_X0_keptProduct [.ref c] μ φ := by
  refine zok_of (by decide +kernel) rfl ?_
  show zWP g zm_X0_keptProduct (zmo g zm_X0_keptProduct (zΦl φ)) 0 [(0, .ref c)] [] 0 0 (zw μ)
  refine zw_lconst (pc := 0) (n := 1) (v := 1) (by decide +kernel) rfl ?_
  refine zw_lstore_n (pc := 1) (n := 1) (i := 1) (lv' := [(0, .ref c), (1, .long (zL 1))]) (by decide +kernel) rfl (Nat.le_of_ble_eq_true rfl) rfl ?_
  refine zw_iconst (pc := 2) (n := 0) (by decide +kernel) ?_
  refine zw_istore_n (pc := 3) (n := 3) (i := 3) (lv' := [(0, .ref c), (1, .long (zL 1)), (3, .int (zJ 0))]) (by decide +kernel) rfl (Nat.le_of_ble_eq_true rfl) rfl ?_
  exact h
theorem sg_X0_keptProduct_4 {g : zG} {φ : Int → zMu → Prop} {c : Nat} {v1 : Int} {v3 : Int} {μ : zMu} (h_c : zS c 0 5)
    (h : (zR v3) ∧ ((8 ≤ v3 → φ v1 μ) ∧ (v3 < 8 → (0 ≤ v3 ∧ v3 < 8) ∧ zOi g zm_X3_isMissing [.ref (c + 18 + 2 * v3.toNat)] μ (fun x6 μ5 => (zR x6) ∧ ((¬ x6 = 0 → at_X0_keptProduct_4 g φ c v1 (v3 + 1) μ5) ∧ (x6 = 0 → (zR (μ5 (c + 5) v3.toNat)) ∧ at_X0_keptProduct_4 g φ c (v1 * (μ5 (c + 5) v3.toNat)) (v3 + 1) μ5)))))) : at_X0_keptProduct_4 g φ c v1 v3 μ := by
  obtain ⟨o1, h⟩ := h
  refine zw_iload_n (pc := 4) (n := 3) (i := 3) 2 (by decide +kernel) rfl rfl ?_
  refine zw_bipush (pc := 5) (n := 8) (by decide +kernel) (by decide +kernel) ?_
  refine zw_icmp_ge (pc := 7) (off := 31) (tgt := 38) (by decide +kernel) (by decide) o1 ⟨by decide, by decide⟩ (fun hc => ?_) (fun hc => ?_)
  · replace h := h.1 hc
    refine zw_lload_n (pc := 38) (n := 1) (i := 1) 1 (by decide +kernel) rfl rfl ?_
    exact zw_lret (pc := 39) (by decide +kernel) rfl (Nat.le_refl _) (Nat.le_refl _) ⟨_, _, rfl, rfl, h⟩
  · replace h := h.2 hc
    obtain ⟨o3, h⟩ := h
    refine zw_aload_n (pc := 10) (n := 0) (i := 0) 0 (by decide +kernel) rfl rfl ?_
    have q2 : zS (c + 4) 13 8 := zq 2 h_c rfl
    refine zx_getR (pc := 11) (o := 4) (r := (c + 4)) zf_0_28 (by decide +kernel) rfl h_c rfl (by decide) rfl ?_
    refine zw_iload_n (pc := 14) (n := 3) (i := 3) 2 (by decide +kernel) rfl rfl ?_
    have q4 : zS (c + 18 + 2 * v3.toNat) 3 2 := zS_cast (zqe_13 (j := v3.toNat) q2 (by omega)) (by show (c + 4) + 14 + 2 * v3.toNat = (c + 18 + 2 * v3.toNat); omega)
    refine zx_aaload (pc := 15) (k := 13) (r := (c + 18 + 2 * v3.toNat)) (by decide +kernel) (by decide) ⟨8, q2, o3.1, o3.2⟩ (by show (c + 4) + 14 + 2 * v3.toNat = (c + 18 + 2 * v3.toNat); omega) ?_
    refine zx_callV (pc := 16) (As := []) h zi_X3_isMissing zii_X3_isMissing zie_X3_isMissing zl_0_54 (by decide +kernel) ⟨Nat.le_of_ble_eq_true rfl, Nat.le_of_ble_eq_true rfl⟩ rfl q4 (by decide) rfl rfl ⟨rfl, rfl⟩ ⟨Nat.zero_le _, Nat.zero_le _⟩ (zki (fun x6 μ5 h => ?_))
    obtain ⟨o7, h⟩ := h
    refine zw_if_ne (pc := 19) (off := 13) (tgt := 32) (by decide +kernel) (by decide) o7 (fun hc => ?_) (fun hc => ?_)
    · replace h := h.1 hc
      refine zw_iinc (pc := 32) (i := 3) (n := 1) (lv' := [(0, .ref c), (1, .long (zL v1)), (3, .int (zJ (v3 + 1)))]) 2 (by decide +kernel) rfl rfl (Nat.le_of_ble_eq_true rfl) rfl ?_
      refine zw_goto (pc := 35) (off := (-31)) (tgt := 4) (by decide +kernel) (by decide) ?_
      exact h
    · replace h := h.2 hc
      obtain ⟨o9, h⟩ := h
      refine zw_lload_n (pc := 22) (n := 1) (i := 1) 1 (by decide +kernel) rfl rfl ?_
      refine zw_aload_n (pc := 23) (n := 0) (i := 0) 0 (by decide +kernel) rfl rfl ?_
      have q8 : zS (c + 5) 12 8 := zq 3 h_c rfl
      refine zx_getR (pc := 24) (o := 5) (r := (c + 5)) zf_0_32 (by decide +kernel) rfl h_c rfl (by decide) rfl ?_
      refine zw_iload_n (pc := 27) (n := 3) (i := 3) 2 (by decide +kernel) rfl rfl ?_
      refine zx_iaload (pc := 28) (by decide +kernel) ⟨8, q8, o3.1, o3.2⟩ ?_
      refine zw_i2l (pc := 29) (by decide +kernel) o9 ?_
      refine zw_lmul (pc := 30) (by decide +kernel) ?_
      refine zw_lstore_n (pc := 31) (n := 1) (i := 1) (lv' := [(0, .ref c), (1, .long (zL (v1 * (μ5 (c + 5) v3.toNat)))), (3, .int (zJ v3))]) (by decide +kernel) rfl (Nat.le_of_ble_eq_true rfl) rfl ?_
      refine zw_iinc (pc := 32) (i := 3) (n := 1) (lv' := [(0, .ref c), (1, .long (zL (v1 * (μ5 (c + 5) v3.toNat)))), (3, .int (zJ (v3 + 1)))]) 2 (by decide +kernel) rfl rfl (Nat.le_of_ble_eq_true rfl) rfl ?_
      refine zw_goto (pc := 35) (off := (-31)) (tgt := 4) (by decide +kernel) (by decide) ?_
      exact h
abbrev at_X0_copyFrom_21 (g : zG) (φ : zMu → Prop) (c : Nat) (v1 : Nat) (v2 : Int) (μ : zMu) : Prop := zWP g zm_X0_copyFrom (zmo g zm_X0_copyFrom (zΦv φ)) 21 [(0, .ref c), (1, .ref v1), (2, .int (zJ v2))] [] 0 0 (zw μ)
abbrev at_X0_copyFrom_50 (g : zG) (φ : zMu → Prop) (c : Nat) (v1 : Nat) (v2 : Int) (μ : zMu) : Prop := zWP g zm_X0_copyFrom (zmo g zm_X0_copyFrom (zΦv φ)) 50 [(0, .ref c), (1, .ref v1), (2, .int (zJ v2))] [] 0 0 (zw μ)
theorem sg_X0_copyFrom {g : zG} {φ : zMu → Prop} {c : Nat} {v1 : Nat} {μ : zMu} (h_c : zS c 0 5) (h_v1 : zS v1 0 5)
    (h : zOv g zm_X3_copyFrom [.ref (c + 2), .ref (v1 + 2)] (zup μ c 0 (μ v1 0)) (fun μ3 => at_X0_copyFrom_21 g φ c v1 0 μ3)) : zOv g zm_X0_copyFrom [.ref c, .ref v1] μ φ := by
  refine zok_of (by decide +kernel) rfl ?_
  show zWP g zm_X0_copyFrom (zmo g zm_X0_copyFrom (zΦv φ)) 0 [(0, .ref c), (1, .ref v1)] [] 0 0 (zw μ)
  refine zw_aload_n (pc := 0) (n := 0) (i := 0) 0 (by decide +kernel) rfl rfl ?_
  refine zw_aload_n (pc := 1) (n := 1) (i := 1) 1 (by decide +kernel) rfl rfl ?_
  refine zx_getI (pc := 2) zf_0_9 (by decide +kernel) rfl h_v1 ?_
  refine zx_putI (pc := 5) zf_0_9 (by decide +kernel) rfl h_c ?_
  refine zw_aload_n (pc := 8) (n := 0) (i := 0) 0 (by decide +kernel) rfl rfl ?_
  have q1 : zS (c + 2) 3 2 := zq 1 h_c rfl
  refine zx_getR (pc := 9) (o := 2) (r := (c + 2)) zf_0_24 (by decide +kernel) rfl h_c rfl (by decide) rfl ?_
  refine zw_aload_n (pc := 12) (n := 1) (i := 1) 1 (by decide +kernel) rfl rfl ?_
  have q2 : zS (v1 + 2) 3 2 := zq 1 h_v1 rfl
  refine zx_getR (pc := 13) (o := 2) (r := (v1 + 2)) zf_0_24 (by decide +kernel) rfl h_v1 rfl (by decide) rfl ?_
  refine zx_callV (pc := 16) (As := [.ref (v1 + 2)]) h zi_X3_copyFrom zii_X3_copyFrom zie_X3_copyFrom zl_0_43 (by decide +kernel) ⟨Nat.le_of_ble_eq_true rfl, Nat.le_of_ble_eq_true rfl⟩ rfl q1 (by decide) rfl rfl ⟨rfl, rfl⟩ ⟨Nat.zero_le _, Nat.zero_le _⟩ (zkv (fun μ3 h => ?_))
  refine zw_iconst (pc := 19) (n := 0) (by decide +kernel) ?_
  refine zw_istore_n (pc := 20) (n := 2) (i := 2) (lv' := [(0, .ref c), (1, .ref v1), (2, .int (zJ 0))]) (by decide +kernel) rfl (Nat.le_of_ble_eq_true rfl) rfl ?_
  exact h
theorem sg_X0_copyFrom_21 {g : zG} {φ : zMu → Prop} {c : Nat} {v1 : Nat} {v2 : Int} {μ : zMu} (h_c : zS c 0 5) (h_v1 : zS v1 0 5)
    (h : (zR v2) ∧ ((6 ≤ v2 → at_X0_copyFrom_50 g φ c v1 0 μ) ∧ (v2 < 6 → (0 ≤ v2 ∧ v2 < 6) ∧ zOv g zm_X6_copyFrom [.ref (c + 6 + 2 * v2.toNat), .ref (v1 + 6 + 2 * v2.toNat)] μ (fun μ7 => at_X0_copyFrom_21 g φ c v1 (v2 + 1) μ7)))) : at_X0_copyFrom_21 g φ c v1 v2 μ := by
  obtain ⟨o1, h⟩ := h
  refine zw_iload_n (pc := 21) (n := 2) (i := 2) 2 (by decide +kernel) rfl rfl ?_
  refine zw_bipush (pc := 22) (n := 6) (by decide +kernel) (by decide +kernel) ?_
  refine zw_icmp_ge (pc := 24) (off := 24) (tgt := 48) (by decide +kernel) (by decide) o1 ⟨by decide, by decide⟩ (fun hc => ?_) (fun hc => ?_)
  · replace h := h.1 hc
    refine zw_iconst (pc := 48) (n := 0) (by decide +kernel) ?_
    refine zw_istore_n (pc := 49) (n := 2) (i := 2) (lv' := [(0, .ref c), (1, .ref v1), (2, .int (zJ 0))]) (by decide +kernel) rfl (Nat.le_of_ble_eq_true rfl) rfl ?_
    exact h
  · replace h := h.2 hc
    obtain ⟨o3, h⟩ := h
    refine zw_aload_n (pc := 27) (n := 0) (i := 0) 0 (by decide +kernel) rfl rfl ?_
    have q2 : zS (c + 1) 14 6 := zq 0 h_c rfl
    refine zx_getR (pc := 28) (o := 1) (r := (c + 1)) zf_0_17 (by decide +kernel) rfl h_c rfl (by decide) rfl ?_
    refine zw_iload_n (pc := 31) (n := 2) (i := 2) 2 (by decide +kernel) rfl rfl ?_
    have q4 : zS (c + 6 + 2 * v2.toNat) 6 3 := zS_cast (zqe_14 (j := v2.toNat) q2 (by omega)) (by show (c + 1) + 5 + 2 * v2.toNat = (c + 6 + 2 * v2.toNat); omega)
    refine zx_aaload (pc := 32) (k := 14) (r := (c + 6 + 2 * v2.toNat)) (by decide +kernel) (by decide) ⟨6, q2, o3.1, o3.2⟩ (by show (c + 1) + 5 + 2 * v2.toNat = (c + 6 + 2 * v2.toNat); omega) ?_
    refine zw_aload_n (pc := 33) (n := 1) (i := 1) 1 (by decide +kernel) rfl rfl ?_
    have q5 : zS (v1 + 1) 14 6 := zq 0 h_v1 rfl
    refine zx_getR (pc := 34) (o := 1) (r := (v1 + 1)) zf_0_17 (by decide +kernel) rfl h_v1 rfl (by decide) rfl ?_
    refine zw_iload_n (pc := 37) (n := 2) (i := 2) 2 (by decide +kernel) rfl rfl ?_
    have q6 : zS (v1 + 6 + 2 * v2.toNat) 6 3 := zS_cast (zqe_14 (j := v2.toNat) q5 (by omega)) (by show (v1 + 1) + 5 + 2 * v2.toNat = (v1 + 6 + 2 * v2.toNat); omega)
    refine zx_aaload (pc := 38) (k := 14) (r := (v1 + 6 + 2 * v2.toNat)) (by decide +kernel) (by decide) ⟨6, q5, o3.1, o3.2⟩ (by show (v1 + 1) + 5 + 2 * v2.toNat = (v1 + 6 + 2 * v2.toNat); omega) ?_
    refine zx_callV (pc := 39) (As := [.ref (v1 + 6 + 2 * v2.toNat)]) h zi_X6_copyFrom zii_X6_copyFrom zie_X6_copyFrom zl_0_47 (by decide +kernel) ⟨Nat.le_of_ble_eq_true rfl, Nat.le_of_ble_eq_true rfl⟩ rfl q4 (by decide) rfl rfl ⟨rfl, rfl⟩ ⟨Nat.zero_le _, Nat.zero_le _⟩ (zkv (fun μ7 h => ?_))
    refine zw_iinc (pc := 42) (i := 2) (n := 1) (lv' := [(0, .ref c), (1, .ref v1), (2, .int (zJ (v2 + 1)))]) 2 (by decide +kernel) rfl rfl (Nat.le_of_ble_eq_true rfl) rfl ?_
    refine zw_goto (pc := 45) (off := (-24)) (tgt := 21) (by decide +kernel) (by decide) ?_
    exact h
theorem sg_X0_copyFrom_50 {g : zG} {φ : zMu → Prop} {c : Nat} {v1 : Nat} {v2 : Int} {μ : zMu} (h_c : zS c 0 5) (h_v1 : zS v1 0 5)
    (h : (zR v2) ∧ ((8 ≤ v2 → φ μ) ∧ (v2 < 8 → (0 ≤ v2 ∧ v2 < 8) ∧ zOv g zm_X3_copyFrom [.ref (c + 18 + 2 * v2.toNat), .ref (v1 + 18 + 2 * v2.toNat)] μ (fun μ7 => at_X0_copyFrom_50 g φ c v1 (v2 + 1) (zup μ7 (c + 5) v2.toNat (μ7 (v1 + 5) v2.toNat)))))) : at_X0_copyFrom_50 g φ c v1 v2 μ := by
  obtain ⟨o1, h⟩ := h
  refine zw_iload_n (pc := 50) (n := 2) (i := 2) 2 (by decide +kernel) rfl rfl ?_
  refine zw_bipush (pc := 51) (n := 8) (by decide +kernel) (by decide +kernel) ?_
  refine zw_icmp_ge (pc := 53) (off := 36) (tgt := 89) (by decide +kernel) (by decide) o1 ⟨by decide, by decide⟩ (fun hc => ?_) (fun hc => ?_)
  · replace h := h.1 hc
    exact zw_vret (pc := 89) (by decide +kernel) rfl (Nat.le_refl _) (Nat.le_refl _) ⟨_, rfl, rfl, h⟩
  · replace h := h.2 hc
    obtain ⟨o3, h⟩ := h
    refine zw_aload_n (pc := 56) (n := 0) (i := 0) 0 (by decide +kernel) rfl rfl ?_
    have q2 : zS (c + 4) 13 8 := zq 2 h_c rfl
    refine zx_getR (pc := 57) (o := 4) (r := (c + 4)) zf_0_28 (by decide +kernel) rfl h_c rfl (by decide) rfl ?_
    refine zw_iload_n (pc := 60) (n := 2) (i := 2) 2 (by decide +kernel) rfl rfl ?_
    have q4 : zS (c + 18 + 2 * v2.toNat) 3 2 := zS_cast (zqe_13 (j := v2.toNat) q2 (by omega)) (by show (c + 4) + 14 + 2 * v2.toNat = (c + 18 + 2 * v2.toNat); omega)
    refine zx_aaload (pc := 61) (k := 13) (r := (c + 18 + 2 * v2.toNat)) (by decide +kernel) (by decide) ⟨8, q2, o3.1, o3.2⟩ (by show (c + 4) + 14 + 2 * v2.toNat = (c + 18 + 2 * v2.toNat); omega) ?_
    refine zw_aload_n (pc := 62) (n := 1) (i := 1) 1 (by decide +kernel) rfl rfl ?_
    have q5 : zS (v1 + 4) 13 8 := zq 2 h_v1 rfl
    refine zx_getR (pc := 63) (o := 4) (r := (v1 + 4)) zf_0_28 (by decide +kernel) rfl h_v1 rfl (by decide) rfl ?_
    refine zw_iload_n (pc := 66) (n := 2) (i := 2) 2 (by decide +kernel) rfl rfl ?_
    have q6 : zS (v1 + 18 + 2 * v2.toNat) 3 2 := zS_cast (zqe_13 (j := v2.toNat) q5 (by omega)) (by show (v1 + 4) + 14 + 2 * v2.toNat = (v1 + 18 + 2 * v2.toNat); omega)
    refine zx_aaload (pc := 67) (k := 13) (r := (v1 + 18 + 2 * v2.toNat)) (by decide +kernel) (by decide) ⟨8, q5, o3.1, o3.2⟩ (by show (v1 + 4) + 14 + 2 * v2.toNat = (v1 + 18 + 2 * v2.toNat); omega) ?_
    refine zx_callV (pc := 68) (As := [.ref (v1 + 18 + 2 * v2.toNat)]) h zi_X3_copyFrom zii_X3_copyFrom zie_X3_copyFrom zl_0_43 (by decide +kernel) ⟨Nat.le_of_ble_eq_true rfl, Nat.le_of_ble_eq_true rfl⟩ rfl q4 (by decide) rfl rfl ⟨rfl, rfl⟩ ⟨Nat.zero_le _, Nat.zero_le _⟩ (zkv (fun μ7 h => ?_))
    refine zw_aload_n (pc := 71) (n := 0) (i := 0) 0 (by decide +kernel) rfl rfl ?_
    have q8 : zS (c + 5) 12 8 := zq 3 h_c rfl
    refine zx_getR (pc := 72) (o := 5) (r := (c + 5)) zf_0_32 (by decide +kernel) rfl h_c rfl (by decide) rfl ?_
    refine zw_iload_n (pc := 75) (n := 2) (i := 2) 2 (by decide +kernel) rfl rfl ?_
    refine zw_aload_n (pc := 76) (n := 1) (i := 1) 1 (by decide +kernel) rfl rfl ?_
    have q9 : zS (v1 + 5) 12 8 := zq 3 h_v1 rfl
    refine zx_getR (pc := 77) (o := 5) (r := (v1 + 5)) zf_0_32 (by decide +kernel) rfl h_v1 rfl (by decide) rfl ?_
    refine zw_iload_n (pc := 80) (n := 2) (i := 2) 2 (by decide +kernel) rfl rfl ?_
    refine zx_iaload (pc := 81) (by decide +kernel) ⟨8, q9, o3.1, o3.2⟩ ?_
    refine zx_iastore (pc := 82) (by decide +kernel) ⟨8, q8, o3.1, o3.2⟩ ?_
    refine zw_iinc (pc := 83) (i := 2) (n := 1) (lv' := [(0, .ref c), (1, .ref v1), (2, .int (zJ (v2 + 1)))]) 2 (by decide +kernel) rfl rfl (Nat.le_of_ble_eq_true rfl) rfl ?_
    refine zw_goto (pc := 86) (off := (-36)) (tgt := 50) (by decide +kernel) (by decide) ?_
    exact h
abbrev at_X0_seriesCount_4 (g : zG) (φ : Int → zMu → Prop) (c : Nat) (v1 : Int) (v2 : Int) (μ : zMu) : Prop := zWP g zm_X0_seriesCount (zmo g zm_X0_seriesCount (zΦi φ)) 4 [(0, .ref c), (1, .int (zJ v1)), (2, .int (zJ v2))] [] 0 0 (zw μ)
theorem sg_X0_seriesCount {g : zG} {φ : Int → zMu → Prop} {c : Nat} {μ : zMu} (h_c : zS c 0 5)
    (h : at_X0_seriesCount_4 g φ c 0 0 μ) : zOi g zm_X0_seriesCount [.ref c] μ φ := by
  refine zok_of (by decide +kernel) rfl ?_
  show zWP g zm_X0_seriesCount (zmo g zm_X0_seriesCount (zΦi φ)) 0 [(0, .ref c)] [] 0 0 (zw μ)
  refine zw_iconst (pc := 0) (n := 0) (by decide +kernel) ?_
  refine zw_istore_n (pc := 1) (n := 1) (i := 1) (lv' := [(0, .ref c), (1, .int (zJ 0))]) (by decide +kernel) rfl (Nat.le_of_ble_eq_true rfl) rfl ?_
  refine zw_iconst (pc := 2) (n := 0) (by decide +kernel) ?_
  refine zw_istore_n (pc := 3) (n := 2) (i := 2) (lv' := [(0, .ref c), (1, .int (zJ 0)), (2, .int (zJ 0))]) (by decide +kernel) rfl (Nat.le_of_ble_eq_true rfl) rfl ?_
  exact h
theorem sg_X0_seriesCount_4 {g : zG} {φ : Int → zMu → Prop} {c : Nat} {v1 : Int} {v2 : Int} {μ : zMu} (h_c : zS c 0 5)
    (h : (zR v2) ∧ ((6 ≤ v2 → φ v1 μ) ∧ (v2 < 6 → (0 ≤ v2 ∧ v2 < 6) ∧ zOi g zm_X6_isMissing [.ref (c + 6 + 2 * v2.toNat)] μ (fun x6 μ5 => (zR x6) ∧ ((¬ x6 = 0 → at_X0_seriesCount_4 g φ c v1 (v2 + 1) μ5) ∧ (x6 = 0 → at_X0_seriesCount_4 g φ c (v1 + 1) (v2 + 1) μ5)))))) : at_X0_seriesCount_4 g φ c v1 v2 μ := by
  obtain ⟨o1, h⟩ := h
  refine zw_iload_n (pc := 4) (n := 2) (i := 2) 2 (by decide +kernel) rfl rfl ?_
  refine zw_bipush (pc := 5) (n := 6) (by decide +kernel) (by decide +kernel) ?_
  refine zw_icmp_ge (pc := 7) (off := 24) (tgt := 31) (by decide +kernel) (by decide) o1 ⟨by decide, by decide⟩ (fun hc => ?_) (fun hc => ?_)
  · replace h := h.1 hc
    refine zw_iload_n (pc := 31) (n := 1) (i := 1) 1 (by decide +kernel) rfl rfl ?_
    exact zw_iret (pc := 32) (by decide +kernel) rfl (Nat.le_refl _) (Nat.le_refl _) ⟨_, _, rfl, rfl, h⟩
  · replace h := h.2 hc
    obtain ⟨o3, h⟩ := h
    refine zw_aload_n (pc := 10) (n := 0) (i := 0) 0 (by decide +kernel) rfl rfl ?_
    have q2 : zS (c + 1) 14 6 := zq 0 h_c rfl
    refine zx_getR (pc := 11) (o := 1) (r := (c + 1)) zf_0_17 (by decide +kernel) rfl h_c rfl (by decide) rfl ?_
    refine zw_iload_n (pc := 14) (n := 2) (i := 2) 2 (by decide +kernel) rfl rfl ?_
    have q4 : zS (c + 6 + 2 * v2.toNat) 6 3 := zS_cast (zqe_14 (j := v2.toNat) q2 (by omega)) (by show (c + 1) + 5 + 2 * v2.toNat = (c + 6 + 2 * v2.toNat); omega)
    refine zx_aaload (pc := 15) (k := 14) (r := (c + 6 + 2 * v2.toNat)) (by decide +kernel) (by decide) ⟨6, q2, o3.1, o3.2⟩ (by show (c + 1) + 5 + 2 * v2.toNat = (c + 6 + 2 * v2.toNat); omega) ?_
    refine zx_callV (pc := 16) (As := []) h zi_X6_isMissing zii_X6_isMissing zie_X6_isMissing zl_0_50 (by decide +kernel) ⟨Nat.le_of_ble_eq_true rfl, Nat.le_of_ble_eq_true rfl⟩ rfl q4 (by decide) rfl rfl ⟨rfl, rfl⟩ ⟨Nat.zero_le _, Nat.zero_le _⟩ (zki (fun x6 μ5 h => ?_))
    obtain ⟨o7, h⟩ := h
    refine zw_if_ne (pc := 19) (off := 6) (tgt := 25) (by decide +kernel) (by decide) o7 (fun hc => ?_) (fun hc => ?_)
    · replace h := h.1 hc
      refine zw_iinc (pc := 25) (i := 2) (n := 1) (lv' := [(0, .ref c), (1, .int (zJ v1)), (2, .int (zJ (v2 + 1)))]) 2 (by decide +kernel) rfl rfl (Nat.le_of_ble_eq_true rfl) rfl ?_
      refine zw_goto (pc := 28) (off := (-24)) (tgt := 4) (by decide +kernel) (by decide) ?_
      exact h
    · replace h := h.2 hc
      refine zw_iinc (pc := 22) (i := 1) (n := 1) (lv' := [(0, .ref c), (1, .int (zJ (v1 + 1))), (2, .int (zJ v2))]) 1 (by decide +kernel) rfl rfl (Nat.le_of_ble_eq_true rfl) rfl ?_
      refine zw_iinc (pc := 25) (i := 2) (n := 1) (lv' := [(0, .ref c), (1, .int (zJ (v1 + 1))), (2, .int (zJ (v2 + 1)))]) 2 (by decide +kernel) rfl rfl (Nat.le_of_ble_eq_true rfl) rfl ?_
      refine zw_goto (pc := 28) (off := (-24)) (tgt := 4) (by decide +kernel) (by decide) ?_
      exact h
