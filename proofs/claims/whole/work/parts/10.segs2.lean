theorem sg_X4_putByte {g : zG} {φ : zMu → Prop} {v1 : Int} {μ : zMu}
    (h : (zR (μ 193 2)) ∧ ((648 ≤ (μ 193 2) → φ μ) ∧ ((μ 193 2) < 648 → (0 ≤ (μ 193 2) ∧ (μ 193 2) < 648) ∧ φ (zup (zup μ 196 (Int.toNat (μ 193 2)) v1) 193 2 (((zup μ 196 (Int.toNat (μ 193 2)) v1) 193 2) + 1))))) : zOv g zm_X4_putByte [.ref 193, .int (zJ v1)] μ φ := by
  refine zok_of (by decide +kernel) rfl ?_
  show zWP g zm_X4_putByte (zmo g zm_X4_putByte (zΦv φ)) 0 [(0, .ref 193), (1, .int (zJ v1))] [] 0 0 (zw μ)
  obtain ⟨o1, h⟩ := h
  refine zw_aload_n (pc := 0) (n := 0) (i := 0) 0 (by decide +kernel) rfl rfl ?_
  refine zx_getI (pc := 1) zf_4_65 (by decide +kernel) rfl zc_193 ?_
  refine zw_sipush (pc := 4) (n := 648) (by decide +kernel) (by decide +kernel) ?_
  refine zw_icmp_ge (pc := 7) (off := 23) (tgt := 30) (by decide +kernel) (by decide) o1 ⟨by decide, by decide⟩ (fun hc => ?_) (fun hc => ?_)
  · replace h := h.1 hc
    exact zw_vret (pc := 30) (by decide +kernel) rfl (Nat.le_refl _) (Nat.le_refl _) ⟨_, rfl, rfl, h⟩
  · replace h := h.2 hc
    obtain ⟨o2, h⟩ := h
    refine zw_aload_n (pc := 10) (n := 0) (i := 0) 0 (by decide +kernel) rfl rfl ?_
    refine zx_getR (pc := 11) (o := 3) (r := 196) zf_4_18 (by decide +kernel) rfl zc_193 rfl (by decide) rfl ?_
    refine zw_aload_n (pc := 14) (n := 0) (i := 0) 0 (by decide +kernel) rfl rfl ?_
    refine zx_getI (pc := 15) zf_4_65 (by decide +kernel) rfl zc_193 ?_
    refine zw_iload_n (pc := 18) (n := 1) (i := 1) 1 (by decide +kernel) rfl rfl ?_
    refine zx_iastore (pc := 19) (by decide +kernel) ⟨648, zc_196, o2.1, o2.2⟩ ?_
    refine zw_aload_n (pc := 20) (n := 0) (i := 0) 0 (by decide +kernel) rfl rfl ?_
    refine zw_dup (pc := 21) (by decide +kernel) rfl ?_
    refine zx_getI (pc := 22) zf_4_65 (by decide +kernel) rfl zc_193 ?_
    refine zw_iconst (pc := 25) (n := 1) (by decide +kernel) ?_
    refine zw_iadd (pc := 26) (by decide +kernel) ?_
    refine zx_putI (pc := 27) zf_4_65 (by decide +kernel) rfl zc_193 ?_
    exact zw_vret (pc := 30) (by decide +kernel) rfl (Nat.le_refl _) (Nat.le_refl _) ⟨_, rfl, rfl, h⟩
theorem sg_X4_putNumber {g : zG} {φ : zMu → Prop} {v1 : Int} {μ : zMu}
    (h : (zR v1) ∧ ((v1 < 100 → ((v1 < 10 → zOv g zm_X4_putByte [.ref 193, .int (zJ (48 + (v1.tmod 10)))] μ (fun μ2 => φ μ2)) ∧ (10 ≤ v1 → (zR (v1.tdiv 10)) ∧ zOv g zm_X4_putByte [.ref 193, .int (zJ (48 + ((v1.tdiv 10).tmod 10)))] μ (fun μ4 => zOv g zm_X4_putByte [.ref 193, .int (zJ (48 + (v1.tmod 10)))] μ4 (fun μ5 => φ μ5))))) ∧ (100 ≤ v1 → zOv g zm_X4_putByte [.ref 193, .int (zJ (48 + (v1.tdiv 100)))] μ (fun μ6 => ((v1 < 10 → zOv g zm_X4_putByte [.ref 193, .int (zJ (48 + (v1.tmod 10)))] μ6 (fun μ7 => φ μ7)) ∧ (10 ≤ v1 → (zR (v1.tdiv 10)) ∧ zOv g zm_X4_putByte [.ref 193, .int (zJ (48 + ((v1.tdiv 10).tmod 10)))] μ6 (fun μ9 => zOv g zm_X4_putByte [.ref 193, .int (zJ (48 + (v1.tmod 10)))] μ9 (fun μ10 => φ μ10)))))))) : zOv g zm_X4_putNumber [.ref 193, .int (zJ v1)] μ φ := by
  refine zok_of (by decide +kernel) rfl ?_
  show zWP g zm_X4_putNumber (zmo g zm_X4_putNumber (zΦv φ)) 0 [(0, .ref 193), (1, .int (zJ v1))] [] 0 0 (zw μ)
  obtain ⟨o1, h⟩ := h
  refine zw_iload_n (pc := 0) (n := 1) (i := 1) 1 (by decide +kernel) rfl rfl ?_
  refine zw_bipush (pc := 1) (n := 100) (by decide +kernel) (by decide +kernel) ?_
  refine zw_icmp_lt (pc := 3) (off := 14) (tgt := 17) (by decide +kernel) (by decide) o1 ⟨by decide, by decide⟩ (fun hc => ?_) (fun hc => ?_)
  · replace h := h.1 hc
    refine zw_iload_n (pc := 17) (n := 1) (i := 1) 1 (by decide +kernel) rfl rfl ?_
    refine zw_bipush (pc := 18) (n := 10) (by decide +kernel) (by decide +kernel) ?_
    refine zw_icmp_lt (pc := 20) (off := 17) (tgt := 37) (by decide +kernel) (by decide) o1 ⟨by decide, by decide⟩ (fun hc => ?_) (fun hc => ?_)
    · replace h := h.1 hc
      refine zw_aload_n (pc := 37) (n := 0) (i := 0) 0 (by decide +kernel) rfl rfl ?_
      refine zw_bipush (pc := 38) (n := 48) (by decide +kernel) (by decide +kernel) ?_
      refine zw_iload_n (pc := 40) (n := 1) (i := 1) 1 (by decide +kernel) rfl rfl ?_
      refine zw_bipush (pc := 41) (n := 10) (by decide +kernel) (by decide +kernel) ?_
      refine zw_irem (pc := 43) (by decide +kernel) o1 ⟨by decide, by decide⟩ (by decide) ?_
      refine zw_iadd (pc := 44) (by decide +kernel) ?_
      refine zx_callV (pc := 45) (As := [.int (zJ (48 + (v1.tmod 10)))]) h zi_X4_putByte zii_X4_putByte zie_X4_putByte zl_4_72 (by decide +kernel) ⟨Nat.le_of_ble_eq_true rfl, Nat.le_of_ble_eq_true rfl⟩ rfl zc_193 (by decide) rfl rfl ⟨rfl, rfl⟩ ⟨Nat.zero_le _, Nat.zero_le _⟩ (zkv (fun μ2 h => ?_))
      exact zw_vret (pc := 48) (by decide +kernel) rfl (Nat.le_refl _) (Nat.le_refl _) ⟨_, rfl, rfl, h⟩
    · replace h := h.2 hc
      obtain ⟨o3, h⟩ := h
      refine zw_aload_n (pc := 23) (n := 0) (i := 0) 0 (by decide +kernel) rfl rfl ?_
      refine zw_bipush (pc := 24) (n := 48) (by decide +kernel) (by decide +kernel) ?_
      refine zw_iload_n (pc := 26) (n := 1) (i := 1) 1 (by decide +kernel) rfl rfl ?_
      refine zw_bipush (pc := 27) (n := 10) (by decide +kernel) (by decide +kernel) ?_
      refine zw_idiv (pc := 29) (by decide +kernel) o1 ⟨by decide, by decide⟩ (by decide) ?_
      refine zw_bipush (pc := 30) (n := 10) (by decide +kernel) (by decide +kernel) ?_
      refine zw_irem (pc := 32) (by decide +kernel) o3 ⟨by decide, by decide⟩ (by decide) ?_
      refine zw_iadd (pc := 33) (by decide +kernel) ?_
      refine zx_callV (pc := 34) (As := [.int (zJ (48 + ((v1.tdiv 10).tmod 10)))]) h zi_X4_putByte zii_X4_putByte zie_X4_putByte zl_4_72 (by decide +kernel) ⟨Nat.le_of_ble_eq_true rfl, Nat.le_of_ble_eq_true rfl⟩ rfl zc_193 (by decide) rfl rfl ⟨rfl, rfl⟩ ⟨Nat.zero_le _, Nat.zero_le _⟩ (zkv (fun μ4 h => ?_))
      refine zw_aload_n (pc := 37) (n := 0) (i := 0) 0 (by decide +kernel) rfl rfl ?_
      refine zw_bipush (pc := 38) (n := 48) (by decide +kernel) (by decide +kernel) ?_
      refine zw_iload_n (pc := 40) (n := 1) (i := 1) 1 (by decide +kernel) rfl rfl ?_
      refine zw_bipush (pc := 41) (n := 10) (by decide +kernel) (by decide +kernel) ?_
      refine zw_irem (pc := 43) (by decide +kernel) o1 ⟨by decide, by decide⟩ (by decide) ?_
      refine zw_iadd (pc := 44) (by decide +kernel) ?_
      refine zx_callV (pc := 45) (As := [.int (zJ (48 + (v1.tmod 10)))]) h zi_X4_putByte zii_X4_putByte zie_X4_putByte zl_4_72 (by decide +kernel) ⟨Nat.le_of_ble_eq_true rfl, Nat.le_of_ble_eq_true rfl⟩ rfl zc_193 (by decide) rfl rfl ⟨rfl, rfl⟩ ⟨Nat.zero_le _, Nat.zero_le _⟩ (zkv (fun μ5 h => ?_))
      exact zw_vret (pc := 48) (by decide +kernel) rfl (Nat.le_refl _) (Nat.le_refl _) ⟨_, rfl, rfl, h⟩
  · replace h := h.2 hc
    refine zw_aload_n (pc := 6) (n := 0) (i := 0) 0 (by decide +kernel) rfl rfl ?_
    refine zw_bipush (pc := 7) (n := 48) (by decide +kernel) (by decide +kernel) ?_
    refine zw_iload_n (pc := 9) (n := 1) (i := 1) 1 (by decide +kernel) rfl rfl ?_
    refine zw_bipush (pc := 10) (n := 100) (by decide +kernel) (by decide +kernel) ?_
    refine zw_idiv (pc := 12) (by decide +kernel) o1 ⟨by decide, by decide⟩ (by decide) ?_
    refine zw_iadd (pc := 13) (by decide +kernel) ?_
    refine zx_callV (pc := 14) (As := [.int (zJ (48 + (v1.tdiv 100)))]) h zi_X4_putByte zii_X4_putByte zie_X4_putByte zl_4_72 (by decide +kernel) ⟨Nat.le_of_ble_eq_true rfl, Nat.le_of_ble_eq_true rfl⟩ rfl zc_193 (by decide) rfl rfl ⟨rfl, rfl⟩ ⟨Nat.zero_le _, Nat.zero_le _⟩ (zkv (fun μ6 h => ?_))
    refine zw_iload_n (pc := 17) (n := 1) (i := 1) 1 (by decide +kernel) rfl rfl ?_
    refine zw_bipush (pc := 18) (n := 10) (by decide +kernel) (by decide +kernel) ?_
    refine zw_icmp_lt (pc := 20) (off := 17) (tgt := 37) (by decide +kernel) (by decide) o1 ⟨by decide, by decide⟩ (fun hc => ?_) (fun hc => ?_)
    · replace h := h.1 hc
      refine zw_aload_n (pc := 37) (n := 0) (i := 0) 0 (by decide +kernel) rfl rfl ?_
      refine zw_bipush (pc := 38) (n := 48) (by decide +kernel) (by decide +kernel) ?_
      refine zw_iload_n (pc := 40) (n := 1) (i := 1) 1 (by decide +kernel) rfl rfl ?_
      refine zw_bipush (pc := 41) (n := 10) (by decide +kernel) (by decide +kernel) ?_
      refine zw_irem (pc := 43) (by decide +kernel) o1 ⟨by decide, by decide⟩ (by decide) ?_
      refine zw_iadd (pc := 44) (by decide +kernel) ?_
      refine zx_callV (pc := 45) (As := [.int (zJ (48 + (v1.tmod 10)))]) h zi_X4_putByte zii_X4_putByte zie_X4_putByte zl_4_72 (by decide +kernel) ⟨Nat.le_of_ble_eq_true rfl, Nat.le_of_ble_eq_true rfl⟩ rfl zc_193 (by decide) rfl rfl ⟨rfl, rfl⟩ ⟨Nat.zero_le _, Nat.zero_le _⟩ (zkv (fun μ7 h => ?_))
      exact zw_vret (pc := 48) (by decide +kernel) rfl (Nat.le_refl _) (Nat.le_refl _) ⟨_, rfl, rfl, h⟩
    · replace h := h.2 hc
      obtain ⟨o8, h⟩ := h
      refine zw_aload_n (pc := 23) (n := 0) (i := 0) 0 (by decide +kernel) rfl rfl ?_
      refine zw_bipush (pc := 24) (n := 48) (by decide +kernel) (by decide +kernel) ?_
      refine zw_iload_n (pc := 26) (n := 1) (i := 1) 1 (by decide +kernel) rfl rfl ?_
      refine zw_bipush (pc := 27) (n := 10) (by decide +kernel) (by decide +kernel) ?_
      refine zw_idiv (pc := 29) (by decide +kernel) o1 ⟨by decide, by decide⟩ (by decide) ?_
      refine zw_bipush (pc := 30) (n := 10) (by decide +kernel) (by decide +kernel) ?_
      refine zw_irem (pc := 32) (by decide +kernel) o8 ⟨by decide, by decide⟩ (by decide) ?_
      refine zw_iadd (pc := 33) (by decide +kernel) ?_
      refine zx_callV (pc := 34) (As := [.int (zJ (48 + ((v1.tdiv 10).tmod 10)))]) h zi_X4_putByte zii_X4_putByte zie_X4_putByte zl_4_72 (by decide +kernel) ⟨Nat.le_of_ble_eq_true rfl, Nat.le_of_ble_eq_true rfl⟩ rfl zc_193 (by decide) rfl rfl ⟨rfl, rfl⟩ ⟨Nat.zero_le _, Nat.zero_le _⟩ (zkv (fun μ9 h => ?_))
      refine zw_aload_n (pc := 37) (n := 0) (i := 0) 0 (by decide +kernel) rfl rfl ?_
      refine zw_bipush (pc := 38) (n := 48) (by decide +kernel) (by decide +kernel) ?_
      refine zw_iload_n (pc := 40) (n := 1) (i := 1) 1 (by decide +kernel) rfl rfl ?_
      refine zw_bipush (pc := 41) (n := 10) (by decide +kernel) (by decide +kernel) ?_
      refine zw_irem (pc := 43) (by decide +kernel) o1 ⟨by decide, by decide⟩ (by decide) ?_
      refine zw_iadd (pc := 44) (by decide +kernel) ?_
      refine zx_callV (pc := 45) (As := [.int (zJ (48 + (v1.tmod 10)))]) h zi_X4_putByte zii_X4_putByte zie_X4_putByte zl_4_72 (by decide +kernel) ⟨Nat.le_of_ble_eq_true rfl, Nat.le_of_ble_eq_true rfl⟩ rfl zc_193 (by decide) rfl rfl ⟨rfl, rfl⟩ ⟨Nat.zero_le _, Nat.zero_le _⟩ (zkv (fun μ10 h => ?_))
      exact zw_vret (pc := 48) (by decide +kernel) rfl (Nat.le_refl _) (Nat.le_refl _) ⟨_, rfl, rfl, h⟩
theorem sg_X9_prepare {g : zG} {φ : zMu → Prop} {v1 : Nat} {v2 : Nat} {v3 : Int} {v4 : Int} {μ : zMu} (h_v1 : zS v1 6 3) (h_v2 : zS v2 6 3)
    (h : (zR ((zup (zup μ 74 4 (μ v1 1)) 74 5 ((zup μ 74 4 (μ v1 1)) v2 1)) 74 4)) ∧ (zR ((zup (zup μ 74 4 (μ v1 1)) 74 5 ((zup μ 74 4 (μ v1 1)) v2 1)) 74 5)) ∧ (zR ((zup (zup (zup μ 74 4 (μ v1 1)) 74 5 ((zup μ 74 4 (μ v1 1)) v2 1)) 74 6 (v3 * ((min ((zup (zup μ 74 4 (μ v1 1)) 74 5 ((zup μ 74 4 (μ v1 1)) v2 1)) 74 4) 0) + (min ((zup (zup μ 74 4 (μ v1 1)) 74 5 ((zup μ 74 4 (μ v1 1)) v2 1)) 74 5) 0)))) v1 2)) ∧ (zR ((zup (zup (zup μ 74 4 (μ v1 1)) 74 5 ((zup μ 74 4 (μ v1 1)) v2 1)) 74 6 (v3 * ((min ((zup (zup μ 74 4 (μ v1 1)) 74 5 ((zup μ 74 4 (μ v1 1)) v2 1)) 74 4) 0) + (min ((zup (zup μ 74 4 (μ v1 1)) 74 5 ((zup μ 74 4 (μ v1 1)) v2 1)) 74 5) 0)))) v2 2)) ∧ zOv g zm_X9_fillPowers [.ref 74, .ref (v1 + 1), .ref 75, .int (zJ v3)] (zup (zup (zup (zup (zup μ 74 4 (μ v1 1)) 74 5 ((zup μ 74 4 (μ v1 1)) v2 1)) 74 6 (v3 * ((min ((zup (zup μ 74 4 (μ v1 1)) 74 5 ((zup μ 74 4 (μ v1 1)) v2 1)) 74 4) 0) + (min ((zup (zup μ 74 4 (μ v1 1)) 74 5 ((zup μ 74 4 (μ v1 1)) v2 1)) 74 5) 0)))) 74 7 (min ((zup (zup (zup μ 74 4 (μ v1 1)) 74 5 ((zup μ 74 4 (μ v1 1)) v2 1)) 74 6 (v3 * ((min ((zup (zup μ 74 4 (μ v1 1)) 74 5 ((zup μ 74 4 (μ v1 1)) v2 1)) 74 4) 0) + (min ((zup (zup μ 74 4 (μ v1 1)) 74 5 ((zup μ 74 4 (μ v1 1)) v2 1)) 74 5) 0)))) v1 2) ((zup (zup (zup μ 74 4 (μ v1 1)) 74 5 ((zup μ 74 4 (μ v1 1)) v2 1)) 74 6 (v3 * ((min ((zup (zup μ 74 4 (μ v1 1)) 74 5 ((zup μ 74 4 (μ v1 1)) v2 1)) 74 4) 0) + (min ((zup (zup μ 74 4 (μ v1 1)) 74 5 ((zup μ 74 4 (μ v1 1)) v2 1)) 74 5) 0)))) v2 2))) 74 8 v4) (fun μ6 => zOv g zm_X9_fillPowers [.ref 74, .ref (v2 + 1), .ref 85, .int (zJ v3)] μ6 (fun μ8 => φ μ8))) : zOv g zm_X9_prepare [.ref 74, .ref v1, .ref v2, .int (zJ v3), .int (zJ v4)] μ φ := by
  refine zok_of (by decide +kernel) rfl ?_
  show zWP g zm_X9_prepare (zmo g zm_X9_prepare (zΦv φ)) 0 [(0, .ref 74), (1, .ref v1), (2, .ref v2), (3, .int (zJ v3)), (4, .int (zJ v4))] [] 0 0 (zw μ)
  obtain ⟨o1, o2, o3, o4, h⟩ := h
  refine zw_aload_n (pc := 0) (n := 0) (i := 0) 0 (by decide +kernel) rfl rfl ?_
  refine zw_aload_n (pc := 1) (n := 1) (i := 1) 1 (by decide +kernel) rfl rfl ?_
  refine zx_getI (pc := 2) zf_9_26 (by decide +kernel) rfl h_v1 ?_
  refine zx_putI (pc := 5) zf_9_32 (by decide +kernel) rfl zc_74 ?_
  refine zw_aload_n (pc := 8) (n := 0) (i := 0) 0 (by decide +kernel) rfl rfl ?_
  refine zw_aload_n (pc := 9) (n := 2) (i := 2) 2 (by decide +kernel) rfl rfl ?_
  refine zx_getI (pc := 10) zf_9_26 (by decide +kernel) rfl h_v2 ?_
  refine zx_putI (pc := 13) zf_9_35 (by decide +kernel) rfl zc_74 ?_
  refine zw_aload_n (pc := 16) (n := 0) (i := 0) 0 (by decide +kernel) rfl rfl ?_
  refine zw_iload_n (pc := 17) (n := 3) (i := 3) 3 (by decide +kernel) rfl rfl ?_
  refine zw_aload_n (pc := 18) (n := 0) (i := 0) 0 (by decide +kernel) rfl rfl ?_
  refine zx_getI (pc := 19) zf_9_32 (by decide +kernel) rfl zc_74 ?_
  refine zw_iconst (pc := 22) (n := 0) (by decide +kernel) ?_
  refine zw_min (pc := 23) zl_9_38 zb_minS zb_mathI zb_minC (by decide +kernel) ⟨Nat.le_of_ble_eq_true rfl, Nat.le_of_ble_eq_true rfl⟩ (Nat.zero_le _) (Nat.zero_le _) rfl o1 ⟨by decide, by decide⟩ ?_
  refine zw_aload_n (pc := 26) (n := 0) (i := 0) 0 (by decide +kernel) rfl rfl ?_
  refine zx_getI (pc := 27) zf_9_35 (by decide +kernel) rfl zc_74 ?_
  refine zw_iconst (pc := 30) (n := 0) (by decide +kernel) ?_
  refine zw_min (pc := 31) zl_9_38 zb_minS zb_mathI zb_minC (by decide +kernel) ⟨Nat.le_of_ble_eq_true rfl, Nat.le_of_ble_eq_true rfl⟩ (Nat.zero_le _) (Nat.zero_le _) rfl o2 ⟨by decide, by decide⟩ ?_
  refine zw_iadd (pc := 34) (by decide +kernel) ?_
  refine zw_imul (pc := 35) (by decide +kernel) ?_
  refine zx_putI (pc := 36) zf_9_44 (by decide +kernel) rfl zc_74 ?_
  refine zw_aload_n (pc := 39) (n := 0) (i := 0) 0 (by decide +kernel) rfl rfl ?_
  refine zw_aload_n (pc := 40) (n := 1) (i := 1) 1 (by decide +kernel) rfl rfl ?_
  refine zx_getI (pc := 41) zf_9_47 (by decide +kernel) rfl h_v1 ?_
  refine zw_aload_n (pc := 44) (n := 2) (i := 2) 2 (by decide +kernel) rfl rfl ?_
  refine zx_getI (pc := 45) zf_9_47 (by decide +kernel) rfl h_v2 ?_
  refine zw_min (pc := 48) zl_9_38 zb_minS zb_mathI zb_minC (by decide +kernel) ⟨Nat.le_of_ble_eq_true rfl, Nat.le_of_ble_eq_true rfl⟩ (Nat.zero_le _) (Nat.zero_le _) rfl o3 o4 ?_
  refine zx_putI (pc := 51) zf_9_50 (by decide +kernel) rfl zc_74 ?_
  refine zw_aload_n (pc := 54) (n := 0) (i := 0) 0 (by decide +kernel) rfl rfl ?_
  refine zw_iload (pc := 55) (i := 4) 4 (by decide +kernel) rfl ?_
  refine zx_putI (pc := 57) zf_9_51 (by decide +kernel) rfl zc_74 ?_
  refine zw_aload_n (pc := 60) (n := 0) (i := 0) 0 (by decide +kernel) rfl rfl ?_
  refine zw_aload_n (pc := 61) (n := 1) (i := 1) 1 (by decide +kernel) rfl rfl ?_
  have q5 : zS (v1 + 1) 12 80 := zq 0 h_v1 rfl
  refine zx_getR (pc := 62) (o := 1) (r := (v1 + 1)) zf_9_54 (by decide +kernel) rfl h_v1 rfl (by decide) rfl ?_
  refine zw_aload_n (pc := 65) (n := 0) (i := 0) 0 (by decide +kernel) rfl rfl ?_
  refine zx_getR (pc := 66) (o := 1) (r := 75) zf_9_11 (by decide +kernel) rfl zc_74 rfl (by decide) rfl ?_
  refine zw_iload_n (pc := 69) (n := 3) (i := 3) 3 (by decide +kernel) rfl rfl ?_
  refine zx_callV (pc := 70) (As := [.ref (v1 + 1), .ref 75, .int (zJ v3)]) h zi_X9_fillPowers zii_X9_fillPowers zie_X9_fillPowers zl_9_57 (by decide +kernel) ⟨Nat.le_of_ble_eq_true rfl, Nat.le_of_ble_eq_true rfl⟩ rfl zc_74 (by decide) rfl rfl ⟨rfl, rfl⟩ ⟨Nat.zero_le _, Nat.zero_le _⟩ (zkv (fun μ6 h => ?_))
  refine zw_aload_n (pc := 73) (n := 0) (i := 0) 0 (by decide +kernel) rfl rfl ?_
  refine zw_aload_n (pc := 74) (n := 2) (i := 2) 2 (by decide +kernel) rfl rfl ?_
  have q7 : zS (v2 + 1) 12 80 := zq 0 h_v2 rfl
  refine zx_getR (pc := 75) (o := 1) (r := (v2 + 1)) zf_9_54 (by decide +kernel) rfl h_v2 rfl (by decide) rfl ?_
  refine zw_aload_n (pc := 78) (n := 0) (i := 0) 0 (by decide +kernel) rfl rfl ?_
  refine zx_getR (pc := 79) (o := 11) (r := 85) zf_9_16 (by decide +kernel) rfl zc_74 rfl (by decide) rfl ?_
  refine zw_iload_n (pc := 82) (n := 3) (i := 3) 3 (by decide +kernel) rfl rfl ?_
  refine zx_callV (pc := 83) (As := [.ref (v2 + 1), .ref 85, .int (zJ v3)]) h zi_X9_fillPowers zii_X9_fillPowers zie_X9_fillPowers zl_9_57 (by decide +kernel) ⟨Nat.le_of_ble_eq_true rfl, Nat.le_of_ble_eq_true rfl⟩ rfl zc_74 (by decide) rfl rfl ⟨rfl, rfl⟩ ⟨Nat.zero_le _, Nat.zero_le _⟩ (zkv (fun μ8 h => ?_))
  exact zw_vret (pc := 86) (by decide +kernel) rfl (Nat.le_refl _) (Nat.le_refl _) ⟨_, rfl, rfl, h⟩
abbrev at_X9_fillPowers_16 (g : zG) (φ : zMu → Prop) (v1 : Nat) (v2 : Nat) (v3 : Int) (v4 : Int) (μ : zMu) : Prop := zWP g zm_X9_fillPowers (zmo g zm_X9_fillPowers (zΦv φ)) 16 [(0, .ref 74), (1, .ref v1), (2, .ref v2), (3, .int (zJ v3)), (4, .int (zJ v4))] [] 0 0 (zw μ)
theorem sg_X9_fillPowers {g : zG} {φ : zMu → Prop} {v1 : Nat} {v2 : Nat} {v3 : Int} {μ : zMu}
    (h : (zAx 15 v2 0) ∧ zOv g zm_J7_fill_53178 [.ref (v2 + 1 + 0), .int (zJ 0)] μ (fun μ3 => (zIx (v2 + 1 + 0) 0) ∧ at_X9_fillPowers_16 g φ v1 v2 v3 1 (zup μ3 (v2 + 1 + 0) 0 1))) : zOv g zm_X9_fillPowers [.ref 74, .ref v1, .ref v2, .int (zJ v3)] μ φ := by
  refine zok_of (by decide +kernel) rfl ?_
  show zWP g zm_X9_fillPowers (zmo g zm_X9_fillPowers (zΦv φ)) 0 [(0, .ref 74), (1, .ref v1), (2, .ref v2), (3, .int (zJ v3))] [] 0 0 (zw μ)
  obtain ⟨o1, h⟩ := h
  refine zw_aload_n (pc := 0) (n := 2) (i := 2) 2 (by decide +kernel) rfl rfl ?_
  refine zw_iconst (pc := 1) (n := 0) (by decide +kernel) ?_
  refine zx_aaload (pc := 2) (k := 15) (r := (v2 + 1 + 0)) (by decide +kernel) (by decide) o1 (by show v2 + 1 + 1 * 0 = (v2 + 1 + 0); omega) ?_
  refine zw_iconst (pc := 3) (n := 0) (by decide +kernel) ?_
  refine zx_callS (pc := 4) (As := [.ref (v2 + 1 + 0), .int (zJ 0)]) h zi_J7_fill_53178 zis_J7_fill_53178 zl_9_61 (by decide +kernel) ⟨Nat.le_of_ble_eq_true rfl, Nat.le_of_ble_eq_true rfl⟩ rfl rfl ⟨rfl, rfl⟩ ⟨Nat.zero_le _, Nat.zero_le _⟩ (zkv (fun μ3 h => ?_))
  obtain ⟨o5, h⟩ := h
  refine zw_aload_n (pc := 7) (n := 2) (i := 2) 2 (by decide +kernel) rfl rfl ?_
  refine zw_iconst (pc := 8) (n := 0) (by decide +kernel) ?_
  refine zx_aaload (pc := 9) (k := 15) (r := (v2 + 1 + 0)) (by decide +kernel) (by decide) o1 (by show v2 + 1 + 1 * 0 = (v2 + 1 + 0); omega) ?_
  refine zw_iconst (pc := 10) (n := 0) (by decide +kernel) ?_
  refine zw_iconst (pc := 11) (n := 1) (by decide +kernel) ?_
  refine zx_iastore (pc := 12) (by decide +kernel) o5 ?_
  refine zw_iconst (pc := 13) (n := 1) (by decide +kernel) ?_
  refine zw_istore (pc := 14) (i := 4) (lv' := [(0, .ref 74), (1, .ref v1), (2, .ref v2), (3, .int (zJ v3)), (4, .int (zJ 1))]) (by decide +kernel) (Nat.le_of_ble_eq_true rfl) rfl ?_
  exact h
theorem sg_X9_fillPowers_16 {g : zG} {φ : zMu → Prop} {v1 : Nat} {v2 : Nat} {v3 : Int} {v4 : Int} {μ : zMu}
    (h : (zR v4) ∧ (zR v3) ∧ ((v3 < v4 → φ μ) ∧ (v4 ≤ v3 → (zAx 15 v2 (v4 - 1)) ∧ (zAx 15 v2 v4) ∧ zOv g zm_X10_multiply [.ref v1, .ref (v2 + 1 + (Int.toNat (v4 - 1))), .ref (v2 + 1 + v4.toNat), .int (zJ (μ 74 7)), .int (zJ (μ 74 8))] μ (fun μ7 => at_X9_fillPowers_16 g φ v1 v2 v3 (v4 + 1) μ7)))) : at_X9_fillPowers_16 g φ v1 v2 v3 v4 μ := by
  obtain ⟨o1, o2, h⟩ := h
  refine zw_iload (pc := 16) (i := 4) 4 (by decide +kernel) rfl ?_
  refine zw_iload_n (pc := 18) (n := 3) (i := 3) 3 (by decide +kernel) rfl rfl ?_
  refine zw_icmp_gt (pc := 19) (off := 31) (tgt := 50) (by decide +kernel) (by decide) o1 o2 (fun hc => ?_) (fun hc => ?_)
  · replace h := h.1 hc
    exact zw_vret (pc := 50) (by decide +kernel) rfl (Nat.le_refl _) (Nat.le_refl _) ⟨_, rfl, rfl, h⟩
  · replace h := h.2 hc
    obtain ⟨o3, o5, h⟩ := h
    refine zw_aload_n (pc := 22) (n := 1) (i := 1) 1 (by decide +kernel) rfl rfl ?_
    refine zw_aload_n (pc := 23) (n := 2) (i := 2) 2 (by decide +kernel) rfl rfl ?_
    refine zw_iload (pc := 24) (i := 4) 4 (by decide +kernel) rfl ?_
    refine zw_iconst (pc := 26) (n := 1) (by decide +kernel) ?_
    refine zw_isub (pc := 27) (by decide +kernel) ?_
    refine zx_aaload (pc := 28) (k := 15) (r := (v2 + 1 + (Int.toNat (v4 - 1)))) (by decide +kernel) (by decide) o3 (by show v2 + 1 + 1 * (Int.toNat (v4 - 1)) = (v2 + 1 + (Int.toNat (v4 - 1))); omega) ?_
    refine zw_aload_n (pc := 29) (n := 2) (i := 2) 2 (by decide +kernel) rfl rfl ?_
    refine zw_iload (pc := 30) (i := 4) 4 (by decide +kernel) rfl ?_
    refine zx_aaload (pc := 32) (k := 15) (r := (v2 + 1 + v4.toNat)) (by decide +kernel) (by decide) o5 (by show v2 + 1 + 1 * v4.toNat = (v2 + 1 + v4.toNat); omega) ?_
    refine zw_aload_n (pc := 33) (n := 0) (i := 0) 0 (by decide +kernel) rfl rfl ?_
    refine zx_getI (pc := 34) zf_9_50 (by decide +kernel) rfl zc_74 ?_
    refine zw_aload_n (pc := 37) (n := 0) (i := 0) 0 (by decide +kernel) rfl rfl ?_
    refine zx_getI (pc := 38) zf_9_51 (by decide +kernel) rfl zc_74 ?_
    refine zx_callSN (pc := 41) (As := [.ref v1, .ref (v2 + 1 + (Int.toNat (v4 - 1))), .ref (v2 + 1 + v4.toNat), .int (zJ (μ 74 7)), .int (zJ (μ 74 8))]) h zi_X10_multiply zis_X10_multiply zn_9_67 (by decide +kernel) ⟨Nat.le_of_ble_eq_true rfl, Nat.le_of_ble_eq_true rfl⟩ rfl rfl ⟨rfl, rfl⟩ ⟨Nat.zero_le _, Nat.zero_le _⟩ (zkv (fun μ7 h => ?_))
    refine zw_iinc (pc := 44) (i := 4) (n := 1) (lv' := [(0, .ref 74), (1, .ref v1), (2, .ref v2), (3, .int (zJ v3)), (4, .int (zJ (v4 + 1)))]) 4 (by decide +kernel) rfl rfl (Nat.le_of_ble_eq_true rfl) rfl ?_
    refine zw_goto (pc := 47) (off := (-31)) (tgt := 16) (by decide +kernel) (by decide) ?_
    exact h
theorem sg_X9_multiplyTerm {g : zG} {φ : Int → zMu → Prop} {v1 : Int} {v2 : Int} {μ : zMu}
    (h : (0 ≤ v1 ∧ v1 < 9) ∧ (0 ≤ v2 ∧ v2 < 9) ∧ zOv g zm_X10_multiply [.ref (76 + v1.toNat), .ref (86 + v2.toNat), .ref 95, .int (zJ ((μ 74 7) - (((v1 * (μ 74 4)) + (v2 * (μ 74 5))) - (μ 74 6)))), .int (zJ (μ 74 8))] μ (fun μ5 => φ (((v1 * (μ 74 4)) + (v2 * (μ 74 5))) - (μ 74 6)) μ5)) : zOi g zm_X9_multiplyTerm [.ref 74, .int (zJ v1), .int (zJ v2)] μ φ := by
  refine zok_of (by decide +kernel) rfl ?_
  show zWP g zm_X9_multiplyTerm (zmo g zm_X9_multiplyTerm (zΦi φ)) 0 [(0, .ref 74), (1, .int (zJ v1)), (2, .int (zJ v2))] [] 0 0 (zw μ)
  obtain ⟨o1, o3, h⟩ := h
  refine zw_iload_n (pc := 0) (n := 1) (i := 1) 1 (by decide +kernel) rfl rfl ?_
  refine zw_aload_n (pc := 1) (n := 0) (i := 0) 0 (by decide +kernel) rfl rfl ?_
  refine zx_getI (pc := 2) zf_9_32 (by decide +kernel) rfl zc_74 ?_
  refine zw_imul (pc := 5) (by decide +kernel) ?_
  refine zw_iload_n (pc := 6) (n := 2) (i := 2) 2 (by decide +kernel) rfl rfl ?_
  refine zw_aload_n (pc := 7) (n := 0) (i := 0) 0 (by decide +kernel) rfl rfl ?_
  refine zx_getI (pc := 8) zf_9_35 (by decide +kernel) rfl zc_74 ?_
  refine zw_imul (pc := 11) (by decide +kernel) ?_
  refine zw_iadd (pc := 12) (by decide +kernel) ?_
  refine zw_aload_n (pc := 13) (n := 0) (i := 0) 0 (by decide +kernel) rfl rfl ?_
  refine zx_getI (pc := 14) zf_9_44 (by decide +kernel) rfl zc_74 ?_
  refine zw_isub (pc := 17) (by decide +kernel) ?_
  refine zw_istore_n (pc := 18) (n := 3) (i := 3) (lv' := [(0, .ref 74), (1, .int (zJ v1)), (2, .int (zJ v2)), (3, .int (zJ (((v1 * (μ 74 4)) + (v2 * (μ 74 5))) - (μ 74 6))))]) (by decide +kernel) rfl (Nat.le_of_ble_eq_true rfl) rfl ?_
  refine zw_aload_n (pc := 19) (n := 0) (i := 0) 0 (by decide +kernel) rfl rfl ?_
  refine zx_getR (pc := 20) (o := 1) (r := 75) zf_9_11 (by decide +kernel) rfl zc_74 rfl (by decide) rfl ?_
  refine zw_iload_n (pc := 23) (n := 1) (i := 1) 1 (by decide +kernel) rfl rfl ?_
  have q2 : zS (76 + v1.toNat) 12 80 := zS_cast (zqr_75 (j := v1.toNat) (by omega)) (by show 75 + 1 + 1 * v1.toNat = (76 + v1.toNat); omega)
  refine zx_aaload (pc := 24) (k := 15) (r := (76 + v1.toNat)) (by decide +kernel) (by decide) ⟨9, zc_75, o1.1, o1.2⟩ (by show 75 + 1 + 1 * v1.toNat = (76 + v1.toNat); omega) ?_
  refine zw_aload_n (pc := 25) (n := 0) (i := 0) 0 (by decide +kernel) rfl rfl ?_
  refine zx_getR (pc := 26) (o := 11) (r := 85) zf_9_16 (by decide +kernel) rfl zc_74 rfl (by decide) rfl ?_
  refine zw_iload_n (pc := 29) (n := 2) (i := 2) 2 (by decide +kernel) rfl rfl ?_
  have q4 : zS (86 + v2.toNat) 12 80 := zS_cast (zqr_85 (j := v2.toNat) (by omega)) (by show 85 + 1 + 1 * v2.toNat = (86 + v2.toNat); omega)
  refine zx_aaload (pc := 30) (k := 15) (r := (86 + v2.toNat)) (by decide +kernel) (by decide) ⟨9, zc_85, o3.1, o3.2⟩ (by show 85 + 1 + 1 * v2.toNat = (86 + v2.toNat); omega) ?_
  refine zw_aload_n (pc := 31) (n := 0) (i := 0) 0 (by decide +kernel) rfl rfl ?_
  refine zx_getR (pc := 32) (o := 21) (r := 95) zf_9_19 (by decide +kernel) rfl zc_74 rfl (by decide) rfl ?_
  refine zw_aload_n (pc := 35) (n := 0) (i := 0) 0 (by decide +kernel) rfl rfl ?_
  refine zx_getI (pc := 36) zf_9_50 (by decide +kernel) rfl zc_74 ?_
  refine zw_iload_n (pc := 39) (n := 3) (i := 3) 3 (by decide +kernel) rfl rfl ?_
  refine zw_isub (pc := 40) (by decide +kernel) ?_
  refine zw_aload_n (pc := 41) (n := 0) (i := 0) 0 (by decide +kernel) rfl rfl ?_
  refine zx_getI (pc := 42) zf_9_51 (by decide +kernel) rfl zc_74 ?_
  refine zx_callSN (pc := 45) (As := [.ref (76 + v1.toNat), .ref (86 + v2.toNat), .ref 95, .int (zJ ((μ 74 7) - (((v1 * (μ 74 4)) + (v2 * (μ 74 5))) - (μ 74 6)))), .int (zJ (μ 74 8))]) h zi_X10_multiply zis_X10_multiply zn_9_67 (by decide +kernel) ⟨Nat.le_of_ble_eq_true rfl, Nat.le_of_ble_eq_true rfl⟩ rfl rfl ⟨rfl, rfl⟩ ⟨Nat.zero_le _, Nat.zero_le _⟩ (zkv (fun μ5 h => ?_))
  refine zw_iload_n (pc := 48) (n := 3) (i := 3) 3 (by decide +kernel) rfl rfl ?_
  exact zw_iret (pc := 49) (by decide +kernel) rfl (Nat.le_refl _) (Nat.le_refl _) ⟨_, _, rfl, rfl, h⟩
abbrev at_X9_isZeroFor_10 (g : zG) (φ : Int → zMu → Prop) (v1 : Nat) (v2 : Int) (μ : zMu) : Prop := zWP g zm_X9_isZeroFor (zmo g zm_X9_isZeroFor (zΦi φ)) 10 [(0, .ref 74), (1, .ref v1), (2, .int (zJ v2))] [] 0 0 (zw μ)
abbrev at_X9_isZeroFor_59 (g : zG) (φ : Int → zMu → Prop) (v2 : Int) (μ : zMu) : Prop := zWP g zm_X9_isZeroFor (zmo g zm_X9_isZeroFor (zΦi φ)) 59 [(0, .ref 74), (2, .int (zJ v2))] [] 0 0 (zw μ)
abbrev at_X9_isZeroFor_20 (g : zG) (φ : Int → zMu → Prop) (v1 : Nat) (v2 : Int) (v3 : Int) (μ : zMu) : Prop := zWP g zm_X9_isZeroFor (zmo g zm_X9_isZeroFor (zΦi φ)) 20 [(0, .ref 74), (1, .ref v1), (2, .int (zJ v2)), (3, .int (zJ v3))] [] 0 0 (zw μ)
theorem sg_X9_isZeroFor {g : zG} {φ : Int → zMu → Prop} {v1 : Nat} {μ : zMu} (h_v1 : zS v1 3 2)
    (h : zOv g zm_J7_fill_53178 [.ref 96, .int (zJ 0)] μ (fun μ1 => at_X9_isZeroFor_10 g φ v1 0 μ1)) : zOi g zm_X9_isZeroFor [.ref 74, .ref v1] μ φ := by
  refine zok_of (by decide +kernel) rfl ?_
  show zWP g zm_X9_isZeroFor (zmo g zm_X9_isZeroFor (zΦi φ)) 0 [(0, .ref 74), (1, .ref v1)] [] 0 0 (zw μ)
  refine zw_aload_n (pc := 0) (n := 0) (i := 0) 0 (by decide +kernel) rfl rfl ?_
  refine zx_getR (pc := 1) (o := 22) (r := 96) zf_9_23 (by decide +kernel) rfl zc_74 rfl (by decide) rfl ?_
  refine zw_iconst (pc := 4) (n := 0) (by decide +kernel) ?_
  refine zx_callS (pc := 5) (As := [.ref 96, .int (zJ 0)]) h zi_J7_fill_53178 zis_J7_fill_53178 zl_9_61 (by decide +kernel) ⟨Nat.le_of_ble_eq_true rfl, Nat.le_of_ble_eq_true rfl⟩ rfl rfl ⟨rfl, rfl⟩ ⟨Nat.zero_le _, Nat.zero_le _⟩ (zkv (fun μ1 h => ?_))
  refine zw_iconst (pc := 8) (n := 0) (by decide +kernel) ?_
  refine zw_istore_n (pc := 9) (n := 2) (i := 2) (lv' := [(0, .ref 74), (1, .ref v1), (2, .int (zJ 0))]) (by decide +kernel) rfl (Nat.le_of_ble_eq_true rfl) rfl ?_
  exact h
theorem sg_X9_isZeroFor_10 {g : zG} {φ : Int → zMu → Prop} {v1 : Nat} {v2 : Int} {μ : zMu} (h_v1 : zS v1 3 2)
    (h : (zR v2) ∧ (zR (μ v1 1)) ∧ (((μ v1 1) < v2 → at_X9_isZeroFor_59 g φ 0 μ) ∧ (v2 ≤ (μ v1 1) → at_X9_isZeroFor_20 g φ v1 v2 0 μ))) : at_X9_isZeroFor_10 g φ v1 v2 μ := by
  obtain ⟨o1, o2, h⟩ := h
  refine zw_iload_n (pc := 10) (n := 2) (i := 2) 2 (by decide +kernel) rfl rfl ?_
  refine zw_aload_n (pc := 11) (n := 1) (i := 1) 1 (by decide +kernel) rfl rfl ?_
  refine zx_getI (pc := 12) zf_9_71 (by decide +kernel) rfl h_v1 ?_
  refine zw_icmp_gt (pc := 15) (off := 42) (tgt := 57) (by decide +kernel) (by decide) o1 o2 (fun hc => ?_) (fun hc => ?_)
  · replace h := h.1 hc
    refine zw_iconst (pc := 57) (n := 0) (by decide +kernel) ?_
    refine zw_istore_n (pc := 58) (n := 2) (i := 2) (lv' := [(0, .ref 74), (1, .ref v1), (2, .int (zJ 0))]) (by decide +kernel) rfl (Nat.le_of_ble_eq_true rfl) rfl ?_
    exact zw_pick (lv' := [(0, .ref 74), (2, .int (zJ 0))]) [0, 2] rfl h
  · replace h := h.2 hc
    refine zw_iconst (pc := 18) (n := 0) (by decide +kernel) ?_
    refine zw_istore_n (pc := 19) (n := 3) (i := 3) (lv' := [(0, .ref 74), (1, .ref v1), (2, .int (zJ v2)), (3, .int (zJ 0))]) (by decide +kernel) rfl (Nat.le_of_ble_eq_true rfl) rfl ?_
    exact h
theorem sg_X9_isZeroFor_59 {g : zG} {φ : Int → zMu → Prop} {v2 : Int} {μ : zMu}
    (h : (zR v2) ∧ (zR (μ 74 7)) ∧ (((μ 74 7) ≤ v2 → φ 1 μ) ∧ (v2 < (μ 74 7) → (0 ≤ v2 ∧ v2 < 80) ∧ (zR (μ 96 v2.toNat)) ∧ (((μ 96 v2.toNat) = 0 → at_X9_isZeroFor_59 g φ (v2 + 1) μ) ∧ (¬ (μ 96 v2.toNat) = 0 → φ 0 μ))))) : at_X9_isZeroFor_59 g φ v2 μ := by
  obtain ⟨o1, o2, h⟩ := h
  refine zw_iload_n (pc := 59) (n := 2) (i := 2) 1 (by decide +kernel) rfl rfl ?_
  refine zw_aload_n (pc := 60) (n := 0) (i := 0) 0 (by decide +kernel) rfl rfl ?_
  refine zx_getI (pc := 61) zf_9_50 (by decide +kernel) rfl zc_74 ?_
  refine zw_icmp_ge (pc := 64) (off := 20) (tgt := 84) (by decide +kernel) (by decide) o1 o2 (fun hc => ?_) (fun hc => ?_)
  · replace h := h.1 hc
    refine zw_iconst (pc := 84) (n := 1) (by decide +kernel) ?_
    exact zw_zret (pc := 85) (by decide +kernel) rfl (Nat.le_refl _) (Nat.le_refl _) (Or.inr rfl) ⟨_, _, rfl, rfl, h⟩
  · replace h := h.2 hc
    obtain ⟨o3, o4, h⟩ := h
    refine zw_aload_n (pc := 67) (n := 0) (i := 0) 0 (by decide +kernel) rfl rfl ?_
    refine zx_getR (pc := 68) (o := 22) (r := 96) zf_9_23 (by decide +kernel) rfl zc_74 rfl (by decide) rfl ?_
    refine zw_iload_n (pc := 71) (n := 2) (i := 2) 1 (by decide +kernel) rfl rfl ?_
    refine zx_iaload (pc := 72) (by decide +kernel) ⟨80, zc_96, o3.1, o3.2⟩ ?_
    refine zw_if_eq (pc := 73) (off := 5) (tgt := 78) (by decide +kernel) (by decide) o4 (fun hc => ?_) (fun hc => ?_)
    · replace h := h.1 hc
      refine zw_iinc (pc := 78) (i := 2) (n := 1) (lv' := [(0, .ref 74), (2, .int (zJ (v2 + 1)))]) 1 (by decide +kernel) rfl rfl (Nat.le_of_ble_eq_true rfl) rfl ?_
      refine zw_goto (pc := 81) (off := (-22)) (tgt := 59) (by decide +kernel) (by decide) ?_
      exact h
    · replace h := h.2 hc
      refine zw_iconst (pc := 76) (n := 0) (by decide +kernel) ?_
      exact zw_zret (pc := 77) (by decide +kernel) rfl (Nat.le_refl _) (Nat.le_refl _) (Or.inl rfl) ⟨_, _, rfl, rfl, h⟩
theorem sg_X9_isZeroFor_20 {g : zG} {φ : Int → zMu → Prop} {v1 : Nat} {v2 : Int} {v3 : Int} {μ : zMu} (h_v1 : zS v1 3 2)
    (h : (zR v3) ∧ (zR (μ v1 1)) ∧ (((μ v1 1) < v3 → at_X9_isZeroFor_10 g φ v1 (v2 + 1) μ) ∧ (v3 ≤ (μ v1 1) → (0 ≤ ((9 * v2) + v3) ∧ ((9 * v2) + v3) < 81) ∧ zOv g zm_X9_addTerm [.ref 74, .int (zJ v2), .int (zJ v3), .int (zJ (μ (v1 + 1) (Int.toNat ((9 * v2) + v3))))] μ (fun μ5 => at_X9_isZeroFor_20 g φ v1 v2 (v3 + 1) μ5)))) : at_X9_isZeroFor_20 g φ v1 v2 v3 μ := by
  obtain ⟨o1, o2, h⟩ := h
  refine zw_iload_n (pc := 20) (n := 3) (i := 3) 3 (by decide +kernel) rfl rfl ?_
  refine zw_aload_n (pc := 21) (n := 1) (i := 1) 1 (by decide +kernel) rfl rfl ?_
  refine zx_getI (pc := 22) zf_9_71 (by decide +kernel) rfl h_v1 ?_
  refine zw_icmp_gt (pc := 25) (off := 26) (tgt := 51) (by decide +kernel) (by decide) o1 o2 (fun hc => ?_) (fun hc => ?_)
  · replace h := h.1 hc
    refine zw_iinc (pc := 51) (i := 2) (n := 1) (lv' := [(0, .ref 74), (1, .ref v1), (2, .int (zJ (v2 + 1))), (3, .int (zJ v3))]) 2 (by decide +kernel) rfl rfl (Nat.le_of_ble_eq_true rfl) rfl ?_
    refine zw_goto (pc := 54) (off := (-44)) (tgt := 10) (by decide +kernel) (by decide) ?_
    exact zw_pick (lv' := [(0, .ref 74), (1, .ref v1), (2, .int (zJ (v2 + 1)))]) [0, 1, 2] rfl h
  · replace h := h.2 hc
    obtain ⟨o4, h⟩ := h
    refine zw_aload_n (pc := 28) (n := 0) (i := 0) 0 (by decide +kernel) rfl rfl ?_
    refine zw_iload_n (pc := 29) (n := 2) (i := 2) 2 (by decide +kernel) rfl rfl ?_
    refine zw_iload_n (pc := 30) (n := 3) (i := 3) 3 (by decide +kernel) rfl rfl ?_
    refine zw_aload_n (pc := 31) (n := 1) (i := 1) 1 (by decide +kernel) rfl rfl ?_
    have q3 : zS (v1 + 1) 12 81 := zq 0 h_v1 rfl
    refine zx_getR (pc := 32) (o := 1) (r := (v1 + 1)) zf_9_76 (by decide +kernel) rfl h_v1 rfl (by decide) rfl ?_
    refine zw_bipush (pc := 35) (n := 9) (by decide +kernel) (by decide +kernel) ?_
    refine zw_iload_n (pc := 37) (n := 2) (i := 2) 2 (by decide +kernel) rfl rfl ?_
    refine zw_imul (pc := 38) (by decide +kernel) ?_
    refine zw_iload_n (pc := 39) (n := 3) (i := 3) 3 (by decide +kernel) rfl rfl ?_
    refine zw_iadd (pc := 40) (by decide +kernel) ?_
    refine zx_iaload (pc := 41) (by decide +kernel) ⟨81, q3, o4.1, o4.2⟩ ?_
    refine zx_callV (pc := 42) (As := [.int (zJ v2), .int (zJ v3), .int (zJ (μ (v1 + 1) (Int.toNat ((9 * v2) + v3))))]) h zi_X9_addTerm zii_X9_addTerm zie_X9_addTerm zl_9_77 (by decide +kernel) ⟨Nat.le_of_ble_eq_true rfl, Nat.le_of_ble_eq_true rfl⟩ rfl zc_74 (by decide) rfl rfl ⟨rfl, rfl⟩ ⟨Nat.zero_le _, Nat.zero_le _⟩ (zkv (fun μ5 h => ?_))
    refine zw_iinc (pc := 45) (i := 3) (n := 1) (lv' := [(0, .ref 74), (1, .ref v1), (2, .int (zJ v2)), (3, .int (zJ (v3 + 1)))]) 3 (by decide +kernel) rfl rfl (Nat.le_of_ble_eq_true rfl) rfl ?_
    refine zw_goto (pc := 48) (off := (-28)) (tgt := 20) (by decide +kernel) (by decide) ?_
    exact h
abbrev at_X9_addTerm_17 (g : zG) (φ : zMu → Prop) (v3 : Int) (v4 : Int) (v5 : Int) (μ : zMu) : Prop := zWP g zm_X9_addTerm (zmo g zm_X9_addTerm (zΦv φ)) 17 [(0, .ref 74), (3, .int (zJ v3)), (4, .int (zJ v4)), (5, .int (zJ v5))] [] 0 0 (zw μ)
theorem sg_X9_addTerm {g : zG} {φ : zMu → Prop} {v1 : Int} {v2 : Int} {v3 : Int} {μ : zMu}
    (h : (zR v3) ∧ ((¬ v3 = 0 → zOi g zm_X9_multiplyTerm [.ref 74, .int (zJ v1), .int (zJ v2)] μ (fun x3 μ2 => at_X9_addTerm_17 g φ v3 x3 x3 μ2)) ∧ (v3 = 0 → φ μ))) : zOv g zm_X9_addTerm [.ref 74, .int (zJ v1), .int (zJ v2), .int (zJ v3)] μ φ := by
  refine zok_of (by decide +kernel) rfl ?_
  show zWP g zm_X9_addTerm (zmo g zm_X9_addTerm (zΦv φ)) 0 [(0, .ref 74), (1, .int (zJ v1)), (2, .int (zJ v2)), (3, .int (zJ v3))] [] 0 0 (zw μ)
  obtain ⟨o1, h⟩ := h
  refine zw_iload_n (pc := 0) (n := 3) (i := 3) 3 (by decide +kernel) rfl rfl ?_
  refine zw_if_ne (pc := 1) (off := 4) (tgt := 5) (by decide +kernel) (by decide) o1 (fun hc => ?_) (fun hc => ?_)
  · replace h := h.1 hc
    refine zw_aload_n (pc := 5) (n := 0) (i := 0) 0 (by decide +kernel) rfl rfl ?_
    refine zw_iload_n (pc := 6) (n := 1) (i := 1) 1 (by decide +kernel) rfl rfl ?_
    refine zw_iload_n (pc := 7) (n := 2) (i := 2) 2 (by decide +kernel) rfl rfl ?_
    refine zx_callV (pc := 8) (As := [.int (zJ v1), .int (zJ v2)]) h zi_X9_multiplyTerm zii_X9_multiplyTerm zie_X9_multiplyTerm zl_9_81 (by decide +kernel) ⟨Nat.le_of_ble_eq_true rfl, Nat.le_of_ble_eq_true rfl⟩ rfl zc_74 (by decide) rfl rfl ⟨rfl, rfl⟩ ⟨Nat.zero_le _, Nat.zero_le _⟩ (zki (fun x3 μ2 h => ?_))
    refine zw_istore (pc := 11) (i := 4) (lv' := [(0, .ref 74), (1, .int (zJ v1)), (2, .int (zJ v2)), (3, .int (zJ v3)), (4, .int (zJ x3))]) (by decide +kernel) (Nat.le_of_ble_eq_true rfl) rfl ?_
    refine zw_iload (pc := 13) (i := 4) 4 (by decide +kernel) rfl ?_
    refine zw_istore (pc := 15) (i := 5) (lv' := [(0, .ref 74), (1, .int (zJ v1)), (2, .int (zJ v2)), (3, .int (zJ v3)), (4, .int (zJ x3)), (5, .int (zJ x3))]) (by decide +kernel) (Nat.le_of_ble_eq_true rfl) rfl ?_
    exact zw_pick (lv' := [(0, .ref 74), (3, .int (zJ v3)), (4, .int (zJ x3)), (5, .int (zJ x3))]) [0, 3, 4, 5] rfl h
  · replace h := h.2 hc
    exact zw_vret (pc := 4) (by decide +kernel) rfl (Nat.le_refl _) (Nat.le_refl _) ⟨_, rfl, rfl, h⟩
theorem sg_X9_addTerm_17 {g : zG} {φ : zMu → Prop} {v3 : Int} {v4 : Int} {v5 : Int} {μ : zMu}
    (h : (zR v5) ∧ (zR (μ 74 7)) ∧ (((μ 74 7) ≤ v5 → φ μ) ∧ (v5 < (μ 74 7) → (0 ≤ v5 ∧ v5 < 80) ∧ (0 ≤ (v5 - v4) ∧ (v5 - v4) < 80) ∧ (zR ((μ 96 v5.toNat) + (v3 * (μ 95 (Int.toNat (v5 - v4)))))) ∧ (zR (μ 74 8)) ∧ ((μ 74 8) ≠ 0) ∧ at_X9_addTerm_17 g φ v3 v4 (v5 + 1) (zup μ 96 v5.toNat (((μ 96 v5.toNat) + (v3 * (μ 95 (Int.toNat (v5 - v4))))).tmod (μ 74 8)))))) : at_X9_addTerm_17 g φ v3 v4 v5 μ := by
  obtain ⟨o1, o2, h⟩ := h
  refine zw_iload (pc := 17) (i := 5) 3 (by decide +kernel) rfl ?_
  refine zw_aload_n (pc := 19) (n := 0) (i := 0) 0 (by decide +kernel) rfl rfl ?_
  refine zx_getI (pc := 20) zf_9_50 (by decide +kernel) rfl zc_74 ?_
  refine zw_icmp_ge (pc := 23) (off := 41) (tgt := 64) (by decide +kernel) (by decide) o1 o2 (fun hc => ?_) (fun hc => ?_)
  · replace h := h.1 hc
    exact zw_vret (pc := 64) (by decide +kernel) rfl (Nat.le_refl _) (Nat.le_refl _) ⟨_, rfl, rfl, h⟩
  · replace h := h.2 hc
    obtain ⟨o3, o4, o5, o6, o7, h⟩ := h
    refine zw_aload_n (pc := 26) (n := 0) (i := 0) 0 (by decide +kernel) rfl rfl ?_
    refine zx_getR (pc := 27) (o := 22) (r := 96) zf_9_23 (by decide +kernel) rfl zc_74 rfl (by decide) rfl ?_
    refine zw_iload (pc := 30) (i := 5) 3 (by decide +kernel) rfl ?_
    refine zw_aload_n (pc := 32) (n := 0) (i := 0) 0 (by decide +kernel) rfl rfl ?_
    refine zx_getR (pc := 33) (o := 22) (r := 96) zf_9_23 (by decide +kernel) rfl zc_74 rfl (by decide) rfl ?_
    refine zw_iload (pc := 36) (i := 5) 3 (by decide +kernel) rfl ?_
    refine zx_iaload (pc := 38) (by decide +kernel) ⟨80, zc_96, o3.1, o3.2⟩ ?_
    refine zw_iload_n (pc := 39) (n := 3) (i := 3) 1 (by decide +kernel) rfl rfl ?_
    refine zw_aload_n (pc := 40) (n := 0) (i := 0) 0 (by decide +kernel) rfl rfl ?_
    refine zx_getR (pc := 41) (o := 21) (r := 95) zf_9_19 (by decide +kernel) rfl zc_74 rfl (by decide) rfl ?_
    refine zw_iload (pc := 44) (i := 5) 3 (by decide +kernel) rfl ?_
    refine zw_iload (pc := 46) (i := 4) 2 (by decide +kernel) rfl ?_
    refine zw_isub (pc := 48) (by decide +kernel) ?_
    refine zx_iaload (pc := 49) (by decide +kernel) ⟨80, zc_95, o4.1, o4.2⟩ ?_
    refine zw_imul (pc := 50) (by decide +kernel) ?_
    refine zw_iadd (pc := 51) (by decide +kernel) ?_
    refine zw_aload_n (pc := 52) (n := 0) (i := 0) 0 (by decide +kernel) rfl rfl ?_
    refine zx_getI (pc := 53) zf_9_51 (by decide +kernel) rfl zc_74 ?_
    refine zw_irem (pc := 56) (by decide +kernel) o5 o6 o7 ?_
    refine zx_iastore (pc := 57) (by decide +kernel) ⟨80, zc_96, o3.1, o3.2⟩ ?_
    refine zw_iinc (pc := 58) (i := 5) (n := 1) (lv' := [(0, .ref 74), (3, .int (zJ v3)), (4, .int (zJ v4)), (5, .int (zJ (v5 + 1)))]) 3 (by decide +kernel) rfl rfl (Nat.le_of_ble_eq_true rfl) rfl ?_
    refine zw_goto (pc := 61) (off := (-44)) (tgt := 17) (by decide +kernel) (by decide) ?_
    exact h
abbrev at_X1_search_37 (g : zG) (φ : Int → zMu → Prop) (v4 : Int) (μ : zMu) : Prop := zWP g zm_X1_search (zmo g zm_X1_search (zΦi φ)) 37 [(0, .ref 97), (1, .ref 74), (4, .int (zJ v4))] [] 0 0 (zw μ)
theorem sg_X1_search {g : zG} {φ : Int → zMu → Prop} {v2 : Int} {v3 : Int} {μ : zMu}
    (h : (v3 = 0 ∨ v3 = 1) ∧ zOv g zm_X1_listTerms [.ref 97] (zup (zup (zup (zup μ 97 4 v2) 97 5 v3) 97 7 ((zup (zup μ 97 4 v2) 97 5 v3) 74 7)) 97 9 ((zup (zup (zup μ 97 4 v2) 97 5 v3) 97 7 ((zup (zup μ 97 4 v2) 97 5 v3) 74 7)) 74 8)) (fun μ2 => zOv g zm_X1_clearMatrix [.ref 97] μ2 (fun μ3 => at_X1_search_37 g φ 0 μ3))) : zOi g zm_X1_search [.ref 97, .ref 74, .int (zJ v2), .int (zJ v3)] μ φ := by
  refine zok_of (by decide +kernel) rfl ?_
  show zWP g zm_X1_search (zmo g zm_X1_search (zΦi φ)) 0 [(0, .ref 97), (1, .ref 74), (2, .int (zJ v2)), (3, .int (zJ v3))] [] 0 0 (zw μ)
  obtain ⟨o1, h⟩ := h
  refine zw_aload_n (pc := 0) (n := 0) (i := 0) 0 (by decide +kernel) rfl rfl ?_
  refine zw_iload_n (pc := 1) (n := 2) (i := 2) 2 (by decide +kernel) rfl rfl ?_
  refine zx_putI (pc := 2) zf_1_26 (by decide +kernel) rfl zc_97 ?_
  refine zw_aload_n (pc := 5) (n := 0) (i := 0) 0 (by decide +kernel) rfl rfl ?_
  refine zw_iload_n (pc := 6) (n := 3) (i := 3) 3 (by decide +kernel) rfl rfl ?_
  refine zx_putZ (pc := 7) zf_1_30 (by decide +kernel) rfl zc_97 o1 ?_
  refine zw_aload_n (pc := 10) (n := 0) (i := 0) 0 (by decide +kernel) rfl rfl ?_
  refine zw_aload_n (pc := 11) (n := 1) (i := 1) 1 (by decide +kernel) rfl rfl ?_
  refine zx_getI (pc := 12) zf_1_34 (by decide +kernel) rfl zc_74 ?_
  refine zx_putI (pc := 15) zf_1_39 (by decide +kernel) rfl zc_97 ?_
  refine zw_aload_n (pc := 18) (n := 0) (i := 0) 0 (by decide +kernel) rfl rfl ?_
  refine zw_aload_n (pc := 19) (n := 1) (i := 1) 1 (by decide +kernel) rfl rfl ?_
  refine zx_getI (pc := 20) zf_1_42 (by decide +kernel) rfl zc_74 ?_
  refine zx_putI (pc := 23) zf_1_45 (by decide +kernel) rfl zc_97 ?_
  refine zw_aload_n (pc := 26) (n := 0) (i := 0) 0 (by decide +kernel) rfl rfl ?_
  refine zx_callV (pc := 27) (As := []) h zi_X1_listTerms zii_X1_listTerms zie_X1_listTerms zl_1_46 (by decide +kernel) ⟨Nat.le_of_ble_eq_true rfl, Nat.le_of_ble_eq_true rfl⟩ rfl zc_97 (by decide) rfl rfl ⟨rfl, rfl⟩ ⟨Nat.zero_le _, Nat.zero_le _⟩ (zkv (fun μ2 h => ?_))
  refine zw_aload_n (pc := 30) (n := 0) (i := 0) 0 (by decide +kernel) rfl rfl ?_
  refine zx_callV (pc := 31) (As := []) h zi_X1_clearMatrix zii_X1_clearMatrix zie_X1_clearMatrix zl_1_49 (by decide +kernel) ⟨Nat.le_of_ble_eq_true rfl, Nat.le_of_ble_eq_true rfl⟩ rfl zc_97 (by decide) rfl rfl ⟨rfl, rfl⟩ ⟨Nat.zero_le _, Nat.zero_le _⟩ (zkv (fun μ3 h => ?_))
  refine zw_iconst (pc := 34) (n := 0) (by decide +kernel) ?_
  refine zw_istore (pc := 35) (i := 4) (lv' := [(0, .ref 97), (1, .ref 74), (2, .int (zJ v2)), (3, .int (zJ v3)), (4, .int (zJ 0))]) (by decide +kernel) (Nat.le_of_ble_eq_true rfl) rfl ?_
  exact zw_pick (lv' := [(0, .ref 97), (1, .ref 74), (4, .int (zJ 0))]) [0, 1, 4] rfl h
theorem sg_X1_search_37 {g : zG} {φ : Int → zMu → Prop} {v4 : Int} {μ : zMu}
    (h : (zR v4) ∧ (zR (μ 97 6)) ∧ (((μ 97 6) ≤ v4 → zOi g zm_X1_eliminate [.ref 97] μ (fun x4 μ3 => φ ((μ 97 6) - x4) μ3)) ∧ (v4 < (μ 97 6) → (0 ≤ v4 ∧ v4 < 81) ∧ zOv g zm_X1_addProduct [.ref 97, .ref 74, .int (zJ (μ 179 v4.toNat)), .int (zJ (μ 180 v4.toNat)), .int (zJ v4)] μ (fun μ6 => (zR (μ6 97 5)) ∧ (((μ6 97 5) = 0 → at_X1_search_37 g φ (v4 + 1) μ6) ∧ (¬ (μ6 97 5) = 0 → (zR (μ6 179 v4.toNat)) ∧ (zR (μ6 180 v4.toNat)) ∧ (((μ6 179 v4.toNat) = (μ6 180 v4.toNat) → at_X1_search_37 g φ (v4 + 1) μ6) ∧ (¬ (μ6 179 v4.toNat) = (μ6 180 v4.toNat) → zOv g zm_X1_addProduct [.ref 97, .ref 74, .int (zJ (μ6 180 v4.toNat)), .int (zJ (μ6 179 v4.toNat)), .int (zJ v4)] μ6 (fun μ10 => at_X1_search_37 g φ (v4 + 1) μ10))))))))) : at_X1_search_37 g φ v4 μ := by
  obtain ⟨o1, o2, h⟩ := h
  refine zw_iload (pc := 37) (i := 4) 2 (by decide +kernel) rfl ?_
  refine zw_aload_n (pc := 39) (n := 0) (i := 0) 0 (by decide +kernel) rfl rfl ?_
  refine zx_getI (pc := 40) zf_1_52 (by decide +kernel) rfl zc_97 ?_
  refine zw_icmp_ge (pc := 43) (off := 75) (tgt := 118) (by decide +kernel) (by decide) o1 o2 (fun hc => ?_) (fun hc => ?_)
  · replace h := h.1 hc
    refine zw_aload_n (pc := 118) (n := 0) (i := 0) 0 (by decide +kernel) rfl rfl ?_
    refine zx_getI (pc := 119) zf_1_52 (by decide +kernel) rfl zc_97 ?_
    refine zw_aload_n (pc := 122) (n := 0) (i := 0) 0 (by decide +kernel) rfl rfl ?_
    refine zx_callV (pc := 123) (As := []) h zi_X1_eliminate zii_X1_eliminate zie_X1_eliminate zl_1_59 (by decide +kernel) ⟨Nat.le_of_ble_eq_true rfl, Nat.le_of_ble_eq_true rfl⟩ rfl zc_97 (by decide) rfl rfl ⟨rfl, rfl⟩ ⟨Nat.zero_le _, Nat.zero_le _⟩ (zki (fun x4 μ3 h => ?_))
    refine zw_isub (pc := 126) (by decide +kernel) ?_
    exact zw_iret (pc := 127) (by decide +kernel) rfl (Nat.le_refl _) (Nat.le_refl _) ⟨_, _, rfl, rfl, h⟩
  · replace h := h.2 hc
    obtain ⟨o5, h⟩ := h
    refine zw_aload_n (pc := 46) (n := 0) (i := 0) 0 (by decide +kernel) rfl rfl ?_
    refine zw_aload_n (pc := 47) (n := 1) (i := 1) 1 (by decide +kernel) rfl rfl ?_
    refine zw_aload_n (pc := 48) (n := 0) (i := 0) 0 (by decide +kernel) rfl rfl ?_
    refine zx_getR (pc := 49) (o := 82) (r := 179) zf_1_16 (by decide +kernel) rfl zc_97 rfl (by decide) rfl ?_
    refine zw_iload (pc := 52) (i := 4) 2 (by decide +kernel) rfl ?_
    refine zx_iaload (pc := 54) (by decide +kernel) ⟨81, zc_179, o5.1, o5.2⟩ ?_
    refine zw_aload_n (pc := 55) (n := 0) (i := 0) 0 (by decide +kernel) rfl rfl ?_
    refine zx_getR (pc := 56) (o := 83) (r := 180) zf_1_20 (by decide +kernel) rfl zc_97 rfl (by decide) rfl ?_
    refine zw_iload (pc := 59) (i := 4) 2 (by decide +kernel) rfl ?_
    refine zx_iaload (pc := 61) (by decide +kernel) ⟨81, zc_180, o5.1, o5.2⟩ ?_
    refine zw_iload (pc := 62) (i := 4) 2 (by decide +kernel) rfl ?_
    refine zx_callV (pc := 64) (As := [.ref 74, .int (zJ (μ 179 v4.toNat)), .int (zJ (μ 180 v4.toNat)), .int (zJ v4)]) h zi_X1_addProduct zii_X1_addProduct zie_X1_addProduct zl_1_55 (by decide +kernel) ⟨Nat.le_of_ble_eq_true rfl, Nat.le_of_ble_eq_true rfl⟩ rfl zc_97 (by decide) rfl rfl ⟨rfl, rfl⟩ ⟨Nat.zero_le _, Nat.zero_le _⟩ (zkv (fun μ6 h => ?_))
    obtain ⟨o7, h⟩ := h
    refine zw_aload_n (pc := 67) (n := 0) (i := 0) 0 (by decide +kernel) rfl rfl ?_
    refine zx_getI (pc := 68) zf_1_30 (by decide +kernel) rfl zc_97 ?_
    refine zw_if_eq (pc := 71) (off := 41) (tgt := 112) (by decide +kernel) (by decide) o7 (fun hc => ?_) (fun hc => ?_)
    · replace h := h.1 hc
      refine zw_iinc (pc := 112) (i := 4) (n := 1) (lv' := [(0, .ref 97), (1, .ref 74), (4, .int (zJ (v4 + 1)))]) 2 (by decide +kernel) rfl rfl (Nat.le_of_ble_eq_true rfl) rfl ?_
      refine zw_goto (pc := 115) (off := (-78)) (tgt := 37) (by decide +kernel) (by decide) ?_
      exact h
    · replace h := h.2 hc
      obtain ⟨o8, o9, h⟩ := h
      refine zw_aload_n (pc := 74) (n := 0) (i := 0) 0 (by decide +kernel) rfl rfl ?_
      refine zx_getR (pc := 75) (o := 82) (r := 179) zf_1_16 (by decide +kernel) rfl zc_97 rfl (by decide) rfl ?_
      refine zw_iload (pc := 78) (i := 4) 2 (by decide +kernel) rfl ?_
      refine zx_iaload (pc := 80) (by decide +kernel) ⟨81, zc_179, o5.1, o5.2⟩ ?_
      refine zw_aload_n (pc := 81) (n := 0) (i := 0) 0 (by decide +kernel) rfl rfl ?_
      refine zx_getR (pc := 82) (o := 83) (r := 180) zf_1_20 (by decide +kernel) rfl zc_97 rfl (by decide) rfl ?_
      refine zw_iload (pc := 85) (i := 4) 2 (by decide +kernel) rfl ?_
      refine zx_iaload (pc := 87) (by decide +kernel) ⟨81, zc_180, o5.1, o5.2⟩ ?_
      refine zw_icmp_eq (pc := 88) (off := 24) (tgt := 112) (by decide +kernel) (by decide) o8 o9 (fun hc => ?_) (fun hc => ?_)
      · replace h := h.1 hc
        refine zw_iinc (pc := 112) (i := 4) (n := 1) (lv' := [(0, .ref 97), (1, .ref 74), (4, .int (zJ (v4 + 1)))]) 2 (by decide +kernel) rfl rfl (Nat.le_of_ble_eq_true rfl) rfl ?_
        refine zw_goto (pc := 115) (off := (-78)) (tgt := 37) (by decide +kernel) (by decide) ?_
        exact h
      · replace h := h.2 hc
        refine zw_aload_n (pc := 91) (n := 0) (i := 0) 0 (by decide +kernel) rfl rfl ?_
        refine zw_aload_n (pc := 92) (n := 1) (i := 1) 1 (by decide +kernel) rfl rfl ?_
        refine zw_aload_n (pc := 93) (n := 0) (i := 0) 0 (by decide +kernel) rfl rfl ?_
        refine zx_getR (pc := 94) (o := 83) (r := 180) zf_1_20 (by decide +kernel) rfl zc_97 rfl (by decide) rfl ?_
        refine zw_iload (pc := 97) (i := 4) 2 (by decide +kernel) rfl ?_
        refine zx_iaload (pc := 99) (by decide +kernel) ⟨81, zc_180, o5.1, o5.2⟩ ?_
        refine zw_aload_n (pc := 100) (n := 0) (i := 0) 0 (by decide +kernel) rfl rfl ?_
        refine zx_getR (pc := 101) (o := 82) (r := 179) zf_1_16 (by decide +kernel) rfl zc_97 rfl (by decide) rfl ?_
        refine zw_iload (pc := 104) (i := 4) 2 (by decide +kernel) rfl ?_
        refine zx_iaload (pc := 106) (by decide +kernel) ⟨81, zc_179, o5.1, o5.2⟩ ?_
        refine zw_iload (pc := 107) (i := 4) 2 (by decide +kernel) rfl ?_
        refine zx_callV (pc := 109) (As := [.ref 74, .int (zJ (μ6 180 v4.toNat)), .int (zJ (μ6 179 v4.toNat)), .int (zJ v4)]) h zi_X1_addProduct zii_X1_addProduct zie_X1_addProduct zl_1_55 (by decide +kernel) ⟨Nat.le_of_ble_eq_true rfl, Nat.le_of_ble_eq_true rfl⟩ rfl zc_97 (by decide) rfl rfl ⟨rfl, rfl⟩ ⟨Nat.zero_le _, Nat.zero_le _⟩ (zkv (fun μ10 h => ?_))
        refine zw_iinc (pc := 112) (i := 4) (n := 1) (lv' := [(0, .ref 97), (1, .ref 74), (4, .int (zJ (v4 + 1)))]) 2 (by decide +kernel) rfl rfl (Nat.le_of_ble_eq_true rfl) rfl ?_
        refine zw_goto (pc := 115) (off := (-78)) (tgt := 37) (by decide +kernel) (by decide) ?_
        exact h
abbrev at_X1_listTerms_7 (g : zG) (φ : zMu → Prop) (v1 : Int) (μ : zMu) : Prop := zWP g zm_X1_listTerms (zmo g zm_X1_listTerms (zΦv φ)) 7 [(0, .ref 97), (1, .int (zJ v1))] [] 0 0 (zw μ)
abbrev at_X1_listTerms_33 (g : zG) (φ : zMu → Prop) (v1 : Int) (v2 : Int) (v3 : Int) (μ : zMu) : Prop := zWP g zm_X1_listTerms (zmo g zm_X1_listTerms (zΦv φ)) 33 [(0, .ref 97), (1, .int (zJ v1)), (2, .int (zJ v2)), (3, .int (zJ v3))] [] 0 0 (zw μ)
theorem sg_X1_listTerms {g : zG} {φ : zMu → Prop} {μ : zMu}
    (h : at_X1_listTerms_7 g φ 0 (zup μ 97 6 0)) : zOv g zm_X1_listTerms [.ref 97] μ φ := by
  refine zok_of (by decide +kernel) rfl ?_
  show zWP g zm_X1_listTerms (zmo g zm_X1_listTerms (zΦv φ)) 0 [(0, .ref 97)] [] 0 0 (zw μ)
  refine zw_aload_n (pc := 0) (n := 0) (i := 0) 0 (by decide +kernel) rfl rfl ?_
  refine zw_iconst (pc := 1) (n := 0) (by decide +kernel) ?_
  refine zx_putI (pc := 2) zf_1_52 (by decide +kernel) rfl zc_97 ?_
  refine zw_iconst (pc := 5) (n := 0) (by decide +kernel) ?_
  refine zw_istore_n (pc := 6) (n := 1) (i := 1) (lv' := [(0, .ref 97), (1, .int (zJ 0))]) (by decide +kernel) rfl (Nat.le_of_ble_eq_true rfl) rfl ?_
  exact h
theorem sg_X1_listTerms_7 {g : zG} {φ : zMu → Prop} {v1 : Int} {μ : zMu}
    (h : (zR v1) ∧ (zR (μ 97 4)) ∧ (((μ 97 4) < v1 → φ μ) ∧ (v1 ≤ (μ 97 4) → (zR (μ 97 5)) ∧ (((μ 97 5) = 0 → at_X1_listTerms_33 g φ v1 (μ 97 4) 0 μ) ∧ (¬ (μ 97 5) = 0 → at_X1_listTerms_33 g φ v1 v1 0 μ))))) : at_X1_listTerms_7 g φ v1 μ := by
  obtain ⟨o1, o2, h⟩ := h
  refine zw_iload_n (pc := 7) (n := 1) (i := 1) 1 (by decide +kernel) rfl rfl ?_
  refine zw_aload_n (pc := 8) (n := 0) (i := 0) 0 (by decide +kernel) rfl rfl ?_
  refine zx_getI (pc := 9) zf_1_26 (by decide +kernel) rfl zc_97 ?_
  refine zw_icmp_gt (pc := 12) (off := 68) (tgt := 80) (by decide +kernel) (by decide) o1 o2 (fun hc => ?_) (fun hc => ?_)
  · replace h := h.1 hc
    exact zw_vret (pc := 80) (by decide +kernel) rfl (Nat.le_refl _) (Nat.le_refl _) ⟨_, rfl, rfl, h⟩
  · replace h := h.2 hc
    obtain ⟨o3, h⟩ := h
    refine zw_aload_n (pc := 15) (n := 0) (i := 0) 0 (by decide +kernel) rfl rfl ?_
    refine zx_getI (pc := 16) zf_1_30 (by decide +kernel) rfl zc_97 ?_
    refine zw_if_eq (pc := 19) (off := 7) (tgt := 26) (by decide +kernel) (by decide) o3 (fun hc => ?_) (fun hc => ?_)
    · replace h := h.1 hc
      refine zw_aload_n (pc := 26) (n := 0) (i := 0) 0 (by decide +kernel) rfl rfl ?_
      refine zx_getI (pc := 27) zf_1_26 (by decide +kernel) rfl zc_97 ?_
      refine zw_istore_n (pc := 30) (n := 2) (i := 2) (lv' := [(0, .ref 97), (1, .int (zJ v1)), (2, .int (zJ (μ 97 4)))]) (by decide +kernel) rfl (Nat.le_of_ble_eq_true rfl) rfl ?_
      refine zw_iconst (pc := 31) (n := 0) (by decide +kernel) ?_
      refine zw_istore_n (pc := 32) (n := 3) (i := 3) (lv' := [(0, .ref 97), (1, .int (zJ v1)), (2, .int (zJ (μ 97 4))), (3, .int (zJ 0))]) (by decide +kernel) rfl (Nat.le_of_ble_eq_true rfl) rfl ?_
      exact h
    · replace h := h.2 hc
      refine zw_iload_n (pc := 22) (n := 1) (i := 1) 1 (by decide +kernel) rfl rfl ?_
      refine zw_goto (pc := 23) (off := 7) (tgt := 30) (by decide +kernel) (by decide) ?_
      refine zw_istore_n (pc := 30) (n := 2) (i := 2) (lv' := [(0, .ref 97), (1, .int (zJ v1)), (2, .int (zJ v1))]) (by decide +kernel) rfl (Nat.le_of_ble_eq_true rfl) rfl ?_
      refine zw_iconst (pc := 31) (n := 0) (by decide +kernel) ?_
      refine zw_istore_n (pc := 32) (n := 3) (i := 3) (lv' := [(0, .ref 97), (1, .int (zJ v1)), (2, .int (zJ v1)), (3, .int (zJ 0))]) (by decide +kernel) rfl (Nat.le_of_ble_eq_true rfl) rfl ?_
      exact h
theorem sg_X1_listTerms_33 {g : zG} {φ : zMu → Prop} {v1 : Int} {v2 : Int} {v3 : Int} {μ : zMu}
    (h : (zR v3) ∧ (zR v2) ∧ ((v2 < v3 → at_X1_listTerms_7 g φ (v1 + 1) μ) ∧ (v3 ≤ v2 → (0 ≤ (μ 97 6) ∧ (μ 97 6) < 81) ∧ (0 ≤ ((zup μ 179 (Int.toNat (μ 97 6)) v1) 97 6) ∧ ((zup μ 179 (Int.toNat (μ 97 6)) v1) 97 6) < 81) ∧ at_X1_listTerms_33 g φ v1 v2 (v3 + 1) (zup (zup (zup μ 179 (Int.toNat (μ 97 6)) v1) 180 (Int.toNat ((zup μ 179 (Int.toNat (μ 97 6)) v1) 97 6)) v3) 97 6 (((zup (zup μ 179 (Int.toNat (μ 97 6)) v1) 180 (Int.toNat ((zup μ 179 (Int.toNat (μ 97 6)) v1) 97 6)) v3) 97 6) + 1))))) : at_X1_listTerms_33 g φ v1 v2 v3 μ := by
  obtain ⟨o1, o2, h⟩ := h
  refine zw_iload_n (pc := 33) (n := 3) (i := 3) 3 (by decide +kernel) rfl rfl ?_
  refine zw_iload_n (pc := 34) (n := 2) (i := 2) 2 (by decide +kernel) rfl rfl ?_
  refine zw_icmp_gt (pc := 35) (off := 39) (tgt := 74) (by decide +kernel) (by decide) o1 o2 (fun hc => ?_) (fun hc => ?_)
  · replace h := h.1 hc
    refine zw_iinc (pc := 74) (i := 1) (n := 1) (lv' := [(0, .ref 97), (1, .int (zJ (v1 + 1))), (2, .int (zJ v2)), (3, .int (zJ v3))]) 1 (by decide +kernel) rfl rfl (Nat.le_of_ble_eq_true rfl) rfl ?_
    refine zw_goto (pc := 77) (off := (-70)) (tgt := 7) (by decide +kernel) (by decide) ?_
    exact zw_pick (lv' := [(0, .ref 97), (1, .int (zJ (v1 + 1)))]) [0, 1] rfl h
  · replace h := h.2 hc
    obtain ⟨o3, o4, h⟩ := h
    refine zw_aload_n (pc := 38) (n := 0) (i := 0) 0 (by decide +kernel) rfl rfl ?_
    refine zx_getR (pc := 39) (o := 82) (r := 179) zf_1_16 (by decide +kernel) rfl zc_97 rfl (by decide) rfl ?_
    refine zw_aload_n (pc := 42) (n := 0) (i := 0) 0 (by decide +kernel) rfl rfl ?_
    refine zx_getI (pc := 43) zf_1_52 (by decide +kernel) rfl zc_97 ?_
    refine zw_iload_n (pc := 46) (n := 1) (i := 1) 1 (by decide +kernel) rfl rfl ?_
    refine zx_iastore (pc := 47) (by decide +kernel) ⟨81, zc_179, o3.1, o3.2⟩ ?_
    refine zw_aload_n (pc := 48) (n := 0) (i := 0) 0 (by decide +kernel) rfl rfl ?_
    refine zx_getR (pc := 49) (o := 83) (r := 180) zf_1_20 (by decide +kernel) rfl zc_97 rfl (by decide) rfl ?_
    refine zw_aload_n (pc := 52) (n := 0) (i := 0) 0 (by decide +kernel) rfl rfl ?_
    refine zx_getI (pc := 53) zf_1_52 (by decide +kernel) rfl zc_97 ?_
    refine zw_iload_n (pc := 56) (n := 3) (i := 3) 3 (by decide +kernel) rfl rfl ?_
    refine zx_iastore (pc := 57) (by decide +kernel) ⟨81, zc_180, o4.1, o4.2⟩ ?_
    refine zw_aload_n (pc := 58) (n := 0) (i := 0) 0 (by decide +kernel) rfl rfl ?_
    refine zw_dup (pc := 59) (by decide +kernel) rfl ?_
    refine zx_getI (pc := 60) zf_1_52 (by decide +kernel) rfl zc_97 ?_
    refine zw_iconst (pc := 63) (n := 1) (by decide +kernel) ?_
    refine zw_iadd (pc := 64) (by decide +kernel) ?_
    refine zx_putI (pc := 65) zf_1_52 (by decide +kernel) rfl zc_97 ?_
    refine zw_iinc (pc := 68) (i := 3) (n := 1) (lv' := [(0, .ref 97), (1, .int (zJ v1)), (2, .int (zJ v2)), (3, .int (zJ (v3 + 1)))]) 3 (by decide +kernel) rfl rfl (Nat.le_of_ble_eq_true rfl) rfl ?_
    refine zw_goto (pc := 71) (off := (-38)) (tgt := 33) (by decide +kernel) (by decide) ?_
    exact h
abbrev at_X1_clearMatrix_2 (g : zG) (φ : zMu → Prop) (v1 : Int) (μ : zMu) : Prop := zWP g zm_X1_clearMatrix (zmo g zm_X1_clearMatrix (zΦv φ)) 2 [(0, .ref 97), (1, .int (zJ v1))] [] 0 0 (zw μ)
theorem sg_X1_clearMatrix {g : zG} {φ : zMu → Prop} {μ : zMu}
    (h : at_X1_clearMatrix_2 g φ 0 μ) : zOv g zm_X1_clearMatrix [.ref 97] μ φ := by
  refine zok_of (by decide +kernel) rfl ?_
  show zWP g zm_X1_clearMatrix (zmo g zm_X1_clearMatrix (zΦv φ)) 0 [(0, .ref 97)] [] 0 0 (zw μ)
  refine zw_iconst (pc := 0) (n := 0) (by decide +kernel) ?_
  refine zw_istore_n (pc := 1) (n := 1) (i := 1) (lv' := [(0, .ref 97), (1, .int (zJ 0))]) (by decide +kernel) rfl (Nat.le_of_ble_eq_true rfl) rfl ?_
  exact h
theorem sg_X1_clearMatrix_2 {g : zG} {φ : zMu → Prop} {v1 : Int} {μ : zMu}
    (h : (zR v1) ∧ (zR (μ 97 7)) ∧ (((μ 97 7) ≤ v1 → φ μ) ∧ (v1 < (μ 97 7) → (0 ≤ v1 ∧ v1 < 80) ∧ zOv g zm_J7_fill_53178 [.ref (99 + v1.toNat), .int (zJ 0)] μ (fun μ5 => at_X1_clearMatrix_2 g φ (v1 + 1) μ5)))) : at_X1_clearMatrix_2 g φ v1 μ := by
  obtain ⟨o1, o2, h⟩ := h
  refine zw_iload_n (pc := 2) (n := 1) (i := 1) 1 (by decide +kernel) rfl rfl ?_
  refine zw_aload_n (pc := 3) (n := 0) (i := 0) 0 (by decide +kernel) rfl rfl ?_
  refine zx_getI (pc := 4) zf_1_39 (by decide +kernel) rfl zc_97 ?_
  refine zw_icmp_ge (pc := 7) (off := 19) (tgt := 26) (by decide +kernel) (by decide) o1 o2 (fun hc => ?_) (fun hc => ?_)
  · replace h := h.1 hc
    exact zw_vret (pc := 26) (by decide +kernel) rfl (Nat.le_refl _) (Nat.le_refl _) ⟨_, rfl, rfl, h⟩
  · replace h := h.2 hc
    obtain ⟨o3, h⟩ := h
    refine zw_aload_n (pc := 10) (n := 0) (i := 0) 0 (by decide +kernel) rfl rfl ?_
    refine zx_getR (pc := 11) (o := 1) (r := 98) zf_1_11 (by decide +kernel) rfl zc_97 rfl (by decide) rfl ?_
    refine zw_iload_n (pc := 14) (n := 1) (i := 1) 1 (by decide +kernel) rfl rfl ?_
    have q4 : zS (99 + v1.toNat) 12 81 := zS_cast (zqr_98 (j := v1.toNat) (by omega)) (by show 98 + 1 + 1 * v1.toNat = (99 + v1.toNat); omega)
    refine zx_aaload (pc := 15) (k := 15) (r := (99 + v1.toNat)) (by decide +kernel) (by decide) ⟨80, zc_98, o3.1, o3.2⟩ (by show 98 + 1 + 1 * v1.toNat = (99 + v1.toNat); omega) ?_
    refine zw_iconst (pc := 16) (n := 0) (by decide +kernel) ?_
    refine zx_callS (pc := 17) (As := [.ref (99 + v1.toNat), .int (zJ 0)]) h zi_J7_fill_53178 zis_J7_fill_53178 zl_1_63 (by decide +kernel) ⟨Nat.le_of_ble_eq_true rfl, Nat.le_of_ble_eq_true rfl⟩ rfl rfl ⟨rfl, rfl⟩ ⟨Nat.zero_le _, Nat.zero_le _⟩ (zkv (fun μ5 h => ?_))
    refine zw_iinc (pc := 20) (i := 1) (n := 1) (lv' := [(0, .ref 97), (1, .int (zJ (v1 + 1)))]) 1 (by decide +kernel) rfl rfl (Nat.le_of_ble_eq_true rfl) rfl ?_
    refine zw_goto (pc := 23) (off := (-21)) (tgt := 2) (by decide +kernel) (by decide) ?_
    exact h
abbrev at_X1_addProduct_12 (g : zG) (φ : zMu → Prop) (v4 : Int) (v5 : Int) (v6 : Int) (μ : zMu) : Prop := zWP g zm_X1_addProduct (zmo g zm_X1_addProduct (zΦv φ)) 12 [(0, .ref 97), (1, .ref 74), (4, .int (zJ v4)), (5, .int (zJ v5)), (6, .int (zJ v6))] [] 0 0 (zw μ)
theorem sg_X1_addProduct {g : zG} {φ : zMu → Prop} {v2 : Int} {v3 : Int} {v4 : Int} {μ : zMu}
    (h : zOi g zm_X9_multiplyTerm [.ref 74, .int (zJ v2), .int (zJ v3)] μ (fun x2 μ1 => at_X1_addProduct_12 g φ v4 x2 x2 μ1)) : zOv g zm_X1_addProduct [.ref 97, .ref 74, .int (zJ v2), .int (zJ v3), .int (zJ v4)] μ φ := by
  refine zok_of (by decide +kernel) rfl ?_
  show zWP g zm_X1_addProduct (zmo g zm_X1_addProduct (zΦv φ)) 0 [(0, .ref 97), (1, .ref 74), (2, .int (zJ v2)), (3, .int (zJ v3)), (4, .int (zJ v4))] [] 0 0 (zw μ)
  refine zw_aload_n (pc := 0) (n := 1) (i := 1) 1 (by decide +kernel) rfl rfl ?_
  refine zw_iload_n (pc := 1) (n := 2) (i := 2) 2 (by decide +kernel) rfl rfl ?_
  refine zw_iload_n (pc := 2) (n := 3) (i := 3) 3 (by decide +kernel) rfl rfl ?_
  refine zx_callV (pc := 3) (As := [.int (zJ v2), .int (zJ v3)]) h zi_X9_multiplyTerm zii_X9_multiplyTerm zie_X9_multiplyTerm zl_1_69 (by decide +kernel) ⟨Nat.le_of_ble_eq_true rfl, Nat.le_of_ble_eq_true rfl⟩ rfl zc_74 (by decide) rfl rfl ⟨rfl, rfl⟩ ⟨Nat.zero_le _, Nat.zero_le _⟩ (zki (fun x2 μ1 h => ?_))
  refine zw_istore (pc := 6) (i := 5) (lv' := [(0, .ref 97), (1, .ref 74), (2, .int (zJ v2)), (3, .int (zJ v3)), (4, .int (zJ v4)), (5, .int (zJ x2))]) (by decide +kernel) (Nat.le_of_ble_eq_true rfl) rfl ?_
  refine zw_iload (pc := 8) (i := 5) 5 (by decide +kernel) rfl ?_
  refine zw_istore (pc := 10) (i := 6) (lv' := [(0, .ref 97), (1, .ref 74), (2, .int (zJ v2)), (3, .int (zJ v3)), (4, .int (zJ v4)), (5, .int (zJ x2)), (6, .int (zJ x2))]) (by decide +kernel) (Nat.le_of_ble_eq_true rfl) rfl ?_
  exact zw_pick (lv' := [(0, .ref 97), (1, .ref 74), (4, .int (zJ v4)), (5, .int (zJ x2)), (6, .int (zJ x2))]) [0, 1, 4, 5, 6] rfl h
theorem sg_X1_addProduct_12 {g : zG} {φ : zMu → Prop} {v4 : Int} {v5 : Int} {v6 : Int} {μ : zMu}
    (h : (zR v6) ∧ (zR (μ 97 7)) ∧ (((μ 97 7) ≤ v6 → φ μ) ∧ (v6 < (μ 97 7) → (0 ≤ v6 ∧ v6 < 80) ∧ (0 ≤ v4 ∧ v4 < 81) ∧ (0 ≤ (v6 - v5) ∧ (v6 - v5) < 80) ∧ (zR ((μ (99 + v6.toNat) v4.toNat) + (μ 95 (Int.toNat (v6 - v5))))) ∧ (zR (μ 97 9)) ∧ ((μ 97 9) ≠ 0) ∧ at_X1_addProduct_12 g φ v4 v5 (v6 + 1) (zup μ (99 + v6.toNat) v4.toNat (((μ (99 + v6.toNat) v4.toNat) + (μ 95 (Int.toNat (v6 - v5)))).tmod (μ 97 9)))))) : at_X1_addProduct_12 g φ v4 v5 v6 μ := by
  obtain ⟨o1, o2, h⟩ := h
  refine zw_iload (pc := 12) (i := 6) 4 (by decide +kernel) rfl ?_
  refine zw_aload_n (pc := 14) (n := 0) (i := 0) 0 (by decide +kernel) rfl rfl ?_
  refine zx_getI (pc := 15) zf_1_39 (by decide +kernel) rfl zc_97 ?_
  refine zw_icmp_ge (pc := 18) (off := 45) (tgt := 63) (by decide +kernel) (by decide) o1 o2 (fun hc => ?_) (fun hc => ?_)
  · replace h := h.1 hc
    exact zw_vret (pc := 63) (by decide +kernel) rfl (Nat.le_refl _) (Nat.le_refl _) ⟨_, rfl, rfl, h⟩
  · replace h := h.2 hc
    obtain ⟨o3, o6, o7, o8, o9, o10, h⟩ := h
    refine zw_aload_n (pc := 21) (n := 0) (i := 0) 0 (by decide +kernel) rfl rfl ?_
    refine zx_getR (pc := 22) (o := 1) (r := 98) zf_1_11 (by decide +kernel) rfl zc_97 rfl (by decide) rfl ?_
    refine zw_iload (pc := 25) (i := 6) 4 (by decide +kernel) rfl ?_
    have q4 : zS (99 + v6.toNat) 12 81 := zS_cast (zqr_98 (j := v6.toNat) (by omega)) (by show 98 + 1 + 1 * v6.toNat = (99 + v6.toNat); omega)
    refine zx_aaload (pc := 27) (k := 15) (r := (99 + v6.toNat)) (by decide +kernel) (by decide) ⟨80, zc_98, o3.1, o3.2⟩ (by show 98 + 1 + 1 * v6.toNat = (99 + v6.toNat); omega) ?_
    refine zw_iload (pc := 28) (i := 4) 2 (by decide +kernel) rfl ?_
    refine zw_aload_n (pc := 30) (n := 0) (i := 0) 0 (by decide +kernel) rfl rfl ?_
    refine zx_getR (pc := 31) (o := 1) (r := 98) zf_1_11 (by decide +kernel) rfl zc_97 rfl (by decide) rfl ?_
    refine zw_iload (pc := 34) (i := 6) 4 (by decide +kernel) rfl ?_
    have q5 : zS (99 + v6.toNat) 12 81 := zS_cast (zqr_98 (j := v6.toNat) (by omega)) (by show 98 + 1 + 1 * v6.toNat = (99 + v6.toNat); omega)
    refine zx_aaload (pc := 36) (k := 15) (r := (99 + v6.toNat)) (by decide +kernel) (by decide) ⟨80, zc_98, o3.1, o3.2⟩ (by show 98 + 1 + 1 * v6.toNat = (99 + v6.toNat); omega) ?_
    refine zw_iload (pc := 37) (i := 4) 2 (by decide +kernel) rfl ?_
    refine zx_iaload (pc := 39) (by decide +kernel) ⟨81, q5, o6.1, o6.2⟩ ?_
    refine zw_aload_n (pc := 40) (n := 1) (i := 1) 1 (by decide +kernel) rfl rfl ?_
    refine zx_getR (pc := 41) (o := 21) (r := 95) zf_1_73 (by decide +kernel) rfl zc_74 rfl (by decide) rfl ?_
    refine zw_iload (pc := 44) (i := 6) 4 (by decide +kernel) rfl ?_
    refine zw_iload (pc := 46) (i := 5) 3 (by decide +kernel) rfl ?_
    refine zw_isub (pc := 48) (by decide +kernel) ?_
    refine zx_iaload (pc := 49) (by decide +kernel) ⟨80, zc_95, o7.1, o7.2⟩ ?_
    refine zw_iadd (pc := 50) (by decide +kernel) ?_
    refine zw_aload_n (pc := 51) (n := 0) (i := 0) 0 (by decide +kernel) rfl rfl ?_
    refine zx_getI (pc := 52) zf_1_45 (by decide +kernel) rfl zc_97 ?_
    refine zw_irem (pc := 55) (by decide +kernel) o8 o9 o10 ?_
    refine zx_iastore (pc := 56) (by decide +kernel) ⟨81, q4, o6.1, o6.2⟩ ?_
    refine zw_iinc (pc := 57) (i := 6) (n := 1) (lv' := [(0, .ref 97), (1, .ref 74), (4, .int (zJ v4)), (5, .int (zJ v5)), (6, .int (zJ (v6 + 1)))]) 4 (by decide +kernel) rfl rfl (Nat.le_of_ble_eq_true rfl) rfl ?_
    refine zw_goto (pc := 60) (off := (-48)) (tgt := 12) (by decide +kernel) (by decide) ?_
    exact h
abbrev at_X1_eliminate_12 (g : zG) (φ : Int → zMu → Prop) (v1 : Int) (v2 : Int) (μ : zMu) : Prop := zWP g zm_X1_eliminate (zmo g zm_X1_eliminate (zΦi φ)) 12 [(0, .ref 97), (1, .int (zJ v1)), (2, .int (zJ v2))] [] 0 0 (zw μ)
theorem sg_X1_eliminate {g : zG} {φ : Int → zMu → Prop} {μ : zMu}
    (h : at_X1_eliminate_12 g φ 0 0 (zup μ 97 8 (μ 97 6))) : zOi g zm_X1_eliminate [.ref 97] μ φ := by
  refine zok_of (by decide +kernel) rfl ?_
  show zWP g zm_X1_eliminate (zmo g zm_X1_eliminate (zΦi φ)) 0 [(0, .ref 97)] [] 0 0 (zw μ)
  refine zw_iconst (pc := 0) (n := 0) (by decide +kernel) ?_
  refine zw_istore_n (pc := 1) (n := 1) (i := 1) (lv' := [(0, .ref 97), (1, .int (zJ 0))]) (by decide +kernel) rfl (Nat.le_of_ble_eq_true rfl) rfl ?_
  refine zw_aload_n (pc := 2) (n := 0) (i := 0) 0 (by decide +kernel) rfl rfl ?_
  refine zw_aload_n (pc := 3) (n := 0) (i := 0) 0 (by decide +kernel) rfl rfl ?_
  refine zx_getI (pc := 4) zf_1_52 (by decide +kernel) rfl zc_97 ?_
  refine zx_putI (pc := 7) zf_1_76 (by decide +kernel) rfl zc_97 ?_
  refine zw_iconst (pc := 10) (n := 0) (by decide +kernel) ?_
  refine zw_istore_n (pc := 11) (n := 2) (i := 2) (lv' := [(0, .ref 97), (1, .int (zJ 0)), (2, .int (zJ 0))]) (by decide +kernel) rfl (Nat.le_of_ble_eq_true rfl) rfl ?_
  exact h
theorem sg_X1_eliminate_12 {g : zG} {φ : Int → zMu → Prop} {v1 : Int} {v2 : Int} {μ : zMu}
    (h : (zR v2) ∧ (zR (μ 97 6)) ∧ (((μ 97 6) ≤ v2 → φ v1 μ) ∧ (v2 < (μ 97 6) → zOi g zm_X1_pivotRow [.ref 97, .int (zJ v2), .int (zJ v1)] μ (fun x4 μ3 => (zR x4) ∧ ((0 ≤ x4 → zOv g zm_X1_swapRows [.ref 97, .int (zJ x4), .int (zJ v1), .int (zJ v2)] μ3 (fun μ6 => zOv g zm_X1_scaleRow [.ref 97, .int (zJ v1), .int (zJ v2)] μ6 (fun μ7 => zOv g zm_X1_clearBelow [.ref 97, .int (zJ v1), .int (zJ v2)] μ7 (fun μ8 => at_X1_eliminate_12 g φ (v1 + 1) (v2 + 1) μ8)))) ∧ (x4 < 0 → (zR (μ3 97 8)) ∧ at_X1_eliminate_12 g φ v1 (v2 + 1) (zup μ3 97 8 (min (μ3 97 8) v2)))))))) : at_X1_eliminate_12 g φ v1 v2 μ := by
  obtain ⟨o1, o2, h⟩ := h
  refine zw_iload_n (pc := 12) (n := 2) (i := 2) 2 (by decide +kernel) rfl rfl ?_
  refine zw_aload_n (pc := 13) (n := 0) (i := 0) 0 (by decide +kernel) rfl rfl ?_
  refine zx_getI (pc := 14) zf_1_52 (by decide +kernel) rfl zc_97 ?_
  refine zw_icmp_ge (pc := 17) (off := 57) (tgt := 74) (by decide +kernel) (by decide) o1 o2 (fun hc => ?_) (fun hc => ?_)
  · replace h := h.1 hc
    refine zw_iload_n (pc := 74) (n := 1) (i := 1) 1 (by decide +kernel) rfl rfl ?_
    exact zw_iret (pc := 75) (by decide +kernel) rfl (Nat.le_refl _) (Nat.le_refl _) ⟨_, _, rfl, rfl, h⟩
  · replace h := h.2 hc
    refine zw_aload_n (pc := 20) (n := 0) (i := 0) 0 (by decide +kernel) rfl rfl ?_
    refine zw_iload_n (pc := 21) (n := 2) (i := 2) 2 (by decide +kernel) rfl rfl ?_
    refine zw_iload_n (pc := 22) (n := 1) (i := 1) 1 (by decide +kernel) rfl rfl ?_
    refine zx_callV (pc := 23) (As := [.int (zJ v2), .int (zJ v1)]) h zi_X1_pivotRow zii_X1_pivotRow zie_X1_pivotRow zl_1_79 (by decide +kernel) ⟨Nat.le_of_ble_eq_true rfl, Nat.le_of_ble_eq_true rfl⟩ rfl zc_97 (by decide) rfl rfl ⟨rfl, rfl⟩ ⟨Nat.zero_le _, Nat.zero_le _⟩ (zki (fun x4 μ3 h => ?_))
    obtain ⟨o5, h⟩ := h
    refine zw_istore_n (pc := 26) (n := 3) (i := 3) (lv' := [(0, .ref 97), (1, .int (zJ v1)), (2, .int (zJ v2)), (3, .int (zJ x4))]) (by decide +kernel) rfl (Nat.le_of_ble_eq_true rfl) rfl ?_
    refine zw_iload_n (pc := 27) (n := 3) (i := 3) 3 (by decide +kernel) rfl rfl ?_
    refine zw_if_ge (pc := 28) (off := 18) (tgt := 46) (by decide +kernel) (by decide) o5 (fun hc => ?_) (fun hc => ?_)
    · replace h := h.1 hc
      refine zw_aload_n (pc := 46) (n := 0) (i := 0) 0 (by decide +kernel) rfl rfl ?_
      refine zw_iload_n (pc := 47) (n := 3) (i := 3) 3 (by decide +kernel) rfl rfl ?_
      refine zw_iload_n (pc := 48) (n := 1) (i := 1) 1 (by decide +kernel) rfl rfl ?_
      refine zw_iload_n (pc := 49) (n := 2) (i := 2) 2 (by decide +kernel) rfl rfl ?_
      refine zx_callV (pc := 50) (As := [.int (zJ x4), .int (zJ v1), .int (zJ v2)]) h zi_X1_swapRows zii_X1_swapRows zie_X1_swapRows zl_1_87 (by decide +kernel) ⟨Nat.le_of_ble_eq_true rfl, Nat.le_of_ble_eq_true rfl⟩ rfl zc_97 (by decide) rfl rfl ⟨rfl, rfl⟩ ⟨Nat.zero_le _, Nat.zero_le _⟩ (zkv (fun μ6 h => ?_))
      refine zw_aload_n (pc := 53) (n := 0) (i := 0) 0 (by decide +kernel) rfl rfl ?_
      refine zw_iload_n (pc := 54) (n := 1) (i := 1) 1 (by decide +kernel) rfl rfl ?_
      refine zw_iload_n (pc := 55) (n := 2) (i := 2) 2 (by decide +kernel) rfl rfl ?_
      refine zx_callV (pc := 56) (As := [.int (zJ v1), .int (zJ v2)]) h zi_X1_scaleRow zii_X1_scaleRow zie_X1_scaleRow zl_1_91 (by decide +kernel) ⟨Nat.le_of_ble_eq_true rfl, Nat.le_of_ble_eq_true rfl⟩ rfl zc_97 (by decide) rfl rfl ⟨rfl, rfl⟩ ⟨Nat.zero_le _, Nat.zero_le _⟩ (zkv (fun μ7 h => ?_))
      refine zw_aload_n (pc := 59) (n := 0) (i := 0) 0 (by decide +kernel) rfl rfl ?_
      refine zw_iload_n (pc := 60) (n := 1) (i := 1) 1 (by decide +kernel) rfl rfl ?_
      refine zw_iload_n (pc := 61) (n := 2) (i := 2) 2 (by decide +kernel) rfl rfl ?_
      refine zx_callV (pc := 62) (As := [.int (zJ v1), .int (zJ v2)]) h zi_X1_clearBelow zii_X1_clearBelow zie_X1_clearBelow zl_1_95 (by decide +kernel) ⟨Nat.le_of_ble_eq_true rfl, Nat.le_of_ble_eq_true rfl⟩ rfl zc_97 (by decide) rfl rfl ⟨rfl, rfl⟩ ⟨Nat.zero_le _, Nat.zero_le _⟩ (zkv (fun μ8 h => ?_))
      refine zw_iinc (pc := 65) (i := 1) (n := 1) (lv' := [(0, .ref 97), (1, .int (zJ (v1 + 1))), (2, .int (zJ v2)), (3, .int (zJ x4))]) 1 (by decide +kernel) rfl rfl (Nat.le_of_ble_eq_true rfl) rfl ?_
      refine zw_iinc (pc := 68) (i := 2) (n := 1) (lv' := [(0, .ref 97), (1, .int (zJ (v1 + 1))), (2, .int (zJ (v2 + 1))), (3, .int (zJ x4))]) 2 (by decide +kernel) rfl rfl (Nat.le_of_ble_eq_true rfl) rfl ?_
      refine zw_goto (pc := 71) (off := (-59)) (tgt := 12) (by decide +kernel) (by decide) ?_
      exact zw_pick (lv' := [(0, .ref 97), (1, .int (zJ (v1 + 1))), (2, .int (zJ (v2 + 1)))]) [0, 1, 2] rfl h
    · replace h := h.2 hc
      obtain ⟨o9, h⟩ := h
      refine zw_aload_n (pc := 31) (n := 0) (i := 0) 0 (by decide +kernel) rfl rfl ?_
      refine zw_aload_n (pc := 32) (n := 0) (i := 0) 0 (by decide +kernel) rfl rfl ?_
      refine zx_getI (pc := 33) zf_1_76 (by decide +kernel) rfl zc_97 ?_
      refine zw_iload_n (pc := 36) (n := 2) (i := 2) 2 (by decide +kernel) rfl rfl ?_
      refine zw_min (pc := 37) zl_1_82 zb_minS zb_mathI zb_minC (by decide +kernel) ⟨Nat.le_of_ble_eq_true rfl, Nat.le_of_ble_eq_true rfl⟩ (Nat.zero_le _) (Nat.zero_le _) rfl o9 o1 ?_
      refine zx_putI (pc := 40) zf_1_76 (by decide +kernel) rfl zc_97 ?_
      refine zw_goto (pc := 43) (off := 25) (tgt := 68) (by decide +kernel) (by decide) ?_
      refine zw_iinc (pc := 68) (i := 2) (n := 1) (lv' := [(0, .ref 97), (1, .int (zJ v1)), (2, .int (zJ (v2 + 1))), (3, .int (zJ x4))]) 2 (by decide +kernel) rfl rfl (Nat.le_of_ble_eq_true rfl) rfl ?_
      refine zw_goto (pc := 71) (off := (-59)) (tgt := 12) (by decide +kernel) (by decide) ?_
      exact zw_pick (lv' := [(0, .ref 97), (1, .int (zJ v1)), (2, .int (zJ (v2 + 1)))]) [0, 1, 2] rfl h
abbrev at_X1_pivotRow_2 (g : zG) (φ : Int → zMu → Prop) (v1 : Int) (v3 : Int) (μ : zMu) : Prop := zWP g zm_X1_pivotRow (zmo g zm_X1_pivotRow (zΦi φ)) 2 [(0, .ref 97), (1, .int (zJ v1)), (3, .int (zJ v3))] [] 0 0 (zw μ)
theorem sg_X1_pivotRow {g : zG} {φ : Int → zMu → Prop} {v1 : Int} {v2 : Int} {μ : zMu}
    (h : at_X1_pivotRow_2 g φ v1 v2 μ) : zOi g zm_X1_pivotRow [.ref 97, .int (zJ v1), .int (zJ v2)] μ φ := by
  refine zok_of (by decide +kernel) rfl ?_
  show zWP g zm_X1_pivotRow (zmo g zm_X1_pivotRow (zΦi φ)) 0 [(0, .ref 97), (1, .int (zJ v1)), (2, .int (zJ v2))] [] 0 0 (zw μ)
  refine zw_iload_n (pc := 0) (n := 2) (i := 2) 2 (by decide +kernel) rfl rfl ?_
  refine zw_istore_n (pc := 1) (n := 3) (i := 3) (lv' := [(0, .ref 97), (1, .int (zJ v1)), (2, .int (zJ v2)), (3, .int (zJ v2))]) (by decide +kernel) rfl (Nat.le_of_ble_eq_true rfl) rfl ?_
  exact zw_pick (lv' := [(0, .ref 97), (1, .int (zJ v1)), (3, .int (zJ v2))]) [0, 1, 3] rfl h
theorem sg_X1_pivotRow_2 {g : zG} {φ : Int → zMu → Prop} {v1 : Int} {v3 : Int} {μ : zMu}
    (h : (zR v3) ∧ (zR (μ 97 7)) ∧ (((μ 97 7) ≤ v3 → φ (-1) μ) ∧ (v3 < (μ 97 7) → (0 ≤ v3 ∧ v3 < 80) ∧ (0 ≤ v1 ∧ v1 < 81) ∧ (zR (μ (99 + v3.toNat) v1.toNat)) ∧ (((μ (99 + v3.toNat) v1.toNat) = 0 → at_X1_pivotRow_2 g φ v1 (v3 + 1) μ) ∧ (¬ (μ (99 + v3.toNat) v1.toNat) = 0 → φ v3 μ))))) : at_X1_pivotRow_2 g φ v1 v3 μ := by
  obtain ⟨o1, o2, h⟩ := h
  refine zw_iload_n (pc := 2) (n := 3) (i := 3) 2 (by decide +kernel) rfl rfl ?_
  refine zw_aload_n (pc := 3) (n := 0) (i := 0) 0 (by decide +kernel) rfl rfl ?_
  refine zx_getI (pc := 4) zf_1_39 (by decide +kernel) rfl zc_97 ?_
  refine zw_icmp_ge (pc := 7) (off := 22) (tgt := 29) (by decide +kernel) (by decide) o1 o2 (fun hc => ?_) (fun hc => ?_)
  · replace h := h.1 hc
    refine zw_iconst (pc := 29) (n := (-1)) (by decide +kernel) ?_
    exact zw_iret (pc := 30) (by decide +kernel) rfl (Nat.le_refl _) (Nat.le_refl _) ⟨_, _, rfl, rfl, h⟩
  · replace h := h.2 hc
    obtain ⟨o3, o5, o6, h⟩ := h
    refine zw_aload_n (pc := 10) (n := 0) (i := 0) 0 (by decide +kernel) rfl rfl ?_
    refine zx_getR (pc := 11) (o := 1) (r := 98) zf_1_11 (by decide +kernel) rfl zc_97 rfl (by decide) rfl ?_
    refine zw_iload_n (pc := 14) (n := 3) (i := 3) 2 (by decide +kernel) rfl rfl ?_
    have q4 : zS (99 + v3.toNat) 12 81 := zS_cast (zqr_98 (j := v3.toNat) (by omega)) (by show 98 + 1 + 1 * v3.toNat = (99 + v3.toNat); omega)
    refine zx_aaload (pc := 15) (k := 15) (r := (99 + v3.toNat)) (by decide +kernel) (by decide) ⟨80, zc_98, o3.1, o3.2⟩ (by show 98 + 1 + 1 * v3.toNat = (99 + v3.toNat); omega) ?_
    refine zw_iload_n (pc := 16) (n := 1) (i := 1) 1 (by decide +kernel) rfl rfl ?_
    refine zx_iaload (pc := 17) (by decide +kernel) ⟨81, q4, o5.1, o5.2⟩ ?_
    refine zw_if_eq (pc := 18) (off := 5) (tgt := 23) (by decide +kernel) (by decide) o6 (fun hc => ?_) (fun hc => ?_)
    · replace h := h.1 hc
      refine zw_iinc (pc := 23) (i := 3) (n := 1) (lv' := [(0, .ref 97), (1, .int (zJ v1)), (3, .int (zJ (v3 + 1)))]) 2 (by decide +kernel) rfl rfl (Nat.le_of_ble_eq_true rfl) rfl ?_
      refine zw_goto (pc := 26) (off := (-24)) (tgt := 2) (by decide +kernel) (by decide) ?_
      exact h
    · replace h := h.2 hc
      refine zw_iload_n (pc := 21) (n := 3) (i := 3) 2 (by decide +kernel) rfl rfl ?_
      exact zw_iret (pc := 22) (by decide +kernel) rfl (Nat.le_refl _) (Nat.le_refl _) ⟨_, _, rfl, rfl, h⟩
abbrev at_X1_swapRows_9 (g : zG) (φ : zMu → Prop) (v1 : Int) (v2 : Int) (v4 : Int) (μ : zMu) : Prop := zWP g zm_X1_swapRows (zmo g zm_X1_swapRows (zΦv φ)) 9 [(0, .ref 97), (1, .int (zJ v1)), (2, .int (zJ v2)), (4, .int (zJ v4))] [] 0 0 (zw μ)
theorem sg_X1_swapRows {g : zG} {φ : zMu → Prop} {v1 : Int} {v2 : Int} {v3 : Int} {μ : zMu}
    (h : (zR v1) ∧ (zR v2) ∧ ((¬ v1 = v2 → at_X1_swapRows_9 g φ v1 v2 v3 μ) ∧ (v1 = v2 → φ μ))) : zOv g zm_X1_swapRows [.ref 97, .int (zJ v1), .int (zJ v2), .int (zJ v3)] μ φ := by
  refine zok_of (by decide +kernel) rfl ?_
  show zWP g zm_X1_swapRows (zmo g zm_X1_swapRows (zΦv φ)) 0 [(0, .ref 97), (1, .int (zJ v1)), (2, .int (zJ v2)), (3, .int (zJ v3))] [] 0 0 (zw μ)
  obtain ⟨o1, o2, h⟩ := h
  refine zw_iload_n (pc := 0) (n := 1) (i := 1) 1 (by decide +kernel) rfl rfl ?_
  refine zw_iload_n (pc := 1) (n := 2) (i := 2) 2 (by decide +kernel) rfl rfl ?_
  refine zw_icmp_ne (pc := 2) (off := 4) (tgt := 6) (by decide +kernel) (by decide) o1 o2 (fun hc => ?_) (fun hc => ?_)
  · replace h := h.1 hc
    refine zw_iload_n (pc := 6) (n := 3) (i := 3) 3 (by decide +kernel) rfl rfl ?_
    refine zw_istore (pc := 7) (i := 4) (lv' := [(0, .ref 97), (1, .int (zJ v1)), (2, .int (zJ v2)), (3, .int (zJ v3)), (4, .int (zJ v3))]) (by decide +kernel) (Nat.le_of_ble_eq_true rfl) rfl ?_
    exact zw_pick (lv' := [(0, .ref 97), (1, .int (zJ v1)), (2, .int (zJ v2)), (4, .int (zJ v3))]) [0, 1, 2, 4] rfl h
  · replace h := h.2 hc
    exact zw_vret (pc := 5) (by decide +kernel) rfl (Nat.le_refl _) (Nat.le_refl _) ⟨_, rfl, rfl, h⟩
theorem sg_X1_swapRows_9 {g : zG} {φ : zMu → Prop} {v1 : Int} {v2 : Int} {v4 : Int} {μ : zMu}
    (h : (zR v4) ∧ (zR (μ 97 6)) ∧ (((μ 97 6) ≤ v4 → φ μ) ∧ (v4 < (μ 97 6) → (0 ≤ v1 ∧ v1 < 80) ∧ (0 ≤ v4 ∧ v4 < 81) ∧ (0 ≤ v2 ∧ v2 < 80) ∧ at_X1_swapRows_9 g φ v1 v2 (v4 + 1) (zup (zup μ (99 + v1.toNat) v4.toNat (μ (99 + v2.toNat) v4.toNat)) (99 + v2.toNat) v4.toNat (μ (99 + v1.toNat) v4.toNat))))) : at_X1_swapRows_9 g φ v1 v2 v4 μ := by
  obtain ⟨o1, o2, h⟩ := h
  refine zw_iload (pc := 9) (i := 4) 3 (by decide +kernel) rfl ?_
  refine zw_aload_n (pc := 11) (n := 0) (i := 0) 0 (by decide +kernel) rfl rfl ?_
  refine zx_getI (pc := 12) zf_1_52 (by decide +kernel) rfl zc_97 ?_
  refine zw_icmp_ge (pc := 15) (off := 49) (tgt := 64) (by decide +kernel) (by decide) o1 o2 (fun hc => ?_) (fun hc => ?_)
  · replace h := h.1 hc
    exact zw_vret (pc := 64) (by decide +kernel) rfl (Nat.le_refl _) (Nat.le_refl _) ⟨_, rfl, rfl, h⟩
  · replace h := h.2 hc
    obtain ⟨o3, o5, o7, h⟩ := h
    refine zw_aload_n (pc := 18) (n := 0) (i := 0) 0 (by decide +kernel) rfl rfl ?_
    refine zx_getR (pc := 19) (o := 1) (r := 98) zf_1_11 (by decide +kernel) rfl zc_97 rfl (by decide) rfl ?_
    refine zw_iload_n (pc := 22) (n := 1) (i := 1) 1 (by decide +kernel) rfl rfl ?_
    have q4 : zS (99 + v1.toNat) 12 81 := zS_cast (zqr_98 (j := v1.toNat) (by omega)) (by show 98 + 1 + 1 * v1.toNat = (99 + v1.toNat); omega)
    refine zx_aaload (pc := 23) (k := 15) (r := (99 + v1.toNat)) (by decide +kernel) (by decide) ⟨80, zc_98, o3.1, o3.2⟩ (by show 98 + 1 + 1 * v1.toNat = (99 + v1.toNat); omega) ?_
    refine zw_iload (pc := 24) (i := 4) 3 (by decide +kernel) rfl ?_
    refine zx_iaload (pc := 26) (by decide +kernel) ⟨81, q4, o5.1, o5.2⟩ ?_
    refine zw_istore (pc := 27) (i := 5) (lv' := [(0, .ref 97), (1, .int (zJ v1)), (2, .int (zJ v2)), (4, .int (zJ v4)), (5, .int (zJ (μ (99 + v1.toNat) v4.toNat)))]) (by decide +kernel) (Nat.le_of_ble_eq_true rfl) rfl ?_
    refine zw_aload_n (pc := 29) (n := 0) (i := 0) 0 (by decide +kernel) rfl rfl ?_
    refine zx_getR (pc := 30) (o := 1) (r := 98) zf_1_11 (by decide +kernel) rfl zc_97 rfl (by decide) rfl ?_
    refine zw_iload_n (pc := 33) (n := 1) (i := 1) 1 (by decide +kernel) rfl rfl ?_
    have q6 : zS (99 + v1.toNat) 12 81 := zS_cast (zqr_98 (j := v1.toNat) (by omega)) (by show 98 + 1 + 1 * v1.toNat = (99 + v1.toNat); omega)
    refine zx_aaload (pc := 34) (k := 15) (r := (99 + v1.toNat)) (by decide +kernel) (by decide) ⟨80, zc_98, o3.1, o3.2⟩ (by show 98 + 1 + 1 * v1.toNat = (99 + v1.toNat); omega) ?_
    refine zw_iload (pc := 35) (i := 4) 3 (by decide +kernel) rfl ?_
    refine zw_aload_n (pc := 37) (n := 0) (i := 0) 0 (by decide +kernel) rfl rfl ?_
    refine zx_getR (pc := 38) (o := 1) (r := 98) zf_1_11 (by decide +kernel) rfl zc_97 rfl (by decide) rfl ?_
    refine zw_iload_n (pc := 41) (n := 2) (i := 2) 2 (by decide +kernel) rfl rfl ?_
    have q8 : zS (99 + v2.toNat) 12 81 := zS_cast (zqr_98 (j := v2.toNat) (by omega)) (by show 98 + 1 + 1 * v2.toNat = (99 + v2.toNat); omega)
    refine zx_aaload (pc := 42) (k := 15) (r := (99 + v2.toNat)) (by decide +kernel) (by decide) ⟨80, zc_98, o7.1, o7.2⟩ (by show 98 + 1 + 1 * v2.toNat = (99 + v2.toNat); omega) ?_
    refine zw_iload (pc := 43) (i := 4) 3 (by decide +kernel) rfl ?_
    refine zx_iaload (pc := 45) (by decide +kernel) ⟨81, q8, o5.1, o5.2⟩ ?_
    refine zx_iastore (pc := 46) (by decide +kernel) ⟨81, q6, o5.1, o5.2⟩ ?_
    refine zw_aload_n (pc := 47) (n := 0) (i := 0) 0 (by decide +kernel) rfl rfl ?_
    refine zx_getR (pc := 48) (o := 1) (r := 98) zf_1_11 (by decide +kernel) rfl zc_97 rfl (by decide) rfl ?_
    refine zw_iload_n (pc := 51) (n := 2) (i := 2) 2 (by decide +kernel) rfl rfl ?_
    have q9 : zS (99 + v2.toNat) 12 81 := zS_cast (zqr_98 (j := v2.toNat) (by omega)) (by show 98 + 1 + 1 * v2.toNat = (99 + v2.toNat); omega)
    refine zx_aaload (pc := 52) (k := 15) (r := (99 + v2.toNat)) (by decide +kernel) (by decide) ⟨80, zc_98, o7.1, o7.2⟩ (by show 98 + 1 + 1 * v2.toNat = (99 + v2.toNat); omega) ?_
    refine zw_iload (pc := 53) (i := 4) 3 (by decide +kernel) rfl ?_
    refine zw_iload (pc := 55) (i := 5) 4 (by decide +kernel) rfl ?_
    refine zx_iastore (pc := 57) (by decide +kernel) ⟨81, q9, o5.1, o5.2⟩ ?_
    refine zw_iinc (pc := 58) (i := 4) (n := 1) (lv' := [(0, .ref 97), (1, .int (zJ v1)), (2, .int (zJ v2)), (4, .int (zJ (v4 + 1))), (5, .int (zJ (μ (99 + v1.toNat) v4.toNat)))]) 3 (by decide +kernel) rfl rfl (Nat.le_of_ble_eq_true rfl) rfl ?_
    refine zw_goto (pc := 61) (off := (-52)) (tgt := 9) (by decide +kernel) (by decide) ?_
    exact zw_pick (lv' := [(0, .ref 97), (1, .int (zJ v1)), (2, .int (zJ v2)), (4, .int (zJ (v4 + 1)))]) [0, 1, 2, 3] rfl h
abbrev at_X1_scaleRow_19 (g : zG) (φ : zMu → Prop) (v1 : Int) (v3 : Int) (v4 : Int) (μ : zMu) : Prop := zWP g zm_X1_scaleRow (zmo g zm_X1_scaleRow (zΦv φ)) 19 [(0, .ref 97), (1, .int (zJ v1)), (3, .int (zJ v3)), (4, .int (zJ v4))] [] 0 0 (zw μ)
theorem sg_X1_scaleRow {g : zG} {φ : zMu → Prop} {v1 : Int} {v2 : Int} {μ : zMu}
    (h : (0 ≤ v1 ∧ v1 < 80) ∧ (0 ≤ v2 ∧ v2 < 81) ∧ zOi g zm_X10_inverse [.int (zJ (μ (99 + v1.toNat) v2.toNat)), .int (zJ (μ 97 9))] μ (fun x5 μ4 => at_X1_scaleRow_19 g φ v1 x5 v2 μ4)) : zOv g zm_X1_scaleRow [.ref 97, .int (zJ v1), .int (zJ v2)] μ φ := by
  refine zok_of (by decide +kernel) rfl ?_
  show zWP g zm_X1_scaleRow (zmo g zm_X1_scaleRow (zΦv φ)) 0 [(0, .ref 97), (1, .int (zJ v1)), (2, .int (zJ v2))] [] 0 0 (zw μ)
  obtain ⟨o1, o3, h⟩ := h
  refine zw_aload_n (pc := 0) (n := 0) (i := 0) 0 (by decide +kernel) rfl rfl ?_
  refine zx_getR (pc := 1) (o := 1) (r := 98) zf_1_11 (by decide +kernel) rfl zc_97 rfl (by decide) rfl ?_
  refine zw_iload_n (pc := 4) (n := 1) (i := 1) 1 (by decide +kernel) rfl rfl ?_
  have q2 : zS (99 + v1.toNat) 12 81 := zS_cast (zqr_98 (j := v1.toNat) (by omega)) (by show 98 + 1 + 1 * v1.toNat = (99 + v1.toNat); omega)
  refine zx_aaload (pc := 5) (k := 15) (r := (99 + v1.toNat)) (by decide +kernel) (by decide) ⟨80, zc_98, o1.1, o1.2⟩ (by show 98 + 1 + 1 * v1.toNat = (99 + v1.toNat); omega) ?_
  refine zw_iload_n (pc := 6) (n := 2) (i := 2) 2 (by decide +kernel) rfl rfl ?_
  refine zx_iaload (pc := 7) (by decide +kernel) ⟨81, q2, o3.1, o3.2⟩ ?_
  refine zw_aload_n (pc := 8) (n := 0) (i := 0) 0 (by decide +kernel) rfl rfl ?_
  refine zx_getI (pc := 9) zf_1_45 (by decide +kernel) rfl zc_97 ?_
  refine zx_callSN (pc := 12) (As := [.int (zJ (μ (99 + v1.toNat) v2.toNat)), .int (zJ (μ 97 9))]) h zi_X10_inverse zis_X10_inverse zn_1_98 (by decide +kernel) ⟨Nat.le_of_ble_eq_true rfl, Nat.le_of_ble_eq_true rfl⟩ rfl rfl ⟨rfl, rfl⟩ ⟨Nat.zero_le _, Nat.zero_le _⟩ (zki (fun x5 μ4 h => ?_))
  refine zw_istore_n (pc := 15) (n := 3) (i := 3) (lv' := [(0, .ref 97), (1, .int (zJ v1)), (2, .int (zJ v2)), (3, .int (zJ x5))]) (by decide +kernel) rfl (Nat.le_of_ble_eq_true rfl) rfl ?_
  refine zw_iload_n (pc := 16) (n := 2) (i := 2) 2 (by decide +kernel) rfl rfl ?_
  refine zw_istore (pc := 17) (i := 4) (lv' := [(0, .ref 97), (1, .int (zJ v1)), (2, .int (zJ v2)), (3, .int (zJ x5)), (4, .int (zJ v2))]) (by decide +kernel) (Nat.le_of_ble_eq_true rfl) rfl ?_
  exact zw_pick (lv' := [(0, .ref 97), (1, .int (zJ v1)), (3, .int (zJ x5)), (4, .int (zJ v2))]) [0, 1, 3, 4] rfl h
theorem sg_X1_scaleRow_19 {g : zG} {φ : zMu → Prop} {v1 : Int} {v3 : Int} {v4 : Int} {μ : zMu}
    (h : (zR v4) ∧ (zR (μ 97 6)) ∧ (((μ 97 6) ≤ v4 → φ μ) ∧ (v4 < (μ 97 6) → (0 ≤ v1 ∧ v1 < 80) ∧ (0 ≤ v4 ∧ v4 < 81) ∧ (zR ((μ (99 + v1.toNat) v4.toNat) * v3)) ∧ (zR (μ 97 9)) ∧ ((μ 97 9) ≠ 0) ∧ at_X1_scaleRow_19 g φ v1 v3 (v4 + 1) (zup μ (99 + v1.toNat) v4.toNat (((μ (99 + v1.toNat) v4.toNat) * v3).tmod (μ 97 9)))))) : at_X1_scaleRow_19 g φ v1 v3 v4 μ := by
  obtain ⟨o1, o2, h⟩ := h
  refine zw_iload (pc := 19) (i := 4) 3 (by decide +kernel) rfl ?_
  refine zw_aload_n (pc := 21) (n := 0) (i := 0) 0 (by decide +kernel) rfl rfl ?_
  refine zx_getI (pc := 22) zf_1_52 (by decide +kernel) rfl zc_97 ?_
  refine zw_icmp_ge (pc := 25) (off := 34) (tgt := 59) (by decide +kernel) (by decide) o1 o2 (fun hc => ?_) (fun hc => ?_)
  · replace h := h.1 hc
    exact zw_vret (pc := 59) (by decide +kernel) rfl (Nat.le_refl _) (Nat.le_refl _) ⟨_, rfl, rfl, h⟩
  · replace h := h.2 hc
    obtain ⟨o3, o6, o7, o8, o9, h⟩ := h
    refine zw_aload_n (pc := 28) (n := 0) (i := 0) 0 (by decide +kernel) rfl rfl ?_
    refine zx_getR (pc := 29) (o := 1) (r := 98) zf_1_11 (by decide +kernel) rfl zc_97 rfl (by decide) rfl ?_
    refine zw_iload_n (pc := 32) (n := 1) (i := 1) 1 (by decide +kernel) rfl rfl ?_
    have q4 : zS (99 + v1.toNat) 12 81 := zS_cast (zqr_98 (j := v1.toNat) (by omega)) (by show 98 + 1 + 1 * v1.toNat = (99 + v1.toNat); omega)
    refine zx_aaload (pc := 33) (k := 15) (r := (99 + v1.toNat)) (by decide +kernel) (by decide) ⟨80, zc_98, o3.1, o3.2⟩ (by show 98 + 1 + 1 * v1.toNat = (99 + v1.toNat); omega) ?_
    refine zw_iload (pc := 34) (i := 4) 3 (by decide +kernel) rfl ?_
    refine zw_aload_n (pc := 36) (n := 0) (i := 0) 0 (by decide +kernel) rfl rfl ?_
    refine zx_getR (pc := 37) (o := 1) (r := 98) zf_1_11 (by decide +kernel) rfl zc_97 rfl (by decide) rfl ?_
    refine zw_iload_n (pc := 40) (n := 1) (i := 1) 1 (by decide +kernel) rfl rfl ?_
    have q5 : zS (99 + v1.toNat) 12 81 := zS_cast (zqr_98 (j := v1.toNat) (by omega)) (by show 98 + 1 + 1 * v1.toNat = (99 + v1.toNat); omega)
    refine zx_aaload (pc := 41) (k := 15) (r := (99 + v1.toNat)) (by decide +kernel) (by decide) ⟨80, zc_98, o3.1, o3.2⟩ (by show 98 + 1 + 1 * v1.toNat = (99 + v1.toNat); omega) ?_
    refine zw_iload (pc := 42) (i := 4) 3 (by decide +kernel) rfl ?_
    refine zx_iaload (pc := 44) (by decide +kernel) ⟨81, q5, o6.1, o6.2⟩ ?_
    refine zw_iload_n (pc := 45) (n := 3) (i := 3) 2 (by decide +kernel) rfl rfl ?_
    refine zw_imul (pc := 46) (by decide +kernel) ?_
    refine zw_aload_n (pc := 47) (n := 0) (i := 0) 0 (by decide +kernel) rfl rfl ?_
    refine zx_getI (pc := 48) zf_1_45 (by decide +kernel) rfl zc_97 ?_
    refine zw_irem (pc := 51) (by decide +kernel) o7 o8 o9 ?_
    refine zx_iastore (pc := 52) (by decide +kernel) ⟨81, q4, o6.1, o6.2⟩ ?_
    refine zw_iinc (pc := 53) (i := 4) (n := 1) (lv' := [(0, .ref 97), (1, .int (zJ v1)), (3, .int (zJ v3)), (4, .int (zJ (v4 + 1)))]) 3 (by decide +kernel) rfl rfl (Nat.le_of_ble_eq_true rfl) rfl ?_
    refine zw_goto (pc := 56) (off := (-37)) (tgt := 19) (by decide +kernel) (by decide) ?_
    exact h
abbrev at_X1_clearBelow_12 (g : zG) (φ : zMu → Prop) (v2 : Int) (r3 : Nat) (v4 : Int) (μ : zMu) : Prop := zWP g zm_X1_clearBelow (zmo g zm_X1_clearBelow (zΦv φ)) 12 [(0, .ref 97), (2, .int (zJ v2)), (3, .ref r3), (4, .int (zJ v4))] [] 0 0 (zw μ)
abbrev at_X1_clearBelow_51 (g : zG) (φ : zMu → Prop) (v2 : Int) (r3 : Nat) (v4 : Int) (r5 : Nat) (v6 : Int) (v7 : Int) (μ : zMu) : Prop := zWP g zm_X1_clearBelow (zmo g zm_X1_clearBelow (zΦv φ)) 51 [(0, .ref 97), (2, .int (zJ v2)), (3, .ref r3), (4, .int (zJ v4)), (5, .ref r5), (6, .int (zJ v6)), (7, .int (zJ v7))] [] 0 0 (zw μ)
theorem sg_X1_clearBelow {g : zG} {φ : zMu → Prop} {v1 : Int} {v2 : Int} {μ : zMu}
    (h : (0 ≤ v1 ∧ v1 < 80) ∧ at_X1_clearBelow_12 g φ v2 (99 + v1.toNat) (v1 + 1) μ) : zOv g zm_X1_clearBelow [.ref 97, .int (zJ v1), .int (zJ v2)] μ φ := by
  refine zok_of (by decide +kernel) rfl ?_
  show zWP g zm_X1_clearBelow (zmo g zm_X1_clearBelow (zΦv φ)) 0 [(0, .ref 97), (1, .int (zJ v1)), (2, .int (zJ v2))] [] 0 0 (zw μ)
  obtain ⟨o1, h⟩ := h
  refine zw_aload_n (pc := 0) (n := 0) (i := 0) 0 (by decide +kernel) rfl rfl ?_
  refine zx_getR (pc := 1) (o := 1) (r := 98) zf_1_11 (by decide +kernel) rfl zc_97 rfl (by decide) rfl ?_
  refine zw_iload_n (pc := 4) (n := 1) (i := 1) 1 (by decide +kernel) rfl rfl ?_
  have q2 : zS (99 + v1.toNat) 12 81 := zS_cast (zqr_98 (j := v1.toNat) (by omega)) (by show 98 + 1 + 1 * v1.toNat = (99 + v1.toNat); omega)
  refine zx_aaload (pc := 5) (k := 15) (r := (99 + v1.toNat)) (by decide +kernel) (by decide) ⟨80, zc_98, o1.1, o1.2⟩ (by show 98 + 1 + 1 * v1.toNat = (99 + v1.toNat); omega) ?_
  refine zw_astore_n (pc := 6) (n := 3) (i := 3) (lv' := [(0, .ref 97), (1, .int (zJ v1)), (2, .int (zJ v2)), (3, .ref (99 + v1.toNat))]) (by decide +kernel) rfl (Nat.le_of_ble_eq_true rfl) rfl ?_
  refine zw_iload_n (pc := 7) (n := 1) (i := 1) 1 (by decide +kernel) rfl rfl ?_
  refine zw_iconst (pc := 8) (n := 1) (by decide +kernel) ?_
  refine zw_iadd (pc := 9) (by decide +kernel) ?_
  refine zw_istore (pc := 10) (i := 4) (lv' := [(0, .ref 97), (1, .int (zJ v1)), (2, .int (zJ v2)), (3, .ref (99 + v1.toNat)), (4, .int (zJ (v1 + 1)))]) (by decide +kernel) (Nat.le_of_ble_eq_true rfl) rfl ?_
  exact zw_pick (lv' := [(0, .ref 97), (2, .int (zJ v2)), (3, .ref (99 + v1.toNat)), (4, .int (zJ (v1 + 1)))]) [0, 2, 3, 4] rfl h
theorem sg_X1_clearBelow_12 {g : zG} {φ : zMu → Prop} {v2 : Int} {r3 : Nat} {v4 : Int} {μ : zMu} (h_r3 : zS r3 12 81)
    (h : (zR v4) ∧ (zR (μ 97 7)) ∧ (((μ 97 7) ≤ v4 → φ μ) ∧ (v4 < (μ 97 7) → (0 ≤ v4 ∧ v4 < 80) ∧ (0 ≤ v2 ∧ v2 < 81) ∧ (zR (μ (99 + v4.toNat) v2.toNat)) ∧ (((μ (99 + v4.toNat) v2.toNat) = 0 → at_X1_clearBelow_12 g φ v2 r3 (v4 + 1) μ) ∧ (¬ (μ (99 + v4.toNat) v2.toNat) = 0 → at_X1_clearBelow_51 g φ v2 r3 v4 (99 + v4.toNat) ((μ 97 9) - (μ (99 + v4.toNat) v2.toNat)) v2 μ))))) : at_X1_clearBelow_12 g φ v2 r3 v4 μ := by
  obtain ⟨o1, o2, h⟩ := h
  refine zw_iload (pc := 12) (i := 4) 3 (by decide +kernel) rfl ?_
  refine zw_aload_n (pc := 14) (n := 0) (i := 0) 0 (by decide +kernel) rfl rfl ?_
  refine zx_getI (pc := 15) zf_1_39 (by decide +kernel) rfl zc_97 ?_
  refine zw_icmp_ge (pc := 18) (off := 77) (tgt := 95) (by decide +kernel) (by decide) o1 o2 (fun hc => ?_) (fun hc => ?_)
  · replace h := h.1 hc
    exact zw_vret (pc := 95) (by decide +kernel) rfl (Nat.le_refl _) (Nat.le_refl _) ⟨_, rfl, rfl, h⟩
  · replace h := h.2 hc
    obtain ⟨o3, o5, o6, h⟩ := h
    refine zw_aload_n (pc := 21) (n := 0) (i := 0) 0 (by decide +kernel) rfl rfl ?_
    refine zx_getR (pc := 22) (o := 1) (r := 98) zf_1_11 (by decide +kernel) rfl zc_97 rfl (by decide) rfl ?_
    refine zw_iload (pc := 25) (i := 4) 3 (by decide +kernel) rfl ?_
    have q4 : zS (99 + v4.toNat) 12 81 := zS_cast (zqr_98 (j := v4.toNat) (by omega)) (by show 98 + 1 + 1 * v4.toNat = (99 + v4.toNat); omega)
    refine zx_aaload (pc := 27) (k := 15) (r := (99 + v4.toNat)) (by decide +kernel) (by decide) ⟨80, zc_98, o3.1, o3.2⟩ (by show 98 + 1 + 1 * v4.toNat = (99 + v4.toNat); omega) ?_
    refine zw_astore (pc := 28) (i := 5) (lv' := [(0, .ref 97), (2, .int (zJ v2)), (3, .ref r3), (4, .int (zJ v4)), (5, .ref (99 + v4.toNat))]) (by decide +kernel) (Nat.le_of_ble_eq_true rfl) rfl ?_
    refine zw_aload (pc := 30) (i := 5) 4 (by decide +kernel) rfl ?_
    refine zw_iload_n (pc := 32) (n := 2) (i := 2) 1 (by decide +kernel) rfl rfl ?_
    refine zx_iaload (pc := 33) (by decide +kernel) ⟨81, q4, o5.1, o5.2⟩ ?_
    refine zw_if_eq (pc := 34) (off := 55) (tgt := 89) (by decide +kernel) (by decide) o6 (fun hc => ?_) (fun hc => ?_)
    · replace h := h.1 hc
      refine zw_iinc (pc := 89) (i := 4) (n := 1) (lv' := [(0, .ref 97), (2, .int (zJ v2)), (3, .ref r3), (4, .int (zJ (v4 + 1))), (5, .ref (99 + v4.toNat))]) 3 (by decide +kernel) rfl rfl (Nat.le_of_ble_eq_true rfl) rfl ?_
      refine zw_goto (pc := 92) (off := (-80)) (tgt := 12) (by decide +kernel) (by decide) ?_
      exact zw_pick (lv' := [(0, .ref 97), (2, .int (zJ v2)), (3, .ref r3), (4, .int (zJ (v4 + 1)))]) [0, 1, 2, 3] rfl h
    · replace h := h.2 hc
      refine zw_aload_n (pc := 37) (n := 0) (i := 0) 0 (by decide +kernel) rfl rfl ?_
      refine zx_getI (pc := 38) zf_1_45 (by decide +kernel) rfl zc_97 ?_
      refine zw_aload (pc := 41) (i := 5) 4 (by decide +kernel) rfl ?_
      refine zw_iload_n (pc := 43) (n := 2) (i := 2) 1 (by decide +kernel) rfl rfl ?_
      refine zx_iaload (pc := 44) (by decide +kernel) ⟨81, q4, o5.1, o5.2⟩ ?_
      refine zw_isub (pc := 45) (by decide +kernel) ?_
      refine zw_istore (pc := 46) (i := 6) (lv' := [(0, .ref 97), (2, .int (zJ v2)), (3, .ref r3), (4, .int (zJ v4)), (5, .ref (99 + v4.toNat)), (6, .int (zJ ((μ 97 9) - (μ (99 + v4.toNat) v2.toNat))))]) (by decide +kernel) (Nat.le_of_ble_eq_true rfl) rfl ?_
      refine zw_iload_n (pc := 48) (n := 2) (i := 2) 1 (by decide +kernel) rfl rfl ?_
      refine zw_istore (pc := 49) (i := 7) (lv' := [(0, .ref 97), (2, .int (zJ v2)), (3, .ref r3), (4, .int (zJ v4)), (5, .ref (99 + v4.toNat)), (6, .int (zJ ((μ 97 9) - (μ (99 + v4.toNat) v2.toNat)))), (7, .int (zJ v2))]) (by decide +kernel) (Nat.le_of_ble_eq_true rfl) rfl ?_
      exact h
theorem sg_X1_clearBelow_51 {g : zG} {φ : zMu → Prop} {v2 : Int} {r3 : Nat} {v4 : Int} {r5 : Nat} {v6 : Int} {v7 : Int} {μ : zMu} (h_r3 : zS r3 12 81) (h_r5 : zS r5 12 81)
    (h : (zR v7) ∧ (zR (μ 97 6)) ∧ (((μ 97 6) ≤ v7 → at_X1_clearBelow_12 g φ v2 r3 (v4 + 1) μ) ∧ (v7 < (μ 97 6) → (0 ≤ v7 ∧ v7 < 81) ∧ (zR ((μ r5 v7.toNat) + (v6 * (μ r3 v7.toNat)))) ∧ (zR (μ 97 9)) ∧ ((μ 97 9) ≠ 0) ∧ at_X1_clearBelow_51 g φ v2 r3 v4 r5 v6 (v7 + 1) (zup μ r5 v7.toNat (((μ r5 v7.toNat) + (v6 * (μ r3 v7.toNat))).tmod (μ 97 9)))))) : at_X1_clearBelow_51 g φ v2 r3 v4 r5 v6 v7 μ := by
  obtain ⟨o1, o2, h⟩ := h
  refine zw_iload (pc := 51) (i := 7) 6 (by decide +kernel) rfl ?_
  refine zw_aload_n (pc := 53) (n := 0) (i := 0) 0 (by decide +kernel) rfl rfl ?_
  refine zx_getI (pc := 54) zf_1_52 (by decide +kernel) rfl zc_97 ?_
  refine zw_icmp_ge (pc := 57) (off := 32) (tgt := 89) (by decide +kernel) (by decide) o1 o2 (fun hc => ?_) (fun hc => ?_)
  · replace h := h.1 hc
    refine zw_iinc (pc := 89) (i := 4) (n := 1) (lv' := [(0, .ref 97), (2, .int (zJ v2)), (3, .ref r3), (4, .int (zJ (v4 + 1))), (5, .ref r5), (6, .int (zJ v6)), (7, .int (zJ v7))]) 3 (by decide +kernel) rfl rfl (Nat.le_of_ble_eq_true rfl) rfl ?_
    refine zw_goto (pc := 92) (off := (-80)) (tgt := 12) (by decide +kernel) (by decide) ?_
    exact zw_pick (lv' := [(0, .ref 97), (2, .int (zJ v2)), (3, .ref r3), (4, .int (zJ (v4 + 1)))]) [0, 1, 2, 3] rfl h
  · replace h := h.2 hc
    obtain ⟨o3, o4, o5, o6, h⟩ := h
    refine zw_aload (pc := 60) (i := 5) 4 (by decide +kernel) rfl ?_
    refine zw_iload (pc := 62) (i := 7) 6 (by decide +kernel) rfl ?_
    refine zw_aload (pc := 64) (i := 5) 4 (by decide +kernel) rfl ?_
    refine zw_iload (pc := 66) (i := 7) 6 (by decide +kernel) rfl ?_
    refine zx_iaload (pc := 68) (by decide +kernel) ⟨81, h_r5, o3.1, o3.2⟩ ?_
    refine zw_iload (pc := 69) (i := 6) 5 (by decide +kernel) rfl ?_
    refine zw_aload_n (pc := 71) (n := 3) (i := 3) 2 (by decide +kernel) rfl rfl ?_
    refine zw_iload (pc := 72) (i := 7) 6 (by decide +kernel) rfl ?_
    refine zx_iaload (pc := 74) (by decide +kernel) ⟨81, h_r3, o3.1, o3.2⟩ ?_
    refine zw_imul (pc := 75) (by decide +kernel) ?_
    refine zw_iadd (pc := 76) (by decide +kernel) ?_
    refine zw_aload_n (pc := 77) (n := 0) (i := 0) 0 (by decide +kernel) rfl rfl ?_
    refine zx_getI (pc := 78) zf_1_45 (by decide +kernel) rfl zc_97 ?_
    refine zw_irem (pc := 81) (by decide +kernel) o4 o5 o6 ?_
    refine zx_iastore (pc := 82) (by decide +kernel) ⟨81, h_r5, o3.1, o3.2⟩ ?_
    refine zw_iinc (pc := 83) (i := 7) (n := 1) (lv' := [(0, .ref 97), (2, .int (zJ v2)), (3, .ref r3), (4, .int (zJ v4)), (5, .ref r5), (6, .int (zJ v6)), (7, .int (zJ (v7 + 1)))]) 6 (by decide +kernel) rfl rfl (Nat.le_of_ble_eq_true rfl) rfl ?_
    refine zw_goto (pc := 86) (off := (-35)) (tgt := 51) (by decide +kernel) (by decide) ?_
    exact h
abbrev at_X1_handOver_14 (g : zG) (φ : zMu → Prop) (v1 : Nat) (v2 : Int) (μ : zMu) : Prop := zWP g zm_X1_handOver (zmo g zm_X1_handOver (zΦv φ)) 14 [(0, .ref 97), (1, .ref v1), (2, .int (zJ v2))] [] 0 0 (zw μ)
theorem sg_X1_handOver {g : zG} {φ : zMu → Prop} {v1 : Nat} {μ : zMu} (h_v1 : zS v1 3 2)
    (h : zOv g zm_X1_solve [.ref 97] μ (fun μ1 => zOv g zm_X3_clear [.ref v1, .int (zJ (μ1 97 4))] μ1 (fun μ2 => at_X1_handOver_14 g φ v1 0 μ2))) : zOv g zm_X1_handOver [.ref 97, .ref v1] μ φ := by
  refine zok_of (by decide +kernel) rfl ?_
  show zWP g zm_X1_handOver (zmo g zm_X1_handOver (zΦv φ)) 0 [(0, .ref 97), (1, .ref v1)] [] 0 0 (zw μ)
  refine zw_aload_n (pc := 0) (n := 0) (i := 0) 0 (by decide +kernel) rfl rfl ?_
  refine zx_callV (pc := 1) (As := []) h zi_X1_solve zii_X1_solve zie_X1_solve zl_1_101 (by decide +kernel) ⟨Nat.le_of_ble_eq_true rfl, Nat.le_of_ble_eq_true rfl⟩ rfl zc_97 (by decide) rfl rfl ⟨rfl, rfl⟩ ⟨Nat.zero_le _, Nat.zero_le _⟩ (zkv (fun μ1 h => ?_))
  refine zw_aload_n (pc := 4) (n := 1) (i := 1) 1 (by decide +kernel) rfl rfl ?_
  refine zw_aload_n (pc := 5) (n := 0) (i := 0) 0 (by decide +kernel) rfl rfl ?_
  refine zx_getI (pc := 6) zf_1_26 (by decide +kernel) rfl zc_97 ?_
  refine zx_callV (pc := 9) (As := [.int (zJ (μ1 97 4))]) h zi_X3_clear zii_X3_clear zie_X3_clear zl_1_104 (by decide +kernel) ⟨Nat.le_of_ble_eq_true rfl, Nat.le_of_ble_eq_true rfl⟩ rfl h_v1 (by decide) rfl rfl ⟨rfl, rfl⟩ ⟨Nat.zero_le _, Nat.zero_le _⟩ (zkv (fun μ2 h => ?_))
  refine zw_iconst (pc := 12) (n := 0) (by decide +kernel) ?_
  refine zw_istore_n (pc := 13) (n := 2) (i := 2) (lv' := [(0, .ref 97), (1, .ref v1), (2, .int (zJ 0))]) (by decide +kernel) rfl (Nat.le_of_ble_eq_true rfl) rfl ?_
  exact h
theorem sg_X1_handOver_14 {g : zG} {φ : zMu → Prop} {v1 : Nat} {v2 : Int} {μ : zMu} (h_v1 : zS v1 3 2)
    (h : (zR v2) ∧ (zR (μ 97 8)) ∧ (((μ 97 8) < v2 → φ μ) ∧ (v2 ≤ (μ 97 8) → (0 ≤ v2 ∧ v2 < 81) ∧ (0 ≤ ((9 * (μ 179 v2.toNat)) + (μ 180 v2.toNat)) ∧ ((9 * (μ 179 v2.toNat)) + (μ 180 v2.toNat)) < 81) ∧ (zR ((zup μ (v1 + 1) (Int.toNat ((9 * (μ 179 v2.toNat)) + (μ 180 v2.toNat))) (μ 181 v2.toNat)) 97 5)) ∧ ((((zup μ (v1 + 1) (Int.toNat ((9 * (μ 179 v2.toNat)) + (μ 180 v2.toNat))) (μ 181 v2.toNat)) 97 5) = 0 → at_X1_handOver_14 g φ v1 (v2 + 1) (zup μ (v1 + 1) (Int.toNat ((9 * (μ 179 v2.toNat)) + (μ 180 v2.toNat))) (μ 181 v2.toNat))) ∧ (¬ ((zup μ (v1 + 1) (Int.toNat ((9 * (μ 179 v2.toNat)) + (μ 180 v2.toNat))) (μ 181 v2.toNat)) 97 5) = 0 → (0 ≤ ((9 * ((zup μ (v1 + 1) (Int.toNat ((9 * (μ 179 v2.toNat)) + (μ 180 v2.toNat))) (μ 181 v2.toNat)) 180 v2.toNat)) + ((zup μ (v1 + 1) (Int.toNat ((9 * (μ 179 v2.toNat)) + (μ 180 v2.toNat))) (μ 181 v2.toNat)) 179 v2.toNat)) ∧ ((9 * ((zup μ (v1 + 1) (Int.toNat ((9 * (μ 179 v2.toNat)) + (μ 180 v2.toNat))) (μ 181 v2.toNat)) 180 v2.toNat)) + ((zup μ (v1 + 1) (Int.toNat ((9 * (μ 179 v2.toNat)) + (μ 180 v2.toNat))) (μ 181 v2.toNat)) 179 v2.toNat)) < 81) ∧ at_X1_handOver_14 g φ v1 (v2 + 1) (zup (zup μ (v1 + 1) (Int.toNat ((9 * (μ 179 v2.toNat)) + (μ 180 v2.toNat))) (μ 181 v2.toNat)) (v1 + 1) (Int.toNat ((9 * ((zup μ (v1 + 1) (Int.toNat ((9 * (μ 179 v2.toNat)) + (μ 180 v2.toNat))) (μ 181 v2.toNat)) 180 v2.toNat)) + ((zup μ (v1 + 1) (Int.toNat ((9 * (μ 179 v2.toNat)) + (μ 180 v2.toNat))) (μ 181 v2.toNat)) 179 v2.toNat))) ((zup μ (v1 + 1) (Int.toNat ((9 * (μ 179 v2.toNat)) + (μ 180 v2.toNat))) (μ 181 v2.toNat)) 181 v2.toNat))))))) : at_X1_handOver_14 g φ v1 v2 μ := by
  obtain ⟨o1, o2, h⟩ := h
  refine zw_iload_n (pc := 14) (n := 2) (i := 2) 2 (by decide +kernel) rfl rfl ?_
  refine zw_aload_n (pc := 15) (n := 0) (i := 0) 0 (by decide +kernel) rfl rfl ?_
  refine zx_getI (pc := 16) zf_1_76 (by decide +kernel) rfl zc_97 ?_
  refine zw_icmp_gt (pc := 19) (off := 70) (tgt := 89) (by decide +kernel) (by decide) o1 o2 (fun hc => ?_) (fun hc => ?_)
  · replace h := h.1 hc
    exact zw_vret (pc := 89) (by decide +kernel) rfl (Nat.le_refl _) (Nat.le_refl _) ⟨_, rfl, rfl, h⟩
  · replace h := h.2 hc
    obtain ⟨o4, o5, o6, h⟩ := h
    refine zw_aload_n (pc := 22) (n := 1) (i := 1) 1 (by decide +kernel) rfl rfl ?_
    have q3 : zS (v1 + 1) 12 81 := zq 0 h_v1 rfl
    refine zx_getR (pc := 23) (o := 1) (r := (v1 + 1)) zf_1_110 (by decide +kernel) rfl h_v1 rfl (by decide) rfl ?_
    refine zw_bipush (pc := 26) (n := 9) (by decide +kernel) (by decide +kernel) ?_
    refine zw_aload_n (pc := 28) (n := 0) (i := 0) 0 (by decide +kernel) rfl rfl ?_
    refine zx_getR (pc := 29) (o := 82) (r := 179) zf_1_16 (by decide +kernel) rfl zc_97 rfl (by decide) rfl ?_
    refine zw_iload_n (pc := 32) (n := 2) (i := 2) 2 (by decide +kernel) rfl rfl ?_
    refine zx_iaload (pc := 33) (by decide +kernel) ⟨81, zc_179, o4.1, o4.2⟩ ?_
    refine zw_imul (pc := 34) (by decide +kernel) ?_
    refine zw_aload_n (pc := 35) (n := 0) (i := 0) 0 (by decide +kernel) rfl rfl ?_
    refine zx_getR (pc := 36) (o := 83) (r := 180) zf_1_20 (by decide +kernel) rfl zc_97 rfl (by decide) rfl ?_
    refine zw_iload_n (pc := 39) (n := 2) (i := 2) 2 (by decide +kernel) rfl rfl ?_
    refine zx_iaload (pc := 40) (by decide +kernel) ⟨81, zc_180, o4.1, o4.2⟩ ?_
    refine zw_iadd (pc := 41) (by decide +kernel) ?_
    refine zw_aload_n (pc := 42) (n := 0) (i := 0) 0 (by decide +kernel) rfl rfl ?_
    refine zx_getR (pc := 43) (o := 84) (r := 181) zf_1_23 (by decide +kernel) rfl zc_97 rfl (by decide) rfl ?_
    refine zw_iload_n (pc := 46) (n := 2) (i := 2) 2 (by decide +kernel) rfl rfl ?_
    refine zx_iaload (pc := 47) (by decide +kernel) ⟨81, zc_181, o4.1, o4.2⟩ ?_
    refine zx_iastore (pc := 48) (by decide +kernel) ⟨81, q3, o5.1, o5.2⟩ ?_
    refine zw_aload_n (pc := 49) (n := 0) (i := 0) 0 (by decide +kernel) rfl rfl ?_
    refine zx_getI (pc := 50) zf_1_30 (by decide +kernel) rfl zc_97 ?_
    refine zw_if_eq (pc := 53) (off := 30) (tgt := 83) (by decide +kernel) (by decide) o6 (fun hc => ?_) (fun hc => ?_)
    · replace h := h.1 hc
      refine zw_iinc (pc := 83) (i := 2) (n := 1) (lv' := [(0, .ref 97), (1, .ref v1), (2, .int (zJ (v2 + 1)))]) 2 (by decide +kernel) rfl rfl (Nat.le_of_ble_eq_true rfl) rfl ?_
      refine zw_goto (pc := 86) (off := (-72)) (tgt := 14) (by decide +kernel) (by decide) ?_
      exact h
    · replace h := h.2 hc
      obtain ⟨o8, h⟩ := h
      refine zw_aload_n (pc := 56) (n := 1) (i := 1) 1 (by decide +kernel) rfl rfl ?_
      have q7 : zS (v1 + 1) 12 81 := zq 0 h_v1 rfl
      refine zx_getR (pc := 57) (o := 1) (r := (v1 + 1)) zf_1_110 (by decide +kernel) rfl h_v1 rfl (by decide) rfl ?_
      refine zw_bipush (pc := 60) (n := 9) (by decide +kernel) (by decide +kernel) ?_
      refine zw_aload_n (pc := 62) (n := 0) (i := 0) 0 (by decide +kernel) rfl rfl ?_
      refine zx_getR (pc := 63) (o := 83) (r := 180) zf_1_20 (by decide +kernel) rfl zc_97 rfl (by decide) rfl ?_
      refine zw_iload_n (pc := 66) (n := 2) (i := 2) 2 (by decide +kernel) rfl rfl ?_
      refine zx_iaload (pc := 67) (by decide +kernel) ⟨81, zc_180, o4.1, o4.2⟩ ?_
      refine zw_imul (pc := 68) (by decide +kernel) ?_
      refine zw_aload_n (pc := 69) (n := 0) (i := 0) 0 (by decide +kernel) rfl rfl ?_
      refine zx_getR (pc := 70) (o := 82) (r := 179) zf_1_16 (by decide +kernel) rfl zc_97 rfl (by decide) rfl ?_
      refine zw_iload_n (pc := 73) (n := 2) (i := 2) 2 (by decide +kernel) rfl rfl ?_
      refine zx_iaload (pc := 74) (by decide +kernel) ⟨81, zc_179, o4.1, o4.2⟩ ?_
      refine zw_iadd (pc := 75) (by decide +kernel) ?_
      refine zw_aload_n (pc := 76) (n := 0) (i := 0) 0 (by decide +kernel) rfl rfl ?_
      refine zx_getR (pc := 77) (o := 84) (r := 181) zf_1_23 (by decide +kernel) rfl zc_97 rfl (by decide) rfl ?_
      refine zw_iload_n (pc := 80) (n := 2) (i := 2) 2 (by decide +kernel) rfl rfl ?_
      refine zx_iaload (pc := 81) (by decide +kernel) ⟨81, zc_181, o4.1, o4.2⟩ ?_
      refine zx_iastore (pc := 82) (by decide +kernel) ⟨81, q7, o8.1, o8.2⟩ ?_
      refine zw_iinc (pc := 83) (i := 2) (n := 1) (lv' := [(0, .ref 97), (1, .ref v1), (2, .int (zJ (v2 + 1)))]) 2 (by decide +kernel) rfl rfl (Nat.le_of_ble_eq_true rfl) rfl ?_
      refine zw_goto (pc := 86) (off := (-72)) (tgt := 14) (by decide +kernel) (by decide) ?_
      exact h
abbrev at_X1_solve_17 (g : zG) (φ : zMu → Prop) (v1 : Int) (μ : zMu) : Prop := zWP g zm_X1_solve (zmo g zm_X1_solve (zΦv φ)) 17 [(0, .ref 97), (1, .int (zJ v1))] [] 0 0 (zw μ)
abbrev at_X1_solve_27 (g : zG) (φ : zMu → Prop) (v1 : Int) (v2 : Int) (v3 : Int) (μ : zMu) : Prop := zWP g zm_X1_solve (zmo g zm_X1_solve (zΦv φ)) 27 [(0, .ref 97), (1, .int (zJ v1)), (2, .int (zJ v2)), (3, .int (zJ v3))] [] 0 0 (zw μ)
theorem sg_X1_solve {g : zG} {φ : zMu → Prop} {μ : zMu}
    (h : (0 ≤ (μ 97 8) ∧ (μ 97 8) < 81) ∧ at_X1_solve_17 g φ (((zup μ 181 (Int.toNat (μ 97 8)) 1) 97 8) - 1) (zup μ 181 (Int.toNat (μ 97 8)) 1)) : zOv g zm_X1_solve [.ref 97] μ φ := by
  refine zok_of (by decide +kernel) rfl ?_
  show zWP g zm_X1_solve (zmo g zm_X1_solve (zΦv φ)) 0 [(0, .ref 97)] [] 0 0 (zw μ)
  obtain ⟨o1, h⟩ := h
  refine zw_aload_n (pc := 0) (n := 0) (i := 0) 0 (by decide +kernel) rfl rfl ?_
  refine zx_getR (pc := 1) (o := 84) (r := 181) zf_1_23 (by decide +kernel) rfl zc_97 rfl (by decide) rfl ?_
  refine zw_aload_n (pc := 4) (n := 0) (i := 0) 0 (by decide +kernel) rfl rfl ?_
  refine zx_getI (pc := 5) zf_1_76 (by decide +kernel) rfl zc_97 ?_
  refine zw_iconst (pc := 8) (n := 1) (by decide +kernel) ?_
  refine zx_iastore (pc := 9) (by decide +kernel) ⟨81, zc_181, o1.1, o1.2⟩ ?_
  refine zw_aload_n (pc := 10) (n := 0) (i := 0) 0 (by decide +kernel) rfl rfl ?_
  refine zx_getI (pc := 11) zf_1_76 (by decide +kernel) rfl zc_97 ?_
  refine zw_iconst (pc := 14) (n := 1) (by decide +kernel) ?_
  refine zw_isub (pc := 15) (by decide +kernel) ?_
  refine zw_istore_n (pc := 16) (n := 1) (i := 1) (lv' := [(0, .ref 97), (1, .int (zJ (((zup μ 181 (Int.toNat (μ 97 8)) 1) 97 8) - 1)))]) (by decide +kernel) rfl (Nat.le_of_ble_eq_true rfl) rfl ?_
  exact h
theorem sg_X1_solve_17 {g : zG} {φ : zMu → Prop} {v1 : Int} {μ : zMu}
    (h : (zR v1) ∧ ((v1 < 0 → φ μ) ∧ (0 ≤ v1 → at_X1_solve_27 g φ v1 0 (v1 + 1) μ))) : at_X1_solve_17 g φ v1 μ := by
  obtain ⟨o1, h⟩ := h
  refine zw_iload_n (pc := 17) (n := 1) (i := 1) 1 (by decide +kernel) rfl rfl ?_
  refine zw_if_lt (pc := 18) (off := 69) (tgt := 87) (by decide +kernel) (by decide) o1 (fun hc => ?_) (fun hc => ?_)
  · replace h := h.1 hc
    exact zw_vret (pc := 87) (by decide +kernel) rfl (Nat.le_refl _) (Nat.le_refl _) ⟨_, rfl, rfl, h⟩
  · replace h := h.2 hc
    refine zw_iconst (pc := 21) (n := 0) (by decide +kernel) ?_
    refine zw_istore_n (pc := 22) (n := 2) (i := 2) (lv' := [(0, .ref 97), (1, .int (zJ v1)), (2, .int (zJ 0))]) (by decide +kernel) rfl (Nat.le_of_ble_eq_true rfl) rfl ?_
    refine zw_iload_n (pc := 23) (n := 1) (i := 1) 1 (by decide +kernel) rfl rfl ?_
    refine zw_iconst (pc := 24) (n := 1) (by decide +kernel) ?_
    refine zw_iadd (pc := 25) (by decide +kernel) ?_
    refine zw_istore_n (pc := 26) (n := 3) (i := 3) (lv' := [(0, .ref 97), (1, .int (zJ v1)), (2, .int (zJ 0)), (3, .int (zJ (v1 + 1)))]) (by decide +kernel) rfl (Nat.le_of_ble_eq_true rfl) rfl ?_
    exact h
theorem sg_X1_solve_27 {g : zG} {φ : zMu → Prop} {v1 : Int} {v2 : Int} {v3 : Int} {μ : zMu}
    (h : (zR v3) ∧ (zR (μ 97 8)) ∧ (((μ 97 8) < v3 → (zR v2) ∧ (zR (μ 97 9)) ∧ ((μ 97 9) ≠ 0) ∧ (zR ((μ 97 9) - (v2.tmod (μ 97 9)))) ∧ (0 ≤ v1 ∧ v1 < 81) ∧ at_X1_solve_17 g φ (v1 + (-1)) (zup μ 181 v1.toNat (((μ 97 9) - (v2.tmod (μ 97 9))).tmod (μ 97 9)))) ∧ (v3 ≤ (μ 97 8) → (0 ≤ v1 ∧ v1 < 80) ∧ (0 ≤ v3 ∧ v3 < 81) ∧ at_X1_solve_27 g φ v1 (v2 + ((μ (99 + v1.toNat) v3.toNat) * (μ 181 v3.toNat))) (v3 + 1) μ))) : at_X1_solve_27 g φ v1 v2 v3 μ := by
  obtain ⟨o1, o2, h⟩ := h
  refine zw_iload_n (pc := 27) (n := 3) (i := 3) 3 (by decide +kernel) rfl rfl ?_
  refine zw_aload_n (pc := 28) (n := 0) (i := 0) 0 (by decide +kernel) rfl rfl ?_
  refine zx_getI (pc := 29) zf_1_76 (by decide +kernel) rfl zc_97 ?_
  refine zw_icmp_gt (pc := 32) (off := 27) (tgt := 59) (by decide +kernel) (by decide) o1 o2 (fun hc => ?_) (fun hc => ?_)
  · replace h := h.1 hc
    obtain ⟨o3, o4, o5, o6, o7, h⟩ := h
    refine zw_aload_n (pc := 59) (n := 0) (i := 0) 0 (by decide +kernel) rfl rfl ?_
    refine zx_getR (pc := 60) (o := 84) (r := 181) zf_1_23 (by decide +kernel) rfl zc_97 rfl (by decide) rfl ?_
    refine zw_iload_n (pc := 63) (n := 1) (i := 1) 1 (by decide +kernel) rfl rfl ?_
    refine zw_aload_n (pc := 64) (n := 0) (i := 0) 0 (by decide +kernel) rfl rfl ?_
    refine zx_getI (pc := 65) zf_1_45 (by decide +kernel) rfl zc_97 ?_
    refine zw_iload_n (pc := 68) (n := 2) (i := 2) 2 (by decide +kernel) rfl rfl ?_
    refine zw_aload_n (pc := 69) (n := 0) (i := 0) 0 (by decide +kernel) rfl rfl ?_
    refine zx_getI (pc := 70) zf_1_45 (by decide +kernel) rfl zc_97 ?_
    refine zw_irem (pc := 73) (by decide +kernel) o3 o4 o5 ?_
    refine zw_isub (pc := 74) (by decide +kernel) ?_
    refine zw_aload_n (pc := 75) (n := 0) (i := 0) 0 (by decide +kernel) rfl rfl ?_
    refine zx_getI (pc := 76) zf_1_45 (by decide +kernel) rfl zc_97 ?_
    refine zw_irem (pc := 79) (by decide +kernel) o6 o4 o5 ?_
    refine zx_iastore (pc := 80) (by decide +kernel) ⟨81, zc_181, o7.1, o7.2⟩ ?_
    refine zw_iinc (pc := 81) (i := 1) (n := (-1)) (lv' := [(0, .ref 97), (1, .int (zJ (v1 + (-1)))), (2, .int (zJ v2)), (3, .int (zJ v3))]) 1 (by decide +kernel) rfl rfl (Nat.le_of_ble_eq_true rfl) rfl ?_
    refine zw_goto (pc := 84) (off := (-67)) (tgt := 17) (by decide +kernel) (by decide) ?_
    exact zw_pick (lv' := [(0, .ref 97), (1, .int (zJ (v1 + (-1))))]) [0, 1] rfl h
  · replace h := h.2 hc
    obtain ⟨o8, o10, h⟩ := h
    refine zw_iload_n (pc := 35) (n := 2) (i := 2) 2 (by decide +kernel) rfl rfl ?_
    refine zw_aload_n (pc := 36) (n := 0) (i := 0) 0 (by decide +kernel) rfl rfl ?_
    refine zx_getR (pc := 37) (o := 1) (r := 98) zf_1_11 (by decide +kernel) rfl zc_97 rfl (by decide) rfl ?_
    refine zw_iload_n (pc := 40) (n := 1) (i := 1) 1 (by decide +kernel) rfl rfl ?_
    have q9 : zS (99 + v1.toNat) 12 81 := zS_cast (zqr_98 (j := v1.toNat) (by omega)) (by show 98 + 1 + 1 * v1.toNat = (99 + v1.toNat); omega)
    refine zx_aaload (pc := 41) (k := 15) (r := (99 + v1.toNat)) (by decide +kernel) (by decide) ⟨80, zc_98, o8.1, o8.2⟩ (by show 98 + 1 + 1 * v1.toNat = (99 + v1.toNat); omega) ?_
    refine zw_iload_n (pc := 42) (n := 3) (i := 3) 3 (by decide +kernel) rfl rfl ?_
    refine zx_iaload (pc := 43) (by decide +kernel) ⟨81, q9, o10.1, o10.2⟩ ?_
    refine zw_aload_n (pc := 44) (n := 0) (i := 0) 0 (by decide +kernel) rfl rfl ?_
    refine zx_getR (pc := 45) (o := 84) (r := 181) zf_1_23 (by decide +kernel) rfl zc_97 rfl (by decide) rfl ?_
    refine zw_iload_n (pc := 48) (n := 3) (i := 3) 3 (by decide +kernel) rfl rfl ?_
    refine zx_iaload (pc := 49) (by decide +kernel) ⟨81, zc_181, o10.1, o10.2⟩ ?_
    refine zw_imul (pc := 50) (by decide +kernel) ?_
    refine zw_iadd (pc := 51) (by decide +kernel) ?_
    refine zw_istore_n (pc := 52) (n := 2) (i := 2) (lv' := [(0, .ref 97), (1, .int (zJ v1)), (2, .int (zJ (v2 + ((μ (99 + v1.toNat) v3.toNat) * (μ 181 v3.toNat))))), (3, .int (zJ v3))]) (by decide +kernel) rfl (Nat.le_of_ble_eq_true rfl) rfl ?_
    refine zw_iinc (pc := 53) (i := 3) (n := 1) (lv' := [(0, .ref 97), (1, .int (zJ v1)), (2, .int (zJ (v2 + ((μ (99 + v1.toNat) v3.toNat) * (μ 181 v3.toNat))))), (3, .int (zJ (v3 + 1)))]) 3 (by decide +kernel) rfl rfl (Nat.le_of_ble_eq_true rfl) rfl ?_
    refine zw_goto (pc := 56) (off := (-29)) (tgt := 27) (by decide +kernel) (by decide) ?_
    exact h
theorem sg_X2_forget {g : zG} {φ : zMu → Prop} {μ : zMu}
    (h : zOv g zm_J7_fill_53178 [.ref 183, .int (zJ (-2))] μ (fun μ1 => φ μ1)) : zOv g zm_X2_forget [.ref 182] μ φ := by
  refine zok_of (by decide +kernel) rfl ?_
  show zWP g zm_X2_forget (zmo g zm_X2_forget (zΦv φ)) 0 [(0, .ref 182)] [] 0 0 (zw μ)
  refine zw_aload_n (pc := 0) (n := 0) (i := 0) 0 (by decide +kernel) rfl rfl ?_
  refine zx_getR (pc := 1) (o := 1) (r := 183) zf_2_9 (by decide +kernel) rfl zc_182 rfl (by decide) rfl ?_
  refine zw_bipush (pc := 4) (n := (-2)) (by decide +kernel) (by decide +kernel) ?_
  refine zx_callS (pc := 6) (As := [.ref 183, .int (zJ (-2))]) h zi_J7_fill_53178 zis_J7_fill_53178 zl_2_27 (by decide +kernel) ⟨Nat.le_of_ble_eq_true rfl, Nat.le_of_ble_eq_true rfl⟩ rfl rfl ⟨rfl, rfl⟩ ⟨Nat.zero_le _, Nat.zero_le _⟩ (zkv (fun μ1 h => ?_))
  exact zw_vret (pc := 9) (by decide +kernel) rfl (Nat.le_refl _) (Nat.le_refl _) ⟨_, rfl, rfl, h⟩
theorem sg_X2_isDegenerate {g : zG} {φ : Int → zMu → Prop} {v1 : Nat} {v2 : Int} {μ : zMu} (h_v1 : zS v1 0 5)
    (h : zOv g zm_X2_explore [.ref 182, .ref v1, .int (zJ v2)] μ (fun μ1 => (0 ≤ v2 ∧ v2 < 199) ∧ (zR (μ1 183 v2.toNat)) ∧ ((¬ (μ1 183 v2.toNat) = (-1) → φ 0 μ1) ∧ ((μ1 183 v2.toNat) = (-1) → φ 1 μ1)))) : zOi g zm_X2_isDegenerate [.ref 182, .ref v1, .int (zJ v2)] μ φ := by
  refine zok_of (by decide +kernel) rfl ?_
  show zWP g zm_X2_isDegenerate (zmo g zm_X2_isDegenerate (zΦi φ)) 0 [(0, .ref 182), (1, .ref v1), (2, .int (zJ v2))] [] 0 0 (zw μ)
  refine zw_aload_n (pc := 0) (n := 0) (i := 0) 0 (by decide +kernel) rfl rfl ?_
  refine zw_aload_n (pc := 1) (n := 1) (i := 1) 1 (by decide +kernel) rfl rfl ?_
  refine zw_iload_n (pc := 2) (n := 2) (i := 2) 2 (by decide +kernel) rfl rfl ?_
  refine zx_callV (pc := 3) (As := [.ref v1, .int (zJ v2)]) h zi_X2_explore zii_X2_explore zie_X2_explore zl_2_33 (by decide +kernel) ⟨Nat.le_of_ble_eq_true rfl, Nat.le_of_ble_eq_true rfl⟩ rfl zc_182 (by decide) rfl rfl ⟨rfl, rfl⟩ ⟨Nat.zero_le _, Nat.zero_le _⟩ (zkv (fun μ1 h => ?_))
  obtain ⟨o2, o3, h⟩ := h
  refine zw_aload_n (pc := 6) (n := 0) (i := 0) 0 (by decide +kernel) rfl rfl ?_
  refine zx_getR (pc := 7) (o := 1) (r := 183) zf_2_9 (by decide +kernel) rfl zc_182 rfl (by decide) rfl ?_
  refine zw_iload_n (pc := 10) (n := 2) (i := 2) 2 (by decide +kernel) rfl rfl ?_
  refine zx_iaload (pc := 11) (by decide +kernel) ⟨199, zc_183, o2.1, o2.2⟩ ?_
  refine zw_iconst (pc := 12) (n := (-1)) (by decide +kernel) ?_
  refine zw_icmp_ne (pc := 13) (off := 7) (tgt := 20) (by decide +kernel) (by decide) o3 ⟨by decide, by decide⟩ (fun hc => ?_) (fun hc => ?_)
  · replace h := h.1 hc
    refine zw_iconst (pc := 20) (n := 0) (by decide +kernel) ?_
    exact zw_zret (pc := 21) (by decide +kernel) rfl (Nat.le_refl _) (Nat.le_refl _) (Or.inl rfl) ⟨_, _, rfl, rfl, h⟩
  · replace h := h.2 hc
    refine zw_iconst (pc := 16) (n := 1) (by decide +kernel) ?_
    refine zw_goto (pc := 17) (off := 4) (tgt := 21) (by decide +kernel) (by decide) ?_
    exact zw_zret (pc := 21) (by decide +kernel) rfl (Nat.le_refl _) (Nat.le_refl _) (Or.inr rfl) ⟨_, _, rfl, rfl, h⟩
theorem sg_X2_explore {g : zG} {φ : zMu → Prop} {v1 : Nat} {v2 : Int} {μ : zMu} (h_v1 : zS v1 0 5)
    (h : (0 ≤ v2 ∧ v2 < 199) ∧ (zR (μ 183 v2.toNat)) ∧ ((¬ (μ 183 v2.toNat) = (-2) → φ μ) ∧ ((μ 183 v2.toNat) = (-2) → zOi g zm_X2_listNeighbours [.ref 182, .ref (v1 + 2), .int (zJ v2), .int (zJ (μ v1 0))] μ (fun x5 μ4 => φ (zup μ4 183 v2.toNat x5))))) : zOv g zm_X2_explore [.ref 182, .ref v1, .int (zJ v2)] μ φ := by
  refine zok_of (by decide +kernel) rfl ?_
  show zWP g zm_X2_explore (zmo g zm_X2_explore (zΦv φ)) 0 [(0, .ref 182), (1, .ref v1), (2, .int (zJ v2))] [] 0 0 (zw μ)
  obtain ⟨o1, o2, h⟩ := h
  refine zw_aload_n (pc := 0) (n := 0) (i := 0) 0 (by decide +kernel) rfl rfl ?_
  refine zx_getR (pc := 1) (o := 1) (r := 183) zf_2_9 (by decide +kernel) rfl zc_182 rfl (by decide) rfl ?_
  refine zw_iload_n (pc := 4) (n := 2) (i := 2) 2 (by decide +kernel) rfl rfl ?_
  refine zx_iaload (pc := 5) (by decide +kernel) ⟨199, zc_183, o1.1, o1.2⟩ ?_
  refine zw_bipush (pc := 6) (n := (-2)) (by decide +kernel) (by decide +kernel) ?_
  refine zw_icmp_ne (pc := 8) (off := 22) (tgt := 30) (by decide +kernel) (by decide) o2 ⟨by decide, by decide⟩ (fun hc => ?_) (fun hc => ?_)
  · replace h := h.1 hc
    exact zw_vret (pc := 30) (by decide +kernel) rfl (Nat.le_refl _) (Nat.le_refl _) ⟨_, rfl, rfl, h⟩
  · replace h := h.2 hc
    refine zw_aload_n (pc := 11) (n := 0) (i := 0) 0 (by decide +kernel) rfl rfl ?_
    refine zx_getR (pc := 12) (o := 1) (r := 183) zf_2_9 (by decide +kernel) rfl zc_182 rfl (by decide) rfl ?_
    refine zw_iload_n (pc := 15) (n := 2) (i := 2) 2 (by decide +kernel) rfl rfl ?_
    refine zw_aload_n (pc := 16) (n := 0) (i := 0) 0 (by decide +kernel) rfl rfl ?_
    refine zw_aload_n (pc := 17) (n := 1) (i := 1) 1 (by decide +kernel) rfl rfl ?_
    have q3 : zS (v1 + 2) 3 2 := zq 1 h_v1 rfl
    refine zx_getR (pc := 18) (o := 2) (r := (v1 + 2)) zf_2_43 (by decide +kernel) rfl h_v1 rfl (by decide) rfl ?_
    refine zw_iload_n (pc := 21) (n := 2) (i := 2) 2 (by decide +kernel) rfl rfl ?_
    refine zw_aload_n (pc := 22) (n := 1) (i := 1) 1 (by decide +kernel) rfl rfl ?_
    refine zx_getI (pc := 23) zf_2_49 (by decide +kernel) rfl h_v1 ?_
    refine zx_callV (pc := 26) (As := [.ref (v1 + 2), .int (zJ v2), .int (zJ (μ v1 0))]) h zi_X2_listNeighbours zii_X2_listNeighbours zie_X2_listNeighbours zl_2_53 (by decide +kernel) ⟨Nat.le_of_ble_eq_true rfl, Nat.le_of_ble_eq_true rfl⟩ rfl zc_182 (by decide) rfl rfl ⟨rfl, rfl⟩ ⟨Nat.zero_le _, Nat.zero_le _⟩ (zki (fun x5 μ4 h => ?_))
    refine zx_iastore (pc := 29) (by decide +kernel) ⟨199, zc_183, o1.1, o1.2⟩ ?_
    exact zw_vret (pc := 30) (by decide +kernel) rfl (Nat.le_refl _) (Nat.le_refl _) ⟨_, rfl, rfl, h⟩
abbrev at_X2_listNeighbours_22 (g : zG) (φ : Int → zMu → Prop) (v2 : Int) (v3 : Int) (v4 : Int) (v5 : Int) (v6 : Int) (μ : zMu) : Prop := zWP g zm_X2_listNeighbours (zmo g zm_X2_listNeighbours (zΦi φ)) 22 [(0, .ref 182), (2, .int (zJ v2)), (3, .int (zJ v3)), (4, .int (zJ v4)), (5, .int (zJ v5)), (6, .int (zJ v6))] [] 0 0 (zw μ)
abbrev at_X2_listNeighbours_33 (g : zG) (φ : Int → zMu → Prop) (v2 : Int) (v3 : Int) (v4 : Int) (v5 : Int) (v6 : Int) (μ : zMu) : Prop := zWP g zm_X2_listNeighbours (zmo g zm_X2_listNeighbours (zΦi φ)) 33 [(0, .ref 182), (2, .int (zJ v2)), (3, .int (zJ v3)), (4, .int (zJ v4)), (5, .int (zJ v5)), (6, .int (zJ v6))] [] 0 0 (zw μ)
theorem sg_X2_listNeighbours {g : zG} {φ : Int → zMu → Prop} {v1 : Nat} {v2 : Int} {v3 : Int} {μ : zMu} (h_v1 : zS v1 3 2)
    (h : zOi g zm_X2_fillLine [.ref 182, .ref v1, .int (zJ v2), .int (zJ v3)] μ (fun x2 μ1 => (zR x2) ∧ ((0 ≤ x2 → at_X2_listNeighbours_22 g φ v2 v3 x2 0 0 μ1) ∧ (x2 < 0 → φ (-1) μ1)))) : zOi g zm_X2_listNeighbours [.ref 182, .ref v1, .int (zJ v2), .int (zJ v3)] μ φ := by
  refine zok_of (by decide +kernel) rfl ?_
  show zWP g zm_X2_listNeighbours (zmo g zm_X2_listNeighbours (zΦi φ)) 0 [(0, .ref 182), (1, .ref v1), (2, .int (zJ v2)), (3, .int (zJ v3))] [] 0 0 (zw μ)
  refine zw_aload_n (pc := 0) (n := 0) (i := 0) 0 (by decide +kernel) rfl rfl ?_
  refine zw_aload_n (pc := 1) (n := 1) (i := 1) 1 (by decide +kernel) rfl rfl ?_
  refine zw_iload_n (pc := 2) (n := 2) (i := 2) 2 (by decide +kernel) rfl rfl ?_
  refine zw_iload_n (pc := 3) (n := 3) (i := 3) 3 (by decide +kernel) rfl rfl ?_
  refine zx_callV (pc := 4) (As := [.ref v1, .int (zJ v2), .int (zJ v3)]) h zi_X2_fillLine zii_X2_fillLine zie_X2_fillLine zl_2_57 (by decide +kernel) ⟨Nat.le_of_ble_eq_true rfl, Nat.le_of_ble_eq_true rfl⟩ rfl zc_182 (by decide) rfl rfl ⟨rfl, rfl⟩ ⟨Nat.zero_le _, Nat.zero_le _⟩ (zki (fun x2 μ1 h => ?_))
  obtain ⟨o3, h⟩ := h
  refine zw_istore (pc := 7) (i := 4) (lv' := [(0, .ref 182), (1, .ref v1), (2, .int (zJ v2)), (3, .int (zJ v3)), (4, .int (zJ x2))]) (by decide +kernel) (Nat.le_of_ble_eq_true rfl) rfl ?_
  refine zw_iload (pc := 9) (i := 4) 4 (by decide +kernel) rfl ?_
  refine zw_if_ge (pc := 11) (off := 5) (tgt := 16) (by decide +kernel) (by decide) o3 (fun hc => ?_) (fun hc => ?_)
  · replace h := h.1 hc
    refine zw_iconst (pc := 16) (n := 0) (by decide +kernel) ?_
    refine zw_istore (pc := 17) (i := 5) (lv' := [(0, .ref 182), (1, .ref v1), (2, .int (zJ v2)), (3, .int (zJ v3)), (4, .int (zJ x2)), (5, .int (zJ 0))]) (by decide +kernel) (Nat.le_of_ble_eq_true rfl) rfl ?_
    refine zw_iconst (pc := 19) (n := 0) (by decide +kernel) ?_
    refine zw_istore (pc := 20) (i := 6) (lv' := [(0, .ref 182), (1, .ref v1), (2, .int (zJ v2)), (3, .int (zJ v3)), (4, .int (zJ x2)), (5, .int (zJ 0)), (6, .int (zJ 0))]) (by decide +kernel) (Nat.le_of_ble_eq_true rfl) rfl ?_
    exact zw_pick (lv' := [(0, .ref 182), (2, .int (zJ v2)), (3, .int (zJ v3)), (4, .int (zJ x2)), (5, .int (zJ 0)), (6, .int (zJ 0))]) [0, 2, 3, 4, 5, 6] rfl h
  · replace h := h.2 hc
    refine zw_iconst (pc := 14) (n := (-1)) (by decide +kernel) ?_
    exact zw_iret (pc := 15) (by decide +kernel) rfl (Nat.le_refl _) (Nat.le_refl _) ⟨_, _, rfl, rfl, h⟩
theorem sg_X2_listNeighbours_22 {g : zG} {φ : Int → zMu → Prop} {v2 : Int} {v3 : Int} {v4 : Int} {v5 : Int} {v6 : Int} {μ : zMu}
    (h : (zR v6) ∧ (zR v3) ∧ ((v3 ≤ v6 → φ v5 μ) ∧ (v6 < v3 → (zR v4) ∧ ((v4 ≤ 0 → φ v5 μ) ∧ (0 < v4 → at_X2_listNeighbours_33 g φ v2 v3 v4 v5 v6 μ))))) : at_X2_listNeighbours_22 g φ v2 v3 v4 v5 v6 μ := by
  obtain ⟨o1, o2, h⟩ := h
  refine zw_iload (pc := 22) (i := 6) 5 (by decide +kernel) rfl ?_
  refine zw_iload_n (pc := 24) (n := 3) (i := 3) 2 (by decide +kernel) rfl rfl ?_
  refine zw_icmp_ge (pc := 25) (off := 63) (tgt := 88) (by decide +kernel) (by decide) o1 o2 (fun hc => ?_) (fun hc => ?_)
  · replace h := h.1 hc
    refine zw_iload (pc := 88) (i := 5) 4 (by decide +kernel) rfl ?_
    exact zw_iret (pc := 90) (by decide +kernel) rfl (Nat.le_refl _) (Nat.le_refl _) ⟨_, _, rfl, rfl, h⟩
  · replace h := h.2 hc
    obtain ⟨o3, h⟩ := h
    refine zw_iload (pc := 28) (i := 4) 3 (by decide +kernel) rfl ?_
    refine zw_if_le (pc := 30) (off := 58) (tgt := 88) (by decide +kernel) (by decide) o3 (fun hc => ?_) (fun hc => ?_)
    · replace h := h.1 hc
      refine zw_iload (pc := 88) (i := 5) 4 (by decide +kernel) rfl ?_
      exact zw_iret (pc := 90) (by decide +kernel) rfl (Nat.le_refl _) (Nat.le_refl _) ⟨_, _, rfl, rfl, h⟩
    · replace h := h.2 hc
      exact h
theorem sg_X2_listNeighbours_33 {g : zG} {φ : Int → zMu → Prop} {v2 : Int} {v3 : Int} {v4 : Int} {v5 : Int} {v6 : Int} {μ : zMu}
    (h : (zR v4) ∧ ((v4 ≤ 0 → at_X2_listNeighbours_22 g φ v2 v3 v4 v5 (v6 + 1) μ) ∧ (0 < v4 → zOi g zm_X2_lineAt [.ref 182, .int (zJ v6), .int (zJ v4), .int (zJ v3)] μ (fun x3 μ2 => (zR x3) ∧ ((¬ x3 = 0 → at_X2_listNeighbours_22 g φ v2 v3 v4 v5 (v6 + 1) μ2) ∧ (x3 = 0 → zOv g zm_X2_divideLine [.ref 182, .int (zJ v6), .int (zJ v4), .int (zJ v3)] μ2 (fun μ5 => (0 ≤ ((8 * v2) + v5) ∧ ((8 * v2) + v5) < 1592) ∧ at_X2_listNeighbours_33 g φ v2 v3 (v4 + (-1)) (v5 + 1) v6 (zup μ5 184 (Int.toNat ((8 * v2) + v5)) v6)))))))) : at_X2_listNeighbours_33 g φ v2 v3 v4 v5 v6 μ := by
  obtain ⟨o1, h⟩ := h
  refine zw_iload (pc := 33) (i := 4) 3 (by decide +kernel) rfl ?_
  refine zw_if_le (pc := 35) (off := 47) (tgt := 82) (by decide +kernel) (by decide) o1 (fun hc => ?_) (fun hc => ?_)
  · replace h := h.1 hc
    refine zw_iinc (pc := 82) (i := 6) (n := 1) (lv' := [(0, .ref 182), (2, .int (zJ v2)), (3, .int (zJ v3)), (4, .int (zJ v4)), (5, .int (zJ v5)), (6, .int (zJ (v6 + 1)))]) 5 (by decide +kernel) rfl rfl (Nat.le_of_ble_eq_true rfl) rfl ?_
    refine zw_goto (pc := 85) (off := (-63)) (tgt := 22) (by decide +kernel) (by decide) ?_
    exact h
  · replace h := h.2 hc
    refine zw_aload_n (pc := 38) (n := 0) (i := 0) 0 (by decide +kernel) rfl rfl ?_
    refine zw_iload (pc := 39) (i := 6) 5 (by decide +kernel) rfl ?_
    refine zw_iload (pc := 41) (i := 4) 3 (by decide +kernel) rfl ?_
    refine zw_iload_n (pc := 43) (n := 3) (i := 3) 2 (by decide +kernel) rfl rfl ?_
    refine zx_callV (pc := 44) (As := [.int (zJ v6), .int (zJ v4), .int (zJ v3)]) h zi_X2_lineAt zii_X2_lineAt zie_X2_lineAt zl_2_60 (by decide +kernel) ⟨Nat.le_of_ble_eq_true rfl, Nat.le_of_ble_eq_true rfl⟩ rfl zc_182 (by decide) rfl rfl ⟨rfl, rfl⟩ ⟨Nat.zero_le _, Nat.zero_le _⟩ (zki (fun x3 μ2 h => ?_))
    obtain ⟨o4, h⟩ := h
    refine zw_if_ne (pc := 47) (off := 35) (tgt := 82) (by decide +kernel) (by decide) o4 (fun hc => ?_) (fun hc => ?_)
    · replace h := h.1 hc
      refine zw_iinc (pc := 82) (i := 6) (n := 1) (lv' := [(0, .ref 182), (2, .int (zJ v2)), (3, .int (zJ v3)), (4, .int (zJ v4)), (5, .int (zJ v5)), (6, .int (zJ (v6 + 1)))]) 5 (by decide +kernel) rfl rfl (Nat.le_of_ble_eq_true rfl) rfl ?_
      refine zw_goto (pc := 85) (off := (-63)) (tgt := 22) (by decide +kernel) (by decide) ?_
      exact h
    · replace h := h.2 hc
      refine zw_aload_n (pc := 50) (n := 0) (i := 0) 0 (by decide +kernel) rfl rfl ?_
      refine zw_iload (pc := 51) (i := 6) 5 (by decide +kernel) rfl ?_
      refine zw_iload (pc := 53) (i := 4) 3 (by decide +kernel) rfl ?_
      refine zw_iload_n (pc := 55) (n := 3) (i := 3) 2 (by decide +kernel) rfl rfl ?_
      refine zx_callV (pc := 56) (As := [.int (zJ v6), .int (zJ v4), .int (zJ v3)]) h zi_X2_divideLine zii_X2_divideLine zie_X2_divideLine zl_2_64 (by decide +kernel) ⟨Nat.le_of_ble_eq_true rfl, Nat.le_of_ble_eq_true rfl⟩ rfl zc_182 (by decide) rfl rfl ⟨rfl, rfl⟩ ⟨Nat.zero_le _, Nat.zero_le _⟩ (zkv (fun μ5 h => ?_))
      obtain ⟨o6, h⟩ := h
      refine zw_aload_n (pc := 59) (n := 0) (i := 0) 0 (by decide +kernel) rfl rfl ?_
      refine zx_getR (pc := 60) (o := 2) (r := 184) zf_2_15 (by decide +kernel) rfl zc_182 rfl (by decide) rfl ?_
      refine zw_bipush (pc := 63) (n := 8) (by decide +kernel) (by decide +kernel) ?_
      refine zw_iload_n (pc := 65) (n := 2) (i := 2) 1 (by decide +kernel) rfl rfl ?_
      refine zw_imul (pc := 66) (by decide +kernel) ?_
      refine zw_iload (pc := 67) (i := 5) 4 (by decide +kernel) rfl ?_
      refine zw_iadd (pc := 69) (by decide +kernel) ?_
      refine zw_iload (pc := 70) (i := 6) 5 (by decide +kernel) rfl ?_
      refine zx_iastore (pc := 72) (by decide +kernel) ⟨1592, zc_184, o6.1, o6.2⟩ ?_
      refine zw_iinc (pc := 73) (i := 5) (n := 1) (lv' := [(0, .ref 182), (2, .int (zJ v2)), (3, .int (zJ v3)), (4, .int (zJ v4)), (5, .int (zJ (v5 + 1))), (6, .int (zJ v6))]) 4 (by decide +kernel) rfl rfl (Nat.le_of_ble_eq_true rfl) rfl ?_
      refine zw_iinc (pc := 76) (i := 4) (n := (-1)) (lv' := [(0, .ref 182), (2, .int (zJ v2)), (3, .int (zJ v3)), (4, .int (zJ (v4 + (-1)))), (5, .int (zJ (v5 + 1))), (6, .int (zJ v6))]) 3 (by decide +kernel) rfl rfl (Nat.le_of_ble_eq_true rfl) rfl ?_
      refine zw_goto (pc := 79) (off := (-46)) (tgt := 33) (by decide +kernel) (by decide) ?_
      exact h
abbrev at_X2_fillLine_6 (g : zG) (φ : Int → zMu → Prop) (v1 : Nat) (v2 : Int) (v3 : Int) (v4 : Int) (v5 : Int) (μ : zMu) : Prop := zWP g zm_X2_fillLine (zmo g zm_X2_fillLine (zΦi φ)) 6 [(0, .ref 182), (1, .ref v1), (2, .int (zJ v2)), (3, .int (zJ v3)), (4, .int (zJ v4)), (5, .int (zJ v5))] [] 0 0 (zw μ)
theorem sg_X2_fillLine {g : zG} {φ : Int → zMu → Prop} {v1 : Nat} {v2 : Int} {v3 : Int} {μ : zMu} (h_v1 : zS v1 3 2)
    (h : at_X2_fillLine_6 g φ v1 v2 v3 (-1) 0 μ) : zOi g zm_X2_fillLine [.ref 182, .ref v1, .int (zJ v2), .int (zJ v3)] μ φ := by
  refine zok_of (by decide +kernel) rfl ?_
  show zWP g zm_X2_fillLine (zmo g zm_X2_fillLine (zΦi φ)) 0 [(0, .ref 182), (1, .ref v1), (2, .int (zJ v2)), (3, .int (zJ v3))] [] 0 0 (zw μ)
  refine zw_iconst (pc := 0) (n := (-1)) (by decide +kernel) ?_
  refine zw_istore (pc := 1) (i := 4) (lv' := [(0, .ref 182), (1, .ref v1), (2, .int (zJ v2)), (3, .int (zJ v3)), (4, .int (zJ (-1)))]) (by decide +kernel) (Nat.le_of_ble_eq_true rfl) rfl ?_
  refine zw_iconst (pc := 3) (n := 0) (by decide +kernel) ?_
  refine zw_istore (pc := 4) (i := 5) (lv' := [(0, .ref 182), (1, .ref v1), (2, .int (zJ v2)), (3, .int (zJ v3)), (4, .int (zJ (-1))), (5, .int (zJ 0))]) (by decide +kernel) (Nat.le_of_ble_eq_true rfl) rfl ?_
  exact h
theorem sg_X2_fillLine_6 {g : zG} {φ : Int → zMu → Prop} {v1 : Nat} {v2 : Int} {v3 : Int} {v4 : Int} {v5 : Int} {μ : zMu} (h_v1 : zS v1 3 2)
    (h : (zR v5) ∧ (zR (μ v1 1)) ∧ (((μ v1 1) < v5 → φ v4 μ) ∧ (v5 ≤ (μ v1 1) → zOi g zm_X3_lineCoefficient [.ref v1, .int (zJ v2), .int (zJ v5), .int (zJ v3)] μ (fun x4 μ3 => (0 ≤ v5 ∧ v5 < 9) ∧ (zR ((zup μ3 185 v5.toNat x4) 185 v5.toNat)) ∧ ((((zup μ3 185 v5.toNat x4) 185 v5.toNat) = 0 → at_X2_fillLine_6 g φ v1 v2 v3 v4 (v5 + 1) (zup μ3 185 v5.toNat x4)) ∧ (¬ ((zup μ3 185 v5.toNat x4) 185 v5.toNat) = 0 → at_X2_fillLine_6 g φ v1 v2 v3 v5 (v5 + 1) (zup μ3 185 v5.toNat x4))))))) : at_X2_fillLine_6 g φ v1 v2 v3 v4 v5 μ := by
  obtain ⟨o1, o2, h⟩ := h
  refine zw_iload (pc := 6) (i := 5) 5 (by decide +kernel) rfl ?_
  refine zw_aload_n (pc := 8) (n := 1) (i := 1) 1 (by decide +kernel) rfl rfl ?_
  refine zx_getI (pc := 9) zf_2_68 (by decide +kernel) rfl h_v1 ?_
  refine zw_icmp_gt (pc := 12) (off := 38) (tgt := 50) (by decide +kernel) (by decide) o1 o2 (fun hc => ?_) (fun hc => ?_)
  · replace h := h.1 hc
    refine zw_iload (pc := 50) (i := 4) 4 (by decide +kernel) rfl ?_
    exact zw_iret (pc := 52) (by decide +kernel) rfl (Nat.le_refl _) (Nat.le_refl _) ⟨_, _, rfl, rfl, h⟩
  · replace h := h.2 hc
    refine zw_aload_n (pc := 15) (n := 0) (i := 0) 0 (by decide +kernel) rfl rfl ?_
    refine zx_getR (pc := 16) (o := 3) (r := 185) zf_2_18 (by decide +kernel) rfl zc_182 rfl (by decide) rfl ?_
    refine zw_iload (pc := 19) (i := 5) 5 (by decide +kernel) rfl ?_
    refine zw_aload_n (pc := 21) (n := 1) (i := 1) 1 (by decide +kernel) rfl rfl ?_
    refine zw_iload_n (pc := 22) (n := 2) (i := 2) 2 (by decide +kernel) rfl rfl ?_
    refine zw_iload (pc := 23) (i := 5) 5 (by decide +kernel) rfl ?_
    refine zw_iload_n (pc := 25) (n := 3) (i := 3) 3 (by decide +kernel) rfl rfl ?_
    refine zx_callV (pc := 26) (As := [.int (zJ v2), .int (zJ v5), .int (zJ v3)]) h zi_X3_lineCoefficient zii_X3_lineCoefficient zie_X3_lineCoefficient zl_2_73 (by decide +kernel) ⟨Nat.le_of_ble_eq_true rfl, Nat.le_of_ble_eq_true rfl⟩ rfl h_v1 (by decide) rfl rfl ⟨rfl, rfl⟩ ⟨Nat.zero_le _, Nat.zero_le _⟩ (zki (fun x4 μ3 h => ?_))
    obtain ⟨o5, o6, h⟩ := h
    refine zx_iastore (pc := 29) (by decide +kernel) ⟨9, zc_185, o5.1, o5.2⟩ ?_
    refine zw_aload_n (pc := 30) (n := 0) (i := 0) 0 (by decide +kernel) rfl rfl ?_
    refine zx_getR (pc := 31) (o := 3) (r := 185) zf_2_18 (by decide +kernel) rfl zc_182 rfl (by decide) rfl ?_
    refine zw_iload (pc := 34) (i := 5) 5 (by decide +kernel) rfl ?_
    refine zx_iaload (pc := 36) (by decide +kernel) ⟨9, zc_185, o5.1, o5.2⟩ ?_
    refine zw_if_eq (pc := 37) (off := 7) (tgt := 44) (by decide +kernel) (by decide) o6 (fun hc => ?_) (fun hc => ?_)
    · replace h := h.1 hc
      refine zw_iinc (pc := 44) (i := 5) (n := 1) (lv' := [(0, .ref 182), (1, .ref v1), (2, .int (zJ v2)), (3, .int (zJ v3)), (4, .int (zJ v4)), (5, .int (zJ (v5 + 1)))]) 5 (by decide +kernel) rfl rfl (Nat.le_of_ble_eq_true rfl) rfl ?_
      refine zw_goto (pc := 47) (off := (-41)) (tgt := 6) (by decide +kernel) (by decide) ?_
      exact h
    · replace h := h.2 hc
      refine zw_iload (pc := 40) (i := 5) 5 (by decide +kernel) rfl ?_
      refine zw_istore (pc := 42) (i := 4) (lv' := [(0, .ref 182), (1, .ref v1), (2, .int (zJ v2)), (3, .int (zJ v3)), (4, .int (zJ v5)), (5, .int (zJ v5))]) (by decide +kernel) (Nat.le_of_ble_eq_true rfl) rfl ?_
      refine zw_iinc (pc := 44) (i := 5) (n := 1) (lv' := [(0, .ref 182), (1, .ref v1), (2, .int (zJ v2)), (3, .int (zJ v3)), (4, .int (zJ v5)), (5, .int (zJ (v5 + 1)))]) 5 (by decide +kernel) rfl rfl (Nat.le_of_ble_eq_true rfl) rfl ?_
      refine zw_goto (pc := 47) (off := (-41)) (tgt := 6) (by decide +kernel) (by decide) ?_
      exact h
abbrev at_X2_lineAt_6 (g : zG) (φ : Int → zMu → Prop) (v1 : Int) (v3 : Int) (v4 : Int) (v5 : Int) (μ : zMu) : Prop := zWP g zm_X2_lineAt (zmo g zm_X2_lineAt (zΦi φ)) 6 [(0, .ref 182), (1, .int (zJ v1)), (3, .int (zJ v3)), (4, .int (zJ v4)), (5, .int (zJ v5))] [] 0 0 (zw μ)
theorem sg_X2_lineAt {g : zG} {φ : Int → zMu → Prop} {v1 : Int} {v2 : Int} {v3 : Int} {μ : zMu}
    (h : at_X2_lineAt_6 g φ v1 v3 0 v2 μ) : zOi g zm_X2_lineAt [.ref 182, .int (zJ v1), .int (zJ v2), .int (zJ v3)] μ φ := by
  refine zok_of (by decide +kernel) rfl ?_
  show zWP g zm_X2_lineAt (zmo g zm_X2_lineAt (zΦi φ)) 0 [(0, .ref 182), (1, .int (zJ v1)), (2, .int (zJ v2)), (3, .int (zJ v3))] [] 0 0 (zw μ)
  refine zw_iconst (pc := 0) (n := 0) (by decide +kernel) ?_
  refine zw_istore (pc := 1) (i := 4) (lv' := [(0, .ref 182), (1, .int (zJ v1)), (2, .int (zJ v2)), (3, .int (zJ v3)), (4, .int (zJ 0))]) (by decide +kernel) (Nat.le_of_ble_eq_true rfl) rfl ?_
  refine zw_iload_n (pc := 3) (n := 2) (i := 2) 2 (by decide +kernel) rfl rfl ?_
  refine zw_istore (pc := 4) (i := 5) (lv' := [(0, .ref 182), (1, .int (zJ v1)), (2, .int (zJ v2)), (3, .int (zJ v3)), (4, .int (zJ 0)), (5, .int (zJ v2))]) (by decide +kernel) (Nat.le_of_ble_eq_true rfl) rfl ?_
  exact zw_pick (lv' := [(0, .ref 182), (1, .int (zJ v1)), (3, .int (zJ v3)), (4, .int (zJ 0)), (5, .int (zJ v2))]) [0, 1, 3, 4, 5] rfl h
theorem sg_X2_lineAt_6 {g : zG} {φ : Int → zMu → Prop} {v1 : Int} {v3 : Int} {v4 : Int} {v5 : Int} {μ : zMu}
    (h : (zR v5) ∧ ((v5 < 0 → φ v4 μ) ∧ (0 ≤ v5 → (0 ≤ v5 ∧ v5 < 9) ∧ (zR ((v4 * v1) + (μ 185 v5.toNat))) ∧ (zR v3) ∧ (v3 ≠ 0) ∧ at_X2_lineAt_6 g φ v1 v3 (((v4 * v1) + (μ 185 v5.toNat)).tmod v3) (v5 + (-1)) μ))) : at_X2_lineAt_6 g φ v1 v3 v4 v5 μ := by
  obtain ⟨o1, h⟩ := h
  refine zw_iload (pc := 6) (i := 5) 4 (by decide +kernel) rfl ?_
  refine zw_if_lt (pc := 8) (off := 25) (tgt := 33) (by decide +kernel) (by decide) o1 (fun hc => ?_) (fun hc => ?_)
  · replace h := h.1 hc
    refine zw_iload (pc := 33) (i := 4) 3 (by decide +kernel) rfl ?_
    exact zw_iret (pc := 35) (by decide +kernel) rfl (Nat.le_refl _) (Nat.le_refl _) ⟨_, _, rfl, rfl, h⟩
  · replace h := h.2 hc
    obtain ⟨o2, o3, o4, o5, h⟩ := h
    refine zw_iload (pc := 11) (i := 4) 3 (by decide +kernel) rfl ?_
    refine zw_iload_n (pc := 13) (n := 1) (i := 1) 1 (by decide +kernel) rfl rfl ?_
    refine zw_imul (pc := 14) (by decide +kernel) ?_
    refine zw_aload_n (pc := 15) (n := 0) (i := 0) 0 (by decide +kernel) rfl rfl ?_
    refine zx_getR (pc := 16) (o := 3) (r := 185) zf_2_18 (by decide +kernel) rfl zc_182 rfl (by decide) rfl ?_
    refine zw_iload (pc := 19) (i := 5) 4 (by decide +kernel) rfl ?_
    refine zx_iaload (pc := 21) (by decide +kernel) ⟨9, zc_185, o2.1, o2.2⟩ ?_
    refine zw_iadd (pc := 22) (by decide +kernel) ?_
    refine zw_iload_n (pc := 23) (n := 3) (i := 3) 2 (by decide +kernel) rfl rfl ?_
    refine zw_irem (pc := 24) (by decide +kernel) o3 o4 o5 ?_
    refine zw_istore (pc := 25) (i := 4) (lv' := [(0, .ref 182), (1, .int (zJ v1)), (3, .int (zJ v3)), (4, .int (zJ (((v4 * v1) + (μ 185 v5.toNat)).tmod v3))), (5, .int (zJ v5))]) (by decide +kernel) (Nat.le_of_ble_eq_true rfl) rfl ?_
    refine zw_iinc (pc := 27) (i := 5) (n := (-1)) (lv' := [(0, .ref 182), (1, .int (zJ v1)), (3, .int (zJ v3)), (4, .int (zJ (((v4 * v1) + (μ 185 v5.toNat)).tmod v3))), (5, .int (zJ (v5 + (-1))))]) 4 (by decide +kernel) rfl rfl (Nat.le_of_ble_eq_true rfl) rfl ?_
    refine zw_goto (pc := 30) (off := (-24)) (tgt := 6) (by decide +kernel) (by decide) ?_
    exact h
abbrev at_X2_divideLine_6 (g : zG) (φ : zMu → Prop) (v1 : Int) (v3 : Int) (v4 : Int) (v5 : Int) (μ : zMu) : Prop := zWP g zm_X2_divideLine (zmo g zm_X2_divideLine (zΦv φ)) 6 [(0, .ref 182), (1, .int (zJ v1)), (3, .int (zJ v3)), (4, .int (zJ v4)), (5, .int (zJ v5))] [] 0 0 (zw μ)
theorem sg_X2_divideLine {g : zG} {φ : zMu → Prop} {v1 : Int} {v2 : Int} {v3 : Int} {μ : zMu}
    (h : at_X2_divideLine_6 g φ v1 v3 0 v2 μ) : zOv g zm_X2_divideLine [.ref 182, .int (zJ v1), .int (zJ v2), .int (zJ v3)] μ φ := by
  refine zok_of (by decide +kernel) rfl ?_
  show zWP g zm_X2_divideLine (zmo g zm_X2_divideLine (zΦv φ)) 0 [(0, .ref 182), (1, .int (zJ v1)), (2, .int (zJ v2)), (3, .int (zJ v3))] [] 0 0 (zw μ)
  refine zw_iconst (pc := 0) (n := 0) (by decide +kernel) ?_
  refine zw_istore (pc := 1) (i := 4) (lv' := [(0, .ref 182), (1, .int (zJ v1)), (2, .int (zJ v2)), (3, .int (zJ v3)), (4, .int (zJ 0))]) (by decide +kernel) (Nat.le_of_ble_eq_true rfl) rfl ?_
  refine zw_iload_n (pc := 3) (n := 2) (i := 2) 2 (by decide +kernel) rfl rfl ?_
  refine zw_istore (pc := 4) (i := 5) (lv' := [(0, .ref 182), (1, .int (zJ v1)), (2, .int (zJ v2)), (3, .int (zJ v3)), (4, .int (zJ 0)), (5, .int (zJ v2))]) (by decide +kernel) (Nat.le_of_ble_eq_true rfl) rfl ?_
  exact zw_pick (lv' := [(0, .ref 182), (1, .int (zJ v1)), (3, .int (zJ v3)), (4, .int (zJ 0)), (5, .int (zJ v2))]) [0, 1, 3, 4, 5] rfl h
theorem sg_X2_divideLine_6 {g : zG} {φ : zMu → Prop} {v1 : Int} {v3 : Int} {v4 : Int} {v5 : Int} {μ : zMu}
    (h : (zR v5) ∧ ((v5 ≤ 0 → φ (zup μ 185 0 v4)) ∧ (0 < v5 → (0 ≤ v5 ∧ v5 < 9) ∧ (zR ((μ 185 v5.toNat) + (v1 * v4))) ∧ (zR v3) ∧ (v3 ≠ 0) ∧ at_X2_divideLine_6 g φ v1 v3 (((μ 185 v5.toNat) + (v1 * v4)).tmod v3) (v5 + (-1)) (zup μ 185 v5.toNat v4)))) : at_X2_divideLine_6 g φ v1 v3 v4 v5 μ := by
  obtain ⟨o1, h⟩ := h
  refine zw_iload (pc := 6) (i := 5) 4 (by decide +kernel) rfl ?_
  refine zw_if_le (pc := 8) (off := 38) (tgt := 46) (by decide +kernel) (by decide) o1 (fun hc => ?_) (fun hc => ?_)
  · replace h := h.1 hc
    refine zw_aload_n (pc := 46) (n := 0) (i := 0) 0 (by decide +kernel) rfl rfl ?_
    refine zx_getR (pc := 47) (o := 3) (r := 185) zf_2_18 (by decide +kernel) rfl zc_182 rfl (by decide) rfl ?_
    refine zw_iconst (pc := 50) (n := 0) (by decide +kernel) ?_
    refine zw_iload (pc := 51) (i := 4) 3 (by decide +kernel) rfl ?_
    refine zx_iastore (pc := 53) (by decide +kernel) ⟨9, zc_185, by decide, by decide⟩ ?_
    exact zw_vret (pc := 54) (by decide +kernel) rfl (Nat.le_refl _) (Nat.le_refl _) ⟨_, rfl, rfl, h⟩
  · replace h := h.2 hc
    obtain ⟨o2, o3, o4, o5, h⟩ := h
    refine zw_aload_n (pc := 11) (n := 0) (i := 0) 0 (by decide +kernel) rfl rfl ?_
    refine zx_getR (pc := 12) (o := 3) (r := 185) zf_2_18 (by decide +kernel) rfl zc_182 rfl (by decide) rfl ?_
    refine zw_iload (pc := 15) (i := 5) 4 (by decide +kernel) rfl ?_
    refine zx_iaload (pc := 17) (by decide +kernel) ⟨9, zc_185, o2.1, o2.2⟩ ?_
    refine zw_iload_n (pc := 18) (n := 1) (i := 1) 1 (by decide +kernel) rfl rfl ?_
    refine zw_iload (pc := 19) (i := 4) 3 (by decide +kernel) rfl ?_
    refine zw_imul (pc := 21) (by decide +kernel) ?_
    refine zw_iadd (pc := 22) (by decide +kernel) ?_
    refine zw_iload_n (pc := 23) (n := 3) (i := 3) 2 (by decide +kernel) rfl rfl ?_
    refine zw_irem (pc := 24) (by decide +kernel) o3 o4 o5 ?_
    refine zw_istore (pc := 25) (i := 6) (lv' := [(0, .ref 182), (1, .int (zJ v1)), (3, .int (zJ v3)), (4, .int (zJ v4)), (5, .int (zJ v5)), (6, .int (zJ (((μ 185 v5.toNat) + (v1 * v4)).tmod v3)))]) (by decide +kernel) (Nat.le_of_ble_eq_true rfl) rfl ?_
    refine zw_aload_n (pc := 27) (n := 0) (i := 0) 0 (by decide +kernel) rfl rfl ?_
    refine zx_getR (pc := 28) (o := 3) (r := 185) zf_2_18 (by decide +kernel) rfl zc_182 rfl (by decide) rfl ?_
    refine zw_iload (pc := 31) (i := 5) 4 (by decide +kernel) rfl ?_
    refine zw_iload (pc := 33) (i := 4) 3 (by decide +kernel) rfl ?_
    refine zx_iastore (pc := 35) (by decide +kernel) ⟨9, zc_185, o2.1, o2.2⟩ ?_
    refine zw_iload (pc := 36) (i := 6) 5 (by decide +kernel) rfl ?_
    refine zw_istore (pc := 38) (i := 4) (lv' := [(0, .ref 182), (1, .int (zJ v1)), (3, .int (zJ v3)), (4, .int (zJ (((μ 185 v5.toNat) + (v1 * v4)).tmod v3))), (5, .int (zJ v5)), (6, .int (zJ (((μ 185 v5.toNat) + (v1 * v4)).tmod v3)))]) (by decide +kernel) (Nat.le_of_ble_eq_true rfl) rfl ?_
    refine zw_iinc (pc := 40) (i := 5) (n := (-1)) (lv' := [(0, .ref 182), (1, .int (zJ v1)), (3, .int (zJ v3)), (4, .int (zJ (((μ 185 v5.toNat) + (v1 * v4)).tmod v3))), (5, .int (zJ (v5 + (-1)))), (6, .int (zJ (((μ 185 v5.toNat) + (v1 * v4)).tmod v3)))]) 4 (by decide +kernel) rfl rfl (Nat.le_of_ble_eq_true rfl) rfl ?_
    refine zw_goto (pc := 43) (off := (-37)) (tgt := 6) (by decide +kernel) (by decide) ?_
    exact zw_pick (lv' := [(0, .ref 182), (1, .int (zJ v1)), (3, .int (zJ v3)), (4, .int (zJ (((μ 185 v5.toNat) + (v1 * v4)).tmod v3))), (5, .int (zJ (v5 + (-1))))]) [0, 1, 2, 3, 4] rfl h
theorem sg_X2_sizeOf {g : zG} {φ : Int → zMu → Prop} {v1 : Nat} {v2 : Int} {μ : zMu} (h_v1 : zS v1 0 5)
    (h : zOv g zm_X2_explore [.ref 182, .ref v1, .int (zJ v2)] μ (fun μ1 => (0 ≤ v2 ∧ v2 < 199) ∧ (zR (μ1 183 v2.toNat)) ∧ φ (max (μ1 183 v2.toNat) 0) μ1)) : zOi g zm_X2_sizeOf [.ref 182, .ref v1, .int (zJ v2)] μ φ := by
  refine zok_of (by decide +kernel) rfl ?_
  show zWP g zm_X2_sizeOf (zmo g zm_X2_sizeOf (zΦi φ)) 0 [(0, .ref 182), (1, .ref v1), (2, .int (zJ v2))] [] 0 0 (zw μ)
  refine zw_aload_n (pc := 0) (n := 0) (i := 0) 0 (by decide +kernel) rfl rfl ?_
  refine zw_aload_n (pc := 1) (n := 1) (i := 1) 1 (by decide +kernel) rfl rfl ?_
  refine zw_iload_n (pc := 2) (n := 2) (i := 2) 2 (by decide +kernel) rfl rfl ?_
  refine zx_callV (pc := 3) (As := [.ref v1, .int (zJ v2)]) h zi_X2_explore zii_X2_explore zie_X2_explore zl_2_33 (by decide +kernel) ⟨Nat.le_of_ble_eq_true rfl, Nat.le_of_ble_eq_true rfl⟩ rfl zc_182 (by decide) rfl rfl ⟨rfl, rfl⟩ ⟨Nat.zero_le _, Nat.zero_le _⟩ (zkv (fun μ1 h => ?_))
  obtain ⟨o2, o3, h⟩ := h
  refine zw_aload_n (pc := 6) (n := 0) (i := 0) 0 (by decide +kernel) rfl rfl ?_
  refine zx_getR (pc := 7) (o := 1) (r := 183) zf_2_9 (by decide +kernel) rfl zc_182 rfl (by decide) rfl ?_
  refine zw_iload_n (pc := 10) (n := 2) (i := 2) 2 (by decide +kernel) rfl rfl ?_
  refine zx_iaload (pc := 11) (by decide +kernel) ⟨199, zc_183, o2.1, o2.2⟩ ?_
  refine zw_iconst (pc := 12) (n := 0) (by decide +kernel) ?_
  refine zw_max (pc := 13) zl_2_37 zb_maxS zb_mathI zb_maxC (by decide +kernel) ⟨Nat.le_of_ble_eq_true rfl, Nat.le_of_ble_eq_true rfl⟩ (Nat.zero_le _) (Nat.zero_le _) rfl o3 ⟨by decide, by decide⟩ ?_
  exact zw_iret (pc := 16) (by decide +kernel) rfl (Nat.le_refl _) (Nat.le_refl _) ⟨_, _, rfl, rfl, h⟩
