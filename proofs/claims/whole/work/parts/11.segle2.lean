theorem sg_X10_at {g : zG} {φ : Int → zMu → Prop} {v1 : Int} {v2 : Int} {μ : zMu}
    (h : zOi g zm_X10_isValue [.ref 0, .int (zJ v1)] μ (fun x2 μ1 => (zR x2) ∧ ((x2 = 0 → φ (-2) μ1) ∧ (¬ x2 = 0 → zOi g zm_X10_isValue [.ref 0, .int (zJ v2)] μ1 (fun x5 μ4 => (zR x5) ∧ ((¬ x5 = 0 → zOi g zm_X3_isMissing [.ref 3] μ4 (fun x8 μ7 => (zR x8) ∧ ((x8 = 0 → zOi g zm_X3_valueOf [.ref 3, .int (zJ v1), .int (zJ v2), .int (zJ (μ7 1 0))] μ7 (fun x11 μ10 => φ x11 μ10)) ∧ (¬ x8 = 0 → φ (-11) μ7)))) ∧ (x5 = 0 → φ (-2) μ4))))))) : zOi g zm_X10_at [.ref 0, .int (zJ v1), .int (zJ v2)] μ φ := by
  refine zok_of (by decide +kernel) rfl ?_
  show zWP g zm_X10_at (zmo g zm_X10_at (zΦi φ)) 0 [(0, .ref 0), (1, .int (zJ v1)), (2, .int (zJ v2))] [] 0 0 (zw μ)
  refine zw_aload_n (pc := 0) (n := 0) (i := 0) 0 (by decide +kernel) rfl rfl ?_
  refine zw_iload_n (pc := 1) (n := 1) (i := 1) 1 (by decide +kernel) rfl rfl ?_
  refine zx_callV (pc := 2) (As := [.int (zJ v1)]) h zi_X10_isValue zii_X10_isValue zie_X10_isValue zl_10_202 (by decide +kernel) ⟨Nat.le_of_ble_eq_true rfl, Nat.le_of_ble_eq_true rfl⟩ rfl zc_0 (by decide) rfl rfl ⟨rfl, rfl⟩ ⟨Nat.zero_le _, Nat.zero_le _⟩ (zki (fun x2 μ1 h => ?_))
  obtain ⟨o3, h⟩ := h
  refine zw_if_eq (pc := 5) (off := 11) (tgt := 16) (by decide +kernel) (by decide) o3 (fun hc => ?_) (fun hc => ?_)
  · replace h := h.1 hc
    refine zw_bipush (pc := 16) (n := (-2)) (by decide +kernel) (by decide +kernel) ?_
    exact zw_iret (pc := 18) (by decide +kernel) rfl (Nat.le_refl _) (Nat.le_refl _) ⟨_, _, rfl, rfl, h⟩
  · replace h := h.2 hc
    refine zw_aload_n (pc := 8) (n := 0) (i := 0) 0 (by decide +kernel) rfl rfl ?_
    refine zw_iload_n (pc := 9) (n := 2) (i := 2) 2 (by decide +kernel) rfl rfl ?_
    refine zx_callV (pc := 10) (As := [.int (zJ v2)]) h zi_X10_isValue zii_X10_isValue zie_X10_isValue zl_10_202 (by decide +kernel) ⟨Nat.le_of_ble_eq_true rfl, Nat.le_of_ble_eq_true rfl⟩ rfl zc_0 (by decide) rfl rfl ⟨rfl, rfl⟩ ⟨Nat.zero_le _, Nat.zero_le _⟩ (zki (fun x5 μ4 h => ?_))
    obtain ⟨o6, h⟩ := h
    refine zw_if_ne (pc := 13) (off := 6) (tgt := 19) (by decide +kernel) (by decide) o6 (fun hc => ?_) (fun hc => ?_)
    · replace h := h.1 hc
      refine zw_aload_n (pc := 19) (n := 0) (i := 0) 0 (by decide +kernel) rfl rfl ?_
      refine zx_getR (pc := 20) (o := 1) (r := 1) zf_10_14 (by decide +kernel) rfl zc_0 rfl (by decide) rfl ?_
      refine zx_getR (pc := 23) (o := 2) (r := 3) zf_10_174 (by decide +kernel) rfl zc_1 rfl (by decide) rfl ?_
      refine zx_callV (pc := 26) (As := []) h zi_X3_isMissing zii_X3_isMissing zie_X3_isMissing zl_10_182 (by decide +kernel) ⟨Nat.le_of_ble_eq_true rfl, Nat.le_of_ble_eq_true rfl⟩ rfl zc_3 (by decide) rfl rfl ⟨rfl, rfl⟩ ⟨Nat.zero_le _, Nat.zero_le _⟩ (zki (fun x8 μ7 h => ?_))
      obtain ⟨o9, h⟩ := h
      refine zw_if_eq (pc := 29) (off := 6) (tgt := 35) (by decide +kernel) (by decide) o9 (fun hc => ?_) (fun hc => ?_)
      · replace h := h.1 hc
        refine zw_aload_n (pc := 35) (n := 0) (i := 0) 0 (by decide +kernel) rfl rfl ?_
        refine zx_getR (pc := 36) (o := 1) (r := 1) zf_10_14 (by decide +kernel) rfl zc_0 rfl (by decide) rfl ?_
        refine zx_getR (pc := 39) (o := 2) (r := 3) zf_10_174 (by decide +kernel) rfl zc_1 rfl (by decide) rfl ?_
        refine zw_iload_n (pc := 42) (n := 1) (i := 1) 1 (by decide +kernel) rfl rfl ?_
        refine zw_iload_n (pc := 43) (n := 2) (i := 2) 2 (by decide +kernel) rfl rfl ?_
        refine zw_aload_n (pc := 44) (n := 0) (i := 0) 0 (by decide +kernel) rfl rfl ?_
        refine zx_getR (pc := 45) (o := 1) (r := 1) zf_10_14 (by decide +kernel) rfl zc_0 rfl (by decide) rfl ?_
        refine zx_getI (pc := 48) zf_10_89 (by decide +kernel) rfl zc_1 ?_
        refine zx_callV (pc := 51) (As := [.int (zJ v1), .int (zJ v2), .int (zJ (μ7 1 0))]) h zi_X3_valueOf zii_X3_valueOf zie_X3_valueOf zl_10_205 (by decide +kernel) ⟨Nat.le_of_ble_eq_true rfl, Nat.le_of_ble_eq_true rfl⟩ rfl zc_3 (by decide) rfl rfl ⟨rfl, rfl⟩ ⟨Nat.zero_le _, Nat.zero_le _⟩ (zki (fun x11 μ10 h => ?_))
        exact zw_iret (pc := 54) (by decide +kernel) rfl (Nat.le_refl _) (Nat.le_refl _) ⟨_, _, rfl, rfl, h⟩
      · replace h := h.2 hc
        refine zw_bipush (pc := 32) (n := (-11)) (by decide +kernel) (by decide +kernel) ?_
        exact zw_iret (pc := 34) (by decide +kernel) rfl (Nat.le_refl _) (Nat.le_refl _) ⟨_, _, rfl, rfl, h⟩
    · replace h := h.2 hc
      refine zw_bipush (pc := 16) (n := (-2)) (by decide +kernel) (by decide +kernel) ?_
      exact zw_iret (pc := 18) (by decide +kernel) rfl (Nat.le_refl _) (Nat.le_refl _) ⟨_, _, rfl, rfl, h⟩
theorem sg_X10_isValue {g : zG} {φ : Int → zMu → Prop} {v1 : Int} {μ : zMu}
    (h : (zR v1) ∧ ((v1 < 0 → φ 0 μ) ∧ (0 ≤ v1 → (zR (μ 1 0)) ∧ (((μ 1 0) ≤ v1 → φ 0 μ) ∧ (v1 < (μ 1 0) → φ 1 μ))))) : zOi g zm_X10_isValue [.ref 0, .int (zJ v1)] μ φ := by
  refine zok_of (by decide +kernel) rfl ?_
  show zWP g zm_X10_isValue (zmo g zm_X10_isValue (zΦi φ)) 0 [(0, .ref 0), (1, .int (zJ v1))] [] 0 0 (zw μ)
  obtain ⟨o1, h⟩ := h
  refine zw_iload_n (pc := 0) (n := 1) (i := 1) 1 (by decide +kernel) rfl rfl ?_
  refine zw_if_lt (pc := 1) (off := 18) (tgt := 19) (by decide +kernel) (by decide) o1 (fun hc => ?_) (fun hc => ?_)
  · replace h := h.1 hc
    refine zw_iconst (pc := 19) (n := 0) (by decide +kernel) ?_
    exact zw_zret (pc := 20) (by decide +kernel) rfl (Nat.le_refl _) (Nat.le_refl _) (Or.inl rfl) ⟨_, _, rfl, rfl, h⟩
  · replace h := h.2 hc
    obtain ⟨o2, h⟩ := h
    refine zw_iload_n (pc := 4) (n := 1) (i := 1) 1 (by decide +kernel) rfl rfl ?_
    refine zw_aload_n (pc := 5) (n := 0) (i := 0) 0 (by decide +kernel) rfl rfl ?_
    refine zx_getR (pc := 6) (o := 1) (r := 1) zf_10_14 (by decide +kernel) rfl zc_0 rfl (by decide) rfl ?_
    refine zx_getI (pc := 9) zf_10_89 (by decide +kernel) rfl zc_1 ?_
    refine zw_icmp_ge (pc := 12) (off := 7) (tgt := 19) (by decide +kernel) (by decide) o1 o2 (fun hc => ?_) (fun hc => ?_)
    · replace h := h.1 hc
      refine zw_iconst (pc := 19) (n := 0) (by decide +kernel) ?_
      exact zw_zret (pc := 20) (by decide +kernel) rfl (Nat.le_refl _) (Nat.le_refl _) (Or.inl rfl) ⟨_, _, rfl, rfl, h⟩
    · replace h := h.2 hc
      refine zw_iconst (pc := 15) (n := 1) (by decide +kernel) ?_
      refine zw_goto (pc := 16) (off := 4) (tgt := 20) (by decide +kernel) (by decide) ?_
      exact zw_zret (pc := 20) (by decide +kernel) rfl (Nat.le_refl _) (Nat.le_refl _) (Or.inr rfl) ⟨_, _, rfl, rfl, h⟩
theorem sg_X10_vanishes {g : zG} {φ : Int → zMu → Prop} {v1 : Int} {v2 : Int} {μ : zMu}
    (h : zOi g zm_X10_isSeries [.int (zJ v1)] μ (fun x2 μ1 => (zR x2) ∧ ((x2 = 0 → φ (-1) μ1) ∧ (¬ x2 = 0 → zOi g zm_X10_isSeries [.int (zJ v2)] μ1 (fun x5 μ4 => (zR x5) ∧ ((¬ x5 = 0 → zOi g zm_X3_isMissing [.ref 3] μ4 (fun x8 μ7 => (zR x8) ∧ ((¬ x8 = 0 → φ (-11) μ7) ∧ (x8 = 0 → (0 ≤ v1 ∧ v1 < 6) ∧ zOi g zm_X6_isMissing [.ref (7 + 2 * v1.toNat)] μ7 (fun x13 μ12 => (zR x13) ∧ ((¬ x13 = 0 → φ (-11) μ12) ∧ (x13 = 0 → (0 ≤ v2 ∧ v2 < 6) ∧ zOi g zm_X6_isMissing [.ref (7 + 2 * v2.toNat)] μ12 (fun x18 μ17 => (zR x18) ∧ ((x18 = 0 → zOv g zm_X9_prepare [.ref 74, .ref (7 + 2 * v1.toNat), .ref (7 + 2 * v2.toNat), .int (zJ (μ17 3 1)), .int (zJ (μ17 1 0))] μ17 (fun μ22 => zOi g zm_X9_isZeroFor [.ref 74, .ref 3] μ22 (fun x24 μ23 => (zR x24) ∧ ((x24 = 0 → φ 0 μ23) ∧ (¬ x24 = 0 → φ 1 μ23))))) ∧ (¬ x18 = 0 → φ (-11) μ17)))))))))) ∧ (x5 = 0 → φ (-1) μ4))))))) : zOi g zm_X10_vanishes [.ref 0, .int (zJ v1), .int (zJ v2)] μ φ := by
  refine zok_of (by decide +kernel) rfl ?_
  show zWP g zm_X10_vanishes (zmo g zm_X10_vanishes (zΦi φ)) 0 [(0, .ref 0), (1, .int (zJ v1)), (2, .int (zJ v2))] [] 0 0 (zw μ)
  refine zw_iload_n (pc := 0) (n := 1) (i := 1) 1 (by decide +kernel) rfl rfl ?_
  refine zx_callS (pc := 1) (As := [.int (zJ v1)]) h zi_X10_isSeries zis_X10_isSeries zl_10_100 (by decide +kernel) ⟨Nat.le_of_ble_eq_true rfl, Nat.le_of_ble_eq_true rfl⟩ rfl rfl ⟨rfl, rfl⟩ ⟨Nat.zero_le _, Nat.zero_le _⟩ (zki (fun x2 μ1 h => ?_))
  obtain ⟨o3, h⟩ := h
  refine zw_if_eq (pc := 4) (off := 10) (tgt := 14) (by decide +kernel) (by decide) o3 (fun hc => ?_) (fun hc => ?_)
  · replace h := h.1 hc
    refine zw_iconst (pc := 14) (n := (-1)) (by decide +kernel) ?_
    exact zw_iret (pc := 15) (by decide +kernel) rfl (Nat.le_refl _) (Nat.le_refl _) ⟨_, _, rfl, rfl, h⟩
  · replace h := h.2 hc
    refine zw_iload_n (pc := 7) (n := 2) (i := 2) 2 (by decide +kernel) rfl rfl ?_
    refine zx_callS (pc := 8) (As := [.int (zJ v2)]) h zi_X10_isSeries zis_X10_isSeries zl_10_100 (by decide +kernel) ⟨Nat.le_of_ble_eq_true rfl, Nat.le_of_ble_eq_true rfl⟩ rfl rfl ⟨rfl, rfl⟩ ⟨Nat.zero_le _, Nat.zero_le _⟩ (zki (fun x5 μ4 h => ?_))
    obtain ⟨o6, h⟩ := h
    refine zw_if_ne (pc := 11) (off := 5) (tgt := 16) (by decide +kernel) (by decide) o6 (fun hc => ?_) (fun hc => ?_)
    · replace h := h.1 hc
      refine zw_aload_n (pc := 16) (n := 0) (i := 0) 0 (by decide +kernel) rfl rfl ?_
      refine zx_getR (pc := 17) (o := 1) (r := 1) zf_10_14 (by decide +kernel) rfl zc_0 rfl (by decide) rfl ?_
      refine zx_getR (pc := 20) (o := 2) (r := 3) zf_10_174 (by decide +kernel) rfl zc_1 rfl (by decide) rfl ?_
      refine zx_callV (pc := 23) (As := []) h zi_X3_isMissing zii_X3_isMissing zie_X3_isMissing zl_10_182 (by decide +kernel) ⟨Nat.le_of_ble_eq_true rfl, Nat.le_of_ble_eq_true rfl⟩ rfl zc_3 (by decide) rfl rfl ⟨rfl, rfl⟩ ⟨Nat.zero_le _, Nat.zero_le _⟩ (zki (fun x8 μ7 h => ?_))
      obtain ⟨o9, h⟩ := h
      refine zw_if_ne (pc := 26) (off := 33) (tgt := 59) (by decide +kernel) (by decide) o9 (fun hc => ?_) (fun hc => ?_)
      · replace h := h.1 hc
        refine zw_bipush (pc := 59) (n := (-11)) (by decide +kernel) (by decide +kernel) ?_
        exact zw_iret (pc := 61) (by decide +kernel) rfl (Nat.le_refl _) (Nat.le_refl _) ⟨_, _, rfl, rfl, h⟩
      · replace h := h.2 hc
        obtain ⟨o10, h⟩ := h
        refine zw_aload_n (pc := 29) (n := 0) (i := 0) 0 (by decide +kernel) rfl rfl ?_
        refine zx_getR (pc := 30) (o := 1) (r := 1) zf_10_14 (by decide +kernel) rfl zc_0 rfl (by decide) rfl ?_
        refine zx_getR (pc := 33) (o := 1) (r := 2) zf_10_103 (by decide +kernel) rfl zc_1 rfl (by decide) rfl ?_
        refine zw_iload_n (pc := 36) (n := 1) (i := 1) 1 (by decide +kernel) rfl rfl ?_
        have q11 : zS (7 + 2 * v1.toNat) 6 3 := zS_cast (zqe_14 (j := v1.toNat) zc_2 (by omega)) (by show 2 + 5 + 2 * v1.toNat = (7 + 2 * v1.toNat); omega)
        refine zx_aaload (pc := 37) (k := 14) (r := (7 + 2 * v1.toNat)) (by decide +kernel) (by decide) ⟨6, zc_2, o10.1, o10.2⟩ (by show 2 + 5 + 2 * v1.toNat = (7 + 2 * v1.toNat); omega) ?_
        refine zx_callV (pc := 38) (As := []) h zi_X6_isMissing zii_X6_isMissing zie_X6_isMissing zl_10_121 (by decide +kernel) ⟨Nat.le_of_ble_eq_true rfl, Nat.le_of_ble_eq_true rfl⟩ rfl q11 (by decide) rfl rfl ⟨rfl, rfl⟩ ⟨Nat.zero_le _, Nat.zero_le _⟩ (zki (fun x13 μ12 h => ?_))
        obtain ⟨o14, h⟩ := h
        refine zw_if_ne (pc := 41) (off := 18) (tgt := 59) (by decide +kernel) (by decide) o14 (fun hc => ?_) (fun hc => ?_)
        · replace h := h.1 hc
          refine zw_bipush (pc := 59) (n := (-11)) (by decide +kernel) (by decide +kernel) ?_
          exact zw_iret (pc := 61) (by decide +kernel) rfl (Nat.le_refl _) (Nat.le_refl _) ⟨_, _, rfl, rfl, h⟩
        · replace h := h.2 hc
          obtain ⟨o15, h⟩ := h
          refine zw_aload_n (pc := 44) (n := 0) (i := 0) 0 (by decide +kernel) rfl rfl ?_
          refine zx_getR (pc := 45) (o := 1) (r := 1) zf_10_14 (by decide +kernel) rfl zc_0 rfl (by decide) rfl ?_
          refine zx_getR (pc := 48) (o := 1) (r := 2) zf_10_103 (by decide +kernel) rfl zc_1 rfl (by decide) rfl ?_
          refine zw_iload_n (pc := 51) (n := 2) (i := 2) 2 (by decide +kernel) rfl rfl ?_
          have q16 : zS (7 + 2 * v2.toNat) 6 3 := zS_cast (zqe_14 (j := v2.toNat) zc_2 (by omega)) (by show 2 + 5 + 2 * v2.toNat = (7 + 2 * v2.toNat); omega)
          refine zx_aaload (pc := 52) (k := 14) (r := (7 + 2 * v2.toNat)) (by decide +kernel) (by decide) ⟨6, zc_2, o15.1, o15.2⟩ (by show 2 + 5 + 2 * v2.toNat = (7 + 2 * v2.toNat); omega) ?_
          refine zx_callV (pc := 53) (As := []) h zi_X6_isMissing zii_X6_isMissing zie_X6_isMissing zl_10_121 (by decide +kernel) ⟨Nat.le_of_ble_eq_true rfl, Nat.le_of_ble_eq_true rfl⟩ rfl q16 (by decide) rfl rfl ⟨rfl, rfl⟩ ⟨Nat.zero_le _, Nat.zero_le _⟩ (zki (fun x18 μ17 h => ?_))
          obtain ⟨o19, h⟩ := h
          refine zw_if_eq (pc := 56) (off := 6) (tgt := 62) (by decide +kernel) (by decide) o19 (fun hc => ?_) (fun hc => ?_)
          · replace h := h.1 hc
            refine zw_aload_n (pc := 62) (n := 0) (i := 0) 0 (by decide +kernel) rfl rfl ?_
            refine zx_getR (pc := 63) (o := 74) (r := 74) zf_10_31 (by decide +kernel) rfl zc_0 rfl (by decide) rfl ?_
            refine zw_aload_n (pc := 66) (n := 0) (i := 0) 0 (by decide +kernel) rfl rfl ?_
            refine zx_getR (pc := 67) (o := 1) (r := 1) zf_10_14 (by decide +kernel) rfl zc_0 rfl (by decide) rfl ?_
            refine zx_getR (pc := 70) (o := 1) (r := 2) zf_10_103 (by decide +kernel) rfl zc_1 rfl (by decide) rfl ?_
            refine zw_iload_n (pc := 73) (n := 1) (i := 1) 1 (by decide +kernel) rfl rfl ?_
            have q20 : zS (7 + 2 * v1.toNat) 6 3 := zS_cast (zqe_14 (j := v1.toNat) zc_2 (by omega)) (by show 2 + 5 + 2 * v1.toNat = (7 + 2 * v1.toNat); omega)
            refine zx_aaload (pc := 74) (k := 14) (r := (7 + 2 * v1.toNat)) (by decide +kernel) (by decide) ⟨6, zc_2, o10.1, o10.2⟩ (by show 2 + 5 + 2 * v1.toNat = (7 + 2 * v1.toNat); omega) ?_
            refine zw_aload_n (pc := 75) (n := 0) (i := 0) 0 (by decide +kernel) rfl rfl ?_
            refine zx_getR (pc := 76) (o := 1) (r := 1) zf_10_14 (by decide +kernel) rfl zc_0 rfl (by decide) rfl ?_
            refine zx_getR (pc := 79) (o := 1) (r := 2) zf_10_103 (by decide +kernel) rfl zc_1 rfl (by decide) rfl ?_
            refine zw_iload_n (pc := 82) (n := 2) (i := 2) 2 (by decide +kernel) rfl rfl ?_
            have q21 : zS (7 + 2 * v2.toNat) 6 3 := zS_cast (zqe_14 (j := v2.toNat) zc_2 (by omega)) (by show 2 + 5 + 2 * v2.toNat = (7 + 2 * v2.toNat); omega)
            refine zx_aaload (pc := 83) (k := 14) (r := (7 + 2 * v2.toNat)) (by decide +kernel) (by decide) ⟨6, zc_2, o15.1, o15.2⟩ (by show 2 + 5 + 2 * v2.toNat = (7 + 2 * v2.toNat); omega) ?_
            refine zw_aload_n (pc := 84) (n := 0) (i := 0) 0 (by decide +kernel) rfl rfl ?_
            refine zx_getR (pc := 85) (o := 1) (r := 1) zf_10_14 (by decide +kernel) rfl zc_0 rfl (by decide) rfl ?_
            refine zx_getR (pc := 88) (o := 2) (r := 3) zf_10_174 (by decide +kernel) rfl zc_1 rfl (by decide) rfl ?_
            refine zx_getI (pc := 91) zf_10_185 (by decide +kernel) rfl zc_3 ?_
            refine zw_aload_n (pc := 94) (n := 0) (i := 0) 0 (by decide +kernel) rfl rfl ?_
            refine zx_getR (pc := 95) (o := 1) (r := 1) zf_10_14 (by decide +kernel) rfl zc_0 rfl (by decide) rfl ?_
            refine zx_getI (pc := 98) zf_10_89 (by decide +kernel) rfl zc_1 ?_
            refine zx_callV (pc := 101) (As := [.ref (7 + 2 * v1.toNat), .ref (7 + 2 * v2.toNat), .int (zJ (μ17 3 1)), .int (zJ (μ17 1 0))]) h zi_X9_prepare zii_X9_prepare zie_X9_prepare zl_10_166 (by decide +kernel) ⟨Nat.le_of_ble_eq_true rfl, Nat.le_of_ble_eq_true rfl⟩ rfl zc_74 (by decide) rfl rfl ⟨rfl, rfl⟩ ⟨Nat.zero_le _, Nat.zero_le _⟩ (zkv (fun μ22 h => ?_))
            refine zw_aload_n (pc := 104) (n := 0) (i := 0) 0 (by decide +kernel) rfl rfl ?_
            refine zx_getR (pc := 105) (o := 74) (r := 74) zf_10_31 (by decide +kernel) rfl zc_0 rfl (by decide) rfl ?_
            refine zw_aload_n (pc := 108) (n := 0) (i := 0) 0 (by decide +kernel) rfl rfl ?_
            refine zx_getR (pc := 109) (o := 1) (r := 1) zf_10_14 (by decide +kernel) rfl zc_0 rfl (by decide) rfl ?_
            refine zx_getR (pc := 112) (o := 2) (r := 3) zf_10_174 (by decide +kernel) rfl zc_1 rfl (by decide) rfl ?_
            refine zx_callV (pc := 115) (As := [.ref 3]) h zi_X9_isZeroFor zii_X9_isZeroFor zie_X9_isZeroFor zl_10_208 (by decide +kernel) ⟨Nat.le_of_ble_eq_true rfl, Nat.le_of_ble_eq_true rfl⟩ rfl zc_74 (by decide) rfl rfl ⟨rfl, rfl⟩ ⟨Nat.zero_le _, Nat.zero_le _⟩ (zki (fun x24 μ23 h => ?_))
            obtain ⟨o25, h⟩ := h
            refine zw_if_eq (pc := 118) (off := 7) (tgt := 125) (by decide +kernel) (by decide) o25 (fun hc => ?_) (fun hc => ?_)
            · replace h := h.1 hc
              refine zw_iconst (pc := 125) (n := 0) (by decide +kernel) ?_
              exact zw_iret (pc := 126) (by decide +kernel) rfl (Nat.le_refl _) (Nat.le_refl _) ⟨_, _, rfl, rfl, h⟩
            · replace h := h.2 hc
              refine zw_iconst (pc := 121) (n := 1) (by decide +kernel) ?_
              refine zw_goto (pc := 122) (off := 4) (tgt := 126) (by decide +kernel) (by decide) ?_
              exact zw_iret (pc := 126) (by decide +kernel) rfl (Nat.le_refl _) (Nat.le_refl _) ⟨_, _, rfl, rfl, h⟩
          · replace h := h.2 hc
            refine zw_bipush (pc := 59) (n := (-11)) (by decide +kernel) (by decide +kernel) ?_
            exact zw_iret (pc := 61) (by decide +kernel) rfl (Nat.le_refl _) (Nat.le_refl _) ⟨_, _, rfl, rfl, h⟩
    · replace h := h.2 hc
      refine zw_iconst (pc := 14) (n := (-1)) (by decide +kernel) ?_
      exact zw_iret (pc := 15) (by decide +kernel) rfl (Nat.le_refl _) (Nat.le_refl _) ⟨_, _, rfl, rfl, h⟩
theorem sg_X10_neighbour {g : zG} {φ : Int → zMu → Prop} {v1 : Int} {v2 : Int} {μ : zMu}
    (h : zOi g zm_X10_isValue [.ref 0, .int (zJ v1)] μ (fun x2 μ1 => (zR x2) ∧ ((x2 = 0 → φ (-2) μ1) ∧ (¬ x2 = 0 → (zR v2) ∧ (((-1) ≤ v2 → zOi g zm_X3_isMissing [.ref 3] μ1 (fun x6 μ5 => (zR x6) ∧ ((x6 = 0 → zOi g zm_X2_isDegenerate [.ref 182, .ref 1, .int (zJ v1)] μ5 (fun x9 μ8 => (zR x9) ∧ ((x9 = 0 → zOi g zm_X2_sizeOf [.ref 182, .ref 1, .int (zJ v1)] μ8 (fun x12 μ11 => ((¬ v2 = (-1) → (zR x12) ∧ ((x12 ≤ v2 → φ (-5) μ11) ∧ (v2 < x12 → zOi g zm_X2_neighbourOf [.ref 182, .int (zJ v1), .int (zJ v2)] μ11 (fun x15 μ14 => φ x15 μ14)))) ∧ (v2 = (-1) → φ x12 μ11)))) ∧ (¬ x9 = 0 → φ (-3) μ8)))) ∧ (¬ x6 = 0 → φ (-11) μ5)))) ∧ (v2 < (-1) → φ (-2) μ1)))))) : zOi g zm_X10_neighbour [.ref 0, .int (zJ v1), .int (zJ v2)] μ φ := by
  refine zok_of (by decide +kernel) rfl ?_
  show zWP g zm_X10_neighbour (zmo g zm_X10_neighbour (zΦi φ)) 0 [(0, .ref 0), (1, .int (zJ v1)), (2, .int (zJ v2))] [] 0 0 (zw μ)
  refine zw_aload_n (pc := 0) (n := 0) (i := 0) 0 (by decide +kernel) rfl rfl ?_
  refine zw_iload_n (pc := 1) (n := 1) (i := 1) 1 (by decide +kernel) rfl rfl ?_
  refine zx_callV (pc := 2) (As := [.int (zJ v1)]) h zi_X10_isValue zii_X10_isValue zie_X10_isValue zl_10_202 (by decide +kernel) ⟨Nat.le_of_ble_eq_true rfl, Nat.le_of_ble_eq_true rfl⟩ rfl zc_0 (by decide) rfl rfl ⟨rfl, rfl⟩ ⟨Nat.zero_le _, Nat.zero_le _⟩ (zki (fun x2 μ1 h => ?_))
  obtain ⟨o3, h⟩ := h
  refine zw_if_eq (pc := 5) (off := 8) (tgt := 13) (by decide +kernel) (by decide) o3 (fun hc => ?_) (fun hc => ?_)
  · replace h := h.1 hc
    refine zw_bipush (pc := 13) (n := (-2)) (by decide +kernel) (by decide +kernel) ?_
    exact zw_iret (pc := 15) (by decide +kernel) rfl (Nat.le_refl _) (Nat.le_refl _) ⟨_, _, rfl, rfl, h⟩
  · replace h := h.2 hc
    obtain ⟨o4, h⟩ := h
    refine zw_iload_n (pc := 8) (n := 2) (i := 2) 2 (by decide +kernel) rfl rfl ?_
    refine zw_iconst (pc := 9) (n := (-1)) (by decide +kernel) ?_
    refine zw_icmp_ge (pc := 10) (off := 6) (tgt := 16) (by decide +kernel) (by decide) o4 ⟨by decide, by decide⟩ (fun hc => ?_) (fun hc => ?_)
    · replace h := h.1 hc
      refine zw_aload_n (pc := 16) (n := 0) (i := 0) 0 (by decide +kernel) rfl rfl ?_
      refine zx_getR (pc := 17) (o := 1) (r := 1) zf_10_14 (by decide +kernel) rfl zc_0 rfl (by decide) rfl ?_
      refine zx_getR (pc := 20) (o := 2) (r := 3) zf_10_174 (by decide +kernel) rfl zc_1 rfl (by decide) rfl ?_
      refine zx_callV (pc := 23) (As := []) h zi_X3_isMissing zii_X3_isMissing zie_X3_isMissing zl_10_182 (by decide +kernel) ⟨Nat.le_of_ble_eq_true rfl, Nat.le_of_ble_eq_true rfl⟩ rfl zc_3 (by decide) rfl rfl ⟨rfl, rfl⟩ ⟨Nat.zero_le _, Nat.zero_le _⟩ (zki (fun x6 μ5 h => ?_))
      obtain ⟨o7, h⟩ := h
      refine zw_if_eq (pc := 26) (off := 6) (tgt := 32) (by decide +kernel) (by decide) o7 (fun hc => ?_) (fun hc => ?_)
      · replace h := h.1 hc
        refine zw_aload_n (pc := 32) (n := 0) (i := 0) 0 (by decide +kernel) rfl rfl ?_
        refine zx_getR (pc := 33) (o := 182) (r := 182) zf_10_45 (by decide +kernel) rfl zc_0 rfl (by decide) rfl ?_
        refine zw_aload_n (pc := 36) (n := 0) (i := 0) 0 (by decide +kernel) rfl rfl ?_
        refine zx_getR (pc := 37) (o := 1) (r := 1) zf_10_14 (by decide +kernel) rfl zc_0 rfl (by decide) rfl ?_
        refine zw_iload_n (pc := 40) (n := 1) (i := 1) 1 (by decide +kernel) rfl rfl ?_
        refine zx_callV (pc := 41) (As := [.ref 1, .int (zJ v1)]) h zi_X2_isDegenerate zii_X2_isDegenerate zie_X2_isDegenerate zl_10_212 (by decide +kernel) ⟨Nat.le_of_ble_eq_true rfl, Nat.le_of_ble_eq_true rfl⟩ rfl zc_182 (by decide) rfl rfl ⟨rfl, rfl⟩ ⟨Nat.zero_le _, Nat.zero_le _⟩ (zki (fun x9 μ8 h => ?_))
        obtain ⟨o10, h⟩ := h
        refine zw_if_eq (pc := 44) (off := 6) (tgt := 50) (by decide +kernel) (by decide) o10 (fun hc => ?_) (fun hc => ?_)
        · replace h := h.1 hc
          refine zw_aload_n (pc := 50) (n := 0) (i := 0) 0 (by decide +kernel) rfl rfl ?_
          refine zx_getR (pc := 51) (o := 182) (r := 182) zf_10_45 (by decide +kernel) rfl zc_0 rfl (by decide) rfl ?_
          refine zw_aload_n (pc := 54) (n := 0) (i := 0) 0 (by decide +kernel) rfl rfl ?_
          refine zx_getR (pc := 55) (o := 1) (r := 1) zf_10_14 (by decide +kernel) rfl zc_0 rfl (by decide) rfl ?_
          refine zw_iload_n (pc := 58) (n := 1) (i := 1) 1 (by decide +kernel) rfl rfl ?_
          refine zx_callV (pc := 59) (As := [.ref 1, .int (zJ v1)]) h zi_X2_sizeOf zii_X2_sizeOf zie_X2_sizeOf zl_10_216 (by decide +kernel) ⟨Nat.le_of_ble_eq_true rfl, Nat.le_of_ble_eq_true rfl⟩ rfl zc_182 (by decide) rfl rfl ⟨rfl, rfl⟩ ⟨Nat.zero_le _, Nat.zero_le _⟩ (zki (fun x12 μ11 h => ?_))
          refine zw_istore_n (pc := 62) (n := 3) (i := 3) (lv' := [(0, .ref 0), (1, .int (zJ v1)), (2, .int (zJ v2)), (3, .int (zJ x12))]) (by decide +kernel) rfl (Nat.le_of_ble_eq_true rfl) rfl ?_
          refine zw_iload_n (pc := 63) (n := 2) (i := 2) 2 (by decide +kernel) rfl rfl ?_
          refine zw_iconst (pc := 64) (n := (-1)) (by decide +kernel) ?_
          refine zw_icmp_ne (pc := 65) (off := 5) (tgt := 70) (by decide +kernel) (by decide) o4 ⟨by decide, by decide⟩ (fun hc => ?_) (fun hc => ?_)
          · replace h := h.1 hc
            obtain ⟨o13, h⟩ := h
            refine zw_iload_n (pc := 70) (n := 2) (i := 2) 2 (by decide +kernel) rfl rfl ?_
            refine zw_iload_n (pc := 71) (n := 3) (i := 3) 3 (by decide +kernel) rfl rfl ?_
            refine zw_icmp_ge (pc := 72) (off := 15) (tgt := 87) (by decide +kernel) (by decide) o4 o13 (fun hc => ?_) (fun hc => ?_)
            · replace h := h.1 hc
              refine zw_bipush (pc := 87) (n := (-5)) (by decide +kernel) (by decide +kernel) ?_
              exact zw_iret (pc := 89) (by decide +kernel) rfl (Nat.le_refl _) (Nat.le_refl _) ⟨_, _, rfl, rfl, h⟩
            · replace h := h.2 hc
              refine zw_aload_n (pc := 75) (n := 0) (i := 0) 0 (by decide +kernel) rfl rfl ?_
              refine zx_getR (pc := 76) (o := 182) (r := 182) zf_10_45 (by decide +kernel) rfl zc_0 rfl (by decide) rfl ?_
              refine zw_iload_n (pc := 79) (n := 1) (i := 1) 1 (by decide +kernel) rfl rfl ?_
              refine zw_iload_n (pc := 80) (n := 2) (i := 2) 2 (by decide +kernel) rfl rfl ?_
              refine zx_callV (pc := 81) (As := [.int (zJ v1), .int (zJ v2)]) h zi_X2_neighbourOf zii_X2_neighbourOf zie_X2_neighbourOf zl_10_220 (by decide +kernel) ⟨Nat.le_of_ble_eq_true rfl, Nat.le_of_ble_eq_true rfl⟩ rfl zc_182 (by decide) rfl rfl ⟨rfl, rfl⟩ ⟨Nat.zero_le _, Nat.zero_le _⟩ (zki (fun x15 μ14 h => ?_))
              refine zw_goto (pc := 84) (off := 5) (tgt := 89) (by decide +kernel) (by decide) ?_
              exact zw_iret (pc := 89) (by decide +kernel) rfl (Nat.le_refl _) (Nat.le_refl _) ⟨_, _, rfl, rfl, h⟩
          · replace h := h.2 hc
            refine zw_iload_n (pc := 68) (n := 3) (i := 3) 3 (by decide +kernel) rfl rfl ?_
            exact zw_iret (pc := 69) (by decide +kernel) rfl (Nat.le_refl _) (Nat.le_refl _) ⟨_, _, rfl, rfl, h⟩
        · replace h := h.2 hc
          refine zw_bipush (pc := 47) (n := (-3)) (by decide +kernel) (by decide +kernel) ?_
          exact zw_iret (pc := 49) (by decide +kernel) rfl (Nat.le_refl _) (Nat.le_refl _) ⟨_, _, rfl, rfl, h⟩
      · replace h := h.2 hc
        refine zw_bipush (pc := 29) (n := (-11)) (by decide +kernel) (by decide +kernel) ?_
        exact zw_iret (pc := 31) (by decide +kernel) rfl (Nat.le_refl _) (Nat.le_refl _) ⟨_, _, rfl, rfl, h⟩
    · replace h := h.2 hc
      refine zw_bipush (pc := 13) (n := (-2)) (by decide +kernel) (by decide +kernel) ?_
      exact zw_iret (pc := 15) (by decide +kernel) rfl (Nat.le_refl _) (Nat.le_refl _) ⟨_, _, rfl, rfl, h⟩
theorem sg_X10_far {g : zG} {φ : Int → zMu → Prop} {v1 : Int} {v2 : Int} {μ : zMu}
    (h : zOi g zm_X10_isValue [.ref 0, .int (zJ v1)] μ (fun x2 μ1 => (zR x2) ∧ ((x2 = 0 → φ (-2) μ1) ∧ (¬ x2 = 0 → zOi g zm_X10_isValue [.ref 0, .int (zJ v2)] μ1 (fun x5 μ4 => (zR x5) ∧ ((¬ x5 = 0 → zOi g zm_X3_isMissing [.ref 3] μ4 (fun x8 μ7 => (zR x8) ∧ ((x8 = 0 → zOi g zm_X2_walkFrom [.ref 182, .ref 1, .int (zJ v1)] μ7 (fun x11 μ10 => zOi g zm_X2_distanceTo [.ref 182, .int (zJ v2)] μ10 (fun x13 μ12 => (zR x13) ∧ ((0 ≤ x13 → φ x13 μ12) ∧ (x13 < 0 → φ (-5) μ12))))) ∧ (¬ x8 = 0 → φ (-11) μ7)))) ∧ (x5 = 0 → φ (-2) μ4))))))) : zOi g zm_X10_far [.ref 0, .int (zJ v1), .int (zJ v2)] μ φ := by
  refine zok_of (by decide +kernel) rfl ?_
  show zWP g zm_X10_far (zmo g zm_X10_far (zΦi φ)) 0 [(0, .ref 0), (1, .int (zJ v1)), (2, .int (zJ v2))] [] 0 0 (zw μ)
  refine zw_aload_n (pc := 0) (n := 0) (i := 0) 0 (by decide +kernel) rfl rfl ?_
  refine zw_iload_n (pc := 1) (n := 1) (i := 1) 1 (by decide +kernel) rfl rfl ?_
  refine zx_callV (pc := 2) (As := [.int (zJ v1)]) h zi_X10_isValue zii_X10_isValue zie_X10_isValue zl_10_202 (by decide +kernel) ⟨Nat.le_of_ble_eq_true rfl, Nat.le_of_ble_eq_true rfl⟩ rfl zc_0 (by decide) rfl rfl ⟨rfl, rfl⟩ ⟨Nat.zero_le _, Nat.zero_le _⟩ (zki (fun x2 μ1 h => ?_))
  obtain ⟨o3, h⟩ := h
  refine zw_if_eq (pc := 5) (off := 11) (tgt := 16) (by decide +kernel) (by decide) o3 (fun hc => ?_) (fun hc => ?_)
  · replace h := h.1 hc
    refine zw_bipush (pc := 16) (n := (-2)) (by decide +kernel) (by decide +kernel) ?_
    exact zw_iret (pc := 18) (by decide +kernel) rfl (Nat.le_refl _) (Nat.le_refl _) ⟨_, _, rfl, rfl, h⟩
  · replace h := h.2 hc
    refine zw_aload_n (pc := 8) (n := 0) (i := 0) 0 (by decide +kernel) rfl rfl ?_
    refine zw_iload_n (pc := 9) (n := 2) (i := 2) 2 (by decide +kernel) rfl rfl ?_
    refine zx_callV (pc := 10) (As := [.int (zJ v2)]) h zi_X10_isValue zii_X10_isValue zie_X10_isValue zl_10_202 (by decide +kernel) ⟨Nat.le_of_ble_eq_true rfl, Nat.le_of_ble_eq_true rfl⟩ rfl zc_0 (by decide) rfl rfl ⟨rfl, rfl⟩ ⟨Nat.zero_le _, Nat.zero_le _⟩ (zki (fun x5 μ4 h => ?_))
    obtain ⟨o6, h⟩ := h
    refine zw_if_ne (pc := 13) (off := 6) (tgt := 19) (by decide +kernel) (by decide) o6 (fun hc => ?_) (fun hc => ?_)
    · replace h := h.1 hc
      refine zw_aload_n (pc := 19) (n := 0) (i := 0) 0 (by decide +kernel) rfl rfl ?_
      refine zx_getR (pc := 20) (o := 1) (r := 1) zf_10_14 (by decide +kernel) rfl zc_0 rfl (by decide) rfl ?_
      refine zx_getR (pc := 23) (o := 2) (r := 3) zf_10_174 (by decide +kernel) rfl zc_1 rfl (by decide) rfl ?_
      refine zx_callV (pc := 26) (As := []) h zi_X3_isMissing zii_X3_isMissing zie_X3_isMissing zl_10_182 (by decide +kernel) ⟨Nat.le_of_ble_eq_true rfl, Nat.le_of_ble_eq_true rfl⟩ rfl zc_3 (by decide) rfl rfl ⟨rfl, rfl⟩ ⟨Nat.zero_le _, Nat.zero_le _⟩ (zki (fun x8 μ7 h => ?_))
      obtain ⟨o9, h⟩ := h
      refine zw_if_eq (pc := 29) (off := 6) (tgt := 35) (by decide +kernel) (by decide) o9 (fun hc => ?_) (fun hc => ?_)
      · replace h := h.1 hc
        refine zw_aload_n (pc := 35) (n := 0) (i := 0) 0 (by decide +kernel) rfl rfl ?_
        refine zx_getR (pc := 36) (o := 182) (r := 182) zf_10_45 (by decide +kernel) rfl zc_0 rfl (by decide) rfl ?_
        refine zw_aload_n (pc := 39) (n := 0) (i := 0) 0 (by decide +kernel) rfl rfl ?_
        refine zx_getR (pc := 40) (o := 1) (r := 1) zf_10_14 (by decide +kernel) rfl zc_0 rfl (by decide) rfl ?_
        refine zw_iload_n (pc := 43) (n := 1) (i := 1) 1 (by decide +kernel) rfl rfl ?_
        refine zx_callV (pc := 44) (As := [.ref 1, .int (zJ v1)]) h zi_X2_walkFrom zii_X2_walkFrom zie_X2_walkFrom zl_10_224 (by decide +kernel) ⟨Nat.le_of_ble_eq_true rfl, Nat.le_of_ble_eq_true rfl⟩ rfl zc_182 (by decide) rfl rfl ⟨rfl, rfl⟩ ⟨Nat.zero_le _, Nat.zero_le _⟩ (zki (fun x11 μ10 h => ?_))
        refine zw_pop (pc := 47) (by decide +kernel) rfl ?_
        refine zw_aload_n (pc := 48) (n := 0) (i := 0) 0 (by decide +kernel) rfl rfl ?_
        refine zx_getR (pc := 49) (o := 182) (r := 182) zf_10_45 (by decide +kernel) rfl zc_0 rfl (by decide) rfl ?_
        refine zw_iload_n (pc := 52) (n := 2) (i := 2) 2 (by decide +kernel) rfl rfl ?_
        refine zx_callV (pc := 53) (As := [.int (zJ v2)]) h zi_X2_distanceTo zii_X2_distanceTo zie_X2_distanceTo zl_10_227 (by decide +kernel) ⟨Nat.le_of_ble_eq_true rfl, Nat.le_of_ble_eq_true rfl⟩ rfl zc_182 (by decide) rfl rfl ⟨rfl, rfl⟩ ⟨Nat.zero_le _, Nat.zero_le _⟩ (zki (fun x13 μ12 h => ?_))
        obtain ⟨o14, h⟩ := h
        refine zw_istore_n (pc := 56) (n := 3) (i := 3) (lv' := [(0, .ref 0), (1, .int (zJ v1)), (2, .int (zJ v2)), (3, .int (zJ x13))]) (by decide +kernel) rfl (Nat.le_of_ble_eq_true rfl) rfl ?_
        refine zw_iload_n (pc := 57) (n := 3) (i := 3) 3 (by decide +kernel) rfl rfl ?_
        refine zw_if_ge (pc := 58) (off := 8) (tgt := 66) (by decide +kernel) (by decide) o14 (fun hc => ?_) (fun hc => ?_)
        · replace h := h.1 hc
          refine zw_iload_n (pc := 66) (n := 3) (i := 3) 3 (by decide +kernel) rfl rfl ?_
          exact zw_iret (pc := 67) (by decide +kernel) rfl (Nat.le_refl _) (Nat.le_refl _) ⟨_, _, rfl, rfl, h⟩
        · replace h := h.2 hc
          refine zw_bipush (pc := 61) (n := (-5)) (by decide +kernel) (by decide +kernel) ?_
          refine zw_goto (pc := 63) (off := 4) (tgt := 67) (by decide +kernel) (by decide) ?_
          exact zw_iret (pc := 67) (by decide +kernel) rfl (Nat.le_refl _) (Nat.le_refl _) ⟨_, _, rfl, rfl, h⟩
      · replace h := h.2 hc
        refine zw_bipush (pc := 32) (n := (-11)) (by decide +kernel) (by decide +kernel) ?_
        exact zw_iret (pc := 34) (by decide +kernel) rfl (Nat.le_refl _) (Nat.le_refl _) ⟨_, _, rfl, rfl, h⟩
    · replace h := h.2 hc
      refine zw_bipush (pc := 16) (n := (-2)) (by decide +kernel) (by decide +kernel) ?_
      exact zw_iret (pc := 18) (by decide +kernel) rfl (Nat.le_refl _) (Nat.le_refl _) ⟨_, _, rfl, rfl, h⟩
theorem sg_X10_reach {g : zG} {φ : Int → zMu → Prop} {v1 : Int} {μ : zMu}
    (h : zOi g zm_X10_isValue [.ref 0, .int (zJ v1)] μ (fun x2 μ1 => (zR x2) ∧ ((¬ x2 = 0 → zOi g zm_X3_isMissing [.ref 3] μ1 (fun x5 μ4 => (zR x5) ∧ ((x5 = 0 → zOi g zm_X2_walkFrom [.ref 182, .ref 1, .int (zJ v1)] μ4 (fun x8 μ7 => φ x8 μ7)) ∧ (¬ x5 = 0 → φ (-11) μ4)))) ∧ (x2 = 0 → φ (-2) μ1)))) : zOi g zm_X10_reach [.ref 0, .int (zJ v1)] μ φ := by
  refine zok_of (by decide +kernel) rfl ?_
  show zWP g zm_X10_reach (zmo g zm_X10_reach (zΦi φ)) 0 [(0, .ref 0), (1, .int (zJ v1))] [] 0 0 (zw μ)
  refine zw_aload_n (pc := 0) (n := 0) (i := 0) 0 (by decide +kernel) rfl rfl ?_
  refine zw_iload_n (pc := 1) (n := 1) (i := 1) 1 (by decide +kernel) rfl rfl ?_
  refine zx_callV (pc := 2) (As := [.int (zJ v1)]) h zi_X10_isValue zii_X10_isValue zie_X10_isValue zl_10_202 (by decide +kernel) ⟨Nat.le_of_ble_eq_true rfl, Nat.le_of_ble_eq_true rfl⟩ rfl zc_0 (by decide) rfl rfl ⟨rfl, rfl⟩ ⟨Nat.zero_le _, Nat.zero_le _⟩ (zki (fun x2 μ1 h => ?_))
  obtain ⟨o3, h⟩ := h
  refine zw_if_ne (pc := 5) (off := 6) (tgt := 11) (by decide +kernel) (by decide) o3 (fun hc => ?_) (fun hc => ?_)
  · replace h := h.1 hc
    refine zw_aload_n (pc := 11) (n := 0) (i := 0) 0 (by decide +kernel) rfl rfl ?_
    refine zx_getR (pc := 12) (o := 1) (r := 1) zf_10_14 (by decide +kernel) rfl zc_0 rfl (by decide) rfl ?_
    refine zx_getR (pc := 15) (o := 2) (r := 3) zf_10_174 (by decide +kernel) rfl zc_1 rfl (by decide) rfl ?_
    refine zx_callV (pc := 18) (As := []) h zi_X3_isMissing zii_X3_isMissing zie_X3_isMissing zl_10_182 (by decide +kernel) ⟨Nat.le_of_ble_eq_true rfl, Nat.le_of_ble_eq_true rfl⟩ rfl zc_3 (by decide) rfl rfl ⟨rfl, rfl⟩ ⟨Nat.zero_le _, Nat.zero_le _⟩ (zki (fun x5 μ4 h => ?_))
    obtain ⟨o6, h⟩ := h
    refine zw_if_eq (pc := 21) (off := 6) (tgt := 27) (by decide +kernel) (by decide) o6 (fun hc => ?_) (fun hc => ?_)
    · replace h := h.1 hc
      refine zw_aload_n (pc := 27) (n := 0) (i := 0) 0 (by decide +kernel) rfl rfl ?_
      refine zx_getR (pc := 28) (o := 182) (r := 182) zf_10_45 (by decide +kernel) rfl zc_0 rfl (by decide) rfl ?_
      refine zw_aload_n (pc := 31) (n := 0) (i := 0) 0 (by decide +kernel) rfl rfl ?_
      refine zx_getR (pc := 32) (o := 1) (r := 1) zf_10_14 (by decide +kernel) rfl zc_0 rfl (by decide) rfl ?_
      refine zw_iload_n (pc := 35) (n := 1) (i := 1) 1 (by decide +kernel) rfl rfl ?_
      refine zx_callV (pc := 36) (As := [.ref 1, .int (zJ v1)]) h zi_X2_walkFrom zii_X2_walkFrom zie_X2_walkFrom zl_10_224 (by decide +kernel) ⟨Nat.le_of_ble_eq_true rfl, Nat.le_of_ble_eq_true rfl⟩ rfl zc_182 (by decide) rfl rfl ⟨rfl, rfl⟩ ⟨Nat.zero_le _, Nat.zero_le _⟩ (zki (fun x8 μ7 h => ?_))
      exact zw_iret (pc := 39) (by decide +kernel) rfl (Nat.le_refl _) (Nat.le_refl _) ⟨_, _, rfl, rfl, h⟩
    · replace h := h.2 hc
      refine zw_bipush (pc := 24) (n := (-11)) (by decide +kernel) (by decide +kernel) ?_
      exact zw_iret (pc := 26) (by decide +kernel) rfl (Nat.le_refl _) (Nat.le_refl _) ⟨_, _, rfl, rfl, h⟩
  · replace h := h.2 hc
    refine zw_bipush (pc := 8) (n := (-2)) (by decide +kernel) (by decide +kernel) ?_
    exact zw_iret (pc := 10) (by decide +kernel) rfl (Nat.le_refl _) (Nat.le_refl _) ⟨_, _, rfl, rfl, h⟩
theorem sg_X10_values {g : zG} {φ : Int → zMu → Prop} {v1 : Int} {μ : zMu}
    (h : (zR v1) ∧ ((v1 < 0 → φ (-1) μ) ∧ (0 ≤ v1 → ((v1 ≤ 3 → zOi g zm_X3_isMissing [.ref 3] μ (fun x3 μ2 => (zR x3) ∧ ((x3 = 0 → ((v1 < 0 ∨ 2 < v1 → zOi g zm_X2_greatestSize [.ref 182, .ref 1] μ2 (fun x6 μ5 => φ x6 μ5)) ∧ (v1 = 0 → zOi g zm_X2_ownNeighbours [.ref 182, .ref 1] μ2 (fun x9 μ8 => φ x9 μ8)) ∧ (v1 = 1 → zOi g zm_X2_degenerateValues [.ref 182, .ref 1] μ2 (fun x11 μ10 => φ x11 μ10)) ∧ (v1 = 2 → zOi g zm_X2_lonelyValues [.ref 182, .ref 1] μ2 (fun x13 μ12 => φ x13 μ12)))) ∧ (¬ x3 = 0 → φ (-11) μ2)))) ∧ (3 < v1 → φ (-1) μ))))) : zOi g zm_X10_values [.ref 0, .int (zJ v1)] μ φ := by
  refine zok_of (by decide +kernel) rfl ?_
  show zWP g zm_X10_values (zmo g zm_X10_values (zΦi φ)) 0 [(0, .ref 0), (1, .int (zJ v1))] [] 0 0 (zw μ)
  obtain ⟨o1, h⟩ := h
  refine zw_iload_n (pc := 0) (n := 1) (i := 1) 1 (by decide +kernel) rfl rfl ?_
  refine zw_if_lt (pc := 1) (off := 8) (tgt := 9) (by decide +kernel) (by decide) o1 (fun hc => ?_) (fun hc => ?_)
  · replace h := h.1 hc
    refine zw_iconst (pc := 9) (n := (-1)) (by decide +kernel) ?_
    exact zw_iret (pc := 10) (by decide +kernel) rfl (Nat.le_refl _) (Nat.le_refl _) ⟨_, _, rfl, rfl, h⟩
  · replace h := h.2 hc
    refine zw_iload_n (pc := 4) (n := 1) (i := 1) 1 (by decide +kernel) rfl rfl ?_
    refine zw_iconst (pc := 5) (n := 3) (by decide +kernel) ?_
    refine zw_icmp_le (pc := 6) (off := 5) (tgt := 11) (by decide +kernel) (by decide) o1 ⟨by decide, by decide⟩ (fun hc => ?_) (fun hc => ?_)
    · replace h := h.1 hc
      refine zw_aload_n (pc := 11) (n := 0) (i := 0) 0 (by decide +kernel) rfl rfl ?_
      refine zx_getR (pc := 12) (o := 1) (r := 1) zf_10_14 (by decide +kernel) rfl zc_0 rfl (by decide) rfl ?_
      refine zx_getR (pc := 15) (o := 2) (r := 3) zf_10_174 (by decide +kernel) rfl zc_1 rfl (by decide) rfl ?_
      refine zx_callV (pc := 18) (As := []) h zi_X3_isMissing zii_X3_isMissing zie_X3_isMissing zl_10_182 (by decide +kernel) ⟨Nat.le_of_ble_eq_true rfl, Nat.le_of_ble_eq_true rfl⟩ rfl zc_3 (by decide) rfl rfl ⟨rfl, rfl⟩ ⟨Nat.zero_le _, Nat.zero_le _⟩ (zki (fun x3 μ2 h => ?_))
      obtain ⟨o4, h⟩ := h
      refine zw_if_eq (pc := 21) (off := 6) (tgt := 27) (by decide +kernel) (by decide) o4 (fun hc => ?_) (fun hc => ?_)
      · replace h := h.1 hc
        refine zw_iload_n (pc := 27) (n := 1) (i := 1) 1 (by decide +kernel) rfl rfl ?_
        by_cases e7 : v1 < 0 ∨ 2 < v1
        · replace h := h.1 e7
          refine zw_swOut (pc := 28) (tgt := 92) (by decide +kernel : decode zm_X10_values.2.1 28 = .ok (.tableswitch 64 0 2 #[28, 40, 52], 28)) o1 e7 (by decide) ?_
          refine zw_aload_n (pc := 92) (n := 0) (i := 0) 0 (by decide +kernel) rfl rfl ?_
          refine zx_getR (pc := 93) (o := 182) (r := 182) zf_10_45 (by decide +kernel) rfl zc_0 rfl (by decide) rfl ?_
          refine zw_aload_n (pc := 96) (n := 0) (i := 0) 0 (by decide +kernel) rfl rfl ?_
          refine zx_getR (pc := 97) (o := 1) (r := 1) zf_10_14 (by decide +kernel) rfl zc_0 rfl (by decide) rfl ?_
          refine zx_callV (pc := 100) (As := [.ref 1]) h zi_X2_greatestSize zii_X2_greatestSize zie_X2_greatestSize zl_10_240 (by decide +kernel) ⟨Nat.le_of_ble_eq_true rfl, Nat.le_of_ble_eq_true rfl⟩ rfl zc_182 (by decide) rfl rfl ⟨rfl, rfl⟩ ⟨Nat.zero_le _, Nat.zero_le _⟩ (zki (fun x6 μ5 h => ?_))
          exact zw_iret (pc := 103) (by decide +kernel) rfl (Nat.le_refl _) (Nat.le_refl _) ⟨_, _, rfl, rfl, h⟩
        · replace h := h.2
          rcases (show v1 = 0 ∨ v1 = 1 ∨ v1 = 2 by omega) with e7 | e7 | e7
          · replace h := h.1 e7
            refine zw_swIn (pc := 28) (off := 28) (tgt := 56) (by decide +kernel : decode zm_X10_values.2.1 28 = .ok (.tableswitch 64 0 2 #[28, 40, 52], 28)) o1 (by omega) (by omega) (by rw [e7]; rfl) (by decide) ?_
            refine zw_aload_n (pc := 56) (n := 0) (i := 0) 0 (by decide +kernel) rfl rfl ?_
            refine zx_getR (pc := 57) (o := 182) (r := 182) zf_10_45 (by decide +kernel) rfl zc_0 rfl (by decide) rfl ?_
            refine zw_aload_n (pc := 60) (n := 0) (i := 0) 0 (by decide +kernel) rfl rfl ?_
            refine zx_getR (pc := 61) (o := 1) (r := 1) zf_10_14 (by decide +kernel) rfl zc_0 rfl (by decide) rfl ?_
            refine zx_callV (pc := 64) (As := [.ref 1]) h zi_X2_ownNeighbours zii_X2_ownNeighbours zie_X2_ownNeighbours zl_10_230 (by decide +kernel) ⟨Nat.le_of_ble_eq_true rfl, Nat.le_of_ble_eq_true rfl⟩ rfl zc_182 (by decide) rfl rfl ⟨rfl, rfl⟩ ⟨Nat.zero_le _, Nat.zero_le _⟩ (zki (fun x9 μ8 h => ?_))
            exact zw_iret (pc := 67) (by decide +kernel) rfl (Nat.le_refl _) (Nat.le_refl _) ⟨_, _, rfl, rfl, h⟩
          · replace h := h.2.1 e7
            refine zw_swIn (pc := 28) (off := 40) (tgt := 68) (by decide +kernel : decode zm_X10_values.2.1 28 = .ok (.tableswitch 64 0 2 #[28, 40, 52], 28)) o1 (by omega) (by omega) (by rw [e7]; rfl) (by decide) ?_
            refine zw_aload_n (pc := 68) (n := 0) (i := 0) 0 (by decide +kernel) rfl rfl ?_
            refine zx_getR (pc := 69) (o := 182) (r := 182) zf_10_45 (by decide +kernel) rfl zc_0 rfl (by decide) rfl ?_
            refine zw_aload_n (pc := 72) (n := 0) (i := 0) 0 (by decide +kernel) rfl rfl ?_
            refine zx_getR (pc := 73) (o := 1) (r := 1) zf_10_14 (by decide +kernel) rfl zc_0 rfl (by decide) rfl ?_
            refine zx_callV (pc := 76) (As := [.ref 1]) h zi_X2_degenerateValues zii_X2_degenerateValues zie_X2_degenerateValues zl_10_234 (by decide +kernel) ⟨Nat.le_of_ble_eq_true rfl, Nat.le_of_ble_eq_true rfl⟩ rfl zc_182 (by decide) rfl rfl ⟨rfl, rfl⟩ ⟨Nat.zero_le _, Nat.zero_le _⟩ (zki (fun x11 μ10 h => ?_))
            exact zw_iret (pc := 79) (by decide +kernel) rfl (Nat.le_refl _) (Nat.le_refl _) ⟨_, _, rfl, rfl, h⟩
          · replace h := h.2.2 e7
            refine zw_swIn (pc := 28) (off := 52) (tgt := 80) (by decide +kernel : decode zm_X10_values.2.1 28 = .ok (.tableswitch 64 0 2 #[28, 40, 52], 28)) o1 (by omega) (by omega) (by rw [e7]; rfl) (by decide) ?_
            refine zw_aload_n (pc := 80) (n := 0) (i := 0) 0 (by decide +kernel) rfl rfl ?_
            refine zx_getR (pc := 81) (o := 182) (r := 182) zf_10_45 (by decide +kernel) rfl zc_0 rfl (by decide) rfl ?_
            refine zw_aload_n (pc := 84) (n := 0) (i := 0) 0 (by decide +kernel) rfl rfl ?_
            refine zx_getR (pc := 85) (o := 1) (r := 1) zf_10_14 (by decide +kernel) rfl zc_0 rfl (by decide) rfl ?_
            refine zx_callV (pc := 88) (As := [.ref 1]) h zi_X2_lonelyValues zii_X2_lonelyValues zie_X2_lonelyValues zl_10_237 (by decide +kernel) ⟨Nat.le_of_ble_eq_true rfl, Nat.le_of_ble_eq_true rfl⟩ rfl zc_182 (by decide) rfl rfl ⟨rfl, rfl⟩ ⟨Nat.zero_le _, Nat.zero_le _⟩ (zki (fun x13 μ12 h => ?_))
            exact zw_iret (pc := 91) (by decide +kernel) rfl (Nat.le_refl _) (Nat.le_refl _) ⟨_, _, rfl, rfl, h⟩
      · replace h := h.2 hc
        refine zw_bipush (pc := 24) (n := (-11)) (by decide +kernel) (by decide +kernel) ?_
        exact zw_iret (pc := 26) (by decide +kernel) rfl (Nat.le_refl _) (Nat.le_refl _) ⟨_, _, rfl, rfl, h⟩
    · replace h := h.2 hc
      refine zw_iconst (pc := 9) (n := (-1)) (by decide +kernel) ?_
      exact zw_iret (pc := 10) (by decide +kernel) rfl (Nat.le_refl _) (Nat.le_refl _) ⟨_, _, rfl, rfl, h⟩
theorem sg_X10_keep {g : zG} {φ : Int → zMu → Prop} {v1 : Int} {μ : zMu}
    (h : zOi g zm_X10_isPlace [.int (zJ v1)] μ (fun x2 μ1 => (zR x2) ∧ ((¬ x2 = 0 → zOi g zm_X3_isMissing [.ref 3] μ1 (fun x5 μ4 => (zR x5) ∧ ((x5 = 0 → zOi g zm_X0_placeOf [.ref 1, .int (zJ (μ4 1 0))] μ4 (fun x8 μ7 => (zR x8) ∧ ((x8 < 0 → (0 ≤ v1 ∧ v1 < 8) ∧ zOv g zm_X3_copyFrom [.ref (19 + 2 * v1.toNat), .ref 3] μ7 (fun μ12 => zOi g zm_X0_keptCount [.ref 1] (zup μ12 6 v1.toNat (μ12 1 0)) (fun x14 μ13 => φ x14 μ13))) ∧ (0 ≤ x8 → (zR v1) ∧ ((x8 = v1 → (0 ≤ v1 ∧ v1 < 8) ∧ zOv g zm_X3_copyFrom [.ref (19 + 2 * v1.toNat), .ref 3] μ7 (fun μ18 => zOi g zm_X0_keptCount [.ref 1] (zup μ18 6 v1.toNat (μ18 1 0)) (fun x20 μ19 => φ x20 μ19))) ∧ (¬ x8 = v1 → φ (-3) μ7)))))) ∧ (¬ x5 = 0 → φ (-11) μ4)))) ∧ (x2 = 0 → φ (-1) μ1)))) : zOi g zm_X10_keep [.ref 0, .int (zJ v1)] μ φ := by
  refine zok_of (by decide +kernel) rfl ?_
  show zWP g zm_X10_keep (zmo g zm_X10_keep (zΦi φ)) 0 [(0, .ref 0), (1, .int (zJ v1))] [] 0 0 (zw μ)
  refine zw_iload_n (pc := 0) (n := 1) (i := 1) 1 (by decide +kernel) rfl rfl ?_
  refine zx_callS (pc := 1) (As := [.int (zJ v1)]) h zi_X10_isPlace zis_X10_isPlace zl_10_243 (by decide +kernel) ⟨Nat.le_of_ble_eq_true rfl, Nat.le_of_ble_eq_true rfl⟩ rfl rfl ⟨rfl, rfl⟩ ⟨Nat.zero_le _, Nat.zero_le _⟩ (zki (fun x2 μ1 h => ?_))
  obtain ⟨o3, h⟩ := h
  refine zw_if_ne (pc := 4) (off := 5) (tgt := 9) (by decide +kernel) (by decide) o3 (fun hc => ?_) (fun hc => ?_)
  · replace h := h.1 hc
    refine zw_aload_n (pc := 9) (n := 0) (i := 0) 0 (by decide +kernel) rfl rfl ?_
    refine zx_getR (pc := 10) (o := 1) (r := 1) zf_10_14 (by decide +kernel) rfl zc_0 rfl (by decide) rfl ?_
    refine zx_getR (pc := 13) (o := 2) (r := 3) zf_10_174 (by decide +kernel) rfl zc_1 rfl (by decide) rfl ?_
    refine zx_callV (pc := 16) (As := []) h zi_X3_isMissing zii_X3_isMissing zie_X3_isMissing zl_10_182 (by decide +kernel) ⟨Nat.le_of_ble_eq_true rfl, Nat.le_of_ble_eq_true rfl⟩ rfl zc_3 (by decide) rfl rfl ⟨rfl, rfl⟩ ⟨Nat.zero_le _, Nat.zero_le _⟩ (zki (fun x5 μ4 h => ?_))
    obtain ⟨o6, h⟩ := h
    refine zw_if_eq (pc := 19) (off := 6) (tgt := 25) (by decide +kernel) (by decide) o6 (fun hc => ?_) (fun hc => ?_)
    · replace h := h.1 hc
      refine zw_aload_n (pc := 25) (n := 0) (i := 0) 0 (by decide +kernel) rfl rfl ?_
      refine zx_getR (pc := 26) (o := 1) (r := 1) zf_10_14 (by decide +kernel) rfl zc_0 rfl (by decide) rfl ?_
      refine zw_aload_n (pc := 29) (n := 0) (i := 0) 0 (by decide +kernel) rfl rfl ?_
      refine zx_getR (pc := 30) (o := 1) (r := 1) zf_10_14 (by decide +kernel) rfl zc_0 rfl (by decide) rfl ?_
      refine zx_getI (pc := 33) zf_10_89 (by decide +kernel) rfl zc_1 ?_
      refine zx_callV (pc := 36) (As := [.int (zJ (μ4 1 0))]) h zi_X0_placeOf zii_X0_placeOf zie_X0_placeOf zl_10_246 (by decide +kernel) ⟨Nat.le_of_ble_eq_true rfl, Nat.le_of_ble_eq_true rfl⟩ rfl zc_1 (by decide) rfl rfl ⟨rfl, rfl⟩ ⟨Nat.zero_le _, Nat.zero_le _⟩ (zki (fun x8 μ7 h => ?_))
      obtain ⟨o9, h⟩ := h
      refine zw_istore_n (pc := 39) (n := 2) (i := 2) (lv' := [(0, .ref 0), (1, .int (zJ v1)), (2, .int (zJ x8))]) (by decide +kernel) rfl (Nat.le_of_ble_eq_true rfl) rfl ?_
      refine zw_iload_n (pc := 40) (n := 2) (i := 2) 2 (by decide +kernel) rfl rfl ?_
      refine zw_if_lt (pc := 41) (off := 11) (tgt := 52) (by decide +kernel) (by decide) o9 (fun hc => ?_) (fun hc => ?_)
      · replace h := h.1 hc
        obtain ⟨o10, h⟩ := h
        refine zw_aload_n (pc := 52) (n := 0) (i := 0) 0 (by decide +kernel) rfl rfl ?_
        refine zx_getR (pc := 53) (o := 1) (r := 1) zf_10_14 (by decide +kernel) rfl zc_0 rfl (by decide) rfl ?_
        refine zx_getR (pc := 56) (o := 4) (r := 5) zf_10_249 (by decide +kernel) rfl zc_1 rfl (by decide) rfl ?_
        refine zw_iload_n (pc := 59) (n := 1) (i := 1) 1 (by decide +kernel) rfl rfl ?_
        have q11 : zS (19 + 2 * v1.toNat) 3 2 := zS_cast (zqe_13 (j := v1.toNat) zc_5 (by omega)) (by show 5 + 14 + 2 * v1.toNat = (19 + 2 * v1.toNat); omega)
        refine zx_aaload (pc := 60) (k := 13) (r := (19 + 2 * v1.toNat)) (by decide +kernel) (by decide) ⟨8, zc_5, o10.1, o10.2⟩ (by show 5 + 14 + 2 * v1.toNat = (19 + 2 * v1.toNat); omega) ?_
        refine zw_aload_n (pc := 61) (n := 0) (i := 0) 0 (by decide +kernel) rfl rfl ?_
        refine zx_getR (pc := 62) (o := 1) (r := 1) zf_10_14 (by decide +kernel) rfl zc_0 rfl (by decide) rfl ?_
        refine zx_getR (pc := 65) (o := 2) (r := 3) zf_10_174 (by decide +kernel) rfl zc_1 rfl (by decide) rfl ?_
        refine zx_callV (pc := 68) (As := [.ref 3]) h zi_X3_copyFrom zii_X3_copyFrom zie_X3_copyFrom zl_10_253 (by decide +kernel) ⟨Nat.le_of_ble_eq_true rfl, Nat.le_of_ble_eq_true rfl⟩ rfl q11 (by decide) rfl rfl ⟨rfl, rfl⟩ ⟨Nat.zero_le _, Nat.zero_le _⟩ (zkv (fun μ12 h => ?_))
        refine zw_aload_n (pc := 71) (n := 0) (i := 0) 0 (by decide +kernel) rfl rfl ?_
        refine zx_getR (pc := 72) (o := 1) (r := 1) zf_10_14 (by decide +kernel) rfl zc_0 rfl (by decide) rfl ?_
        refine zx_getR (pc := 75) (o := 5) (r := 6) zf_10_256 (by decide +kernel) rfl zc_1 rfl (by decide) rfl ?_
        refine zw_iload_n (pc := 78) (n := 1) (i := 1) 1 (by decide +kernel) rfl rfl ?_
        refine zw_aload_n (pc := 79) (n := 0) (i := 0) 0 (by decide +kernel) rfl rfl ?_
        refine zx_getR (pc := 80) (o := 1) (r := 1) zf_10_14 (by decide +kernel) rfl zc_0 rfl (by decide) rfl ?_
        refine zx_getI (pc := 83) zf_10_89 (by decide +kernel) rfl zc_1 ?_
        refine zx_iastore (pc := 86) (by decide +kernel) ⟨8, zc_6, o10.1, o10.2⟩ ?_
        refine zw_aload_n (pc := 87) (n := 0) (i := 0) 0 (by decide +kernel) rfl rfl ?_
        refine zx_getR (pc := 88) (o := 1) (r := 1) zf_10_14 (by decide +kernel) rfl zc_0 rfl (by decide) rfl ?_
        refine zx_callV (pc := 91) (As := []) h zi_X0_keptCount zii_X0_keptCount zie_X0_keptCount zl_10_259 (by decide +kernel) ⟨Nat.le_of_ble_eq_true rfl, Nat.le_of_ble_eq_true rfl⟩ rfl zc_1 (by decide) rfl rfl ⟨rfl, rfl⟩ ⟨Nat.zero_le _, Nat.zero_le _⟩ (zki (fun x14 μ13 h => ?_))
        exact zw_iret (pc := 94) (by decide +kernel) rfl (Nat.le_refl _) (Nat.le_refl _) ⟨_, _, rfl, rfl, h⟩
      · replace h := h.2 hc
        obtain ⟨o15, h⟩ := h
        refine zw_iload_n (pc := 44) (n := 2) (i := 2) 2 (by decide +kernel) rfl rfl ?_
        refine zw_iload_n (pc := 45) (n := 1) (i := 1) 1 (by decide +kernel) rfl rfl ?_
        refine zw_icmp_eq (pc := 46) (off := 6) (tgt := 52) (by decide +kernel) (by decide) o9 o15 (fun hc => ?_) (fun hc => ?_)
        · replace h := h.1 hc
          obtain ⟨o16, h⟩ := h
          refine zw_aload_n (pc := 52) (n := 0) (i := 0) 0 (by decide +kernel) rfl rfl ?_
          refine zx_getR (pc := 53) (o := 1) (r := 1) zf_10_14 (by decide +kernel) rfl zc_0 rfl (by decide) rfl ?_
          refine zx_getR (pc := 56) (o := 4) (r := 5) zf_10_249 (by decide +kernel) rfl zc_1 rfl (by decide) rfl ?_
          refine zw_iload_n (pc := 59) (n := 1) (i := 1) 1 (by decide +kernel) rfl rfl ?_
          have q17 : zS (19 + 2 * v1.toNat) 3 2 := zS_cast (zqe_13 (j := v1.toNat) zc_5 (by omega)) (by show 5 + 14 + 2 * v1.toNat = (19 + 2 * v1.toNat); omega)
          refine zx_aaload (pc := 60) (k := 13) (r := (19 + 2 * v1.toNat)) (by decide +kernel) (by decide) ⟨8, zc_5, o16.1, o16.2⟩ (by show 5 + 14 + 2 * v1.toNat = (19 + 2 * v1.toNat); omega) ?_
          refine zw_aload_n (pc := 61) (n := 0) (i := 0) 0 (by decide +kernel) rfl rfl ?_
          refine zx_getR (pc := 62) (o := 1) (r := 1) zf_10_14 (by decide +kernel) rfl zc_0 rfl (by decide) rfl ?_
          refine zx_getR (pc := 65) (o := 2) (r := 3) zf_10_174 (by decide +kernel) rfl zc_1 rfl (by decide) rfl ?_
          refine zx_callV (pc := 68) (As := [.ref 3]) h zi_X3_copyFrom zii_X3_copyFrom zie_X3_copyFrom zl_10_253 (by decide +kernel) ⟨Nat.le_of_ble_eq_true rfl, Nat.le_of_ble_eq_true rfl⟩ rfl q17 (by decide) rfl rfl ⟨rfl, rfl⟩ ⟨Nat.zero_le _, Nat.zero_le _⟩ (zkv (fun μ18 h => ?_))
          refine zw_aload_n (pc := 71) (n := 0) (i := 0) 0 (by decide +kernel) rfl rfl ?_
          refine zx_getR (pc := 72) (o := 1) (r := 1) zf_10_14 (by decide +kernel) rfl zc_0 rfl (by decide) rfl ?_
          refine zx_getR (pc := 75) (o := 5) (r := 6) zf_10_256 (by decide +kernel) rfl zc_1 rfl (by decide) rfl ?_
          refine zw_iload_n (pc := 78) (n := 1) (i := 1) 1 (by decide +kernel) rfl rfl ?_
          refine zw_aload_n (pc := 79) (n := 0) (i := 0) 0 (by decide +kernel) rfl rfl ?_
          refine zx_getR (pc := 80) (o := 1) (r := 1) zf_10_14 (by decide +kernel) rfl zc_0 rfl (by decide) rfl ?_
          refine zx_getI (pc := 83) zf_10_89 (by decide +kernel) rfl zc_1 ?_
          refine zx_iastore (pc := 86) (by decide +kernel) ⟨8, zc_6, o16.1, o16.2⟩ ?_
          refine zw_aload_n (pc := 87) (n := 0) (i := 0) 0 (by decide +kernel) rfl rfl ?_
          refine zx_getR (pc := 88) (o := 1) (r := 1) zf_10_14 (by decide +kernel) rfl zc_0 rfl (by decide) rfl ?_
          refine zx_callV (pc := 91) (As := []) h zi_X0_keptCount zii_X0_keptCount zie_X0_keptCount zl_10_259 (by decide +kernel) ⟨Nat.le_of_ble_eq_true rfl, Nat.le_of_ble_eq_true rfl⟩ rfl zc_1 (by decide) rfl rfl ⟨rfl, rfl⟩ ⟨Nat.zero_le _, Nat.zero_le _⟩ (zki (fun x20 μ19 h => ?_))
          exact zw_iret (pc := 94) (by decide +kernel) rfl (Nat.le_refl _) (Nat.le_refl _) ⟨_, _, rfl, rfl, h⟩
        · replace h := h.2 hc
          refine zw_bipush (pc := 49) (n := (-3)) (by decide +kernel) (by decide +kernel) ?_
          exact zw_iret (pc := 51) (by decide +kernel) rfl (Nat.le_refl _) (Nat.le_refl _) ⟨_, _, rfl, rfl, h⟩
    · replace h := h.2 hc
      refine zw_bipush (pc := 22) (n := (-11)) (by decide +kernel) (by decide +kernel) ?_
      exact zw_iret (pc := 24) (by decide +kernel) rfl (Nat.le_refl _) (Nat.le_refl _) ⟨_, _, rfl, rfl, h⟩
  · replace h := h.2 hc
    refine zw_iconst (pc := 7) (n := (-1)) (by decide +kernel) ?_
    exact zw_iret (pc := 8) (by decide +kernel) rfl (Nat.le_refl _) (Nat.le_refl _) ⟨_, _, rfl, rfl, h⟩
theorem sg_X10_isPlace {g : zG} {φ : Int → zMu → Prop} {v0 : Int} {μ : zMu}
    (h : (zR v0) ∧ ((v0 < 0 → φ 0 μ) ∧ (0 ≤ v0 → ((8 ≤ v0 → φ 0 μ) ∧ (v0 < 8 → φ 1 μ))))) : zOi g zm_X10_isPlace [.int (zJ v0)] μ φ := by
  refine zok_of (by decide +kernel) rfl ?_
  show zWP g zm_X10_isPlace (zmo g zm_X10_isPlace (zΦi φ)) 0 [(0, .int (zJ v0))] [] 0 0 (zw μ)
  obtain ⟨o1, h⟩ := h
  refine zw_iload_n (pc := 0) (n := 0) (i := 0) 0 (by decide +kernel) rfl rfl ?_
  refine zw_if_lt (pc := 1) (off := 13) (tgt := 14) (by decide +kernel) (by decide) o1 (fun hc => ?_) (fun hc => ?_)
  · replace h := h.1 hc
    refine zw_iconst (pc := 14) (n := 0) (by decide +kernel) ?_
    exact zw_zret (pc := 15) (by decide +kernel) rfl (Nat.le_refl _) (Nat.le_refl _) (Or.inl rfl) ⟨_, _, rfl, rfl, h⟩
  · replace h := h.2 hc
    refine zw_iload_n (pc := 4) (n := 0) (i := 0) 0 (by decide +kernel) rfl rfl ?_
    refine zw_bipush (pc := 5) (n := 8) (by decide +kernel) (by decide +kernel) ?_
    refine zw_icmp_ge (pc := 7) (off := 7) (tgt := 14) (by decide +kernel) (by decide) o1 ⟨by decide, by decide⟩ (fun hc => ?_) (fun hc => ?_)
    · replace h := h.1 hc
      refine zw_iconst (pc := 14) (n := 0) (by decide +kernel) ?_
      exact zw_zret (pc := 15) (by decide +kernel) rfl (Nat.le_refl _) (Nat.le_refl _) (Or.inl rfl) ⟨_, _, rfl, rfl, h⟩
    · replace h := h.2 hc
      refine zw_iconst (pc := 10) (n := 1) (by decide +kernel) ?_
      refine zw_goto (pc := 11) (off := 4) (tgt := 15) (by decide +kernel) (by decide) ?_
      exact zw_zret (pc := 15) (by decide +kernel) rfl (Nat.le_refl _) (Nat.le_refl _) (Or.inr rfl) ⟨_, _, rfl, rfl, h⟩
theorem sg_X10_drop {g : zG} {φ : Int → zMu → Prop} {v1 : Int} {μ : zMu}
    (h : zOi g zm_X10_isPlace [.int (zJ v1)] μ (fun x2 μ1 => (zR x2) ∧ ((¬ x2 = 0 → (0 ≤ v1 ∧ v1 < 8) ∧ zOi g zm_X3_isMissing [.ref (19 + 2 * v1.toNat)] μ1 (fun x7 μ6 => (zR x7) ∧ ((x7 = 0 → φ ((zup μ6 (19 + 2 * v1.toNat) 1 0) 6 v1.toNat) (zup μ6 (19 + 2 * v1.toNat) 1 0)) ∧ (¬ x7 = 0 → φ (-11) μ6)))) ∧ (x2 = 0 → φ (-1) μ1)))) : zOi g zm_X10_drop [.ref 0, .int (zJ v1)] μ φ := by
  refine zok_of (by decide +kernel) rfl ?_
  show zWP g zm_X10_drop (zmo g zm_X10_drop (zΦi φ)) 0 [(0, .ref 0), (1, .int (zJ v1))] [] 0 0 (zw μ)
  refine zw_iload_n (pc := 0) (n := 1) (i := 1) 1 (by decide +kernel) rfl rfl ?_
  refine zx_callS (pc := 1) (As := [.int (zJ v1)]) h zi_X10_isPlace zis_X10_isPlace zl_10_243 (by decide +kernel) ⟨Nat.le_of_ble_eq_true rfl, Nat.le_of_ble_eq_true rfl⟩ rfl rfl ⟨rfl, rfl⟩ ⟨Nat.zero_le _, Nat.zero_le _⟩ (zki (fun x2 μ1 h => ?_))
  obtain ⟨o3, h⟩ := h
  refine zw_if_ne (pc := 4) (off := 5) (tgt := 9) (by decide +kernel) (by decide) o3 (fun hc => ?_) (fun hc => ?_)
  · replace h := h.1 hc
    obtain ⟨o4, h⟩ := h
    refine zw_aload_n (pc := 9) (n := 0) (i := 0) 0 (by decide +kernel) rfl rfl ?_
    refine zx_getR (pc := 10) (o := 1) (r := 1) zf_10_14 (by decide +kernel) rfl zc_0 rfl (by decide) rfl ?_
    refine zx_getR (pc := 13) (o := 4) (r := 5) zf_10_249 (by decide +kernel) rfl zc_1 rfl (by decide) rfl ?_
    refine zw_iload_n (pc := 16) (n := 1) (i := 1) 1 (by decide +kernel) rfl rfl ?_
    have q5 : zS (19 + 2 * v1.toNat) 3 2 := zS_cast (zqe_13 (j := v1.toNat) zc_5 (by omega)) (by show 5 + 14 + 2 * v1.toNat = (19 + 2 * v1.toNat); omega)
    refine zx_aaload (pc := 17) (k := 13) (r := (19 + 2 * v1.toNat)) (by decide +kernel) (by decide) ⟨8, zc_5, o4.1, o4.2⟩ (by show 5 + 14 + 2 * v1.toNat = (19 + 2 * v1.toNat); omega) ?_
    refine zx_callV (pc := 18) (As := []) h zi_X3_isMissing zii_X3_isMissing zie_X3_isMissing zl_10_182 (by decide +kernel) ⟨Nat.le_of_ble_eq_true rfl, Nat.le_of_ble_eq_true rfl⟩ rfl q5 (by decide) rfl rfl ⟨rfl, rfl⟩ ⟨Nat.zero_le _, Nat.zero_le _⟩ (zki (fun x7 μ6 h => ?_))
    obtain ⟨o8, h⟩ := h
    refine zw_if_eq (pc := 21) (off := 6) (tgt := 27) (by decide +kernel) (by decide) o8 (fun hc => ?_) (fun hc => ?_)
    · replace h := h.1 hc
      refine zw_aload_n (pc := 27) (n := 0) (i := 0) 0 (by decide +kernel) rfl rfl ?_
      refine zx_getR (pc := 28) (o := 1) (r := 1) zf_10_14 (by decide +kernel) rfl zc_0 rfl (by decide) rfl ?_
      refine zx_getR (pc := 31) (o := 4) (r := 5) zf_10_249 (by decide +kernel) rfl zc_1 rfl (by decide) rfl ?_
      refine zw_iload_n (pc := 34) (n := 1) (i := 1) 1 (by decide +kernel) rfl rfl ?_
      have q9 : zS (19 + 2 * v1.toNat) 3 2 := zS_cast (zqe_13 (j := v1.toNat) zc_5 (by omega)) (by show 5 + 14 + 2 * v1.toNat = (19 + 2 * v1.toNat); omega)
      refine zx_aaload (pc := 35) (k := 13) (r := (19 + 2 * v1.toNat)) (by decide +kernel) (by decide) ⟨8, zc_5, o4.1, o4.2⟩ (by show 5 + 14 + 2 * v1.toNat = (19 + 2 * v1.toNat); omega) ?_
      refine zw_iconst (pc := 36) (n := 0) (by decide +kernel) ?_
      refine zx_putI (pc := 37) zf_10_185 (by decide +kernel) rfl q9 ?_
      refine zw_aload_n (pc := 40) (n := 0) (i := 0) 0 (by decide +kernel) rfl rfl ?_
      refine zx_getR (pc := 41) (o := 1) (r := 1) zf_10_14 (by decide +kernel) rfl zc_0 rfl (by decide) rfl ?_
      refine zx_getR (pc := 44) (o := 5) (r := 6) zf_10_256 (by decide +kernel) rfl zc_1 rfl (by decide) rfl ?_
      refine zw_iload_n (pc := 47) (n := 1) (i := 1) 1 (by decide +kernel) rfl rfl ?_
      refine zx_iaload (pc := 48) (by decide +kernel) ⟨8, zc_6, o4.1, o4.2⟩ ?_
      exact zw_iret (pc := 49) (by decide +kernel) rfl (Nat.le_refl _) (Nat.le_refl _) ⟨_, _, rfl, rfl, h⟩
    · replace h := h.2 hc
      refine zw_bipush (pc := 24) (n := (-11)) (by decide +kernel) (by decide +kernel) ?_
      exact zw_iret (pc := 26) (by decide +kernel) rfl (Nat.le_refl _) (Nat.le_refl _) ⟨_, _, rfl, rfl, h⟩
  · replace h := h.2 hc
    refine zw_iconst (pc := 7) (n := (-1)) (by decide +kernel) ?_
    exact zw_iret (pc := 8) (by decide +kernel) rfl (Nat.le_refl _) (Nat.le_refl _) ⟨_, _, rfl, rfl, h⟩
theorem sg_X10_joined {g : zG} {φ : Int → zMu → Prop} {v1 : Int} {v2 : Int} {μ : zMu}
    (h : zOi g zm_X0_commonDegree [.ref 1] μ (fun x2 μ1 => (zR x2) ∧ ((x2 = 0 → φ (-9223372036854775808) μ1) ∧ (¬ x2 = 0 → (zR v1) ∧ ((v1 < 0 → φ (-9223372036854775808) μ1) ∧ (0 ≤ v1 → ((x2 < v1 → φ (-9223372036854775808) μ1) ∧ (v1 ≤ x2 → (zR v2) ∧ ((v2 < 0 → φ (-9223372036854775808) μ1) ∧ (0 ≤ v2 → ((v2 ≤ x2 → zOl g zm_X0_joinAt [.ref 1, .int (zJ ((9 * v1) + v2))] μ1 (fun x7 μ6 => φ x7 μ6)) ∧ (x2 < v2 → φ (-9223372036854775808) μ1)))))))))))) : zOl g zm_X10_joined [.ref 0, .int (zJ v1), .int (zJ v2)] μ φ := by
  refine zok_of (by decide +kernel) rfl ?_
  show zWP g zm_X10_joined (zmo g zm_X10_joined (zΦl φ)) 0 [(0, .ref 0), (1, .int (zJ v1)), (2, .int (zJ v2))] [] 0 0 (zw μ)
  refine zw_aload_n (pc := 0) (n := 0) (i := 0) 0 (by decide +kernel) rfl rfl ?_
  refine zx_getR (pc := 1) (o := 1) (r := 1) zf_10_14 (by decide +kernel) rfl zc_0 rfl (by decide) rfl ?_
  refine zx_callV (pc := 4) (As := []) h zi_X0_commonDegree zii_X0_commonDegree zie_X0_commonDegree zl_10_262 (by decide +kernel) ⟨Nat.le_of_ble_eq_true rfl, Nat.le_of_ble_eq_true rfl⟩ rfl zc_1 (by decide) rfl rfl ⟨rfl, rfl⟩ ⟨Nat.zero_le _, Nat.zero_le _⟩ (zki (fun x2 μ1 h => ?_))
  obtain ⟨o3, h⟩ := h
  refine zw_istore_n (pc := 7) (n := 3) (i := 3) (lv' := [(0, .ref 0), (1, .int (zJ v1)), (2, .int (zJ v2)), (3, .int (zJ x2))]) (by decide +kernel) rfl (Nat.le_of_ble_eq_true rfl) rfl ?_
  refine zw_iload_n (pc := 8) (n := 3) (i := 3) 3 (by decide +kernel) rfl rfl ?_
  refine zw_if_eq (pc := 9) (off := 21) (tgt := 30) (by decide +kernel) (by decide) o3 (fun hc => ?_) (fun hc => ?_)
  · replace h := h.1 hc
    refine zw_ldc2 (pc := 30) (v := (-9223372036854775808)) (by decide +kernel) zk_10_265 ?_
    exact zw_lret (pc := 33) (by decide +kernel) rfl (Nat.le_refl _) (Nat.le_refl _) ⟨_, _, rfl, rfl, h⟩
  · replace h := h.2 hc
    obtain ⟨o4, h⟩ := h
    refine zw_iload_n (pc := 12) (n := 1) (i := 1) 1 (by decide +kernel) rfl rfl ?_
    refine zw_if_lt (pc := 13) (off := 17) (tgt := 30) (by decide +kernel) (by decide) o4 (fun hc => ?_) (fun hc => ?_)
    · replace h := h.1 hc
      refine zw_ldc2 (pc := 30) (v := (-9223372036854775808)) (by decide +kernel) zk_10_265 ?_
      exact zw_lret (pc := 33) (by decide +kernel) rfl (Nat.le_refl _) (Nat.le_refl _) ⟨_, _, rfl, rfl, h⟩
    · replace h := h.2 hc
      refine zw_iload_n (pc := 16) (n := 1) (i := 1) 1 (by decide +kernel) rfl rfl ?_
      refine zw_iload_n (pc := 17) (n := 3) (i := 3) 3 (by decide +kernel) rfl rfl ?_
      refine zw_icmp_gt (pc := 18) (off := 12) (tgt := 30) (by decide +kernel) (by decide) o4 o3 (fun hc => ?_) (fun hc => ?_)
      · replace h := h.1 hc
        refine zw_ldc2 (pc := 30) (v := (-9223372036854775808)) (by decide +kernel) zk_10_265 ?_
        exact zw_lret (pc := 33) (by decide +kernel) rfl (Nat.le_refl _) (Nat.le_refl _) ⟨_, _, rfl, rfl, h⟩
      · replace h := h.2 hc
        obtain ⟨o5, h⟩ := h
        refine zw_iload_n (pc := 21) (n := 2) (i := 2) 2 (by decide +kernel) rfl rfl ?_
        refine zw_if_lt (pc := 22) (off := 8) (tgt := 30) (by decide +kernel) (by decide) o5 (fun hc => ?_) (fun hc => ?_)
        · replace h := h.1 hc
          refine zw_ldc2 (pc := 30) (v := (-9223372036854775808)) (by decide +kernel) zk_10_265 ?_
          exact zw_lret (pc := 33) (by decide +kernel) rfl (Nat.le_refl _) (Nat.le_refl _) ⟨_, _, rfl, rfl, h⟩
        · replace h := h.2 hc
          refine zw_iload_n (pc := 25) (n := 2) (i := 2) 2 (by decide +kernel) rfl rfl ?_
          refine zw_iload_n (pc := 26) (n := 3) (i := 3) 3 (by decide +kernel) rfl rfl ?_
          refine zw_icmp_le (pc := 27) (off := 7) (tgt := 34) (by decide +kernel) (by decide) o5 o3 (fun hc => ?_) (fun hc => ?_)
          · replace h := h.1 hc
            refine zw_aload_n (pc := 34) (n := 0) (i := 0) 0 (by decide +kernel) rfl rfl ?_
            refine zx_getR (pc := 35) (o := 1) (r := 1) zf_10_14 (by decide +kernel) rfl zc_0 rfl (by decide) rfl ?_
            refine zw_bipush (pc := 38) (n := 9) (by decide +kernel) (by decide +kernel) ?_
            refine zw_iload_n (pc := 40) (n := 1) (i := 1) 1 (by decide +kernel) rfl rfl ?_
            refine zw_imul (pc := 41) (by decide +kernel) ?_
            refine zw_iload_n (pc := 42) (n := 2) (i := 2) 2 (by decide +kernel) rfl rfl ?_
            refine zw_iadd (pc := 43) (by decide +kernel) ?_
            refine zx_callV (pc := 44) (As := [.int (zJ ((9 * v1) + v2))]) h zi_X0_joinAt zii_X0_joinAt zie_X0_joinAt zl_10_267 (by decide +kernel) ⟨Nat.le_of_ble_eq_true rfl, Nat.le_of_ble_eq_true rfl⟩ rfl zc_1 (by decide) rfl rfl ⟨rfl, rfl⟩ ⟨Nat.zero_le _, Nat.zero_le _⟩ (zkl (fun x7 μ6 h => ?_))
            exact zw_lret (pc := 47) (by decide +kernel) rfl (Nat.le_refl _) (Nat.le_refl _) ⟨_, _, rfl, rfl, h⟩
          · replace h := h.2 hc
            refine zw_ldc2 (pc := 30) (v := (-9223372036854775808)) (by decide +kernel) zk_10_265 ?_
            exact zw_lret (pc := 33) (by decide +kernel) rfl (Nat.le_refl _) (Nat.le_refl _) ⟨_, _, rfl, rfl, h⟩
theorem sg_X10_whole {g : zG} {φ : Int → zMu → Prop} {μ : zMu}
    (h : zOi g zm_X0_keptCount [.ref 1] μ (fun x2 μ1 => (zR x2) ∧ ((¬ x2 = 0 → zOl g zm_X0_keptProduct [.ref 1] μ1 (fun x5 μ4 => φ x5 μ4)) ∧ (x2 = 0 → φ (-9223372036854775808) μ1)))) : zOl g zm_X10_whole [.ref 0] μ φ := by
  refine zok_of (by decide +kernel) rfl ?_
  show zWP g zm_X10_whole (zmo g zm_X10_whole (zΦl φ)) 0 [(0, .ref 0)] [] 0 0 (zw μ)
  refine zw_aload_n (pc := 0) (n := 0) (i := 0) 0 (by decide +kernel) rfl rfl ?_
  refine zx_getR (pc := 1) (o := 1) (r := 1) zf_10_14 (by decide +kernel) rfl zc_0 rfl (by decide) rfl ?_
  refine zx_callV (pc := 4) (As := []) h zi_X0_keptCount zii_X0_keptCount zie_X0_keptCount zl_10_259 (by decide +kernel) ⟨Nat.le_of_ble_eq_true rfl, Nat.le_of_ble_eq_true rfl⟩ rfl zc_1 (by decide) rfl rfl ⟨rfl, rfl⟩ ⟨Nat.zero_le _, Nat.zero_le _⟩ (zki (fun x2 μ1 h => ?_))
  obtain ⟨o3, h⟩ := h
  refine zw_if_ne (pc := 7) (off := 9) (tgt := 16) (by decide +kernel) (by decide) o3 (fun hc => ?_) (fun hc => ?_)
  · replace h := h.1 hc
    refine zw_aload_n (pc := 16) (n := 0) (i := 0) 0 (by decide +kernel) rfl rfl ?_
    refine zx_getR (pc := 17) (o := 1) (r := 1) zf_10_14 (by decide +kernel) rfl zc_0 rfl (by decide) rfl ?_
    refine zx_callV (pc := 20) (As := []) h zi_X0_keptProduct zii_X0_keptProduct zie_X0_keptProduct zl_10_271 (by decide +kernel) ⟨Nat.le_of_ble_eq_true rfl, Nat.le_of_ble_eq_true rfl⟩ rfl zc_1 (by decide) rfl rfl ⟨rfl, rfl⟩ ⟨Nat.zero_le _, Nat.zero_le _⟩ (zkl (fun x5 μ4 h => ?_))
    exact zw_lret (pc := 23) (by decide +kernel) rfl (Nat.le_refl _) (Nat.le_refl _) ⟨_, _, rfl, rfl, h⟩
  · replace h := h.2 hc
    refine zw_ldc2 (pc := 10) (v := (-9223372036854775808)) (by decide +kernel) zk_10_265 ?_
    refine zw_goto (pc := 13) (off := 10) (tgt := 23) (by decide +kernel) (by decide) ?_
    exact zw_lret (pc := 23) (by decide +kernel) rfl (Nat.le_refl _) (Nat.le_refl _) ⟨_, _, rfl, rfl, h⟩
theorem sg_X10_feed {g : zG} {φ : Int → zMu → Prop} {v1 : Int} {μ : zMu}
    (h : (zR v1) ∧ ((v1 < 1 → φ (-2) μ) ∧ (1 ≤ v1 → ((v1 ≤ 127 → (zR (μ 188 1)) ∧ (((μ 188 1) < 100 → zOv g zm_X8_append [.ref 188, .int (zJ v1)] μ (fun μ3 => φ (μ3 188 1) μ3)) ∧ (100 ≤ (μ 188 1) → φ (-3) μ))) ∧ (127 < v1 → φ (-2) μ))))) : zOi g zm_X10_feed [.ref 0, .int (zJ v1)] μ φ := by
  refine zok_of (by decide +kernel) rfl ?_
  show zWP g zm_X10_feed (zmo g zm_X10_feed (zΦi φ)) 0 [(0, .ref 0), (1, .int (zJ v1))] [] 0 0 (zw μ)
  obtain ⟨o1, h⟩ := h
  refine zw_iload_n (pc := 0) (n := 1) (i := 1) 1 (by decide +kernel) rfl rfl ?_
  refine zw_iconst (pc := 1) (n := 1) (by decide +kernel) ?_
  refine zw_icmp_lt (pc := 2) (off := 9) (tgt := 11) (by decide +kernel) (by decide) o1 ⟨by decide, by decide⟩ (fun hc => ?_) (fun hc => ?_)
  · replace h := h.1 hc
    refine zw_bipush (pc := 11) (n := (-2)) (by decide +kernel) (by decide +kernel) ?_
    exact zw_iret (pc := 13) (by decide +kernel) rfl (Nat.le_refl _) (Nat.le_refl _) ⟨_, _, rfl, rfl, h⟩
  · replace h := h.2 hc
    refine zw_iload_n (pc := 5) (n := 1) (i := 1) 1 (by decide +kernel) rfl rfl ?_
    refine zw_bipush (pc := 6) (n := 127) (by decide +kernel) (by decide +kernel) ?_
    refine zw_icmp_le (pc := 8) (off := 6) (tgt := 14) (by decide +kernel) (by decide) o1 ⟨by decide, by decide⟩ (fun hc => ?_) (fun hc => ?_)
    · replace h := h.1 hc
      obtain ⟨o2, h⟩ := h
      refine zw_aload_n (pc := 14) (n := 0) (i := 0) 0 (by decide +kernel) rfl rfl ?_
      refine zx_getR (pc := 15) (o := 188) (r := 188) zf_10_52 (by decide +kernel) rfl zc_0 rfl (by decide) rfl ?_
      refine zx_getI (pc := 18) zf_10_275 (by decide +kernel) rfl zc_188 ?_
      refine zw_bipush (pc := 21) (n := 100) (by decide +kernel) (by decide +kernel) ?_
      refine zw_icmp_lt (pc := 23) (off := 6) (tgt := 29) (by decide +kernel) (by decide) o2 ⟨by decide, by decide⟩ (fun hc => ?_) (fun hc => ?_)
      · replace h := h.1 hc
        refine zw_aload_n (pc := 29) (n := 0) (i := 0) 0 (by decide +kernel) rfl rfl ?_
        refine zx_getR (pc := 30) (o := 188) (r := 188) zf_10_52 (by decide +kernel) rfl zc_0 rfl (by decide) rfl ?_
        refine zw_iload_n (pc := 33) (n := 1) (i := 1) 1 (by decide +kernel) rfl rfl ?_
        refine zx_callV (pc := 34) (As := [.int (zJ v1)]) h zi_X8_append zii_X8_append zie_X8_append zl_10_276 (by decide +kernel) ⟨Nat.le_of_ble_eq_true rfl, Nat.le_of_ble_eq_true rfl⟩ rfl zc_188 (by decide) rfl rfl ⟨rfl, rfl⟩ ⟨Nat.zero_le _, Nat.zero_le _⟩ (zkv (fun μ3 h => ?_))
        refine zw_aload_n (pc := 37) (n := 0) (i := 0) 0 (by decide +kernel) rfl rfl ?_
        refine zx_getR (pc := 38) (o := 188) (r := 188) zf_10_52 (by decide +kernel) rfl zc_0 rfl (by decide) rfl ?_
        refine zx_getI (pc := 41) zf_10_275 (by decide +kernel) rfl zc_188 ?_
        exact zw_iret (pc := 44) (by decide +kernel) rfl (Nat.le_refl _) (Nat.le_refl _) ⟨_, _, rfl, rfl, h⟩
      · replace h := h.2 hc
        refine zw_bipush (pc := 26) (n := (-3)) (by decide +kernel) (by decide +kernel) ?_
        exact zw_iret (pc := 28) (by decide +kernel) rfl (Nat.le_refl _) (Nat.le_refl _) ⟨_, _, rfl, rfl, h⟩
    · replace h := h.2 hc
      refine zw_bipush (pc := 11) (n := (-2)) (by decide +kernel) (by decide +kernel) ?_
      exact zw_iret (pc := 13) (by decide +kernel) rfl (Nat.le_refl _) (Nat.le_refl _) ⟨_, _, rfl, rfl, h⟩
abbrev at_X10_deeds_41 (g : zG) (φ : Int → zMu → Prop) (v3 : Int) (v4 : Int) (μ : zMu) : Prop := zWP g zm_X10_deeds (zmo g zm_X10_deeds (zΦi φ)) 41 [(0, .ref 0), (3, .int (zJ v3)), (4, .int (zJ v4))] [] 0 0 (zw μ)
theorem sg_X10_deeds {g : zG} {φ : Int → zMu → Prop} {μ : zMu}
    (h : zOi g zm_X5_parse [.ref 190, .ref 188] μ (fun x2 μ1 => zOv g zm_X8_clear [.ref 188] μ1 (fun μ3 => (zR x2) ∧ ((¬ x2 = 0 → at_X10_deeds_41 g φ 0 0 μ3) ∧ (x2 = 0 → φ ((-100) - (μ1 188 2)) μ3))))) : zOi g zm_X10_deeds [.ref 0] μ φ := by
  refine zok_of (by decide +kernel) rfl ?_
  show zWP g zm_X10_deeds (zmo g zm_X10_deeds (zΦi φ)) 0 [(0, .ref 0)] [] 0 0 (zw μ)
  refine zw_aload_n (pc := 0) (n := 0) (i := 0) 0 (by decide +kernel) rfl rfl ?_
  refine zx_getR (pc := 1) (o := 190) (r := 190) zf_10_59 (by decide +kernel) rfl zc_0 rfl (by decide) rfl ?_
  refine zw_aload_n (pc := 4) (n := 0) (i := 0) 0 (by decide +kernel) rfl rfl ?_
  refine zx_getR (pc := 5) (o := 188) (r := 188) zf_10_52 (by decide +kernel) rfl zc_0 rfl (by decide) rfl ?_
  refine zx_callV (pc := 8) (As := [.ref 188]) h zi_X5_parse zii_X5_parse zie_X5_parse zl_10_279 (by decide +kernel) ⟨Nat.le_of_ble_eq_true rfl, Nat.le_of_ble_eq_true rfl⟩ rfl zc_190 (by decide) rfl rfl ⟨rfl, rfl⟩ ⟨Nat.zero_le _, Nat.zero_le _⟩ (zki (fun x2 μ1 h => ?_))
  refine zw_istore_n (pc := 11) (n := 1) (i := 1) (lv' := [(0, .ref 0), (1, .int (zJ x2))]) (by decide +kernel) rfl (Nat.le_of_ble_eq_true rfl) rfl ?_
  refine zw_aload_n (pc := 12) (n := 0) (i := 0) 0 (by decide +kernel) rfl rfl ?_
  refine zx_getR (pc := 13) (o := 188) (r := 188) zf_10_52 (by decide +kernel) rfl zc_0 rfl (by decide) rfl ?_
  refine zx_getI (pc := 16) zf_10_283 (by decide +kernel) rfl zc_188 ?_
  refine zw_istore_n (pc := 19) (n := 2) (i := 2) (lv' := [(0, .ref 0), (1, .int (zJ x2)), (2, .int (zJ (μ1 188 2)))]) (by decide +kernel) rfl (Nat.le_of_ble_eq_true rfl) rfl ?_
  refine zw_aload_n (pc := 20) (n := 0) (i := 0) 0 (by decide +kernel) rfl rfl ?_
  refine zx_getR (pc := 21) (o := 188) (r := 188) zf_10_52 (by decide +kernel) rfl zc_0 rfl (by decide) rfl ?_
  refine zx_callV (pc := 24) (As := []) h zi_X8_clear zii_X8_clear zie_X8_clear zl_10_286 (by decide +kernel) ⟨Nat.le_of_ble_eq_true rfl, Nat.le_of_ble_eq_true rfl⟩ rfl zc_188 (by decide) rfl rfl ⟨rfl, rfl⟩ ⟨Nat.zero_le _, Nat.zero_le _⟩ (zkv (fun μ3 h => ?_))
  obtain ⟨o4, h⟩ := h
  refine zw_iload_n (pc := 27) (n := 1) (i := 1) 1 (by decide +kernel) rfl rfl ?_
  refine zw_if_ne (pc := 28) (off := 8) (tgt := 36) (by decide +kernel) (by decide) o4 (fun hc => ?_) (fun hc => ?_)
  · replace h := h.1 hc
    refine zw_iconst (pc := 36) (n := 0) (by decide +kernel) ?_
    refine zw_istore_n (pc := 37) (n := 3) (i := 3) (lv' := [(0, .ref 0), (1, .int (zJ x2)), (2, .int (zJ (μ1 188 2))), (3, .int (zJ 0))]) (by decide +kernel) rfl (Nat.le_of_ble_eq_true rfl) rfl ?_
    refine zw_iconst (pc := 38) (n := 0) (by decide +kernel) ?_
    refine zw_istore (pc := 39) (i := 4) (lv' := [(0, .ref 0), (1, .int (zJ x2)), (2, .int (zJ (μ1 188 2))), (3, .int (zJ 0)), (4, .int (zJ 0))]) (by decide +kernel) (Nat.le_of_ble_eq_true rfl) rfl ?_
    exact zw_pick (lv' := [(0, .ref 0), (3, .int (zJ 0)), (4, .int (zJ 0))]) [0, 3, 4] rfl h
  · replace h := h.2 hc
    refine zw_bipush (pc := 31) (n := (-100)) (by decide +kernel) (by decide +kernel) ?_
    refine zw_iload_n (pc := 33) (n := 2) (i := 2) 2 (by decide +kernel) rfl rfl ?_
    refine zw_isub (pc := 34) (by decide +kernel) ?_
    exact zw_iret (pc := 35) (by decide +kernel) rfl (Nat.le_refl _) (Nat.le_refl _) ⟨_, _, rfl, rfl, h⟩
theorem sg_X10_deeds_41 {g : zG} {φ : Int → zMu → Prop} {v3 : Int} {v4 : Int} {μ : zMu}
    (h : (zR v4) ∧ (zR (μ 190 2)) ∧ (((μ 190 2) ≤ v4 → φ v3 μ) ∧ (v4 < (μ 190 2) → zOi g zm_X10_carryOut [.ref 0, .int (zJ v4)] μ (fun x4 μ3 => (zR x4) ∧ ((x4 < 0 → at_X10_deeds_41 g φ v3 (v4 + 1) μ3) ∧ (0 ≤ x4 → at_X10_deeds_41 g φ (v3 + 1) (v4 + 1) μ3)))))) : at_X10_deeds_41 g φ v3 v4 μ := by
  obtain ⟨o1, o2, h⟩ := h
  refine zw_iload (pc := 41) (i := 4) 2 (by decide +kernel) rfl ?_
  refine zw_aload_n (pc := 43) (n := 0) (i := 0) 0 (by decide +kernel) rfl rfl ?_
  refine zx_getR (pc := 44) (o := 190) (r := 190) zf_10_59 (by decide +kernel) rfl zc_0 rfl (by decide) rfl ?_
  refine zx_getI (pc := 47) zf_10_289 (by decide +kernel) rfl zc_190 ?_
  refine zw_icmp_ge (pc := 50) (off := 21) (tgt := 71) (by decide +kernel) (by decide) o1 o2 (fun hc => ?_) (fun hc => ?_)
  · replace h := h.1 hc
    refine zw_iload_n (pc := 71) (n := 3) (i := 3) 1 (by decide +kernel) rfl rfl ?_
    exact zw_iret (pc := 72) (by decide +kernel) rfl (Nat.le_refl _) (Nat.le_refl _) ⟨_, _, rfl, rfl, h⟩
  · replace h := h.2 hc
    refine zw_aload_n (pc := 53) (n := 0) (i := 0) 0 (by decide +kernel) rfl rfl ?_
    refine zw_iload (pc := 54) (i := 4) 2 (by decide +kernel) rfl ?_
    refine zx_callV (pc := 56) (As := [.int (zJ v4)]) h zi_X10_carryOut zii_X10_carryOut zie_X10_carryOut zl_10_292 (by decide +kernel) ⟨Nat.le_of_ble_eq_true rfl, Nat.le_of_ble_eq_true rfl⟩ rfl zc_0 (by decide) rfl rfl ⟨rfl, rfl⟩ ⟨Nat.zero_le _, Nat.zero_le _⟩ (zki (fun x4 μ3 h => ?_))
    obtain ⟨o5, h⟩ := h
    refine zw_if_lt (pc := 59) (off := 6) (tgt := 65) (by decide +kernel) (by decide) o5 (fun hc => ?_) (fun hc => ?_)
    · replace h := h.1 hc
      refine zw_iinc (pc := 65) (i := 4) (n := 1) (lv' := [(0, .ref 0), (3, .int (zJ v3)), (4, .int (zJ (v4 + 1)))]) 2 (by decide +kernel) rfl rfl (Nat.le_of_ble_eq_true rfl) rfl ?_
      refine zw_goto (pc := 68) (off := (-27)) (tgt := 41) (by decide +kernel) (by decide) ?_
      exact h
    · replace h := h.2 hc
      refine zw_iinc (pc := 62) (i := 3) (n := 1) (lv' := [(0, .ref 0), (3, .int (zJ (v3 + 1))), (4, .int (zJ v4))]) 1 (by decide +kernel) rfl rfl (Nat.le_of_ble_eq_true rfl) rfl ?_
      refine zw_iinc (pc := 65) (i := 4) (n := 1) (lv' := [(0, .ref 0), (3, .int (zJ (v3 + 1))), (4, .int (zJ (v4 + 1)))]) 2 (by decide +kernel) rfl rfl (Nat.le_of_ble_eq_true rfl) rfl ?_
      refine zw_goto (pc := 68) (off := (-27)) (tgt := 41) (by decide +kernel) (by decide) ?_
      exact h
theorem sg_X10_carryOut {g : zG} {φ : Int → zMu → Prop} {v1 : Int} {μ : zMu}
    (h : zOi g zm_X5_numberOf [.ref 190, .int (zJ v1), .int (zJ 0)] μ (fun x2 μ1 => zOi g zm_X5_numberOf [.ref 190, .int (zJ v1), .int (zJ 1)] μ1 (fun x4 μ3 => zOi g zm_X5_numberOf [.ref 190, .int (zJ v1), .int (zJ 2)] μ3 (fun x6 μ5 => (0 ≤ v1 ∧ v1 < 100) ∧ (zR (μ5 191 v1.toNat)) ∧ (((μ5 191 v1.toNat) < 0 ∨ 7 < (μ5 191 v1.toNat) → zOi g zm_X10_keep [.ref 0, .int (zJ x2)] μ5 (fun x10 μ9 => φ x10 μ9)) ∧ ((μ5 191 v1.toNat) = 0 → zOi g zm_X10_prime [.ref 0, .int (zJ x2)] μ5 (fun x13 μ12 => φ x13 μ12)) ∧ ((μ5 191 v1.toNat) = 1 → zOi g zm_X10_j [.ref 0, .int (zJ x2), .int (zJ x4)] μ5 (fun x15 μ14 => φ x15 μ14)) ∧ ((μ5 191 v1.toNat) = 2 → zOi g zm_X10_sum [.ref 0, .int (zJ x2), .int (zJ x4), .int (zJ x6)] μ5 (fun x17 μ16 => φ x17 μ16)) ∧ ((μ5 191 v1.toNat) = 3 → zOi g zm_X10_times [.ref 0, .int (zJ x2), .int (zJ x4), .int (zJ x6)] μ5 (fun x19 μ18 => φ x19 μ18)) ∧ ((μ5 191 v1.toNat) = 4 → zOi g zm_X10_stretch [.ref 0, .int (zJ x2), .int (zJ x4), .int (zJ x6)] μ5 (fun x21 μ20 => φ x21 μ20)) ∧ ((μ5 191 v1.toNat) = 5 → zOi g zm_X10_over [.ref 0, .int (zJ x2), .int (zJ x4)] μ5 (fun x23 μ22 => φ x23 μ22)) ∧ ((μ5 191 v1.toNat) = 6 → zOi g zm_X10_power [.ref 0, .int (zJ x2), .int (zJ x4), .int (zJ x6)] μ5 (fun x25 μ24 => φ x25 μ24)) ∧ ((μ5 191 v1.toNat) = 7 → zOi g zm_X5_numberOf [.ref 190, .int (zJ v1), .int (zJ 3)] μ5 (fun x27 μ26 => zOi g zm_X10_find [.ref 0, .int (zJ x2), .int (zJ x4), .int (zJ x6), .int (zJ x27)] μ26 (fun x29 μ28 => φ x29 μ28)))))))) : zOi g zm_X10_carryOut [.ref 0, .int (zJ v1)] μ φ := by
  refine zok_of (by decide +kernel) rfl ?_
  show zWP g zm_X10_carryOut (zmo g zm_X10_carryOut (zΦi φ)) 0 [(0, .ref 0), (1, .int (zJ v1))] [] 0 0 (zw μ)
  refine zw_aload_n (pc := 0) (n := 0) (i := 0) 0 (by decide +kernel) rfl rfl ?_
  refine zx_getR (pc := 1) (o := 190) (r := 190) zf_10_59 (by decide +kernel) rfl zc_0 rfl (by decide) rfl ?_
  refine zw_iload_n (pc := 4) (n := 1) (i := 1) 1 (by decide +kernel) rfl rfl ?_
  refine zw_iconst (pc := 5) (n := 0) (by decide +kernel) ?_
  refine zx_callV (pc := 6) (As := [.int (zJ v1), .int (zJ 0)]) h zi_X5_numberOf zii_X5_numberOf zie_X5_numberOf zl_10_295 (by decide +kernel) ⟨Nat.le_of_ble_eq_true rfl, Nat.le_of_ble_eq_true rfl⟩ rfl zc_190 (by decide) rfl rfl ⟨rfl, rfl⟩ ⟨Nat.zero_le _, Nat.zero_le _⟩ (zki (fun x2 μ1 h => ?_))
  refine zw_istore_n (pc := 9) (n := 2) (i := 2) (lv' := [(0, .ref 0), (1, .int (zJ v1)), (2, .int (zJ x2))]) (by decide +kernel) rfl (Nat.le_of_ble_eq_true rfl) rfl ?_
  refine zw_aload_n (pc := 10) (n := 0) (i := 0) 0 (by decide +kernel) rfl rfl ?_
  refine zx_getR (pc := 11) (o := 190) (r := 190) zf_10_59 (by decide +kernel) rfl zc_0 rfl (by decide) rfl ?_
  refine zw_iload_n (pc := 14) (n := 1) (i := 1) 1 (by decide +kernel) rfl rfl ?_
  refine zw_iconst (pc := 15) (n := 1) (by decide +kernel) ?_
  refine zx_callV (pc := 16) (As := [.int (zJ v1), .int (zJ 1)]) h zi_X5_numberOf zii_X5_numberOf zie_X5_numberOf zl_10_295 (by decide +kernel) ⟨Nat.le_of_ble_eq_true rfl, Nat.le_of_ble_eq_true rfl⟩ rfl zc_190 (by decide) rfl rfl ⟨rfl, rfl⟩ ⟨Nat.zero_le _, Nat.zero_le _⟩ (zki (fun x4 μ3 h => ?_))
  refine zw_istore_n (pc := 19) (n := 3) (i := 3) (lv' := [(0, .ref 0), (1, .int (zJ v1)), (2, .int (zJ x2)), (3, .int (zJ x4))]) (by decide +kernel) rfl (Nat.le_of_ble_eq_true rfl) rfl ?_
  refine zw_aload_n (pc := 20) (n := 0) (i := 0) 0 (by decide +kernel) rfl rfl ?_
  refine zx_getR (pc := 21) (o := 190) (r := 190) zf_10_59 (by decide +kernel) rfl zc_0 rfl (by decide) rfl ?_
  refine zw_iload_n (pc := 24) (n := 1) (i := 1) 1 (by decide +kernel) rfl rfl ?_
  refine zw_iconst (pc := 25) (n := 2) (by decide +kernel) ?_
  refine zx_callV (pc := 26) (As := [.int (zJ v1), .int (zJ 2)]) h zi_X5_numberOf zii_X5_numberOf zie_X5_numberOf zl_10_295 (by decide +kernel) ⟨Nat.le_of_ble_eq_true rfl, Nat.le_of_ble_eq_true rfl⟩ rfl zc_190 (by decide) rfl rfl ⟨rfl, rfl⟩ ⟨Nat.zero_le _, Nat.zero_le _⟩ (zki (fun x6 μ5 h => ?_))
  obtain ⟨o7, o8, h⟩ := h
  refine zw_istore (pc := 29) (i := 4) (lv' := [(0, .ref 0), (1, .int (zJ v1)), (2, .int (zJ x2)), (3, .int (zJ x4)), (4, .int (zJ x6))]) (by decide +kernel) (Nat.le_of_ble_eq_true rfl) rfl ?_
  refine zw_aload_n (pc := 31) (n := 0) (i := 0) 0 (by decide +kernel) rfl rfl ?_
  refine zx_getR (pc := 32) (o := 190) (r := 190) zf_10_59 (by decide +kernel) rfl zc_0 rfl (by decide) rfl ?_
  refine zx_getR (pc := 35) (o := 1) (r := 191) zf_10_298 (by decide +kernel) rfl zc_190 rfl (by decide) rfl ?_
  refine zw_iload_n (pc := 38) (n := 1) (i := 1) 1 (by decide +kernel) rfl rfl ?_
  refine zx_iaload (pc := 39) (by decide +kernel) ⟨100, zc_191, o7.1, o7.2⟩ ?_
  by_cases e11 : (μ5 191 v1.toNat) < 0 ∨ 7 < (μ5 191 v1.toNat)
  · replace h := h.1 e11
    refine zw_swOut (pc := 40) (tgt := 162) (by decide +kernel : decode zm_X10_carryOut.2.1 40 = .ok (.tableswitch 122 0 7 #[48, 54, 61, 70, 79, 88, 95, 104], 48)) o8 e11 (by decide) ?_
    refine zw_aload_n (pc := 162) (n := 0) (i := 0) 0 (by decide +kernel) rfl rfl ?_
    refine zw_iload_n (pc := 163) (n := 2) (i := 2) 2 (by decide +kernel) rfl rfl ?_
    refine zx_callV (pc := 164) (As := [.int (zJ x2)]) h zi_X10_keep zii_X10_keep zie_X10_keep zl_10_326 (by decide +kernel) ⟨Nat.le_of_ble_eq_true rfl, Nat.le_of_ble_eq_true rfl⟩ rfl zc_0 (by decide) rfl rfl ⟨rfl, rfl⟩ ⟨Nat.zero_le _, Nat.zero_le _⟩ (zki (fun x10 μ9 h => ?_))
    exact zw_iret (pc := 167) (by decide +kernel) rfl (Nat.le_refl _) (Nat.le_refl _) ⟨_, _, rfl, rfl, h⟩
  · replace h := h.2
    rcases (show (μ5 191 v1.toNat) = 0 ∨ (μ5 191 v1.toNat) = 1 ∨ (μ5 191 v1.toNat) = 2 ∨ (μ5 191 v1.toNat) = 3 ∨ (μ5 191 v1.toNat) = 4 ∨ (μ5 191 v1.toNat) = 5 ∨ (μ5 191 v1.toNat) = 6 ∨ (μ5 191 v1.toNat) = 7 by omega) with e11 | e11 | e11 | e11 | e11 | e11 | e11 | e11
    · replace h := h.1 e11
      refine zw_swIn (pc := 40) (off := 48) (tgt := 88) (by decide +kernel : decode zm_X10_carryOut.2.1 40 = .ok (.tableswitch 122 0 7 #[48, 54, 61, 70, 79, 88, 95, 104], 48)) o8 (by omega) (by omega) (by rw [e11]; rfl) (by decide) ?_
      refine zw_aload_n (pc := 88) (n := 0) (i := 0) 0 (by decide +kernel) rfl rfl ?_
      refine zw_iload_n (pc := 89) (n := 2) (i := 2) 2 (by decide +kernel) rfl rfl ?_
      refine zx_callV (pc := 90) (As := [.int (zJ x2)]) h zi_X10_prime zii_X10_prime zie_X10_prime zl_10_301 (by decide +kernel) ⟨Nat.le_of_ble_eq_true rfl, Nat.le_of_ble_eq_true rfl⟩ rfl zc_0 (by decide) rfl rfl ⟨rfl, rfl⟩ ⟨Nat.zero_le _, Nat.zero_le _⟩ (zki (fun x13 μ12 h => ?_))
      exact zw_iret (pc := 93) (by decide +kernel) rfl (Nat.le_refl _) (Nat.le_refl _) ⟨_, _, rfl, rfl, h⟩
    · replace h := h.2.1 e11
      refine zw_swIn (pc := 40) (off := 54) (tgt := 94) (by decide +kernel : decode zm_X10_carryOut.2.1 40 = .ok (.tableswitch 122 0 7 #[48, 54, 61, 70, 79, 88, 95, 104], 48)) o8 (by omega) (by omega) (by rw [e11]; rfl) (by decide) ?_
      refine zw_aload_n (pc := 94) (n := 0) (i := 0) 0 (by decide +kernel) rfl rfl ?_
      refine zw_iload_n (pc := 95) (n := 2) (i := 2) 2 (by decide +kernel) rfl rfl ?_
      refine zw_iload_n (pc := 96) (n := 3) (i := 3) 3 (by decide +kernel) rfl rfl ?_
      refine zx_callV (pc := 97) (As := [.int (zJ x2), .int (zJ x4)]) h zi_X10_j zii_X10_j zie_X10_j zl_10_304 (by decide +kernel) ⟨Nat.le_of_ble_eq_true rfl, Nat.le_of_ble_eq_true rfl⟩ rfl zc_0 (by decide) rfl rfl ⟨rfl, rfl⟩ ⟨Nat.zero_le _, Nat.zero_le _⟩ (zki (fun x15 μ14 h => ?_))
      exact zw_iret (pc := 100) (by decide +kernel) rfl (Nat.le_refl _) (Nat.le_refl _) ⟨_, _, rfl, rfl, h⟩
    · replace h := h.2.2.1 e11
      refine zw_swIn (pc := 40) (off := 61) (tgt := 101) (by decide +kernel : decode zm_X10_carryOut.2.1 40 = .ok (.tableswitch 122 0 7 #[48, 54, 61, 70, 79, 88, 95, 104], 48)) o8 (by omega) (by omega) (by rw [e11]; rfl) (by decide) ?_
      refine zw_aload_n (pc := 101) (n := 0) (i := 0) 0 (by decide +kernel) rfl rfl ?_
      refine zw_iload_n (pc := 102) (n := 2) (i := 2) 2 (by decide +kernel) rfl rfl ?_
      refine zw_iload_n (pc := 103) (n := 3) (i := 3) 3 (by decide +kernel) rfl rfl ?_
      refine zw_iload (pc := 104) (i := 4) 4 (by decide +kernel) rfl ?_
      refine zx_callV (pc := 106) (As := [.int (zJ x2), .int (zJ x4), .int (zJ x6)]) h zi_X10_sum zii_X10_sum zie_X10_sum zl_10_307 (by decide +kernel) ⟨Nat.le_of_ble_eq_true rfl, Nat.le_of_ble_eq_true rfl⟩ rfl zc_0 (by decide) rfl rfl ⟨rfl, rfl⟩ ⟨Nat.zero_le _, Nat.zero_le _⟩ (zki (fun x17 μ16 h => ?_))
      exact zw_iret (pc := 109) (by decide +kernel) rfl (Nat.le_refl _) (Nat.le_refl _) ⟨_, _, rfl, rfl, h⟩
    · replace h := h.2.2.2.1 e11
      refine zw_swIn (pc := 40) (off := 70) (tgt := 110) (by decide +kernel : decode zm_X10_carryOut.2.1 40 = .ok (.tableswitch 122 0 7 #[48, 54, 61, 70, 79, 88, 95, 104], 48)) o8 (by omega) (by omega) (by rw [e11]; rfl) (by decide) ?_
      refine zw_aload_n (pc := 110) (n := 0) (i := 0) 0 (by decide +kernel) rfl rfl ?_
      refine zw_iload_n (pc := 111) (n := 2) (i := 2) 2 (by decide +kernel) rfl rfl ?_
      refine zw_iload_n (pc := 112) (n := 3) (i := 3) 3 (by decide +kernel) rfl rfl ?_
      refine zw_iload (pc := 113) (i := 4) 4 (by decide +kernel) rfl ?_
      refine zx_callV (pc := 115) (As := [.int (zJ x2), .int (zJ x4), .int (zJ x6)]) h zi_X10_times zii_X10_times zie_X10_times zl_10_310 (by decide +kernel) ⟨Nat.le_of_ble_eq_true rfl, Nat.le_of_ble_eq_true rfl⟩ rfl zc_0 (by decide) rfl rfl ⟨rfl, rfl⟩ ⟨Nat.zero_le _, Nat.zero_le _⟩ (zki (fun x19 μ18 h => ?_))
      exact zw_iret (pc := 118) (by decide +kernel) rfl (Nat.le_refl _) (Nat.le_refl _) ⟨_, _, rfl, rfl, h⟩
    · replace h := h.2.2.2.2.1 e11
      refine zw_swIn (pc := 40) (off := 79) (tgt := 119) (by decide +kernel : decode zm_X10_carryOut.2.1 40 = .ok (.tableswitch 122 0 7 #[48, 54, 61, 70, 79, 88, 95, 104], 48)) o8 (by omega) (by omega) (by rw [e11]; rfl) (by decide) ?_
      refine zw_aload_n (pc := 119) (n := 0) (i := 0) 0 (by decide +kernel) rfl rfl ?_
      refine zw_iload_n (pc := 120) (n := 2) (i := 2) 2 (by decide +kernel) rfl rfl ?_
      refine zw_iload_n (pc := 121) (n := 3) (i := 3) 3 (by decide +kernel) rfl rfl ?_
      refine zw_iload (pc := 122) (i := 4) 4 (by decide +kernel) rfl ?_
      refine zx_callV (pc := 124) (As := [.int (zJ x2), .int (zJ x4), .int (zJ x6)]) h zi_X10_stretch zii_X10_stretch zie_X10_stretch zl_10_313 (by decide +kernel) ⟨Nat.le_of_ble_eq_true rfl, Nat.le_of_ble_eq_true rfl⟩ rfl zc_0 (by decide) rfl rfl ⟨rfl, rfl⟩ ⟨Nat.zero_le _, Nat.zero_le _⟩ (zki (fun x21 μ20 h => ?_))
      exact zw_iret (pc := 127) (by decide +kernel) rfl (Nat.le_refl _) (Nat.le_refl _) ⟨_, _, rfl, rfl, h⟩
    · replace h := h.2.2.2.2.2.1 e11
      refine zw_swIn (pc := 40) (off := 88) (tgt := 128) (by decide +kernel : decode zm_X10_carryOut.2.1 40 = .ok (.tableswitch 122 0 7 #[48, 54, 61, 70, 79, 88, 95, 104], 48)) o8 (by omega) (by omega) (by rw [e11]; rfl) (by decide) ?_
      refine zw_aload_n (pc := 128) (n := 0) (i := 0) 0 (by decide +kernel) rfl rfl ?_
      refine zw_iload_n (pc := 129) (n := 2) (i := 2) 2 (by decide +kernel) rfl rfl ?_
      refine zw_iload_n (pc := 130) (n := 3) (i := 3) 3 (by decide +kernel) rfl rfl ?_
      refine zx_callV (pc := 131) (As := [.int (zJ x2), .int (zJ x4)]) h zi_X10_over zii_X10_over zie_X10_over zl_10_316 (by decide +kernel) ⟨Nat.le_of_ble_eq_true rfl, Nat.le_of_ble_eq_true rfl⟩ rfl zc_0 (by decide) rfl rfl ⟨rfl, rfl⟩ ⟨Nat.zero_le _, Nat.zero_le _⟩ (zki (fun x23 μ22 h => ?_))
      exact zw_iret (pc := 134) (by decide +kernel) rfl (Nat.le_refl _) (Nat.le_refl _) ⟨_, _, rfl, rfl, h⟩
    · replace h := h.2.2.2.2.2.2.1 e11
      refine zw_swIn (pc := 40) (off := 95) (tgt := 135) (by decide +kernel : decode zm_X10_carryOut.2.1 40 = .ok (.tableswitch 122 0 7 #[48, 54, 61, 70, 79, 88, 95, 104], 48)) o8 (by omega) (by omega) (by rw [e11]; rfl) (by decide) ?_
      refine zw_aload_n (pc := 135) (n := 0) (i := 0) 0 (by decide +kernel) rfl rfl ?_
      refine zw_iload_n (pc := 136) (n := 2) (i := 2) 2 (by decide +kernel) rfl rfl ?_
      refine zw_iload_n (pc := 137) (n := 3) (i := 3) 3 (by decide +kernel) rfl rfl ?_
      refine zw_iload (pc := 138) (i := 4) 4 (by decide +kernel) rfl ?_
      refine zx_callV (pc := 140) (As := [.int (zJ x2), .int (zJ x4), .int (zJ x6)]) h zi_X10_power zii_X10_power zie_X10_power zl_10_319 (by decide +kernel) ⟨Nat.le_of_ble_eq_true rfl, Nat.le_of_ble_eq_true rfl⟩ rfl zc_0 (by decide) rfl rfl ⟨rfl, rfl⟩ ⟨Nat.zero_le _, Nat.zero_le _⟩ (zki (fun x25 μ24 h => ?_))
      exact zw_iret (pc := 143) (by decide +kernel) rfl (Nat.le_refl _) (Nat.le_refl _) ⟨_, _, rfl, rfl, h⟩
    · replace h := h.2.2.2.2.2.2.2 e11
      refine zw_swIn (pc := 40) (off := 104) (tgt := 144) (by decide +kernel : decode zm_X10_carryOut.2.1 40 = .ok (.tableswitch 122 0 7 #[48, 54, 61, 70, 79, 88, 95, 104], 48)) o8 (by omega) (by omega) (by rw [e11]; rfl) (by decide) ?_
      refine zw_aload_n (pc := 144) (n := 0) (i := 0) 0 (by decide +kernel) rfl rfl ?_
      refine zw_iload_n (pc := 145) (n := 2) (i := 2) 2 (by decide +kernel) rfl rfl ?_
      refine zw_iload_n (pc := 146) (n := 3) (i := 3) 3 (by decide +kernel) rfl rfl ?_
      refine zw_iload (pc := 147) (i := 4) 4 (by decide +kernel) rfl ?_
      refine zw_aload_n (pc := 149) (n := 0) (i := 0) 0 (by decide +kernel) rfl rfl ?_
      refine zx_getR (pc := 150) (o := 190) (r := 190) zf_10_59 (by decide +kernel) rfl zc_0 rfl (by decide) rfl ?_
      refine zw_iload_n (pc := 153) (n := 1) (i := 1) 1 (by decide +kernel) rfl rfl ?_
      refine zw_iconst (pc := 154) (n := 3) (by decide +kernel) ?_
      refine zx_callV (pc := 155) (As := [.int (zJ v1), .int (zJ 3)]) h zi_X5_numberOf zii_X5_numberOf zie_X5_numberOf zl_10_295 (by decide +kernel) ⟨Nat.le_of_ble_eq_true rfl, Nat.le_of_ble_eq_true rfl⟩ rfl zc_190 (by decide) rfl rfl ⟨rfl, rfl⟩ ⟨Nat.zero_le _, Nat.zero_le _⟩ (zki (fun x27 μ26 h => ?_))
      refine zx_callV (pc := 158) (As := [.int (zJ x2), .int (zJ x4), .int (zJ x6), .int (zJ x27)]) h zi_X10_find zii_X10_find zie_X10_find zl_10_322 (by decide +kernel) ⟨Nat.le_of_ble_eq_true rfl, Nat.le_of_ble_eq_true rfl⟩ rfl zc_0 (by decide) rfl rfl ⟨rfl, rfl⟩ ⟨Nat.zero_le _, Nat.zero_le _⟩ (zki (fun x29 μ28 h => ?_))
      exact zw_iret (pc := 161) (by decide +kernel) rfl (Nat.le_refl _) (Nat.le_refl _) ⟨_, _, rfl, rfl, h⟩
theorem sg_X10_read {g : zG} {φ : Int → zMu → Prop} {μ : zMu}
    (h : zOi g zm_X4_parse [.ref 193, .ref 188, .int (zJ (μ 1 0))] μ (fun x2 μ1 => zOv g zm_X8_clear [.ref 188] μ1 (fun μ3 => (zR x2) ∧ ((¬ x2 = 0 → zOv g zm_X3_copyFrom [.ref 3, .ref 194] μ3 (fun μ5 => zOv g zm_X2_forget [.ref 182] μ5 (fun μ6 => φ (μ6 3 1) μ6))) ∧ (x2 = 0 → φ ((-100) - (μ1 188 2)) μ3))))) : zOi g zm_X10_read [.ref 0] μ φ := by
  refine zok_of (by decide +kernel) rfl ?_
  show zWP g zm_X10_read (zmo g zm_X10_read (zΦi φ)) 0 [(0, .ref 0)] [] 0 0 (zw μ)
  refine zw_aload_n (pc := 0) (n := 0) (i := 0) 0 (by decide +kernel) rfl rfl ?_
  refine zx_getR (pc := 1) (o := 193) (r := 193) zf_10_66 (by decide +kernel) rfl zc_0 rfl (by decide) rfl ?_
  refine zw_aload_n (pc := 4) (n := 0) (i := 0) 0 (by decide +kernel) rfl rfl ?_
  refine zx_getR (pc := 5) (o := 188) (r := 188) zf_10_52 (by decide +kernel) rfl zc_0 rfl (by decide) rfl ?_
  refine zw_aload_n (pc := 8) (n := 0) (i := 0) 0 (by decide +kernel) rfl rfl ?_
  refine zx_getR (pc := 9) (o := 1) (r := 1) zf_10_14 (by decide +kernel) rfl zc_0 rfl (by decide) rfl ?_
  refine zx_getI (pc := 12) zf_10_89 (by decide +kernel) rfl zc_1 ?_
  refine zx_callV (pc := 15) (As := [.ref 188, .int (zJ (μ 1 0))]) h zi_X4_parse zii_X4_parse zie_X4_parse zl_10_329 (by decide +kernel) ⟨Nat.le_of_ble_eq_true rfl, Nat.le_of_ble_eq_true rfl⟩ rfl zc_193 (by decide) rfl rfl ⟨rfl, rfl⟩ ⟨Nat.zero_le _, Nat.zero_le _⟩ (zki (fun x2 μ1 h => ?_))
  refine zw_istore_n (pc := 18) (n := 1) (i := 1) (lv' := [(0, .ref 0), (1, .int (zJ x2))]) (by decide +kernel) rfl (Nat.le_of_ble_eq_true rfl) rfl ?_
  refine zw_aload_n (pc := 19) (n := 0) (i := 0) 0 (by decide +kernel) rfl rfl ?_
  refine zx_getR (pc := 20) (o := 188) (r := 188) zf_10_52 (by decide +kernel) rfl zc_0 rfl (by decide) rfl ?_
  refine zx_getI (pc := 23) zf_10_283 (by decide +kernel) rfl zc_188 ?_
  refine zw_istore_n (pc := 26) (n := 2) (i := 2) (lv' := [(0, .ref 0), (1, .int (zJ x2)), (2, .int (zJ (μ1 188 2)))]) (by decide +kernel) rfl (Nat.le_of_ble_eq_true rfl) rfl ?_
  refine zw_aload_n (pc := 27) (n := 0) (i := 0) 0 (by decide +kernel) rfl rfl ?_
  refine zx_getR (pc := 28) (o := 188) (r := 188) zf_10_52 (by decide +kernel) rfl zc_0 rfl (by decide) rfl ?_
  refine zx_callV (pc := 31) (As := []) h zi_X8_clear zii_X8_clear zie_X8_clear zl_10_286 (by decide +kernel) ⟨Nat.le_of_ble_eq_true rfl, Nat.le_of_ble_eq_true rfl⟩ rfl zc_188 (by decide) rfl rfl ⟨rfl, rfl⟩ ⟨Nat.zero_le _, Nat.zero_le _⟩ (zkv (fun μ3 h => ?_))
  obtain ⟨o4, h⟩ := h
  refine zw_iload_n (pc := 34) (n := 1) (i := 1) 1 (by decide +kernel) rfl rfl ?_
  refine zw_if_ne (pc := 35) (off := 8) (tgt := 43) (by decide +kernel) (by decide) o4 (fun hc => ?_) (fun hc => ?_)
  · replace h := h.1 hc
    refine zw_aload_n (pc := 43) (n := 0) (i := 0) 0 (by decide +kernel) rfl rfl ?_
    refine zx_getR (pc := 44) (o := 1) (r := 1) zf_10_14 (by decide +kernel) rfl zc_0 rfl (by decide) rfl ?_
    refine zx_getR (pc := 47) (o := 2) (r := 3) zf_10_174 (by decide +kernel) rfl zc_1 rfl (by decide) rfl ?_
    refine zw_aload_n (pc := 50) (n := 0) (i := 0) 0 (by decide +kernel) rfl rfl ?_
    refine zx_getR (pc := 51) (o := 193) (r := 193) zf_10_66 (by decide +kernel) rfl zc_0 rfl (by decide) rfl ?_
    refine zx_getR (pc := 54) (o := 1) (r := 194) zf_10_332 (by decide +kernel) rfl zc_193 rfl (by decide) rfl ?_
    refine zx_callV (pc := 57) (As := [.ref 194]) h zi_X3_copyFrom zii_X3_copyFrom zie_X3_copyFrom zl_10_253 (by decide +kernel) ⟨Nat.le_of_ble_eq_true rfl, Nat.le_of_ble_eq_true rfl⟩ rfl zc_3 (by decide) rfl rfl ⟨rfl, rfl⟩ ⟨Nat.zero_le _, Nat.zero_le _⟩ (zkv (fun μ5 h => ?_))
    refine zw_aload_n (pc := 60) (n := 0) (i := 0) 0 (by decide +kernel) rfl rfl ?_
    refine zx_getR (pc := 61) (o := 182) (r := 182) zf_10_45 (by decide +kernel) rfl zc_0 rfl (by decide) rfl ?_
    refine zx_callV (pc := 64) (As := []) h zi_X2_forget zii_X2_forget zie_X2_forget zl_10_97 (by decide +kernel) ⟨Nat.le_of_ble_eq_true rfl, Nat.le_of_ble_eq_true rfl⟩ rfl zc_182 (by decide) rfl rfl ⟨rfl, rfl⟩ ⟨Nat.zero_le _, Nat.zero_le _⟩ (zkv (fun μ6 h => ?_))
    refine zw_aload_n (pc := 67) (n := 0) (i := 0) 0 (by decide +kernel) rfl rfl ?_
    refine zx_getR (pc := 68) (o := 1) (r := 1) zf_10_14 (by decide +kernel) rfl zc_0 rfl (by decide) rfl ?_
    refine zx_getR (pc := 71) (o := 2) (r := 3) zf_10_174 (by decide +kernel) rfl zc_1 rfl (by decide) rfl ?_
    refine zx_getI (pc := 74) zf_10_185 (by decide +kernel) rfl zc_3 ?_
    exact zw_iret (pc := 77) (by decide +kernel) rfl (Nat.le_refl _) (Nat.le_refl _) ⟨_, _, rfl, rfl, h⟩
  · replace h := h.2 hc
    refine zw_bipush (pc := 38) (n := (-100)) (by decide +kernel) (by decide +kernel) ?_
    refine zw_iload_n (pc := 40) (n := 2) (i := 2) 2 (by decide +kernel) rfl rfl ?_
    refine zw_isub (pc := 41) (by decide +kernel) ?_
    exact zw_iret (pc := 42) (by decide +kernel) rfl (Nat.le_refl _) (Nat.le_refl _) ⟨_, _, rfl, rfl, h⟩
theorem sg_X10_write {g : zG} {φ : Int → zMu → Prop} {μ : zMu}
    (h : zOi g zm_X3_isMissing [.ref 3] μ (fun x2 μ1 => (zR x2) ∧ ((x2 = 0 → zOv g zm_X4_putDown [.ref 193, .ref 3] μ1 (fun μ4 => φ (μ4 193 2) μ4)) ∧ (¬ x2 = 0 → φ (-11) μ1)))) : zOi g zm_X10_write [.ref 0] μ φ := by
  refine zok_of (by decide +kernel) rfl ?_
  show zWP g zm_X10_write (zmo g zm_X10_write (zΦi φ)) 0 [(0, .ref 0)] [] 0 0 (zw μ)
  refine zw_aload_n (pc := 0) (n := 0) (i := 0) 0 (by decide +kernel) rfl rfl ?_
  refine zx_getR (pc := 1) (o := 1) (r := 1) zf_10_14 (by decide +kernel) rfl zc_0 rfl (by decide) rfl ?_
  refine zx_getR (pc := 4) (o := 2) (r := 3) zf_10_174 (by decide +kernel) rfl zc_1 rfl (by decide) rfl ?_
  refine zx_callV (pc := 7) (As := []) h zi_X3_isMissing zii_X3_isMissing zie_X3_isMissing zl_10_182 (by decide +kernel) ⟨Nat.le_of_ble_eq_true rfl, Nat.le_of_ble_eq_true rfl⟩ rfl zc_3 (by decide) rfl rfl ⟨rfl, rfl⟩ ⟨Nat.zero_le _, Nat.zero_le _⟩ (zki (fun x2 μ1 h => ?_))
  obtain ⟨o3, h⟩ := h
  refine zw_if_eq (pc := 10) (off := 6) (tgt := 16) (by decide +kernel) (by decide) o3 (fun hc => ?_) (fun hc => ?_)
  · replace h := h.1 hc
    refine zw_aload_n (pc := 16) (n := 0) (i := 0) 0 (by decide +kernel) rfl rfl ?_
    refine zx_getR (pc := 17) (o := 193) (r := 193) zf_10_66 (by decide +kernel) rfl zc_0 rfl (by decide) rfl ?_
    refine zw_aload_n (pc := 20) (n := 0) (i := 0) 0 (by decide +kernel) rfl rfl ?_
    refine zx_getR (pc := 21) (o := 1) (r := 1) zf_10_14 (by decide +kernel) rfl zc_0 rfl (by decide) rfl ?_
    refine zx_getR (pc := 24) (o := 2) (r := 3) zf_10_174 (by decide +kernel) rfl zc_1 rfl (by decide) rfl ?_
    refine zx_callV (pc := 27) (As := [.ref 3]) h zi_X4_putDown zii_X4_putDown zie_X4_putDown zl_10_335 (by decide +kernel) ⟨Nat.le_of_ble_eq_true rfl, Nat.le_of_ble_eq_true rfl⟩ rfl zc_193 (by decide) rfl rfl ⟨rfl, rfl⟩ ⟨Nat.zero_le _, Nat.zero_le _⟩ (zkv (fun μ4 h => ?_))
    refine zw_aload_n (pc := 30) (n := 0) (i := 0) 0 (by decide +kernel) rfl rfl ?_
    refine zx_getR (pc := 31) (o := 193) (r := 193) zf_10_66 (by decide +kernel) rfl zc_0 rfl (by decide) rfl ?_
    refine zx_getI (pc := 34) zf_10_338 (by decide +kernel) rfl zc_193 ?_
    exact zw_iret (pc := 37) (by decide +kernel) rfl (Nat.le_refl _) (Nat.le_refl _) ⟨_, _, rfl, rfl, h⟩
  · replace h := h.2 hc
    refine zw_bipush (pc := 13) (n := (-11)) (by decide +kernel) (by decide +kernel) ?_
    exact zw_iret (pc := 15) (by decide +kernel) rfl (Nat.le_refl _) (Nat.le_refl _) ⟨_, _, rfl, rfl, h⟩
theorem sg_X10_paper {g : zG} {φ : Int → zMu → Prop} {v1 : Int} {μ : zMu}
    (h : (zR v1) ∧ ((v1 < 0 → φ (-1) μ) ∧ (0 ≤ v1 → (zR (μ 193 2)) ∧ ((v1 < (μ 193 2) → (0 ≤ v1 ∧ v1 < 648) ∧ φ (μ 196 v1.toNat) μ) ∧ ((μ 193 2) ≤ v1 → φ (-1) μ))))) : zOi g zm_X10_paper [.ref 0, .int (zJ v1)] μ φ := by
  refine zok_of (by decide +kernel) rfl ?_
  show zWP g zm_X10_paper (zmo g zm_X10_paper (zΦi φ)) 0 [(0, .ref 0), (1, .int (zJ v1))] [] 0 0 (zw μ)
  obtain ⟨o1, h⟩ := h
  refine zw_iload_n (pc := 0) (n := 1) (i := 1) 1 (by decide +kernel) rfl rfl ?_
  refine zw_if_lt (pc := 1) (off := 14) (tgt := 15) (by decide +kernel) (by decide) o1 (fun hc => ?_) (fun hc => ?_)
  · replace h := h.1 hc
    refine zw_iconst (pc := 15) (n := (-1)) (by decide +kernel) ?_
    refine zw_goto (pc := 16) (off := 12) (tgt := 28) (by decide +kernel) (by decide) ?_
    exact zw_iret (pc := 28) (by decide +kernel) rfl (Nat.le_refl _) (Nat.le_refl _) ⟨_, _, rfl, rfl, h⟩
  · replace h := h.2 hc
    obtain ⟨o2, h⟩ := h
    refine zw_iload_n (pc := 4) (n := 1) (i := 1) 1 (by decide +kernel) rfl rfl ?_
    refine zw_aload_n (pc := 5) (n := 0) (i := 0) 0 (by decide +kernel) rfl rfl ?_
    refine zx_getR (pc := 6) (o := 193) (r := 193) zf_10_66 (by decide +kernel) rfl zc_0 rfl (by decide) rfl ?_
    refine zx_getI (pc := 9) zf_10_338 (by decide +kernel) rfl zc_193 ?_
    refine zw_icmp_lt (pc := 12) (off := 7) (tgt := 19) (by decide +kernel) (by decide) o1 o2 (fun hc => ?_) (fun hc => ?_)
    · replace h := h.1 hc
      obtain ⟨o3, h⟩ := h
      refine zw_aload_n (pc := 19) (n := 0) (i := 0) 0 (by decide +kernel) rfl rfl ?_
      refine zx_getR (pc := 20) (o := 193) (r := 193) zf_10_66 (by decide +kernel) rfl zc_0 rfl (by decide) rfl ?_
      refine zx_getR (pc := 23) (o := 3) (r := 196) zf_10_341 (by decide +kernel) rfl zc_193 rfl (by decide) rfl ?_
      refine zw_iload_n (pc := 26) (n := 1) (i := 1) 1 (by decide +kernel) rfl rfl ?_
      refine zx_iaload (pc := 27) (by decide +kernel) ⟨648, zc_196, o3.1, o3.2⟩ ?_
      exact zw_iret (pc := 28) (by decide +kernel) rfl (Nat.le_refl _) (Nat.le_refl _) ⟨_, _, rfl, rfl, h⟩
    · replace h := h.2 hc
      refine zw_iconst (pc := 15) (n := (-1)) (by decide +kernel) ?_
      refine zw_goto (pc := 16) (off := 12) (tgt := 28) (by decide +kernel) (by decide) ?_
      exact zw_iret (pc := 28) (by decide +kernel) rfl (Nat.le_refl _) (Nat.le_refl _) ⟨_, _, rfl, rfl, h⟩
theorem sg_X10_list {g : zG} {φ : Int → zMu → Prop} {v1 : Int} {v2 : Int} {μ : zMu}
    (h : zOi g zm_X10_isList [.int (zJ v1)] μ (fun x2 μ1 => (zR x2) ∧ ((¬ x2 = 0 → (zR v2) ∧ ((v2 ≤ 80 → ((0 ≤ v2 → (0 ≤ v1 ∧ v1 < 4) ∧ zOv g zm_J7_fill_53178 [.ref (198 + v1.toNat), .int (zJ 0)] μ1 (fun μ7 => φ 1 (zup μ7 202 v1.toNat v2))) ∧ (v2 < 0 → φ (-14) μ1))) ∧ (80 < v2 → φ (-2) μ1))) ∧ (x2 = 0 → φ (-1) μ1)))) : zOi g zm_X10_list [.ref 0, .int (zJ v1), .int (zJ v2)] μ φ := by
  refine zok_of (by decide +kernel) rfl ?_
  show zWP g zm_X10_list (zmo g zm_X10_list (zΦi φ)) 0 [(0, .ref 0), (1, .int (zJ v1)), (2, .int (zJ v2))] [] 0 0 (zw μ)
  refine zw_iload_n (pc := 0) (n := 1) (i := 1) 1 (by decide +kernel) rfl rfl ?_
  refine zx_callS (pc := 1) (As := [.int (zJ v1)]) h zi_X10_isList zis_X10_isList zl_10_111 (by decide +kernel) ⟨Nat.le_of_ble_eq_true rfl, Nat.le_of_ble_eq_true rfl⟩ rfl rfl ⟨rfl, rfl⟩ ⟨Nat.zero_le _, Nat.zero_le _⟩ (zki (fun x2 μ1 h => ?_))
  obtain ⟨o3, h⟩ := h
  refine zw_if_ne (pc := 4) (off := 5) (tgt := 9) (by decide +kernel) (by decide) o3 (fun hc => ?_) (fun hc => ?_)
  · replace h := h.1 hc
    obtain ⟨o4, h⟩ := h
    refine zw_iload_n (pc := 9) (n := 2) (i := 2) 2 (by decide +kernel) rfl rfl ?_
    refine zw_bipush (pc := 10) (n := 80) (by decide +kernel) (by decide +kernel) ?_
    refine zw_icmp_le (pc := 12) (off := 6) (tgt := 18) (by decide +kernel) (by decide) o4 ⟨by decide, by decide⟩ (fun hc => ?_) (fun hc => ?_)
    · replace h := h.1 hc
      refine zw_iload_n (pc := 18) (n := 2) (i := 2) 2 (by decide +kernel) rfl rfl ?_
      refine zw_if_ge (pc := 19) (off := 6) (tgt := 25) (by decide +kernel) (by decide) o4 (fun hc => ?_) (fun hc => ?_)
      · replace h := h.1 hc
        obtain ⟨o5, h⟩ := h
        refine zw_aload_n (pc := 25) (n := 0) (i := 0) 0 (by decide +kernel) rfl rfl ?_
        refine zx_getR (pc := 26) (o := 197) (r := 197) zf_10_72 (by decide +kernel) rfl zc_0 rfl (by decide) rfl ?_
        refine zw_iload_n (pc := 29) (n := 1) (i := 1) 1 (by decide +kernel) rfl rfl ?_
        have q6 : zS (198 + v1.toNat) 12 80 := zS_cast (zqr_197 (j := v1.toNat) (by omega)) (by show 197 + 1 + 1 * v1.toNat = (198 + v1.toNat); omega)
        refine zx_aaload (pc := 30) (k := 15) (r := (198 + v1.toNat)) (by decide +kernel) (by decide) ⟨4, zc_197, o5.1, o5.2⟩ (by show 197 + 1 + 1 * v1.toNat = (198 + v1.toNat); omega) ?_
        refine zw_iconst (pc := 31) (n := 0) (by decide +kernel) ?_
        refine zx_callS (pc := 32) (As := [.ref (198 + v1.toNat), .int (zJ 0)]) h zi_J7_fill_53178 zis_J7_fill_53178 zl_10_79 (by decide +kernel) ⟨Nat.le_of_ble_eq_true rfl, Nat.le_of_ble_eq_true rfl⟩ rfl rfl ⟨rfl, rfl⟩ ⟨Nat.zero_le _, Nat.zero_le _⟩ (zkv (fun μ7 h => ?_))
        refine zw_aload_n (pc := 35) (n := 0) (i := 0) 0 (by decide +kernel) rfl rfl ?_
        refine zx_getR (pc := 36) (o := 202) (r := 202) zf_10_75 (by decide +kernel) rfl zc_0 rfl (by decide) rfl ?_
        refine zw_iload_n (pc := 39) (n := 1) (i := 1) 1 (by decide +kernel) rfl rfl ?_
        refine zw_iload_n (pc := 40) (n := 2) (i := 2) 2 (by decide +kernel) rfl rfl ?_
        refine zx_iastore (pc := 41) (by decide +kernel) ⟨4, zc_202, o5.1, o5.2⟩ ?_
        refine zw_iconst (pc := 42) (n := 1) (by decide +kernel) ?_
        exact zw_iret (pc := 43) (by decide +kernel) rfl (Nat.le_refl _) (Nat.le_refl _) ⟨_, _, rfl, rfl, h⟩
      · replace h := h.2 hc
        refine zw_bipush (pc := 22) (n := (-14)) (by decide +kernel) (by decide +kernel) ?_
        exact zw_iret (pc := 24) (by decide +kernel) rfl (Nat.le_refl _) (Nat.le_refl _) ⟨_, _, rfl, rfl, h⟩
    · replace h := h.2 hc
      refine zw_bipush (pc := 15) (n := (-2)) (by decide +kernel) (by decide +kernel) ?_
      exact zw_iret (pc := 17) (by decide +kernel) rfl (Nat.le_refl _) (Nat.le_refl _) ⟨_, _, rfl, rfl, h⟩
  · replace h := h.2 hc
    refine zw_iconst (pc := 7) (n := (-1)) (by decide +kernel) ?_
    exact zw_iret (pc := 8) (by decide +kernel) rfl (Nat.le_refl _) (Nat.le_refl _) ⟨_, _, rfl, rfl, h⟩
theorem sg_X10_put {g : zG} {φ : Int → zMu → Prop} {v1 : Int} {v2 : Int} {v3 : Int} {μ : zMu}
    (h : zOi g zm_X10_isList [.int (zJ v1)] μ (fun x2 μ1 => (zR x2) ∧ ((¬ x2 = 0 → (0 ≤ v1 ∧ v1 < 4) ∧ (zR (μ1 202 v1.toNat)) ∧ ((0 ≤ (μ1 202 v1.toNat) → (zR v2) ∧ ((v2 < 0 → φ (-13) μ1) ∧ (0 ≤ v2 → ((v2 < (μ1 202 v1.toNat) → (0 ≤ v2 ∧ v2 < 80) ∧ φ 1 (zup μ1 (198 + v1.toNat) v2.toNat v3)) ∧ ((μ1 202 v1.toNat) ≤ v2 → φ (-13) μ1))))) ∧ ((μ1 202 v1.toNat) < 0 → φ (-11) μ1))) ∧ (x2 = 0 → φ (-1) μ1)))) : zOi g zm_X10_put [.ref 0, .int (zJ v1), .int (zJ v2), .int (zJ v3)] μ φ := by
  refine zok_of (by decide +kernel) rfl ?_
  show zWP g zm_X10_put (zmo g zm_X10_put (zΦi φ)) 0 [(0, .ref 0), (1, .int (zJ v1)), (2, .int (zJ v2)), (3, .int (zJ v3))] [] 0 0 (zw μ)
  refine zw_iload_n (pc := 0) (n := 1) (i := 1) 1 (by decide +kernel) rfl rfl ?_
  refine zx_callS (pc := 1) (As := [.int (zJ v1)]) h zi_X10_isList zis_X10_isList zl_10_111 (by decide +kernel) ⟨Nat.le_of_ble_eq_true rfl, Nat.le_of_ble_eq_true rfl⟩ rfl rfl ⟨rfl, rfl⟩ ⟨Nat.zero_le _, Nat.zero_le _⟩ (zki (fun x2 μ1 h => ?_))
  obtain ⟨o3, h⟩ := h
  refine zw_if_ne (pc := 4) (off := 5) (tgt := 9) (by decide +kernel) (by decide) o3 (fun hc => ?_) (fun hc => ?_)
  · replace h := h.1 hc
    obtain ⟨o4, o5, h⟩ := h
    refine zw_aload_n (pc := 9) (n := 0) (i := 0) 0 (by decide +kernel) rfl rfl ?_
    refine zx_getR (pc := 10) (o := 202) (r := 202) zf_10_75 (by decide +kernel) rfl zc_0 rfl (by decide) rfl ?_
    refine zw_iload_n (pc := 13) (n := 1) (i := 1) 1 (by decide +kernel) rfl rfl ?_
    refine zx_iaload (pc := 14) (by decide +kernel) ⟨4, zc_202, o4.1, o4.2⟩ ?_
    refine zw_if_ge (pc := 15) (off := 6) (tgt := 21) (by decide +kernel) (by decide) o5 (fun hc => ?_) (fun hc => ?_)
    · replace h := h.1 hc
      obtain ⟨o6, h⟩ := h
      refine zw_iload_n (pc := 21) (n := 2) (i := 2) 2 (by decide +kernel) rfl rfl ?_
      refine zw_if_lt (pc := 22) (off := 13) (tgt := 35) (by decide +kernel) (by decide) o6 (fun hc => ?_) (fun hc => ?_)
      · replace h := h.1 hc
        refine zw_bipush (pc := 35) (n := (-13)) (by decide +kernel) (by decide +kernel) ?_
        exact zw_iret (pc := 37) (by decide +kernel) rfl (Nat.le_refl _) (Nat.le_refl _) ⟨_, _, rfl, rfl, h⟩
      · replace h := h.2 hc
        refine zw_iload_n (pc := 25) (n := 2) (i := 2) 2 (by decide +kernel) rfl rfl ?_
        refine zw_aload_n (pc := 26) (n := 0) (i := 0) 0 (by decide +kernel) rfl rfl ?_
        refine zx_getR (pc := 27) (o := 202) (r := 202) zf_10_75 (by decide +kernel) rfl zc_0 rfl (by decide) rfl ?_
        refine zw_iload_n (pc := 30) (n := 1) (i := 1) 1 (by decide +kernel) rfl rfl ?_
        refine zx_iaload (pc := 31) (by decide +kernel) ⟨4, zc_202, o4.1, o4.2⟩ ?_
        refine zw_icmp_lt (pc := 32) (off := 6) (tgt := 38) (by decide +kernel) (by decide) o6 o5 (fun hc => ?_) (fun hc => ?_)
        · replace h := h.1 hc
          obtain ⟨o8, h⟩ := h
          refine zw_aload_n (pc := 38) (n := 0) (i := 0) 0 (by decide +kernel) rfl rfl ?_
          refine zx_getR (pc := 39) (o := 197) (r := 197) zf_10_72 (by decide +kernel) rfl zc_0 rfl (by decide) rfl ?_
          refine zw_iload_n (pc := 42) (n := 1) (i := 1) 1 (by decide +kernel) rfl rfl ?_
          have q7 : zS (198 + v1.toNat) 12 80 := zS_cast (zqr_197 (j := v1.toNat) (by omega)) (by show 197 + 1 + 1 * v1.toNat = (198 + v1.toNat); omega)
          refine zx_aaload (pc := 43) (k := 15) (r := (198 + v1.toNat)) (by decide +kernel) (by decide) ⟨4, zc_197, o4.1, o4.2⟩ (by show 197 + 1 + 1 * v1.toNat = (198 + v1.toNat); omega) ?_
          refine zw_iload_n (pc := 44) (n := 2) (i := 2) 2 (by decide +kernel) rfl rfl ?_
          refine zw_iload_n (pc := 45) (n := 3) (i := 3) 3 (by decide +kernel) rfl rfl ?_
          refine zx_iastore (pc := 46) (by decide +kernel) ⟨80, q7, o8.1, o8.2⟩ ?_
          refine zw_iconst (pc := 47) (n := 1) (by decide +kernel) ?_
          exact zw_iret (pc := 48) (by decide +kernel) rfl (Nat.le_refl _) (Nat.le_refl _) ⟨_, _, rfl, rfl, h⟩
        · replace h := h.2 hc
          refine zw_bipush (pc := 35) (n := (-13)) (by decide +kernel) (by decide +kernel) ?_
          exact zw_iret (pc := 37) (by decide +kernel) rfl (Nat.le_refl _) (Nat.le_refl _) ⟨_, _, rfl, rfl, h⟩
    · replace h := h.2 hc
      refine zw_bipush (pc := 18) (n := (-11)) (by decide +kernel) (by decide +kernel) ?_
      exact zw_iret (pc := 20) (by decide +kernel) rfl (Nat.le_refl _) (Nat.le_refl _) ⟨_, _, rfl, rfl, h⟩
  · replace h := h.2 hc
    refine zw_iconst (pc := 7) (n := (-1)) (by decide +kernel) ?_
    exact zw_iret (pc := 8) (by decide +kernel) rfl (Nat.le_refl _) (Nat.le_refl _) ⟨_, _, rfl, rfl, h⟩
theorem sg_X10_get {g : zG} {φ : Int → zMu → Prop} {v1 : Int} {v2 : Int} {μ : zMu}
    (h : zOi g zm_X10_isList [.int (zJ v1)] μ (fun x2 μ1 => (zR x2) ∧ ((x2 = 0 → φ (-9223372036854775808) μ1) ∧ (¬ x2 = 0 → (zR v2) ∧ ((v2 < 0 → φ (-9223372036854775808) μ1) ∧ (0 ≤ v2 → (0 ≤ v1 ∧ v1 < 4) ∧ (zR (μ1 202 v1.toNat)) ∧ ((v2 < (μ1 202 v1.toNat) → (0 ≤ v2 ∧ v2 < 80) ∧ (zR (μ1 (198 + v1.toNat) v2.toNat)) ∧ φ (μ1 (198 + v1.toNat) v2.toNat) μ1) ∧ ((μ1 202 v1.toNat) ≤ v2 → φ (-9223372036854775808) μ1)))))))) : zOl g zm_X10_get [.ref 0, .int (zJ v1), .int (zJ v2)] μ φ := by
  refine zok_of (by decide +kernel) rfl ?_
  show zWP g zm_X10_get (zmo g zm_X10_get (zΦl φ)) 0 [(0, .ref 0), (1, .int (zJ v1)), (2, .int (zJ v2))] [] 0 0 (zw μ)
  refine zw_iload_n (pc := 0) (n := 1) (i := 1) 1 (by decide +kernel) rfl rfl ?_
  refine zx_callS (pc := 1) (As := [.int (zJ v1)]) h zi_X10_isList zis_X10_isList zl_10_111 (by decide +kernel) ⟨Nat.le_of_ble_eq_true rfl, Nat.le_of_ble_eq_true rfl⟩ rfl rfl ⟨rfl, rfl⟩ ⟨Nat.zero_le _, Nat.zero_le _⟩ (zki (fun x2 μ1 h => ?_))
  obtain ⟨o3, h⟩ := h
  refine zw_if_eq (pc := 4) (off := 17) (tgt := 21) (by decide +kernel) (by decide) o3 (fun hc => ?_) (fun hc => ?_)
  · replace h := h.1 hc
    refine zw_ldc2 (pc := 21) (v := (-9223372036854775808)) (by decide +kernel) zk_10_265 ?_
    exact zw_lret (pc := 24) (by decide +kernel) rfl (Nat.le_refl _) (Nat.le_refl _) ⟨_, _, rfl, rfl, h⟩
  · replace h := h.2 hc
    obtain ⟨o4, h⟩ := h
    refine zw_iload_n (pc := 7) (n := 2) (i := 2) 2 (by decide +kernel) rfl rfl ?_
    refine zw_if_lt (pc := 8) (off := 13) (tgt := 21) (by decide +kernel) (by decide) o4 (fun hc => ?_) (fun hc => ?_)
    · replace h := h.1 hc
      refine zw_ldc2 (pc := 21) (v := (-9223372036854775808)) (by decide +kernel) zk_10_265 ?_
      exact zw_lret (pc := 24) (by decide +kernel) rfl (Nat.le_refl _) (Nat.le_refl _) ⟨_, _, rfl, rfl, h⟩
    · replace h := h.2 hc
      obtain ⟨o5, o6, h⟩ := h
      refine zw_iload_n (pc := 11) (n := 2) (i := 2) 2 (by decide +kernel) rfl rfl ?_
      refine zw_aload_n (pc := 12) (n := 0) (i := 0) 0 (by decide +kernel) rfl rfl ?_
      refine zx_getR (pc := 13) (o := 202) (r := 202) zf_10_75 (by decide +kernel) rfl zc_0 rfl (by decide) rfl ?_
      refine zw_iload_n (pc := 16) (n := 1) (i := 1) 1 (by decide +kernel) rfl rfl ?_
      refine zx_iaload (pc := 17) (by decide +kernel) ⟨4, zc_202, o5.1, o5.2⟩ ?_
      refine zw_icmp_lt (pc := 18) (off := 7) (tgt := 25) (by decide +kernel) (by decide) o4 o6 (fun hc => ?_) (fun hc => ?_)
      · replace h := h.1 hc
        obtain ⟨o8, o9, h⟩ := h
        refine zw_aload_n (pc := 25) (n := 0) (i := 0) 0 (by decide +kernel) rfl rfl ?_
        refine zx_getR (pc := 26) (o := 197) (r := 197) zf_10_72 (by decide +kernel) rfl zc_0 rfl (by decide) rfl ?_
        refine zw_iload_n (pc := 29) (n := 1) (i := 1) 1 (by decide +kernel) rfl rfl ?_
        have q7 : zS (198 + v1.toNat) 12 80 := zS_cast (zqr_197 (j := v1.toNat) (by omega)) (by show 197 + 1 + 1 * v1.toNat = (198 + v1.toNat); omega)
        refine zx_aaload (pc := 30) (k := 15) (r := (198 + v1.toNat)) (by decide +kernel) (by decide) ⟨4, zc_197, o5.1, o5.2⟩ (by show 197 + 1 + 1 * v1.toNat = (198 + v1.toNat); omega) ?_
        refine zw_iload_n (pc := 31) (n := 2) (i := 2) 2 (by decide +kernel) rfl rfl ?_
        refine zx_iaload (pc := 32) (by decide +kernel) ⟨80, q7, o8.1, o8.2⟩ ?_
        refine zw_i2l (pc := 33) (by decide +kernel) o9 ?_
        exact zw_lret (pc := 34) (by decide +kernel) rfl (Nat.le_refl _) (Nat.le_refl _) ⟨_, _, rfl, rfl, h⟩
      · replace h := h.2 hc
        refine zw_ldc2 (pc := 21) (v := (-9223372036854775808)) (by decide +kernel) zk_10_265 ?_
        exact zw_lret (pc := 24) (by decide +kernel) rfl (Nat.le_refl _) (Nat.le_refl _) ⟨_, _, rfl, rfl, h⟩
theorem sg_X10_lay {g : zG} {φ : Int → zMu → Prop} {v1 : Int} {v2 : Int} {μ : zMu}
    (h : zOi g zm_X10_isList [.int (zJ v1)] μ (fun x2 μ1 => (zR x2) ∧ ((x2 = 0 → φ (-1) μ1) ∧ (¬ x2 = 0 → zOi g zm_X10_isSeries [.int (zJ v2)] μ1 (fun x5 μ4 => (zR x5) ∧ ((¬ x5 = 0 → (0 ≤ v1 ∧ v1 < 4) ∧ (zR (μ4 202 v1.toNat)) ∧ (((μ4 202 v1.toNat) < 0 → φ (-11) μ4) ∧ (0 ≤ (μ4 202 v1.toNat) → (0 ≤ v2 ∧ v2 < 6) ∧ zOi g zm_X6_isMissing [.ref (7 + 2 * v2.toNat)] μ4 (fun x12 μ11 => (zR x12) ∧ ((x12 = 0 → (zR (μ11 202 v1.toNat)) ∧ (zR (μ11 (7 + 2 * v2.toNat) 2)) ∧ (0 ≤ (0 : Int) ∧ 0 ≤ (0 : Int) ∧ 0 ≤ (min (μ11 202 v1.toNat) (μ11 (7 + 2 * v2.toNat) 2)) ∧ (0 : Int) + (min (μ11 202 v1.toNat) (μ11 (7 + 2 * v2.toNat) 2)) ≤ 80 ∧ (0 : Int) + (min (μ11 202 v1.toNat) (μ11 (7 + 2 * v2.toNat) 2)) ≤ 80) ∧ φ (min (μ11 202 v1.toNat) (μ11 (7 + 2 * v2.toNat) 2)) (zcp μ11 ((7 + 2 * v2.toNat) + 1) 0 (198 + v1.toNat) 0 (Int.toNat (min (μ11 202 v1.toNat) (μ11 (7 + 2 * v2.toNat) 2))))) ∧ (¬ x12 = 0 → φ (-11) μ11)))))) ∧ (x5 = 0 → φ (-1) μ4))))))) : zOi g zm_X10_lay [.ref 0, .int (zJ v1), .int (zJ v2)] μ φ := by
  refine zok_of (by decide +kernel) rfl ?_
  show zWP g zm_X10_lay (zmo g zm_X10_lay (zΦi φ)) 0 [(0, .ref 0), (1, .int (zJ v1)), (2, .int (zJ v2))] [] 0 0 (zw μ)
  refine zw_iload_n (pc := 0) (n := 1) (i := 1) 1 (by decide +kernel) rfl rfl ?_
  refine zx_callS (pc := 1) (As := [.int (zJ v1)]) h zi_X10_isList zis_X10_isList zl_10_111 (by decide +kernel) ⟨Nat.le_of_ble_eq_true rfl, Nat.le_of_ble_eq_true rfl⟩ rfl rfl ⟨rfl, rfl⟩ ⟨Nat.zero_le _, Nat.zero_le _⟩ (zki (fun x2 μ1 h => ?_))
  obtain ⟨o3, h⟩ := h
  refine zw_if_eq (pc := 4) (off := 10) (tgt := 14) (by decide +kernel) (by decide) o3 (fun hc => ?_) (fun hc => ?_)
  · replace h := h.1 hc
    refine zw_iconst (pc := 14) (n := (-1)) (by decide +kernel) ?_
    exact zw_iret (pc := 15) (by decide +kernel) rfl (Nat.le_refl _) (Nat.le_refl _) ⟨_, _, rfl, rfl, h⟩
  · replace h := h.2 hc
    refine zw_iload_n (pc := 7) (n := 2) (i := 2) 2 (by decide +kernel) rfl rfl ?_
    refine zx_callS (pc := 8) (As := [.int (zJ v2)]) h zi_X10_isSeries zis_X10_isSeries zl_10_100 (by decide +kernel) ⟨Nat.le_of_ble_eq_true rfl, Nat.le_of_ble_eq_true rfl⟩ rfl rfl ⟨rfl, rfl⟩ ⟨Nat.zero_le _, Nat.zero_le _⟩ (zki (fun x5 μ4 h => ?_))
    obtain ⟨o6, h⟩ := h
    refine zw_if_ne (pc := 11) (off := 5) (tgt := 16) (by decide +kernel) (by decide) o6 (fun hc => ?_) (fun hc => ?_)
    · replace h := h.1 hc
      obtain ⟨o7, o8, h⟩ := h
      refine zw_aload_n (pc := 16) (n := 0) (i := 0) 0 (by decide +kernel) rfl rfl ?_
      refine zx_getR (pc := 17) (o := 202) (r := 202) zf_10_75 (by decide +kernel) rfl zc_0 rfl (by decide) rfl ?_
      refine zw_iload_n (pc := 20) (n := 1) (i := 1) 1 (by decide +kernel) rfl rfl ?_
      refine zx_iaload (pc := 21) (by decide +kernel) ⟨4, zc_202, o7.1, o7.2⟩ ?_
      refine zw_if_lt (pc := 22) (off := 18) (tgt := 40) (by decide +kernel) (by decide) o8 (fun hc => ?_) (fun hc => ?_)
      · replace h := h.1 hc
        refine zw_bipush (pc := 40) (n := (-11)) (by decide +kernel) (by decide +kernel) ?_
        exact zw_iret (pc := 42) (by decide +kernel) rfl (Nat.le_refl _) (Nat.le_refl _) ⟨_, _, rfl, rfl, h⟩
      · replace h := h.2 hc
        obtain ⟨o9, h⟩ := h
        refine zw_aload_n (pc := 25) (n := 0) (i := 0) 0 (by decide +kernel) rfl rfl ?_
        refine zx_getR (pc := 26) (o := 1) (r := 1) zf_10_14 (by decide +kernel) rfl zc_0 rfl (by decide) rfl ?_
        refine zx_getR (pc := 29) (o := 1) (r := 2) zf_10_103 (by decide +kernel) rfl zc_1 rfl (by decide) rfl ?_
        refine zw_iload_n (pc := 32) (n := 2) (i := 2) 2 (by decide +kernel) rfl rfl ?_
        have q10 : zS (7 + 2 * v2.toNat) 6 3 := zS_cast (zqe_14 (j := v2.toNat) zc_2 (by omega)) (by show 2 + 5 + 2 * v2.toNat = (7 + 2 * v2.toNat); omega)
        refine zx_aaload (pc := 33) (k := 14) (r := (7 + 2 * v2.toNat)) (by decide +kernel) (by decide) ⟨6, zc_2, o9.1, o9.2⟩ (by show 2 + 5 + 2 * v2.toNat = (7 + 2 * v2.toNat); omega) ?_
        refine zx_callV (pc := 34) (As := []) h zi_X6_isMissing zii_X6_isMissing zie_X6_isMissing zl_10_121 (by decide +kernel) ⟨Nat.le_of_ble_eq_true rfl, Nat.le_of_ble_eq_true rfl⟩ rfl q10 (by decide) rfl rfl ⟨rfl, rfl⟩ ⟨Nat.zero_le _, Nat.zero_le _⟩ (zki (fun x12 μ11 h => ?_))
        obtain ⟨o13, h⟩ := h
        refine zw_if_eq (pc := 37) (off := 6) (tgt := 43) (by decide +kernel) (by decide) o13 (fun hc => ?_) (fun hc => ?_)
        · replace h := h.1 hc
          obtain ⟨o15, o16, o20, h⟩ := h
          refine zw_aload_n (pc := 43) (n := 0) (i := 0) 0 (by decide +kernel) rfl rfl ?_
          refine zx_getR (pc := 44) (o := 202) (r := 202) zf_10_75 (by decide +kernel) rfl zc_0 rfl (by decide) rfl ?_
          refine zw_iload_n (pc := 47) (n := 1) (i := 1) 1 (by decide +kernel) rfl rfl ?_
          refine zx_iaload (pc := 48) (by decide +kernel) ⟨4, zc_202, o7.1, o7.2⟩ ?_
          refine zw_aload_n (pc := 49) (n := 0) (i := 0) 0 (by decide +kernel) rfl rfl ?_
          refine zx_getR (pc := 50) (o := 1) (r := 1) zf_10_14 (by decide +kernel) rfl zc_0 rfl (by decide) rfl ?_
          refine zx_getR (pc := 53) (o := 1) (r := 2) zf_10_103 (by decide +kernel) rfl zc_1 rfl (by decide) rfl ?_
          refine zw_iload_n (pc := 56) (n := 2) (i := 2) 2 (by decide +kernel) rfl rfl ?_
          have q14 : zS (7 + 2 * v2.toNat) 6 3 := zS_cast (zqe_14 (j := v2.toNat) zc_2 (by omega)) (by show 2 + 5 + 2 * v2.toNat = (7 + 2 * v2.toNat); omega)
          refine zx_aaload (pc := 57) (k := 14) (r := (7 + 2 * v2.toNat)) (by decide +kernel) (by decide) ⟨6, zc_2, o9.1, o9.2⟩ (by show 2 + 5 + 2 * v2.toNat = (7 + 2 * v2.toNat); omega) ?_
          refine zx_getI (pc := 58) zf_10_131 (by decide +kernel) rfl q14 ?_
          refine zw_min (pc := 61) zl_10_344 zb_minS zb_mathI zb_minC (by decide +kernel) ⟨Nat.le_of_ble_eq_true rfl, Nat.le_of_ble_eq_true rfl⟩ (Nat.zero_le _) (Nat.zero_le _) rfl o15 o16 ?_
          refine zw_istore_n (pc := 64) (n := 3) (i := 3) (lv' := [(0, .ref 0), (1, .int (zJ v1)), (2, .int (zJ v2)), (3, .int (zJ (min (μ11 202 v1.toNat) (μ11 (7 + 2 * v2.toNat) 2))))]) (by decide +kernel) rfl (Nat.le_of_ble_eq_true rfl) rfl ?_
          refine zw_aload_n (pc := 65) (n := 0) (i := 0) 0 (by decide +kernel) rfl rfl ?_
          refine zx_getR (pc := 66) (o := 1) (r := 1) zf_10_14 (by decide +kernel) rfl zc_0 rfl (by decide) rfl ?_
          refine zx_getR (pc := 69) (o := 1) (r := 2) zf_10_103 (by decide +kernel) rfl zc_1 rfl (by decide) rfl ?_
          refine zw_iload_n (pc := 72) (n := 2) (i := 2) 2 (by decide +kernel) rfl rfl ?_
          have q17 : zS (7 + 2 * v2.toNat) 6 3 := zS_cast (zqe_14 (j := v2.toNat) zc_2 (by omega)) (by show 2 + 5 + 2 * v2.toNat = (7 + 2 * v2.toNat); omega)
          refine zx_aaload (pc := 73) (k := 14) (r := (7 + 2 * v2.toNat)) (by decide +kernel) (by decide) ⟨6, zc_2, o9.1, o9.2⟩ (by show 2 + 5 + 2 * v2.toNat = (7 + 2 * v2.toNat); omega) ?_
          have q18 : zS ((7 + 2 * v2.toNat) + 1) 12 80 := zq 0 q17 rfl
          refine zx_getR (pc := 74) (o := 1) (r := ((7 + 2 * v2.toNat) + 1)) zf_10_144 (by decide +kernel) rfl q17 rfl (by decide) rfl ?_
          refine zw_iconst (pc := 77) (n := 0) (by decide +kernel) ?_
          refine zw_aload_n (pc := 78) (n := 0) (i := 0) 0 (by decide +kernel) rfl rfl ?_
          refine zx_getR (pc := 79) (o := 197) (r := 197) zf_10_72 (by decide +kernel) rfl zc_0 rfl (by decide) rfl ?_
          refine zw_iload_n (pc := 82) (n := 1) (i := 1) 1 (by decide +kernel) rfl rfl ?_
          have q19 : zS (198 + v1.toNat) 12 80 := zS_cast (zqr_197 (j := v1.toNat) (by omega)) (by show 197 + 1 + 1 * v1.toNat = (198 + v1.toNat); omega)
          refine zx_aaload (pc := 83) (k := 15) (r := (198 + v1.toNat)) (by decide +kernel) (by decide) ⟨4, zc_197, o7.1, o7.2⟩ (by show 197 + 1 + 1 * v1.toNat = (198 + v1.toNat); omega) ?_
          refine zw_iconst (pc := 84) (n := 0) (by decide +kernel) ?_
          refine zw_iload_n (pc := 85) (n := 3) (i := 3) 3 (by decide +kernel) rfl rfl ?_
          refine zx_copy (pc := 86) zl_10_349 zb_cpN zb_cpS zb_cpI (by decide +kernel) ⟨Nat.le_of_ble_eq_true rfl, by decide +kernel⟩ rfl ⟨80, 80, q18, q19, o20⟩ ?_
          refine zw_iload_n (pc := 89) (n := 3) (i := 3) 3 (by decide +kernel) rfl rfl ?_
          exact zw_iret (pc := 90) (by decide +kernel) rfl (Nat.le_refl _) (Nat.le_refl _) ⟨_, _, rfl, rfl, h⟩
        · replace h := h.2 hc
          refine zw_bipush (pc := 40) (n := (-11)) (by decide +kernel) (by decide +kernel) ?_
          exact zw_iret (pc := 42) (by decide +kernel) rfl (Nat.le_refl _) (Nat.le_refl _) ⟨_, _, rfl, rfl, h⟩
    · replace h := h.2 hc
      refine zw_iconst (pc := 14) (n := (-1)) (by decide +kernel) ?_
      exact zw_iret (pc := 15) (by decide +kernel) rfl (Nat.le_refl _) (Nat.le_refl _) ⟨_, _, rfl, rfl, h⟩
abbrev at_X10_judge_48 (g : zG) (φ : Int → zMu → Prop) (v1 : Int) (r3 : Nat) (v4 : Int) (μ : zMu) : Prop := zWP g zm_X10_judge (zmo g zm_X10_judge (zΦi φ)) 48 [(0, .ref 0), (1, .int (zJ v1)), (3, .ref r3), (4, .int (zJ v4))] [] 0 0 (zw μ)
theorem sg_X10_judge {g : zG} {φ : Int → zMu → Prop} {v1 : Int} {v2 : Int} {μ : zMu}
    (h : zOi g zm_X10_isList [.int (zJ v1)] μ (fun x2 μ1 => (zR x2) ∧ ((x2 = 0 → φ (-1) μ1) ∧ (¬ x2 = 0 → zOi g zm_X10_isSeries [.int (zJ v2)] μ1 (fun x5 μ4 => (zR x5) ∧ ((¬ x5 = 0 → (0 ≤ v2 ∧ v2 < 6) ∧ (0 ≤ v1 ∧ v1 < 4) ∧ (zR (μ4 202 v1.toNat)) ∧ (((μ4 202 v1.toNat) < 0 → φ (-11) μ4) ∧ (0 ≤ (μ4 202 v1.toNat) → zOi g zm_X6_isMissing [.ref (7 + 2 * v2.toNat)] μ4 (fun x12 μ11 => (zR x12) ∧ ((x12 = 0 → at_X10_judge_48 g φ v1 (7 + 2 * v2.toNat) 0 μ11) ∧ (¬ x12 = 0 → φ (-11) μ11)))))) ∧ (x5 = 0 → φ (-1) μ4))))))) : zOi g zm_X10_judge [.ref 0, .int (zJ v1), .int (zJ v2)] μ φ := by
  refine zok_of (by decide +kernel) rfl ?_
  show zWP g zm_X10_judge (zmo g zm_X10_judge (zΦi φ)) 0 [(0, .ref 0), (1, .int (zJ v1)), (2, .int (zJ v2))] [] 0 0 (zw μ)
  refine zw_iload_n (pc := 0) (n := 1) (i := 1) 1 (by decide +kernel) rfl rfl ?_
  refine zx_callS (pc := 1) (As := [.int (zJ v1)]) h zi_X10_isList zis_X10_isList zl_10_111 (by decide +kernel) ⟨Nat.le_of_ble_eq_true rfl, Nat.le_of_ble_eq_true rfl⟩ rfl rfl ⟨rfl, rfl⟩ ⟨Nat.zero_le _, Nat.zero_le _⟩ (zki (fun x2 μ1 h => ?_))
  obtain ⟨o3, h⟩ := h
  refine zw_if_eq (pc := 4) (off := 10) (tgt := 14) (by decide +kernel) (by decide) o3 (fun hc => ?_) (fun hc => ?_)
  · replace h := h.1 hc
    refine zw_iconst (pc := 14) (n := (-1)) (by decide +kernel) ?_
    exact zw_iret (pc := 15) (by decide +kernel) rfl (Nat.le_refl _) (Nat.le_refl _) ⟨_, _, rfl, rfl, h⟩
  · replace h := h.2 hc
    refine zw_iload_n (pc := 7) (n := 2) (i := 2) 2 (by decide +kernel) rfl rfl ?_
    refine zx_callS (pc := 8) (As := [.int (zJ v2)]) h zi_X10_isSeries zis_X10_isSeries zl_10_100 (by decide +kernel) ⟨Nat.le_of_ble_eq_true rfl, Nat.le_of_ble_eq_true rfl⟩ rfl rfl ⟨rfl, rfl⟩ ⟨Nat.zero_le _, Nat.zero_le _⟩ (zki (fun x5 μ4 h => ?_))
    obtain ⟨o6, h⟩ := h
    refine zw_if_ne (pc := 11) (off := 5) (tgt := 16) (by decide +kernel) (by decide) o6 (fun hc => ?_) (fun hc => ?_)
    · replace h := h.1 hc
      obtain ⟨o7, o9, o10, h⟩ := h
      refine zw_aload_n (pc := 16) (n := 0) (i := 0) 0 (by decide +kernel) rfl rfl ?_
      refine zx_getR (pc := 17) (o := 1) (r := 1) zf_10_14 (by decide +kernel) rfl zc_0 rfl (by decide) rfl ?_
      refine zx_getR (pc := 20) (o := 1) (r := 2) zf_10_103 (by decide +kernel) rfl zc_1 rfl (by decide) rfl ?_
      refine zw_iload_n (pc := 23) (n := 2) (i := 2) 2 (by decide +kernel) rfl rfl ?_
      have q8 : zS (7 + 2 * v2.toNat) 6 3 := zS_cast (zqe_14 (j := v2.toNat) zc_2 (by omega)) (by show 2 + 5 + 2 * v2.toNat = (7 + 2 * v2.toNat); omega)
      refine zx_aaload (pc := 24) (k := 14) (r := (7 + 2 * v2.toNat)) (by decide +kernel) (by decide) ⟨6, zc_2, o7.1, o7.2⟩ (by show 2 + 5 + 2 * v2.toNat = (7 + 2 * v2.toNat); omega) ?_
      refine zw_astore_n (pc := 25) (n := 3) (i := 3) (lv' := [(0, .ref 0), (1, .int (zJ v1)), (2, .int (zJ v2)), (3, .ref (7 + 2 * v2.toNat))]) (by decide +kernel) rfl (Nat.le_of_ble_eq_true rfl) rfl ?_
      refine zw_aload_n (pc := 26) (n := 0) (i := 0) 0 (by decide +kernel) rfl rfl ?_
      refine zx_getR (pc := 27) (o := 202) (r := 202) zf_10_75 (by decide +kernel) rfl zc_0 rfl (by decide) rfl ?_
      refine zw_iload_n (pc := 30) (n := 1) (i := 1) 1 (by decide +kernel) rfl rfl ?_
      refine zx_iaload (pc := 31) (by decide +kernel) ⟨4, zc_202, o9.1, o9.2⟩ ?_
      refine zw_if_lt (pc := 32) (off := 10) (tgt := 42) (by decide +kernel) (by decide) o10 (fun hc => ?_) (fun hc => ?_)
      · replace h := h.1 hc
        refine zw_bipush (pc := 42) (n := (-11)) (by decide +kernel) (by decide +kernel) ?_
        exact zw_iret (pc := 44) (by decide +kernel) rfl (Nat.le_refl _) (Nat.le_refl _) ⟨_, _, rfl, rfl, h⟩
      · replace h := h.2 hc
        refine zw_aload_n (pc := 35) (n := 3) (i := 3) 3 (by decide +kernel) rfl rfl ?_
        refine zx_callV (pc := 36) (As := []) h zi_X6_isMissing zii_X6_isMissing zie_X6_isMissing zl_10_121 (by decide +kernel) ⟨Nat.le_of_ble_eq_true rfl, Nat.le_of_ble_eq_true rfl⟩ rfl q8 (by decide) rfl rfl ⟨rfl, rfl⟩ ⟨Nat.zero_le _, Nat.zero_le _⟩ (zki (fun x12 μ11 h => ?_))
        obtain ⟨o13, h⟩ := h
        refine zw_if_eq (pc := 39) (off := 6) (tgt := 45) (by decide +kernel) (by decide) o13 (fun hc => ?_) (fun hc => ?_)
        · replace h := h.1 hc
          refine zw_iconst (pc := 45) (n := 0) (by decide +kernel) ?_
          refine zw_istore (pc := 46) (i := 4) (lv' := [(0, .ref 0), (1, .int (zJ v1)), (2, .int (zJ v2)), (3, .ref (7 + 2 * v2.toNat)), (4, .int (zJ 0))]) (by decide +kernel) (Nat.le_of_ble_eq_true rfl) rfl ?_
          exact zw_pick (lv' := [(0, .ref 0), (1, .int (zJ v1)), (3, .ref (7 + 2 * v2.toNat)), (4, .int (zJ 0))]) [0, 1, 3, 4] rfl h
        · replace h := h.2 hc
          refine zw_bipush (pc := 42) (n := (-11)) (by decide +kernel) (by decide +kernel) ?_
          exact zw_iret (pc := 44) (by decide +kernel) rfl (Nat.le_refl _) (Nat.le_refl _) ⟨_, _, rfl, rfl, h⟩
    · replace h := h.2 hc
      refine zw_iconst (pc := 14) (n := (-1)) (by decide +kernel) ?_
      exact zw_iret (pc := 15) (by decide +kernel) rfl (Nat.le_refl _) (Nat.le_refl _) ⟨_, _, rfl, rfl, h⟩
theorem sg_X10_judge_48 {g : zG} {φ : Int → zMu → Prop} {v1 : Int} {r3 : Nat} {v4 : Int} {μ : zMu} (h_r3 : zS r3 6 3)
    (h : (0 ≤ v1 ∧ v1 < 4) ∧ (zR v4) ∧ (zR (μ 202 v1.toNat)) ∧ (((μ 202 v1.toNat) ≤ v4 → φ (-5) μ) ∧ (v4 < (μ 202 v1.toNat) → (zR (μ r3 2)) ∧ (((μ r3 2) ≤ v4 → φ v4 μ) ∧ (v4 < (μ r3 2) → (0 ≤ v4 ∧ v4 < 80) ∧ (zR (μ (198 + v1.toNat) v4.toNat)) ∧ (zR (μ (r3 + 1) v4.toNat)) ∧ (((μ (198 + v1.toNat) v4.toNat) = (μ (r3 + 1) v4.toNat) → at_X10_judge_48 g φ v1 r3 (v4 + 1) μ) ∧ (¬ (μ (198 + v1.toNat) v4.toNat) = (μ (r3 + 1) v4.toNat) → φ v4 μ))))))) : at_X10_judge_48 g φ v1 r3 v4 μ := by
  obtain ⟨o1, o2, o3, h⟩ := h
  refine zw_iload (pc := 48) (i := 4) 3 (by decide +kernel) rfl ?_
  refine zw_aload_n (pc := 50) (n := 0) (i := 0) 0 (by decide +kernel) rfl rfl ?_
  refine zx_getR (pc := 51) (o := 202) (r := 202) zf_10_75 (by decide +kernel) rfl zc_0 rfl (by decide) rfl ?_
  refine zw_iload_n (pc := 54) (n := 1) (i := 1) 1 (by decide +kernel) rfl rfl ?_
  refine zx_iaload (pc := 55) (by decide +kernel) ⟨4, zc_202, o1.1, o1.2⟩ ?_
  refine zw_icmp_ge (pc := 56) (off := 40) (tgt := 96) (by decide +kernel) (by decide) o2 o3 (fun hc => ?_) (fun hc => ?_)
  · replace h := h.1 hc
    refine zw_bipush (pc := 96) (n := (-5)) (by decide +kernel) (by decide +kernel) ?_
    exact zw_iret (pc := 98) (by decide +kernel) rfl (Nat.le_refl _) (Nat.le_refl _) ⟨_, _, rfl, rfl, h⟩
  · replace h := h.2 hc
    obtain ⟨o4, h⟩ := h
    refine zw_iload (pc := 59) (i := 4) 3 (by decide +kernel) rfl ?_
    refine zw_aload_n (pc := 61) (n := 3) (i := 3) 2 (by decide +kernel) rfl rfl ?_
    refine zx_getI (pc := 62) zf_10_131 (by decide +kernel) rfl h_r3 ?_
    refine zw_icmp_ge (pc := 65) (off := 22) (tgt := 87) (by decide +kernel) (by decide) o2 o4 (fun hc => ?_) (fun hc => ?_)
    · replace h := h.1 hc
      refine zw_iload (pc := 87) (i := 4) 3 (by decide +kernel) rfl ?_
      exact zw_iret (pc := 89) (by decide +kernel) rfl (Nat.le_refl _) (Nat.le_refl _) ⟨_, _, rfl, rfl, h⟩
    · replace h := h.2 hc
      obtain ⟨o6, o8, o9, h⟩ := h
      refine zw_aload_n (pc := 68) (n := 0) (i := 0) 0 (by decide +kernel) rfl rfl ?_
      refine zx_getR (pc := 69) (o := 197) (r := 197) zf_10_72 (by decide +kernel) rfl zc_0 rfl (by decide) rfl ?_
      refine zw_iload_n (pc := 72) (n := 1) (i := 1) 1 (by decide +kernel) rfl rfl ?_
      have q5 : zS (198 + v1.toNat) 12 80 := zS_cast (zqr_197 (j := v1.toNat) (by omega)) (by show 197 + 1 + 1 * v1.toNat = (198 + v1.toNat); omega)
      refine zx_aaload (pc := 73) (k := 15) (r := (198 + v1.toNat)) (by decide +kernel) (by decide) ⟨4, zc_197, o1.1, o1.2⟩ (by show 197 + 1 + 1 * v1.toNat = (198 + v1.toNat); omega) ?_
      refine zw_iload (pc := 74) (i := 4) 3 (by decide +kernel) rfl ?_
      refine zx_iaload (pc := 76) (by decide +kernel) ⟨80, q5, o6.1, o6.2⟩ ?_
      refine zw_aload_n (pc := 77) (n := 3) (i := 3) 2 (by decide +kernel) rfl rfl ?_
      have q7 : zS (r3 + 1) 12 80 := zq 0 h_r3 rfl
      refine zx_getR (pc := 78) (o := 1) (r := (r3 + 1)) zf_10_144 (by decide +kernel) rfl h_r3 rfl (by decide) rfl ?_
      refine zw_iload (pc := 81) (i := 4) 3 (by decide +kernel) rfl ?_
      refine zx_iaload (pc := 83) (by decide +kernel) ⟨80, q7, o6.1, o6.2⟩ ?_
      refine zw_icmp_eq (pc := 84) (off := 6) (tgt := 90) (by decide +kernel) (by decide) o8 o9 (fun hc => ?_) (fun hc => ?_)
      · replace h := h.1 hc
        refine zw_iinc (pc := 90) (i := 4) (n := 1) (lv' := [(0, .ref 0), (1, .int (zJ v1)), (3, .ref r3), (4, .int (zJ (v4 + 1)))]) 3 (by decide +kernel) rfl rfl (Nat.le_of_ble_eq_true rfl) rfl ?_
        refine zw_goto (pc := 93) (off := (-45)) (tgt := 48) (by decide +kernel) (by decide) ?_
        exact h
      · replace h := h.2 hc
        refine zw_iload (pc := 87) (i := 4) 3 (by decide +kernel) rfl ?_
        exact zw_iret (pc := 89) (by decide +kernel) rfl (Nat.le_refl _) (Nat.le_refl _) ⟨_, _, rfl, rfl, h⟩
theorem sg_X10_image {g : zG} {φ : Int → zMu → Prop} {μ : zMu}
    (h : zOv g zm_X0_copyFrom [.ref 35, .ref 1] μ (fun μ1 => zOi g zm_X0_seriesCount [.ref 1] (zup μ1 0 2 1) (fun x3 μ2 => φ x3 μ2))) : zOi g zm_X10_image [.ref 0] μ φ := by
  refine zok_of (by decide +kernel) rfl ?_
  show zWP g zm_X10_image (zmo g zm_X10_image (zΦi φ)) 0 [(0, .ref 0)] [] 0 0 (zw μ)
  refine zw_aload_n (pc := 0) (n := 0) (i := 0) 0 (by decide +kernel) rfl rfl ?_
  refine zx_getR (pc := 1) (o := 35) (r := 35) zf_10_18 (by decide +kernel) rfl zc_0 rfl (by decide) rfl ?_
  refine zw_aload_n (pc := 4) (n := 0) (i := 0) 0 (by decide +kernel) rfl rfl ?_
  refine zx_getR (pc := 5) (o := 1) (r := 1) zf_10_14 (by decide +kernel) rfl zc_0 rfl (by decide) rfl ?_
  refine zx_callV (pc := 8) (As := [.ref 1]) h zi_X0_copyFrom zii_X0_copyFrom zie_X0_copyFrom zl_10_355 (by decide +kernel) ⟨Nat.le_of_ble_eq_true rfl, Nat.le_of_ble_eq_true rfl⟩ rfl zc_35 (by decide) rfl rfl ⟨rfl, rfl⟩ ⟨Nat.zero_le _, Nat.zero_le _⟩ (zkv (fun μ1 h => ?_))
  refine zw_aload_n (pc := 11) (n := 0) (i := 0) 0 (by decide +kernel) rfl rfl ?_
  refine zw_iconst (pc := 12) (n := 1) (by decide +kernel) ?_
  refine zx_putZ (pc := 13) zf_10_358 (by decide +kernel) rfl zc_0 (Or.inr rfl) ?_
  refine zw_aload_n (pc := 16) (n := 0) (i := 0) 0 (by decide +kernel) rfl rfl ?_
  refine zx_getR (pc := 17) (o := 1) (r := 1) zf_10_14 (by decide +kernel) rfl zc_0 rfl (by decide) rfl ?_
  refine zx_callV (pc := 20) (As := []) h zi_X0_seriesCount zii_X0_seriesCount zie_X0_seriesCount zl_10_362 (by decide +kernel) ⟨Nat.le_of_ble_eq_true rfl, Nat.le_of_ble_eq_true rfl⟩ rfl zc_1 (by decide) rfl rfl ⟨rfl, rfl⟩ ⟨Nat.zero_le _, Nat.zero_le _⟩ (zki (fun x3 μ2 h => ?_))
  exact zw_iret (pc := 23) (by decide +kernel) rfl (Nat.le_refl _) (Nat.le_refl _) ⟨_, _, rfl, rfl, h⟩
theorem sg_X10_back {g : zG} {φ : Int → zMu → Prop} {μ : zMu}
    (h : (zR (μ 0 2)) ∧ ((¬ (μ 0 2) = 0 → zOv g zm_X0_copyFrom [.ref 1, .ref 35] μ (fun μ2 => zOv g zm_X2_forget [.ref 182] μ2 (fun μ3 => zOi g zm_X0_seriesCount [.ref 1] μ3 (fun x5 μ4 => φ x5 μ4)))) ∧ ((μ 0 2) = 0 → φ (-3) μ))) : zOi g zm_X10_back [.ref 0] μ φ := by
  refine zok_of (by decide +kernel) rfl ?_
  show zWP g zm_X10_back (zmo g zm_X10_back (zΦi φ)) 0 [(0, .ref 0)] [] 0 0 (zw μ)
  obtain ⟨o1, h⟩ := h
  refine zw_aload_n (pc := 0) (n := 0) (i := 0) 0 (by decide +kernel) rfl rfl ?_
  refine zx_getI (pc := 1) zf_10_358 (by decide +kernel) rfl zc_0 ?_
  refine zw_if_ne (pc := 4) (off := 6) (tgt := 10) (by decide +kernel) (by decide) o1 (fun hc => ?_) (fun hc => ?_)
  · replace h := h.1 hc
    refine zw_aload_n (pc := 10) (n := 0) (i := 0) 0 (by decide +kernel) rfl rfl ?_
    refine zx_getR (pc := 11) (o := 1) (r := 1) zf_10_14 (by decide +kernel) rfl zc_0 rfl (by decide) rfl ?_
    refine zw_aload_n (pc := 14) (n := 0) (i := 0) 0 (by decide +kernel) rfl rfl ?_
    refine zx_getR (pc := 15) (o := 35) (r := 35) zf_10_18 (by decide +kernel) rfl zc_0 rfl (by decide) rfl ?_
    refine zx_callV (pc := 18) (As := [.ref 35]) h zi_X0_copyFrom zii_X0_copyFrom zie_X0_copyFrom zl_10_355 (by decide +kernel) ⟨Nat.le_of_ble_eq_true rfl, Nat.le_of_ble_eq_true rfl⟩ rfl zc_1 (by decide) rfl rfl ⟨rfl, rfl⟩ ⟨Nat.zero_le _, Nat.zero_le _⟩ (zkv (fun μ2 h => ?_))
    refine zw_aload_n (pc := 21) (n := 0) (i := 0) 0 (by decide +kernel) rfl rfl ?_
    refine zx_getR (pc := 22) (o := 182) (r := 182) zf_10_45 (by decide +kernel) rfl zc_0 rfl (by decide) rfl ?_
    refine zx_callV (pc := 25) (As := []) h zi_X2_forget zii_X2_forget zie_X2_forget zl_10_97 (by decide +kernel) ⟨Nat.le_of_ble_eq_true rfl, Nat.le_of_ble_eq_true rfl⟩ rfl zc_182 (by decide) rfl rfl ⟨rfl, rfl⟩ ⟨Nat.zero_le _, Nat.zero_le _⟩ (zkv (fun μ3 h => ?_))
    refine zw_aload_n (pc := 28) (n := 0) (i := 0) 0 (by decide +kernel) rfl rfl ?_
    refine zx_getR (pc := 29) (o := 1) (r := 1) zf_10_14 (by decide +kernel) rfl zc_0 rfl (by decide) rfl ?_
    refine zx_callV (pc := 32) (As := []) h zi_X0_seriesCount zii_X0_seriesCount zie_X0_seriesCount zl_10_362 (by decide +kernel) ⟨Nat.le_of_ble_eq_true rfl, Nat.le_of_ble_eq_true rfl⟩ rfl zc_1 (by decide) rfl rfl ⟨rfl, rfl⟩ ⟨Nat.zero_le _, Nat.zero_le _⟩ (zki (fun x5 μ4 h => ?_))
    exact zw_iret (pc := 35) (by decide +kernel) rfl (Nat.le_refl _) (Nat.le_refl _) ⟨_, _, rfl, rfl, h⟩
  · replace h := h.2 hc
    refine zw_bipush (pc := 7) (n := (-3)) (by decide +kernel) (by decide +kernel) ?_
    exact zw_iret (pc := 9) (by decide +kernel) rfl (Nat.le_refl _) (Nat.le_refl _) ⟨_, _, rfl, rfl, h⟩
theorem sg_X10_count {g : zG} {φ : Int → zMu → Prop} {v1 : Int} {μ : zMu}
    (h : (zR v1) ∧ ((v1 < 0 ∨ 4 < v1 → φ (-2) μ) ∧ (v1 = 0 → φ (μ 1 0) μ) ∧ (v1 = 1 → zOi g zm_X0_seriesCount [.ref 1] μ (fun x4 μ3 => φ x4 μ3)) ∧ (v1 = 2 → zOi g zm_X0_keptCount [.ref 1] μ (fun x6 μ5 => φ x6 μ5)) ∧ (v1 = 3 → φ (μ 188 1) μ) ∧ (v1 = 4 → φ (μ 193 2) μ))) : zOi g zm_X10_count [.ref 0, .int (zJ v1)] μ φ := by
  refine zok_of (by decide +kernel) rfl ?_
  show zWP g zm_X10_count (zmo g zm_X10_count (zΦi φ)) 0 [(0, .ref 0), (1, .int (zJ v1))] [] 0 0 (zw μ)
  obtain ⟨o1, h⟩ := h
  refine zw_iload_n (pc := 0) (n := 1) (i := 1) 1 (by decide +kernel) rfl rfl ?_
  by_cases e2 : v1 < 0 ∨ 4 < v1
  · replace h := h.1 e2
    refine zw_swOut (pc := 1) (tgt := 76) (by decide +kernel : decode zm_X10_count.2.1 1 = .ok (.tableswitch 75 0 4 #[35, 43, 51, 59, 67], 35)) o1 e2 (by decide) ?_
    refine zw_bipush (pc := 76) (n := (-2)) (by decide +kernel) (by decide +kernel) ?_
    exact zw_iret (pc := 78) (by decide +kernel) rfl (Nat.le_refl _) (Nat.le_refl _) ⟨_, _, rfl, rfl, h⟩
  · replace h := h.2
    rcases (show v1 = 0 ∨ v1 = 1 ∨ v1 = 2 ∨ v1 = 3 ∨ v1 = 4 by omega) with e2 | e2 | e2 | e2 | e2
    · replace h := h.1 e2
      refine zw_swIn (pc := 1) (off := 35) (tgt := 36) (by decide +kernel : decode zm_X10_count.2.1 1 = .ok (.tableswitch 75 0 4 #[35, 43, 51, 59, 67], 35)) o1 (by omega) (by omega) (by rw [e2]; rfl) (by decide) ?_
      refine zw_aload_n (pc := 36) (n := 0) (i := 0) 0 (by decide +kernel) rfl rfl ?_
      refine zx_getR (pc := 37) (o := 1) (r := 1) zf_10_14 (by decide +kernel) rfl zc_0 rfl (by decide) rfl ?_
      refine zx_getI (pc := 40) zf_10_89 (by decide +kernel) rfl zc_1 ?_
      exact zw_iret (pc := 43) (by decide +kernel) rfl (Nat.le_refl _) (Nat.le_refl _) ⟨_, _, rfl, rfl, h⟩
    · replace h := h.2.1 e2
      refine zw_swIn (pc := 1) (off := 43) (tgt := 44) (by decide +kernel : decode zm_X10_count.2.1 1 = .ok (.tableswitch 75 0 4 #[35, 43, 51, 59, 67], 35)) o1 (by omega) (by omega) (by rw [e2]; rfl) (by decide) ?_
      refine zw_aload_n (pc := 44) (n := 0) (i := 0) 0 (by decide +kernel) rfl rfl ?_
      refine zx_getR (pc := 45) (o := 1) (r := 1) zf_10_14 (by decide +kernel) rfl zc_0 rfl (by decide) rfl ?_
      refine zx_callV (pc := 48) (As := []) h zi_X0_seriesCount zii_X0_seriesCount zie_X0_seriesCount zl_10_362 (by decide +kernel) ⟨Nat.le_of_ble_eq_true rfl, Nat.le_of_ble_eq_true rfl⟩ rfl zc_1 (by decide) rfl rfl ⟨rfl, rfl⟩ ⟨Nat.zero_le _, Nat.zero_le _⟩ (zki (fun x4 μ3 h => ?_))
      exact zw_iret (pc := 51) (by decide +kernel) rfl (Nat.le_refl _) (Nat.le_refl _) ⟨_, _, rfl, rfl, h⟩
    · replace h := h.2.2.1 e2
      refine zw_swIn (pc := 1) (off := 51) (tgt := 52) (by decide +kernel : decode zm_X10_count.2.1 1 = .ok (.tableswitch 75 0 4 #[35, 43, 51, 59, 67], 35)) o1 (by omega) (by omega) (by rw [e2]; rfl) (by decide) ?_
      refine zw_aload_n (pc := 52) (n := 0) (i := 0) 0 (by decide +kernel) rfl rfl ?_
      refine zx_getR (pc := 53) (o := 1) (r := 1) zf_10_14 (by decide +kernel) rfl zc_0 rfl (by decide) rfl ?_
      refine zx_callV (pc := 56) (As := []) h zi_X0_keptCount zii_X0_keptCount zie_X0_keptCount zl_10_259 (by decide +kernel) ⟨Nat.le_of_ble_eq_true rfl, Nat.le_of_ble_eq_true rfl⟩ rfl zc_1 (by decide) rfl rfl ⟨rfl, rfl⟩ ⟨Nat.zero_le _, Nat.zero_le _⟩ (zki (fun x6 μ5 h => ?_))
      exact zw_iret (pc := 59) (by decide +kernel) rfl (Nat.le_refl _) (Nat.le_refl _) ⟨_, _, rfl, rfl, h⟩
    · replace h := h.2.2.2.1 e2
      refine zw_swIn (pc := 1) (off := 59) (tgt := 60) (by decide +kernel : decode zm_X10_count.2.1 1 = .ok (.tableswitch 75 0 4 #[35, 43, 51, 59, 67], 35)) o1 (by omega) (by omega) (by rw [e2]; rfl) (by decide) ?_
      refine zw_aload_n (pc := 60) (n := 0) (i := 0) 0 (by decide +kernel) rfl rfl ?_
      refine zx_getR (pc := 61) (o := 188) (r := 188) zf_10_52 (by decide +kernel) rfl zc_0 rfl (by decide) rfl ?_
      refine zx_getI (pc := 64) zf_10_275 (by decide +kernel) rfl zc_188 ?_
      exact zw_iret (pc := 67) (by decide +kernel) rfl (Nat.le_refl _) (Nat.le_refl _) ⟨_, _, rfl, rfl, h⟩
    · replace h := h.2.2.2.2 e2
      refine zw_swIn (pc := 1) (off := 67) (tgt := 68) (by decide +kernel : decode zm_X10_count.2.1 1 = .ok (.tableswitch 75 0 4 #[35, 43, 51, 59, 67], 35)) o1 (by omega) (by omega) (by rw [e2]; rfl) (by decide) ?_
      refine zw_aload_n (pc := 68) (n := 0) (i := 0) 0 (by decide +kernel) rfl rfl ?_
      refine zx_getR (pc := 69) (o := 193) (r := 193) zf_10_66 (by decide +kernel) rfl zc_0 rfl (by decide) rfl ?_
      refine zx_getI (pc := 72) zf_10_338 (by decide +kernel) rfl zc_193 ?_
      exact zw_iret (pc := 75) (by decide +kernel) rfl (Nat.le_refl _) (Nat.le_refl _) ⟨_, _, rfl, rfl, h⟩
